/-- the likes: a note of what ran -/
theorem RL_ran {V T : St} {P Q F c a B : Nat} (h : RLk V T P Q F c a B) (x : Int32) : RLk (si V 44 32 x) (si T 9 1 x) P Q F c a B := by
  obtain ⟨hN, hPe, hPr, hP, hTa, hLw, hLd, hCh, ⟨b1, b2, b3, b4, b5, b6⟩, hSh⟩ := h
  exact ⟨by simpa only [iN, gi_si, gl_si, gi_sl, gl_sl, row_si, row_sl, Nat.reduceEqDiff, reduceIte] using hN, by simpa only [iPe, gi_si, gl_si, gi_sl, gl_sl, row_si, row_sl, Nat.reduceEqDiff, reduceIte] using hPe, by simpa only [iPr, gi_si, gl_si, gi_sl, gl_sl, row_si, row_sl, Nat.reduceEqDiff, reduceIte] using hPr, by simpa only [rP, gi_si, gl_si, gi_sl, gl_sl, row_si, row_sl, Nat.reduceEqDiff, reduceIte] using hP, by simpa only [rTa, gi_si, gl_si, gi_sl, gl_sl, row_si, row_sl, Nat.reduceEqDiff, reduceIte] using hTa, by simpa only [rLw, gi_si, gl_si, gi_sl, gl_sl, row_si, row_sl, Nat.reduceEqDiff, reduceIte] using hLw, by simpa only [rLd, gi_si, gl_si, gi_sl, gl_sl, row_si, row_sl, Nat.reduceEqDiff, reduceIte] using hLd, by simpa only [rCh, iCe, okv, gi_si, gl_si, gi_sl, gl_sl, row_si, row_sl, Nat.reduceEqDiff, reduceIte] using hCh, ⟨by simpa only [gi_si, gl_si, gi_sl, gl_sl, row_si, row_sl, Nat.reduceEqDiff, reduceIte] using b1, b2, by simpa only [gi_si, gl_si, gi_sl, gl_sl, row_si, row_sl, Nat.reduceEqDiff, reduceIte] using b3, by simpa only [gi_si, gl_si, gi_sl, gl_sl, row_si, row_sl, Nat.reduceEqDiff, reduceIte] using b4, by simp only [gi_si, gl_si, gi_sl, gl_sl, row_si, row_sl, Nat.reduceEqDiff, reduceIte], by simpa only [gi_si, gl_si, gi_sl, gl_sl, row_si, row_sl, Nat.reduceEqDiff, reduceIte] using b6⟩, by simpa only [rSh, rS1, gi_si, gl_si, gi_sl, gl_sl, row_si, row_sl, Nat.reduceEqDiff, reduceIte] using hSh⟩
theorem RL_tr {V T : St} {P Q F c a B : Nat} (h : RLk V T P Q F c a B) (r : Nat) (x : Int32) : RLk (si V 60 r x) (si T 38 r x) P Q F c a B := by
  obtain ⟨hN, hPe, hPr, hP, hTa, hLw, hLd, hCh, ⟨b1, b2, b3, b4, b5, b6⟩, hSh⟩ := h
  refine ⟨by simpa only [iN, gi_si, gl_si, gi_sl, gl_sl, row_si, row_sl, Nat.reduceEqDiff, reduceIte] using hN, by simpa only [iPe, gi_si, gl_si, gi_sl, gl_sl, row_si, row_sl, Nat.reduceEqDiff, reduceIte] using hPe, by simpa only [iPr, gi_si, gl_si, gi_sl, gl_sl, row_si, row_sl, Nat.reduceEqDiff, reduceIte] using hPr, by simpa only [rP, gi_si, gl_si, gi_sl, gl_sl, row_si, row_sl, Nat.reduceEqDiff, reduceIte] using hP, by simpa only [rTa, gi_si, gl_si, gi_sl, gl_sl, row_si, row_sl, Nat.reduceEqDiff, reduceIte] using hTa, by simpa only [rLw, gi_si, gl_si, gi_sl, gl_sl, row_si, row_sl, Nat.reduceEqDiff, reduceIte] using hLw, by simpa only [rLd, gi_si, gl_si, gi_sl, gl_sl, row_si, row_sl, Nat.reduceEqDiff, reduceIte] using hLd, by simpa only [rCh, iCe, okv, gi_si, gl_si, gi_sl, gl_sl, row_si, row_sl, Nat.reduceEqDiff, reduceIte] using hCh, ⟨by simpa only [gi_si, gl_si, gi_sl, gl_sl, row_si, row_sl, Nat.reduceEqDiff, reduceIte] using b1, b2, by simpa only [gi_si, gl_si, gi_sl, gl_sl, row_si, row_sl, Nat.reduceEqDiff, reduceIte] using b3, by simpa only [gi_si, gl_si, gi_sl, gl_sl, row_si, row_sl, Nat.reduceEqDiff, reduceIte] using b4, by simpa only [gi_si, gl_si, gi_sl, gl_sl, row_si, row_sl, Nat.reduceEqDiff, reduceIte] using b5, fun j hj => ?_⟩, by simpa only [rSh, rS1, gi_si, gl_si, gi_sl, gl_sl, row_si, row_sl, Nat.reduceEqDiff, reduceIte] using hSh⟩
  simp only [gi_si, gl_si, gi_sl, gl_sl, row_si, row_sl, Nat.reduceEqDiff, reduceIte]
  rw [b6 j hj]
def J (K b : Nat) (S V : St) (r : Nat) : Prop := b < 50 ∧ gi S 9 4 = nI b ∧ gi V 44 34 = nI b ∧ gi V 44 33 = nI K ∧ ∃ T P Q F c a B, Core S T ∧ RLk V T P Q F c a B ∧ gi T 9 1 = nI r ∧ gi T 39 b = nI K
theorem J.note {K b r : Nat} {S V : St} (h : J K b S V r) (hr : r < 4500) (t : Int32) : ∃ S1 V1, Li_note S t = some S1 ∧ Mo_runs V t = some V1 ∧ J K b S1 V1 (r + 1) := by
  obtain ⟨hb, a1, a2, a3, T, P, Q, F, c, a, B, hC, hR, h1, h2⟩ := h
  have hS : gi S 9 1 = nI r := (hC.1 9 1 rfl).trans h1
  have hV : gi V 44 32 = nI r := hR.2.2.2.2.2.2.2.2.1.2.2.2.2.1.trans h1
  unfold Li_note Mo_runs Li_note_b19 Mo_runs_b19
  rw [hS, hV]
  by_cases h24 : 24 ≤ r
  · have c1 : (24 : Int32) ≤ nI r := by show nI 24 ≤ nI r; rw [le_nI _ _ (by omega) (by omega)]; exact h24
    rw [if_pos c1, if_pos c1, nI_1, nm_eq, nm_eq]
    refine ⟨_, _, rfl, rfl, hb, ?_, ?_, ?_, si T 9 1 (nI (r + 1)), P, Q, F, c, a, B, hC.si _ _ _, RL_ran hR _, ?_, ?_⟩
    · simpa only [gi_si, gl_si, gi_sl, gl_sl, row_si, row_sl, Nat.reduceEqDiff, reduceIte] using a1
    · simpa only [gi_si, gl_si, gi_sl, gl_sl, row_si, row_sl, Nat.reduceEqDiff, reduceIte] using a2
    · simpa only [gi_si, gl_si, gi_sl, gl_sl, row_si, row_sl, Nat.reduceEqDiff, reduceIte] using a3
    · simp only [gi_si, gl_si, gi_sl, gl_sl, row_si, row_sl, Nat.reduceEqDiff, reduceIte]
    · simpa only [gi_si, gl_si, gi_sl, gl_sl, row_si, row_sl, Nat.reduceEqDiff, reduceIte] using h2
  · have c1 : ¬ (24 : Int32) ≤ nI r := by show ¬ nI 24 ≤ nI r; rw [le_nI _ _ (by omega) (by omega)]; exact h24
    rw [if_neg c1, if_neg c1, inb_nI (j := r) (n := 24) (by omega) (by omega), ck_true, ck_true, nm_eq, nm_eq, cl r (by omega)]
    have e1 : gi (si S 38 r t) 9 1 = nI r := by simpa only [gi_si, gl_si, gi_sl, gl_sl, row_si, row_sl, Nat.reduceEqDiff, reduceIte] using hS
    have e2 : gi (si V 60 r t) 44 32 = nI r := by simpa only [gi_si, gl_si, gi_sl, gl_sl, row_si, row_sl, Nat.reduceEqDiff, reduceIte] using hV
    simp only [nm_eq, e1, e2, nI_1]
    refine ⟨_, _, rfl, rfl, hb, ?_, ?_, ?_, si (si T 38 r t) 9 1 (nI (r + 1)), P, Q, F, c, a, B, (hC.si _ _ _).si _ _ _, RL_ran (RL_tr hR _ _) _, ?_, ?_⟩
    · simpa only [gi_si, gl_si, gi_sl, gl_sl, row_si, row_sl, Nat.reduceEqDiff, reduceIte] using a1
    · simpa only [gi_si, gl_si, gi_sl, gl_sl, row_si, row_sl, Nat.reduceEqDiff, reduceIte] using a2
    · simpa only [gi_si, gl_si, gi_sl, gl_sl, row_si, row_sl, Nat.reduceEqDiff, reduceIte] using a3
    · simp only [gi_si, gl_si, gi_sl, gl_sl, row_si, row_sl, Nat.reduceEqDiff, reduceIte]
    · simpa only [gi_si, gl_si, gi_sl, gl_sl, row_si, row_sl, Nat.reduceEqDiff, reduceIte] using h2
/-- an act of the reference -/
def rf : Nat → Nat → St → Int32 → Int32 → Option (Int32 × St)
  | 0, d => Mo_holdsAs d
  | 1, d => Mo_ridesAs d
  | 2, d => Mo_creaksAs d
  | _, d => Mo_tellsAs d
def AG (a k D M : Nat) : Prop := ∀ K b S V r x dep dS dV, J K b S V r → K < 8 → r + M ≤ 4000 → dep + D ≤ 30 → 2 * D ≤ dS → D ≤ dV → ∃ y S1 V1 r1, Li_run fuel dS S (nI k) (nI a) x (nI dep) = some (y, S1) ∧ rf a dV V (nI k) x = some (y, V1) ∧ J K b S1 V1 r1 ∧ r1 ≤ r + M
def OG (a D M : Nat) : Prop := ∀ K b S V r x dep dS dV, J K b S V r → K < 8 → r + M ≤ 4000 → dep + D ≤ 30 → 2 * D + 1 ≤ dS → D ≤ dV → ∃ y S1 V1 r1, Li_own fuel dS S (nI a) x (nI dep) = some (y, S1) ∧ rf a dV V (gi V 44 33) x = some (y, V1) ∧ J K b S1 V1 r1 ∧ r1 ≤ r + M
theorem AG.mono {a k D M D' M' : Nat} (h : AG a k D M) (h1 : D ≤ D') (h2 : M ≤ M') : AG a k D' M' := by
  intro K b S V r x dep dS dV hJ hK hr hdep hS hV
  obtain ⟨y, S1, V1, r1, s1, v1, j1, l1⟩ := h K b S V r x dep dS dV hJ hK (by omega) (by omega) (by omega) (by omega)
  exact ⟨y, S1, V1, r1, s1, v1, j1, by omega⟩
theorem AG.own {a D M : Nat} (h : ∀ k, k < 8 → AG a k D M) : OG a D M := by
  intro K b S V r x dep dS dV hJ hK hr hdep hS hV
  obtain ⟨dS, rfl⟩ : ∃ d, dS = d + 1 := ⟨dS - 1, by omega⟩
  obtain ⟨y, S1, V1, r1, s1, v1, j1, l1⟩ := h K hK K b S V r x dep dS dV hJ hK hr hdep (by omega) hV
  obtain ⟨hb, a1, a2, a3, T, P, Q, F, c, a', B, hC, hR, h1, h2⟩ := hJ
  refine ⟨y, S1, V1, r1, ?_, by rw [a3]; exact v1, j1, l1⟩
  show Li_own_B fuel (Li_fromAbove fuel dS) (Li_own fuel dS) (Li_run fuel dS) S (nI a) x (nI dep) = _
  unfold Li_own_B
  rw [a1, inb_nI hb (by omega), ck_true, cl b (by omega), hC.g 39 (fun _ => rfl), h2, s1, bd2_some]
theorem fa_eq {d k1 kA : Nat} (U : St) (h8 : k1 < 8) (hA : tblA (nI k1).toNatClampNeg = nI kA) (a y z : Int32) : Li_fromAbove fuel (d + 1) U (nI k1) a y z = Li_run fuel d U (nI kA) a y z := by
  show Li_fromAbove_B fuel (Li_fromAbove fuel d) (Li_own fuel d) (Li_run fuel d) U (nI k1) a y z = _
  generalize Li_run fuel d = f2
  unfold Li_fromAbove_B
  rw [inb_nI h8 (by omega), ck_true, hA]
  cases f2 U (nI kA) a y z <;> rfl
theorem lop_1 {k a k1 : Nat} {d dep : Nat} {S S1 : St} (x : Int32) (hk : Li_kindWith fuel S (nI k) (nI a) = some (nI k1)) (h8 : k1 < 8) (hi : inb (nI k1 * 4 + nI a) 32 = true) (ht : tblO (nI k1 * 4 + nI a).toNatClampNeg = 1) (hn : Li_note S 1 = some S1) (hd : dep < 30) : Li_run fuel (d + 1) S (nI k) (nI a) x (nI dep) = some (x + gi S1 9 4, S1) := by
  show Li_run_B fuel (Li_fromAbove fuel d) (Li_own fuel d) (Li_run fuel d) S (nI k) (nI a) x (nI dep) = _
  generalize Li_run fuel d = f2
  generalize Li_fromAbove fuel d = f0
  generalize Li_own fuel d = f1
  unfold Li_run_B
  rw [hk, bd1_some, if_neg (show ¬ nI k1 < 0 by show ¬ nI k1 < nI 0; rw [lt_nI _ _ (by omega) (by omega)]; omega), if_pos (show nI dep < 30 by show nI dep < nI 30; rw [lt_nI _ _ (by omega) (by omega)]; omega), hi, ck_true, nm_eq, ht, hn, bd1_some, nm_eq, nI_1, if_pos rfl]
theorem lop_2 {k a k1 : Nat} {d dep : Nat} {S S1 : St} (x : Int32) (hk : Li_kindWith fuel S (nI k) (nI a) = some (nI k1)) (h8 : k1 < 8) (hi : inb (nI k1 * 4 + nI a) 32 = true) (ht : tblO (nI k1 * 4 + nI a).toNatClampNeg = 2) (hn : Li_note S 2 = some S1) (hd : dep < 30) : Li_run fuel (d + 1) S (nI k) (nI a) x (nI dep) = bd2 (Li_own fuel d S1 (nI 1) x (nI (dep + 1))) fun r7 S6 => bd2 (Li_own fuel d S6 (nI 2) 1 (nI (dep + 1))) fun r9 S8 => some (r7 - r9, S8) := by
  show Li_run_B fuel (Li_fromAbove fuel d) (Li_own fuel d) (Li_run fuel d) S (nI k) (nI a) x (nI dep) = _
  generalize Li_run fuel d = f2
  generalize Li_fromAbove fuel d = f0
  generalize Li_own fuel d = f1
  unfold Li_run_B
  rw [hk, bd1_some, if_neg (show ¬ nI k1 < 0 by show ¬ nI k1 < nI 0; rw [lt_nI _ _ (by omega) (by omega)]; omega), if_pos (show nI dep < 30 by show nI dep < nI 30; rw [lt_nI _ _ (by omega) (by omega)]; omega), hi, ck_true, nm_eq, ht, hn, bd1_some, nm_eq, nI_1, if_neg (by decide : ¬ (2 : Int32) = 1), if_pos rfl]
  rfl
theorem lop_10 {k a k1 : Nat} {d dep : Nat} {S S1 : St} (x : Int32) (hk : Li_kindWith fuel S (nI k) (nI a) = some (nI k1)) (h8 : k1 < 8) (hi : inb (nI k1 * 4 + nI a) 32 = true) (ht : tblO (nI k1 * 4 + nI a).toNatClampNeg = 10) (hn : Li_note S 10 = some S1) (hd : dep < 30) : Li_run fuel (d + 1) S (nI k) (nI a) x (nI dep) = bd2 (Li_own fuel d S1 (nI 0) x (nI (dep + 1))) fun r S2 => some (r * 2, S2) := by
  show Li_run_B fuel (Li_fromAbove fuel d) (Li_own fuel d) (Li_run fuel d) S (nI k) (nI a) x (nI dep) = _
  generalize Li_run fuel d = f2
  generalize Li_fromAbove fuel d = f0
  generalize Li_own fuel d = f1
  unfold Li_run_B
  rw [hk, bd1_some, if_neg (show ¬ nI k1 < 0 by show ¬ nI k1 < nI 0; rw [lt_nI _ _ (by omega) (by omega)]; omega), if_pos (show nI dep < 30 by show nI dep < nI 30; rw [lt_nI _ _ (by omega) (by omega)]; omega), hi, ck_true, nm_eq, ht, hn, bd1_some, nm_eq, nI_1, if_neg (by decide : ¬ (10 : Int32) = 1), if_neg (by decide : ¬ (10 : Int32) = 2), if_pos rfl]
  rfl
theorem lop_11 {k a k1 : Nat} {d dep : Nat} {S S1 : St} (x : Int32) (hk : Li_kindWith fuel S (nI k) (nI a) = some (nI k1)) (h8 : k1 < 8) (hi : inb (nI k1 * 4 + nI a) 32 = true) (ht : tblO (nI k1 * 4 + nI a).toNatClampNeg = 11) (hn : Li_note S 11 = some S1) (hd : dep < 30) : Li_run fuel (d + 1) S (nI k) (nI a) x (nI dep) = some (x ^^^ gi S1 9 4, S1) := by
  show Li_run_B fuel (Li_fromAbove fuel d) (Li_own fuel d) (Li_run fuel d) S (nI k) (nI a) x (nI dep) = _
  generalize Li_run fuel d = f2
  generalize Li_fromAbove fuel d = f0
  generalize Li_own fuel d = f1
  unfold Li_run_B
  rw [hk, bd1_some, if_neg (show ¬ nI k1 < 0 by show ¬ nI k1 < nI 0; rw [lt_nI _ _ (by omega) (by omega)]; omega), if_pos (show nI dep < 30 by show nI dep < nI 30; rw [lt_nI _ _ (by omega) (by omega)]; omega), hi, ck_true, nm_eq, ht, hn, bd1_some, nm_eq, nI_1, if_neg (by decide : ¬ (11 : Int32) = 1), if_neg (by decide : ¬ (11 : Int32) = 2), if_neg (by decide : ¬ (11 : Int32) = 10), if_pos rfl]
theorem lop_20 {k a k1 : Nat} {kA : Nat} (hA : tblA (nI k1).toNatClampNeg = nI kA) {d dep : Nat} {S S1 : St} (x : Int32) (hk : Li_kindWith fuel S (nI k) (nI a) = some (nI k1)) (h8 : k1 < 8) (hi : inb (nI k1 * 4 + nI a) 32 = true) (ht : tblO (nI k1 * 4 + nI a).toNatClampNeg = 20) (hn : Li_note S 20 = some S1) (hd : dep < 30) : Li_run fuel (d + 1 + 1) S (nI k) (nI a) x (nI dep) = bd2 (Li_run fuel d S1 (nI kA) (nI 0) x (nI (dep + 1))) fun r S2 => some (r + 3, S2) := by
  show Li_run_B fuel (Li_fromAbove fuel (d + 1)) (Li_own fuel (d + 1)) (Li_run fuel (d + 1)) S (nI k) (nI a) x (nI dep) = _
  have hFA := fun U a y z => fa_eq (d := d) U h8 hA a y z
  generalize Li_run fuel (d + 1) = f2
  generalize Li_run fuel d = f3 at hFA ⊢
  generalize Li_fromAbove fuel (d + 1) = f0 at hFA ⊢
  generalize Li_own fuel (d + 1) = f1
  unfold Li_run_B
  rw [hk, bd1_some, if_neg (show ¬ nI k1 < 0 by show ¬ nI k1 < nI 0; rw [lt_nI _ _ (by omega) (by omega)]; omega), if_pos (show nI dep < 30 by show nI dep < nI 30; rw [lt_nI _ _ (by omega) (by omega)]; omega), hi, ck_true, nm_eq, ht, hn, bd1_some, nm_eq, nI_1, if_neg (by decide : ¬ (20 : Int32) = 1), if_neg (by decide : ¬ (20 : Int32) = 2), if_neg (by decide : ¬ (20 : Int32) = 10), if_neg (by decide : ¬ (20 : Int32) = 11), if_pos rfl, hFA]
  rfl
theorem lop_30 {k a k1 : Nat} {kA : Nat} (hA : tblA (nI k1).toNatClampNeg = nI kA) {d dep : Nat} {S S1 : St} (x : Int32) (hk : Li_kindWith fuel S (nI k) (nI a) = some (nI k1)) (h8 : k1 < 8) (hi : inb (nI k1 * 4 + nI a) 32 = true) (ht : tblO (nI k1 * 4 + nI a).toNatClampNeg = 30) (hn : Li_note S 30 = some S1) (hd : dep < 30) : Li_run fuel (d + 1 + 1) S (nI k) (nI a) x (nI dep) = bd2 (Li_run fuel d S1 (nI kA) (nI 1) x (nI (dep + 1))) fun r S2 => some (-r, S2) := by
  show Li_run_B fuel (Li_fromAbove fuel (d + 1)) (Li_own fuel (d + 1)) (Li_run fuel (d + 1)) S (nI k) (nI a) x (nI dep) = _
  have hFA := fun U a y z => fa_eq (d := d) U h8 hA a y z
  generalize Li_run fuel (d + 1) = f2
  generalize Li_run fuel d = f3 at hFA ⊢
  generalize Li_fromAbove fuel (d + 1) = f0 at hFA ⊢
  generalize Li_own fuel (d + 1) = f1
  unfold Li_run_B
  rw [hk, bd1_some, if_neg (show ¬ nI k1 < 0 by show ¬ nI k1 < nI 0; rw [lt_nI _ _ (by omega) (by omega)]; omega), if_pos (show nI dep < 30 by show nI dep < nI 30; rw [lt_nI _ _ (by omega) (by omega)]; omega), hi, ck_true, nm_eq, ht, hn, bd1_some, nm_eq, nI_1, if_neg (by decide : ¬ (30 : Int32) = 1), if_neg (by decide : ¬ (30 : Int32) = 2), if_neg (by decide : ¬ (30 : Int32) = 10), if_neg (by decide : ¬ (30 : Int32) = 11), if_neg (by decide : ¬ (30 : Int32) = 20), if_pos rfl, hFA]
  rfl
theorem lop_40 {k a k1 : Nat} {kA : Nat} (hA : tblA (nI k1).toNatClampNeg = nI kA) {d dep : Nat} {S S1 : St} (x : Int32) (hk : Li_kindWith fuel S (nI k) (nI a) = some (nI k1)) (h8 : k1 < 8) (hi : inb (nI k1 * 4 + nI a) 32 = true) (ht : tblO (nI k1 * 4 + nI a).toNatClampNeg = 40) (hn : Li_note S 40 = some S1) (hd : dep < 30) : Li_run fuel (d + 1 + 1) S (nI k) (nI a) x (nI dep) = bd2 (Li_run fuel d S1 (nI kA) (nI 2) x (nI (dep + 1))) fun r S2 => some (r * 3, S2) := by
  show Li_run_B fuel (Li_fromAbove fuel (d + 1)) (Li_own fuel (d + 1)) (Li_run fuel (d + 1)) S (nI k) (nI a) x (nI dep) = _
  have hFA := fun U a y z => fa_eq (d := d) U h8 hA a y z
  generalize Li_run fuel (d + 1) = f2
  generalize Li_run fuel d = f3 at hFA ⊢
  generalize Li_fromAbove fuel (d + 1) = f0 at hFA ⊢
  generalize Li_own fuel (d + 1) = f1
  unfold Li_run_B
  rw [hk, bd1_some, if_neg (show ¬ nI k1 < 0 by show ¬ nI k1 < nI 0; rw [lt_nI _ _ (by omega) (by omega)]; omega), if_pos (show nI dep < 30 by show nI dep < nI 30; rw [lt_nI _ _ (by omega) (by omega)]; omega), hi, ck_true, nm_eq, ht, hn, bd1_some, nm_eq, nI_1, if_neg (by decide : ¬ (40 : Int32) = 1), if_neg (by decide : ¬ (40 : Int32) = 2), if_neg (by decide : ¬ (40 : Int32) = 10), if_neg (by decide : ¬ (40 : Int32) = 11), if_neg (by decide : ¬ (40 : Int32) = 20), if_neg (by decide : ¬ (40 : Int32) = 30), if_pos rfl, hFA]
  rfl
theorem lop_41 {k a k1 : Nat} {kA : Nat} (hA : tblA (nI k1).toNatClampNeg = nI kA) {d dep : Nat} {S S1 : St} (x : Int32) (hk : Li_kindWith fuel S (nI k) (nI a) = some (nI k1)) (h8 : k1 < 8) (hi : inb (nI k1 * 4 + nI a) 32 = true) (ht : tblO (nI k1 * 4 + nI a).toNatClampNeg = 41) (hn : Li_note S 41 = some S1) (hd : dep < 30) : Li_run fuel (d + 1 + 1) S (nI k) (nI a) x (nI dep) = bd2 (Li_run fuel d S1 (nI kA) (nI 1) (x + 1) (nI (dep + 1))) fun r S2 => some (r, S2) := by
  show Li_run_B fuel (Li_fromAbove fuel (d + 1)) (Li_own fuel (d + 1)) (Li_run fuel (d + 1)) S (nI k) (nI a) x (nI dep) = _
  have hFA := fun U a y z => fa_eq (d := d) U h8 hA a y z
  generalize Li_run fuel (d + 1) = f2
  generalize Li_run fuel d = f3 at hFA ⊢
  generalize Li_fromAbove fuel (d + 1) = f0 at hFA ⊢
  generalize Li_own fuel (d + 1) = f1
  unfold Li_run_B
  rw [hk, bd1_some, if_neg (show ¬ nI k1 < 0 by show ¬ nI k1 < nI 0; rw [lt_nI _ _ (by omega) (by omega)]; omega), if_pos (show nI dep < 30 by show nI dep < nI 30; rw [lt_nI _ _ (by omega) (by omega)]; omega), hi, ck_true, nm_eq, ht, hn, bd1_some, nm_eq, nI_1, if_neg (by decide : ¬ (41 : Int32) = 1), if_neg (by decide : ¬ (41 : Int32) = 2), if_neg (by decide : ¬ (41 : Int32) = 10), if_neg (by decide : ¬ (41 : Int32) = 11), if_neg (by decide : ¬ (41 : Int32) = 20), if_neg (by decide : ¬ (41 : Int32) = 30), if_neg (by decide : ¬ (41 : Int32) = 40), if_pos rfl, hFA]
  rfl
theorem lop_50 {k a k1 : Nat} {kA : Nat} (hA : tblA (nI k1).toNatClampNeg = nI kA) {d dep : Nat} {S S1 : St} (x : Int32) (hk : Li_kindWith fuel S (nI k) (nI a) = some (nI k1)) (h8 : k1 < 8) (hi : inb (nI k1 * 4 + nI a) 32 = true) (ht : tblO (nI k1 * 4 + nI a).toNatClampNeg = 50) (hn : Li_note S 50 = some S1) (hd : dep < 30) : Li_run fuel (d + 1 + 1) S (nI k) (nI a) x (nI dep) = bd2 (Li_run fuel d S1 (nI kA) (nI 2) x (nI (dep + 1))) fun r S2 => bd2 (Li_own fuel (d + 1) S2 (nI 0) 2 (nI (dep + 1))) fun r2 S3 => some (r - r2, S3) := by
  show Li_run_B fuel (Li_fromAbove fuel (d + 1)) (Li_own fuel (d + 1)) (Li_run fuel (d + 1)) S (nI k) (nI a) x (nI dep) = _
  have hFA := fun U a y z => fa_eq (d := d) U h8 hA a y z
  generalize Li_run fuel (d + 1) = f2
  generalize Li_run fuel d = f3 at hFA ⊢
  generalize Li_fromAbove fuel (d + 1) = f0 at hFA ⊢
  generalize Li_own fuel (d + 1) = f1
  unfold Li_run_B
  rw [hk, bd1_some, if_neg (show ¬ nI k1 < 0 by show ¬ nI k1 < nI 0; rw [lt_nI _ _ (by omega) (by omega)]; omega), if_pos (show nI dep < 30 by show nI dep < nI 30; rw [lt_nI _ _ (by omega) (by omega)]; omega), hi, ck_true, nm_eq, ht, hn, bd1_some, nm_eq, nI_1, if_neg (by decide : ¬ (50 : Int32) = 1), if_neg (by decide : ¬ (50 : Int32) = 2), if_neg (by decide : ¬ (50 : Int32) = 10), if_neg (by decide : ¬ (50 : Int32) = 11), if_neg (by decide : ¬ (50 : Int32) = 20), if_neg (by decide : ¬ (50 : Int32) = 30), if_neg (by decide : ¬ (50 : Int32) = 40), if_neg (by decide : ¬ (50 : Int32) = 41), if_pos rfl, hFA]
  rfl
theorem lop_60 {k a k1 : Nat} {kA : Nat} (hA : tblA (nI k1).toNatClampNeg = nI kA) {d dep : Nat} {S S1 : St} (x : Int32) (hk : Li_kindWith fuel S (nI k) (nI a) = some (nI k1)) (h8 : k1 < 8) (hi : inb (nI k1 * 4 + nI a) 32 = true) (ht : tblO (nI k1 * 4 + nI a).toNatClampNeg = 60) (hn : Li_note S 60 = some S1) (hd : dep < 30) : Li_run fuel (d + 1 + 1) S (nI k) (nI a) x (nI dep) = bd2 (Li_run fuel d S1 (nI kA) (nI 3) x (nI (dep + 1))) fun r S2 => some (r ^^^ 5, S2) := by
  show Li_run_B fuel (Li_fromAbove fuel (d + 1)) (Li_own fuel (d + 1)) (Li_run fuel (d + 1)) S (nI k) (nI a) x (nI dep) = _
  have hFA := fun U a y z => fa_eq (d := d) U h8 hA a y z
  generalize Li_run fuel (d + 1) = f2
  generalize Li_run fuel d = f3 at hFA ⊢
  generalize Li_fromAbove fuel (d + 1) = f0 at hFA ⊢
  generalize Li_own fuel (d + 1) = f1
  unfold Li_run_B
  rw [hk, bd1_some, if_neg (show ¬ nI k1 < 0 by show ¬ nI k1 < nI 0; rw [lt_nI _ _ (by omega) (by omega)]; omega), if_pos (show nI dep < 30 by show nI dep < nI 30; rw [lt_nI _ _ (by omega) (by omega)]; omega), hi, ck_true, nm_eq, ht, hn, bd1_some, nm_eq, nI_1, if_neg (by decide : ¬ (60 : Int32) = 1), if_neg (by decide : ¬ (60 : Int32) = 2), if_neg (by decide : ¬ (60 : Int32) = 10), if_neg (by decide : ¬ (60 : Int32) = 11), if_neg (by decide : ¬ (60 : Int32) = 20), if_neg (by decide : ¬ (60 : Int32) = 30), if_neg (by decide : ¬ (60 : Int32) = 40), if_neg (by decide : ¬ (60 : Int32) = 41), if_neg (by decide : ¬ (60 : Int32) = 50), if_pos rfl, hFA]
  rfl
theorem lop_70 {k a k1 : Nat} {kA : Nat} (hA : tblA (nI k1).toNatClampNeg = nI kA) {d dep : Nat} {S S1 : St} (x : Int32) (hk : Li_kindWith fuel S (nI k) (nI a) = some (nI k1)) (h8 : k1 < 8) (hi : inb (nI k1 * 4 + nI a) 32 = true) (ht : tblO (nI k1 * 4 + nI a).toNatClampNeg = 70) (hn : Li_note S 70 = some S1) (hd : dep < 30) : Li_run fuel (d + 1 + 1) S (nI k) (nI a) x (nI dep) = bd2 (Li_run fuel d S1 (nI kA) (nI 0) x (nI (dep + 1))) fun r S2 => some (r * 2, S2) := by
  show Li_run_B fuel (Li_fromAbove fuel (d + 1)) (Li_own fuel (d + 1)) (Li_run fuel (d + 1)) S (nI k) (nI a) x (nI dep) = _
  have hFA := fun U a y z => fa_eq (d := d) U h8 hA a y z
  generalize Li_run fuel (d + 1) = f2
  generalize Li_run fuel d = f3 at hFA ⊢
  generalize Li_fromAbove fuel (d + 1) = f0 at hFA ⊢
  generalize Li_own fuel (d + 1) = f1
  unfold Li_run_B
  rw [hk, bd1_some, if_neg (show ¬ nI k1 < 0 by show ¬ nI k1 < nI 0; rw [lt_nI _ _ (by omega) (by omega)]; omega), if_pos (show nI dep < 30 by show nI dep < nI 30; rw [lt_nI _ _ (by omega) (by omega)]; omega), hi, ck_true, nm_eq, ht, hn, bd1_some, nm_eq, nI_1, if_neg (by decide : ¬ (70 : Int32) = 1), if_neg (by decide : ¬ (70 : Int32) = 2), if_neg (by decide : ¬ (70 : Int32) = 10), if_neg (by decide : ¬ (70 : Int32) = 11), if_neg (by decide : ¬ (70 : Int32) = 20), if_neg (by decide : ¬ (70 : Int32) = 30), if_neg (by decide : ¬ (70 : Int32) = 40), if_neg (by decide : ¬ (70 : Int32) = 41), if_neg (by decide : ¬ (70 : Int32) = 50), if_neg (by decide : ¬ (70 : Int32) = 60), if_pos rfl, hFA]
  rfl
theorem lop_80 {k a k1 : Nat} {kA : Nat} (hA : tblA (nI k1).toNatClampNeg = nI kA) {d dep : Nat} {S S1 : St} (x : Int32) (hk : Li_kindWith fuel S (nI k) (nI a) = some (nI k1)) (h8 : k1 < 8) (hi : inb (nI k1 * 4 + nI a) 32 = true) (ht : tblO (nI k1 * 4 + nI a).toNatClampNeg = 80) (hn : Li_note S 80 = some S1) (hd : dep < 30) : Li_run fuel (d + 1 + 1) S (nI k) (nI a) x (nI dep) = bd2 (Li_run fuel d S1 (nI kA) (nI 1) x (nI (dep + 1))) fun r S2 => bd2 (Li_own fuel (d + 1) S2 (nI 2) 2 (nI (dep + 1))) fun r2 S3 => some (r + r2, S3) := by
  show Li_run_B fuel (Li_fromAbove fuel (d + 1)) (Li_own fuel (d + 1)) (Li_run fuel (d + 1)) S (nI k) (nI a) x (nI dep) = _
  have hFA := fun U a y z => fa_eq (d := d) U h8 hA a y z
  generalize Li_run fuel (d + 1) = f2
  generalize Li_run fuel d = f3 at hFA ⊢
  generalize Li_fromAbove fuel (d + 1) = f0 at hFA ⊢
  generalize Li_own fuel (d + 1) = f1
  unfold Li_run_B
  rw [hk, bd1_some, if_neg (show ¬ nI k1 < 0 by show ¬ nI k1 < nI 0; rw [lt_nI _ _ (by omega) (by omega)]; omega), if_pos (show nI dep < 30 by show nI dep < nI 30; rw [lt_nI _ _ (by omega) (by omega)]; omega), hi, ck_true, nm_eq, ht, hn, bd1_some, nm_eq, nI_1, if_neg (by decide : ¬ (80 : Int32) = 1), if_neg (by decide : ¬ (80 : Int32) = 2), if_neg (by decide : ¬ (80 : Int32) = 10), if_neg (by decide : ¬ (80 : Int32) = 11), if_neg (by decide : ¬ (80 : Int32) = 20), if_neg (by decide : ¬ (80 : Int32) = 30), if_neg (by decide : ¬ (80 : Int32) = 40), if_neg (by decide : ¬ (80 : Int32) = 41), if_neg (by decide : ¬ (80 : Int32) = 50), if_neg (by decide : ¬ (80 : Int32) = 60), if_neg (by decide : ¬ (80 : Int32) = 70), if_pos rfl, hFA]
  rfl
theorem lop_81 {k a k1 : Nat} {kA : Nat} (hA : tblA (nI k1).toNatClampNeg = nI kA) {d dep : Nat} {S S1 : St} (x : Int32) (hk : Li_kindWith fuel S (nI k) (nI a) = some (nI k1)) (h8 : k1 < 8) (hi : inb (nI k1 * 4 + nI a) 32 = true) (ht : tblO (nI k1 * 4 + nI a).toNatClampNeg = 81) (hn : Li_note S 81 = some S1) (hd : dep < 30) : Li_run fuel (d + 1 + 1) S (nI k) (nI a) x (nI dep) = bd2 (Li_run fuel d S1 (nI kA) (nI 3) x (nI (dep + 1))) fun r S2 => some (r - 1, S2) := by
  show Li_run_B fuel (Li_fromAbove fuel (d + 1)) (Li_own fuel (d + 1)) (Li_run fuel (d + 1)) S (nI k) (nI a) x (nI dep) = _
  have hFA := fun U a y z => fa_eq (d := d) U h8 hA a y z
  generalize Li_run fuel (d + 1) = f2
  generalize Li_run fuel d = f3 at hFA ⊢
  generalize Li_fromAbove fuel (d + 1) = f0 at hFA ⊢
  generalize Li_own fuel (d + 1) = f1
  unfold Li_run_B
  rw [hk, bd1_some, if_neg (show ¬ nI k1 < 0 by show ¬ nI k1 < nI 0; rw [lt_nI _ _ (by omega) (by omega)]; omega), if_pos (show nI dep < 30 by show nI dep < nI 30; rw [lt_nI _ _ (by omega) (by omega)]; omega), hi, ck_true, nm_eq, ht, hn, bd1_some, nm_eq, nI_1, if_neg (by decide : ¬ (81 : Int32) = 1), if_neg (by decide : ¬ (81 : Int32) = 2), if_neg (by decide : ¬ (81 : Int32) = 10), if_neg (by decide : ¬ (81 : Int32) = 11), if_neg (by decide : ¬ (81 : Int32) = 20), if_neg (by decide : ¬ (81 : Int32) = 30), if_neg (by decide : ¬ (81 : Int32) = 40), if_neg (by decide : ¬ (81 : Int32) = 41), if_neg (by decide : ¬ (81 : Int32) = 50), if_neg (by decide : ¬ (81 : Int32) = 60), if_neg (by decide : ¬ (81 : Int32) = 70), if_neg (by decide : ¬ (81 : Int32) = 80), if_pos rfl, hFA]
  rfl
theorem ag_0_0 : AG 0 0 1 1 := by
  intro K b S V r x dep dS dV hJ hK hr hdep hS hV
  obtain ⟨dS, rfl⟩ : ∃ d, dS = d + 1 := ⟨dS - 1, by omega⟩
  obtain ⟨dV, rfl⟩ : ∃ d, dV = d + 1 := ⟨dV - 1, by omega⟩
  obtain ⟨S1, V1, n1, n2, j1⟩ := hJ.note (by omega) 1
  rw [lop_1 (k := 0) (a := 0) (k1 := 0) x (by rfl) (by omega) (by rfl) (by rfl) n1 (by omega)]
  have eV : rf 0 (dV + 1) V (nI 0) x = some (x + gi V1 44 34, V1) := by
    show Mo_holdsAs_B (rf 0 dV) (rf 1 dV) (rf 2 dV) (rf 3 dV) V (nI 0) x = _
    generalize rf 0 dV = f0
    generalize rf 1 dV = f1
    generalize rf 2 dV = f2
    generalize rf 3 dV = f3
    unfold Mo_holdsAs_B
    rw [if_neg (by decide : ¬ nI 0 = 1), if_neg (by decide : ¬ nI 0 = 4), if_neg (by decide : ¬ nI 0 = 7), if_neg (by decide : ¬ nI 0 = 6), n2, bd1_some]
  rw [eV]
  rw [j1.2.1, j1.2.2.1]
  exact ⟨_, _, _, _, rfl, rfl, j1, by omega⟩
theorem ag_0_1 : AG 0 1 2 2 := by
  intro K b S V r x dep dS dV hJ hK hr hdep hS hV
  obtain ⟨dS, rfl⟩ : ∃ d, dS = d + 1 + 1 := ⟨dS - 2, by omega⟩
  obtain ⟨dV, rfl⟩ : ∃ d, dV = d + 1 := ⟨dV - 1, by omega⟩
  obtain ⟨S1, V1, n1, n2, j1⟩ := hJ.note (by omega) 20
  rw [lop_20 (k := 1) (a := 0) (k1 := 1) (kA := 0) (by rfl) x (by rfl) (by omega) (by rfl) (by rfl) n1 (by omega)]
  have eV : rf 0 (dV + 1) V (nI 1) x = bd2 (rf 0 dV V1 (nI 0) x) fun y1 V2 => some (y1 + 3, V2) := by
    show Mo_holdsAs_B (rf 0 dV) (rf 1 dV) (rf 2 dV) (rf 3 dV) V (nI 1) x = _
    generalize rf 0 dV = f0
    generalize rf 1 dV = f1
    generalize rf 2 dV = f2
    generalize rf 3 dV = f3
    unfold Mo_holdsAs_B Mo_holdsAs_b16
    rw [if_pos (by decide : nI 1 = 1), n2, bd1_some]
    all_goals rfl
  rw [eV]
  obtain ⟨y2, S2, V2, r2, s2, v2, j2, l2⟩ := ag_0_0 K b S1 V1 (r + 1) x (dep + 1) dS dV j1 hK (by omega) (by omega) (by omega) (by omega)
  rw [s2, v2, bd2_some, bd2_some]
  exact ⟨_, _, _, _, rfl, rfl, j2, by omega⟩
theorem ag_0_2 : AG 0 2 1 1 := by
  intro K b S V r x dep dS dV hJ hK hr hdep hS hV
  obtain ⟨dS, rfl⟩ : ∃ d, dS = d + 1 := ⟨dS - 1, by omega⟩
  obtain ⟨dV, rfl⟩ : ∃ d, dV = d + 1 := ⟨dV - 1, by omega⟩
  obtain ⟨S1, V1, n1, n2, j1⟩ := hJ.note (by omega) 1
  rw [lop_1 (k := 2) (a := 0) (k1 := 0) x (by rfl) (by omega) (by rfl) (by rfl) n1 (by omega)]
  have eV : rf 0 (dV + 1) V (nI 2) x = some (x + gi V1 44 34, V1) := by
    show Mo_holdsAs_B (rf 0 dV) (rf 1 dV) (rf 2 dV) (rf 3 dV) V (nI 2) x = _
    generalize rf 0 dV = f0
    generalize rf 1 dV = f1
    generalize rf 2 dV = f2
    generalize rf 3 dV = f3
    unfold Mo_holdsAs_B
    rw [if_neg (by decide : ¬ nI 2 = 1), if_neg (by decide : ¬ nI 2 = 4), if_neg (by decide : ¬ nI 2 = 7), if_neg (by decide : ¬ nI 2 = 6), n2, bd1_some]
  rw [eV]
  rw [j1.2.1, j1.2.2.1]
  exact ⟨_, _, _, _, rfl, rfl, j1, by omega⟩
theorem ag_0_3 : AG 0 3 1 1 := by
  intro K b S V r x dep dS dV hJ hK hr hdep hS hV
  obtain ⟨dS, rfl⟩ : ∃ d, dS = d + 1 := ⟨dS - 1, by omega⟩
  obtain ⟨dV, rfl⟩ : ∃ d, dV = d + 1 := ⟨dV - 1, by omega⟩
  obtain ⟨S1, V1, n1, n2, j1⟩ := hJ.note (by omega) 1
  rw [lop_1 (k := 3) (a := 0) (k1 := 0) x (by rfl) (by omega) (by rfl) (by rfl) n1 (by omega)]
  have eV : rf 0 (dV + 1) V (nI 3) x = some (x + gi V1 44 34, V1) := by
    show Mo_holdsAs_B (rf 0 dV) (rf 1 dV) (rf 2 dV) (rf 3 dV) V (nI 3) x = _
    generalize rf 0 dV = f0
    generalize rf 1 dV = f1
    generalize rf 2 dV = f2
    generalize rf 3 dV = f3
    unfold Mo_holdsAs_B
    rw [if_neg (by decide : ¬ nI 3 = 1), if_neg (by decide : ¬ nI 3 = 4), if_neg (by decide : ¬ nI 3 = 7), if_neg (by decide : ¬ nI 3 = 6), n2, bd1_some]
  rw [eV]
  rw [j1.2.1, j1.2.2.1]
  exact ⟨_, _, _, _, rfl, rfl, j1, by omega⟩
theorem ag_0_4 : AG 0 4 2 2 := by
  intro K b S V r x dep dS dV hJ hK hr hdep hS hV
  obtain ⟨dS, rfl⟩ : ∃ d, dS = d + 1 + 1 := ⟨dS - 2, by omega⟩
  obtain ⟨dV, rfl⟩ : ∃ d, dV = d + 1 := ⟨dV - 1, by omega⟩
  obtain ⟨S1, V1, n1, n2, j1⟩ := hJ.note (by omega) 20
  rw [lop_20 (k := 4) (a := 0) (k1 := 1) (kA := 0) (by rfl) x (by rfl) (by omega) (by rfl) (by rfl) n1 (by omega)]
  have eV : rf 0 (dV + 1) V (nI 4) x = bd2 (rf 0 dV V1 (nI 0) x) fun y1 V2 => some (y1 + 3, V2) := by
    show Mo_holdsAs_B (rf 0 dV) (rf 1 dV) (rf 2 dV) (rf 3 dV) V (nI 4) x = _
    generalize rf 0 dV = f0
    generalize rf 1 dV = f1
    generalize rf 2 dV = f2
    generalize rf 3 dV = f3
    unfold Mo_holdsAs_B Mo_holdsAs_b16
    rw [if_neg (by decide : ¬ nI 4 = 1), if_pos (by decide : nI 4 = 4), n2, bd1_some]
    all_goals rfl
  rw [eV]
  obtain ⟨y2, S2, V2, r2, s2, v2, j2, l2⟩ := ag_0_0 K b S1 V1 (r + 1) x (dep + 1) dS dV j1 hK (by omega) (by omega) (by omega) (by omega)
  rw [s2, v2, bd2_some, bd2_some]
  exact ⟨_, _, _, _, rfl, rfl, j2, by omega⟩
theorem ag_0_5 : AG 0 5 1 1 := by
  intro K b S V r x dep dS dV hJ hK hr hdep hS hV
  obtain ⟨dS, rfl⟩ : ∃ d, dS = d + 1 := ⟨dS - 1, by omega⟩
  obtain ⟨dV, rfl⟩ : ∃ d, dV = d + 1 := ⟨dV - 1, by omega⟩
  obtain ⟨S1, V1, n1, n2, j1⟩ := hJ.note (by omega) 1
  rw [lop_1 (k := 5) (a := 0) (k1 := 0) x (by rfl) (by omega) (by rfl) (by rfl) n1 (by omega)]
  have eV : rf 0 (dV + 1) V (nI 5) x = some (x + gi V1 44 34, V1) := by
    show Mo_holdsAs_B (rf 0 dV) (rf 1 dV) (rf 2 dV) (rf 3 dV) V (nI 5) x = _
    generalize rf 0 dV = f0
    generalize rf 1 dV = f1
    generalize rf 2 dV = f2
    generalize rf 3 dV = f3
    unfold Mo_holdsAs_B
    rw [if_neg (by decide : ¬ nI 5 = 1), if_neg (by decide : ¬ nI 5 = 4), if_neg (by decide : ¬ nI 5 = 7), if_neg (by decide : ¬ nI 5 = 6), n2, bd1_some]
  rw [eV]
  rw [j1.2.1, j1.2.2.1]
  exact ⟨_, _, _, _, rfl, rfl, j1, by omega⟩
theorem ag_0_6 : AG 0 6 2 2 := by
  intro K b S V r x dep dS dV hJ hK hr hdep hS hV
  obtain ⟨dS, rfl⟩ : ∃ d, dS = d + 1 + 1 := ⟨dS - 2, by omega⟩
  obtain ⟨dV, rfl⟩ : ∃ d, dV = d + 1 := ⟨dV - 1, by omega⟩
  obtain ⟨S1, V1, n1, n2, j1⟩ := hJ.note (by omega) 70
  rw [lop_70 (k := 6) (a := 0) (k1 := 6) (kA := 0) (by rfl) x (by rfl) (by omega) (by rfl) (by rfl) n1 (by omega)]
  have eV : rf 0 (dV + 1) V (nI 6) x = bd2 (rf 0 dV V1 (nI 0) x) fun y1 V2 => some (y1 * 2, V2) := by
    show Mo_holdsAs_B (rf 0 dV) (rf 1 dV) (rf 2 dV) (rf 3 dV) V (nI 6) x = _
    generalize rf 0 dV = f0
    generalize rf 1 dV = f1
    generalize rf 2 dV = f2
    generalize rf 3 dV = f3
    unfold Mo_holdsAs_B
    rw [if_neg (by decide : ¬ nI 6 = 1), if_neg (by decide : ¬ nI 6 = 4), if_neg (by decide : ¬ nI 6 = 7), if_pos (by decide : nI 6 = 6), n2, bd1_some]
    all_goals rfl
  rw [eV]
  obtain ⟨y2, S2, V2, r2, s2, v2, j2, l2⟩ := ag_0_0 K b S1 V1 (r + 1) x (dep + 1) dS dV j1 hK (by omega) (by omega) (by omega) (by omega)
  rw [s2, v2, bd2_some, bd2_some]
  exact ⟨_, _, _, _, rfl, rfl, j2, by omega⟩
theorem ag_0_7 : AG 0 7 2 2 := by
  intro K b S V r x dep dS dV hJ hK hr hdep hS hV
  obtain ⟨dS, rfl⟩ : ∃ d, dS = d + 1 + 1 := ⟨dS - 2, by omega⟩
  obtain ⟨dV, rfl⟩ : ∃ d, dV = d + 1 := ⟨dV - 1, by omega⟩
  obtain ⟨S1, V1, n1, n2, j1⟩ := hJ.note (by omega) 20
  rw [lop_20 (k := 7) (a := 0) (k1 := 1) (kA := 0) (by rfl) x (by rfl) (by omega) (by rfl) (by rfl) n1 (by omega)]
  have eV : rf 0 (dV + 1) V (nI 7) x = bd2 (rf 0 dV V1 (nI 0) x) fun y1 V2 => some (y1 + 3, V2) := by
    show Mo_holdsAs_B (rf 0 dV) (rf 1 dV) (rf 2 dV) (rf 3 dV) V (nI 7) x = _
    generalize rf 0 dV = f0
    generalize rf 1 dV = f1
    generalize rf 2 dV = f2
    generalize rf 3 dV = f3
    unfold Mo_holdsAs_B Mo_holdsAs_b16
    rw [if_neg (by decide : ¬ nI 7 = 1), if_neg (by decide : ¬ nI 7 = 4), if_pos (by decide : nI 7 = 7), n2, bd1_some]
    all_goals rfl
  rw [eV]
  obtain ⟨y2, S2, V2, r2, s2, v2, j2, l2⟩ := ag_0_0 K b S1 V1 (r + 1) x (dep + 1) dS dV j1 hK (by omega) (by omega) (by omega) (by omega)
  rw [s2, v2, bd2_some, bd2_some]
  exact ⟨_, _, _, _, rfl, rfl, j2, by omega⟩
theorem og_all_0 : ∀ k, k < 8 → AG 0 k 2 2
  | 0, _ => ag_0_0.mono (by omega) (by omega)
  | 1, _ => ag_0_1.mono (by omega) (by omega)
  | 2, _ => ag_0_2.mono (by omega) (by omega)
  | 3, _ => ag_0_3.mono (by omega) (by omega)
  | 4, _ => ag_0_4.mono (by omega) (by omega)
  | 5, _ => ag_0_5.mono (by omega) (by omega)
  | 6, _ => ag_0_6.mono (by omega) (by omega)
  | 7, _ => ag_0_7.mono (by omega) (by omega)
  | n + 8, h => absurd h (by omega)
theorem og_0 : OG 0 2 2 := AG.own og_all_0
theorem ag_2_0 : AG 2 0 1 1 := by
  intro K b S V r x dep dS dV hJ hK hr hdep hS hV
  obtain ⟨dS, rfl⟩ : ∃ d, dS = d + 1 := ⟨dS - 1, by omega⟩
  obtain ⟨dV, rfl⟩ : ∃ d, dV = d + 1 := ⟨dV - 1, by omega⟩
  obtain ⟨S1, V1, n1, n2, j1⟩ := hJ.note (by omega) 11
  rw [lop_11 (k := 0) (a := 2) (k1 := 0) x (by rfl) (by omega) (by rfl) (by rfl) n1 (by omega)]
  have eV : rf 2 (dV + 1) V (nI 0) x = some (x ^^^ gi V1 44 34, V1) := by
    show Mo_creaksAs_B (rf 0 dV) (rf 1 dV) (rf 2 dV) (rf 3 dV) V (nI 0) x = _
    generalize rf 0 dV = f0
    generalize rf 1 dV = f1
    generalize rf 2 dV = f2
    generalize rf 3 dV = f3
    unfold Mo_creaksAs_B
    rw [if_neg (by decide : ¬ nI 0 = 3), if_neg (by decide : ¬ nI 0 = 5), if_neg (by decide : ¬ nI 0 = 4), if_neg (by decide : ¬ nI 0 = 7), n2, bd1_some]
  rw [eV]
  rw [j1.2.1, j1.2.2.1]
  exact ⟨_, _, _, _, rfl, rfl, j1, by omega⟩
theorem ag_2_1 : AG 2 1 1 1 := by
  intro K b S V r x dep dS dV hJ hK hr hdep hS hV
  obtain ⟨dS, rfl⟩ : ∃ d, dS = d + 1 := ⟨dS - 1, by omega⟩
  obtain ⟨dV, rfl⟩ : ∃ d, dV = d + 1 := ⟨dV - 1, by omega⟩
  obtain ⟨S1, V1, n1, n2, j1⟩ := hJ.note (by omega) 11
  rw [lop_11 (k := 1) (a := 2) (k1 := 0) x (by rfl) (by omega) (by rfl) (by rfl) n1 (by omega)]
  have eV : rf 2 (dV + 1) V (nI 1) x = some (x ^^^ gi V1 44 34, V1) := by
    show Mo_creaksAs_B (rf 0 dV) (rf 1 dV) (rf 2 dV) (rf 3 dV) V (nI 1) x = _
    generalize rf 0 dV = f0
    generalize rf 1 dV = f1
    generalize rf 2 dV = f2
    generalize rf 3 dV = f3
    unfold Mo_creaksAs_B
    rw [if_neg (by decide : ¬ nI 1 = 3), if_neg (by decide : ¬ nI 1 = 5), if_neg (by decide : ¬ nI 1 = 4), if_neg (by decide : ¬ nI 1 = 7), n2, bd1_some]
  rw [eV]
  rw [j1.2.1, j1.2.2.1]
  exact ⟨_, _, _, _, rfl, rfl, j1, by omega⟩
theorem ag_2_2 : AG 2 2 1 1 := by
  intro K b S V r x dep dS dV hJ hK hr hdep hS hV
  obtain ⟨dS, rfl⟩ : ∃ d, dS = d + 1 := ⟨dS - 1, by omega⟩
  obtain ⟨dV, rfl⟩ : ∃ d, dV = d + 1 := ⟨dV - 1, by omega⟩
  obtain ⟨S1, V1, n1, n2, j1⟩ := hJ.note (by omega) 11
  rw [lop_11 (k := 2) (a := 2) (k1 := 0) x (by rfl) (by omega) (by rfl) (by rfl) n1 (by omega)]
  have eV : rf 2 (dV + 1) V (nI 2) x = some (x ^^^ gi V1 44 34, V1) := by
    show Mo_creaksAs_B (rf 0 dV) (rf 1 dV) (rf 2 dV) (rf 3 dV) V (nI 2) x = _
    generalize rf 0 dV = f0
    generalize rf 1 dV = f1
    generalize rf 2 dV = f2
    generalize rf 3 dV = f3
    unfold Mo_creaksAs_B
    rw [if_neg (by decide : ¬ nI 2 = 3), if_neg (by decide : ¬ nI 2 = 5), if_neg (by decide : ¬ nI 2 = 4), if_neg (by decide : ¬ nI 2 = 7), n2, bd1_some]
  rw [eV]
  rw [j1.2.1, j1.2.2.1]
  exact ⟨_, _, _, _, rfl, rfl, j1, by omega⟩
theorem ag_2_3 : AG 2 3 2 2 := by
  intro K b S V r x dep dS dV hJ hK hr hdep hS hV
  obtain ⟨dS, rfl⟩ : ∃ d, dS = d + 1 + 1 := ⟨dS - 2, by omega⟩
  obtain ⟨dV, rfl⟩ : ∃ d, dV = d + 1 := ⟨dV - 1, by omega⟩
  obtain ⟨S1, V1, n1, n2, j1⟩ := hJ.note (by omega) 40
  rw [lop_40 (k := 3) (a := 2) (k1 := 3) (kA := 2) (by rfl) x (by rfl) (by omega) (by rfl) (by rfl) n1 (by omega)]
  have eV : rf 2 (dV + 1) V (nI 3) x = bd2 (rf 2 dV V1 (nI 2) x) fun y1 V2 => some (y1 * 3, V2) := by
    show Mo_creaksAs_B (rf 0 dV) (rf 1 dV) (rf 2 dV) (rf 3 dV) V (nI 3) x = _
    generalize rf 0 dV = f0
    generalize rf 1 dV = f1
    generalize rf 2 dV = f2
    generalize rf 3 dV = f3
    unfold Mo_creaksAs_B Mo_creaksAs_b10
    rw [if_pos (by decide : nI 3 = 3), n2, bd1_some]
    all_goals rfl
  rw [eV]
  obtain ⟨y2, S2, V2, r2, s2, v2, j2, l2⟩ := ag_2_2 K b S1 V1 (r + 1) x (dep + 1) dS dV j1 hK (by omega) (by omega) (by omega) (by omega)
  rw [s2, v2, bd2_some, bd2_some]
  exact ⟨_, _, _, _, rfl, rfl, j2, by omega⟩
theorem ag_2_4 : AG 2 4 3 4 := by
  intro K b S V r x dep dS dV hJ hK hr hdep hS hV
  obtain ⟨dS, rfl⟩ : ∃ d, dS = d + 1 + 1 := ⟨dS - 2, by omega⟩
  obtain ⟨dV, rfl⟩ : ∃ d, dV = d + 1 := ⟨dV - 1, by omega⟩
  obtain ⟨S1, V1, n1, n2, j1⟩ := hJ.note (by omega) 50
  rw [lop_50 (k := 4) (a := 2) (k1 := 4) (kA := 1) (by rfl) x (by rfl) (by omega) (by rfl) (by rfl) n1 (by omega)]
  have eV : rf 2 (dV + 1) V (nI 4) x = bd2 (rf 2 dV V1 (nI 1) x) fun y1 V2 => bd2 (rf 0 dV V2 (gi V2 44 33) 2) fun y2 V3 => some (y1 - y2, V3) := by
    show Mo_creaksAs_B (rf 0 dV) (rf 1 dV) (rf 2 dV) (rf 3 dV) V (nI 4) x = _
    generalize rf 0 dV = f0
    generalize rf 1 dV = f1
    generalize rf 2 dV = f2
    generalize rf 3 dV = f3
    unfold Mo_creaksAs_B Mo_creaksAs_b36
    rw [if_neg (by decide : ¬ nI 4 = 3), if_neg (by decide : ¬ nI 4 = 5), if_pos (by decide : nI 4 = 4), n2, bd1_some]
    all_goals rfl
  rw [eV]
  obtain ⟨y2, S2, V2, r2, s2, v2, j2, l2⟩ := ag_2_1 K b S1 V1 (r + 1) x (dep + 1) dS dV j1 hK (by omega) (by omega) (by omega) (by omega)
  rw [s2, v2, bd2_some, bd2_some]
  obtain ⟨y3, S3, V3, r3, s3, v3, j3, l3⟩ := og_0 K b S2 V2 r2 2 (dep + 1) (dS + 1) dV j2 hK (by omega) (by omega) (by omega) (by omega)
  rw [s3, v3, bd2_some, bd2_some]
  exact ⟨_, _, _, _, rfl, rfl, j3, by omega⟩
theorem ag_2_5 : AG 2 5 2 2 := by
  intro K b S V r x dep dS dV hJ hK hr hdep hS hV
  obtain ⟨dS, rfl⟩ : ∃ d, dS = d + 1 + 1 := ⟨dS - 2, by omega⟩
  obtain ⟨dV, rfl⟩ : ∃ d, dV = d + 1 := ⟨dV - 1, by omega⟩
  obtain ⟨S1, V1, n1, n2, j1⟩ := hJ.note (by omega) 40
  rw [lop_40 (k := 5) (a := 2) (k1 := 3) (kA := 2) (by rfl) x (by rfl) (by omega) (by rfl) (by rfl) n1 (by omega)]
  have eV : rf 2 (dV + 1) V (nI 5) x = bd2 (rf 2 dV V1 (nI 2) x) fun y1 V2 => some (y1 * 3, V2) := by
    show Mo_creaksAs_B (rf 0 dV) (rf 1 dV) (rf 2 dV) (rf 3 dV) V (nI 5) x = _
    generalize rf 0 dV = f0
    generalize rf 1 dV = f1
    generalize rf 2 dV = f2
    generalize rf 3 dV = f3
    unfold Mo_creaksAs_B Mo_creaksAs_b10
    rw [if_neg (by decide : ¬ nI 5 = 3), if_pos (by decide : nI 5 = 5), n2, bd1_some]
    all_goals rfl
  rw [eV]
  obtain ⟨y2, S2, V2, r2, s2, v2, j2, l2⟩ := ag_2_2 K b S1 V1 (r + 1) x (dep + 1) dS dV j1 hK (by omega) (by omega) (by omega) (by omega)
  rw [s2, v2, bd2_some, bd2_some]
  exact ⟨_, _, _, _, rfl, rfl, j2, by omega⟩
theorem ag_2_6 : AG 2 6 1 1 := by
  intro K b S V r x dep dS dV hJ hK hr hdep hS hV
  obtain ⟨dS, rfl⟩ : ∃ d, dS = d + 1 := ⟨dS - 1, by omega⟩
  obtain ⟨dV, rfl⟩ : ∃ d, dV = d + 1 := ⟨dV - 1, by omega⟩
  obtain ⟨S1, V1, n1, n2, j1⟩ := hJ.note (by omega) 11
  rw [lop_11 (k := 6) (a := 2) (k1 := 0) x (by rfl) (by omega) (by rfl) (by rfl) n1 (by omega)]
  have eV : rf 2 (dV + 1) V (nI 6) x = some (x ^^^ gi V1 44 34, V1) := by
    show Mo_creaksAs_B (rf 0 dV) (rf 1 dV) (rf 2 dV) (rf 3 dV) V (nI 6) x = _
    generalize rf 0 dV = f0
    generalize rf 1 dV = f1
    generalize rf 2 dV = f2
    generalize rf 3 dV = f3
    unfold Mo_creaksAs_B
    rw [if_neg (by decide : ¬ nI 6 = 3), if_neg (by decide : ¬ nI 6 = 5), if_neg (by decide : ¬ nI 6 = 4), if_neg (by decide : ¬ nI 6 = 7), n2, bd1_some]
  rw [eV]
  rw [j1.2.1, j1.2.2.1]
  exact ⟨_, _, _, _, rfl, rfl, j1, by omega⟩
theorem ag_2_7 : AG 2 7 3 4 := by
  intro K b S V r x dep dS dV hJ hK hr hdep hS hV
  obtain ⟨dS, rfl⟩ : ∃ d, dS = d + 1 + 1 := ⟨dS - 2, by omega⟩
  obtain ⟨dV, rfl⟩ : ∃ d, dV = d + 1 := ⟨dV - 1, by omega⟩
  obtain ⟨S1, V1, n1, n2, j1⟩ := hJ.note (by omega) 50
  rw [lop_50 (k := 7) (a := 2) (k1 := 4) (kA := 1) (by rfl) x (by rfl) (by omega) (by rfl) (by rfl) n1 (by omega)]
  have eV : rf 2 (dV + 1) V (nI 7) x = bd2 (rf 2 dV V1 (nI 1) x) fun y1 V2 => bd2 (rf 0 dV V2 (gi V2 44 33) 2) fun y2 V3 => some (y1 - y2, V3) := by
    show Mo_creaksAs_B (rf 0 dV) (rf 1 dV) (rf 2 dV) (rf 3 dV) V (nI 7) x = _
    generalize rf 0 dV = f0
    generalize rf 1 dV = f1
    generalize rf 2 dV = f2
    generalize rf 3 dV = f3
    unfold Mo_creaksAs_B Mo_creaksAs_b36
    rw [if_neg (by decide : ¬ nI 7 = 3), if_neg (by decide : ¬ nI 7 = 5), if_neg (by decide : ¬ nI 7 = 4), if_pos (by decide : nI 7 = 7), n2, bd1_some]
    all_goals rfl
  rw [eV]
  obtain ⟨y2, S2, V2, r2, s2, v2, j2, l2⟩ := ag_2_1 K b S1 V1 (r + 1) x (dep + 1) dS dV j1 hK (by omega) (by omega) (by omega) (by omega)
  rw [s2, v2, bd2_some, bd2_some]
  obtain ⟨y3, S3, V3, r3, s3, v3, j3, l3⟩ := og_0 K b S2 V2 r2 2 (dep + 1) (dS + 1) dV j2 hK (by omega) (by omega) (by omega) (by omega)
  rw [s3, v3, bd2_some, bd2_some]
  exact ⟨_, _, _, _, rfl, rfl, j3, by omega⟩
theorem og_all_2 : ∀ k, k < 8 → AG 2 k 3 4
  | 0, _ => ag_2_0.mono (by omega) (by omega)
  | 1, _ => ag_2_1.mono (by omega) (by omega)
  | 2, _ => ag_2_2.mono (by omega) (by omega)
  | 3, _ => ag_2_3.mono (by omega) (by omega)
  | 4, _ => ag_2_4.mono (by omega) (by omega)
  | 5, _ => ag_2_5.mono (by omega) (by omega)
  | 6, _ => ag_2_6.mono (by omega) (by omega)
  | 7, _ => ag_2_7.mono (by omega) (by omega)
  | n + 8, h => absurd h (by omega)
theorem og_2 : OG 2 3 4 := AG.own og_all_2
theorem ag_1_0 : AG 1 0 3 3 := by
  intro K b S V r x dep dS dV hJ hK hr hdep hS hV
  obtain ⟨dS, rfl⟩ : ∃ d, dS = d + 1 := ⟨dS - 1, by omega⟩
  obtain ⟨dV, rfl⟩ : ∃ d, dV = d + 1 := ⟨dV - 1, by omega⟩
  obtain ⟨S1, V1, n1, n2, j1⟩ := hJ.note (by omega) 10
  rw [lop_10 (k := 0) (a := 1) (k1 := 0) x (by rfl) (by omega) (by rfl) (by rfl) n1 (by omega)]
  have eV : rf 1 (dV + 1) V (nI 0) x = bd2 (rf 0 dV V1 (gi V1 44 33) x) fun y1 V2 => some (y1 * 2, V2) := by
    show Mo_ridesAs_B (rf 0 dV) (rf 1 dV) (rf 2 dV) (rf 3 dV) V (nI 0) x = _
    generalize rf 0 dV = f0
    generalize rf 1 dV = f1
    generalize rf 2 dV = f2
    generalize rf 3 dV = f3
    unfold Mo_ridesAs_B
    rw [if_neg (by decide : ¬ nI 0 = 3), if_neg (by decide : ¬ nI 0 = 5), if_neg (by decide : ¬ nI 0 = 2), if_neg (by decide : ¬ nI 0 = 7), n2, bd1_some]
    all_goals rfl
  rw [eV]
  obtain ⟨y2, S2, V2, r2, s2, v2, j2, l2⟩ := og_0 K b S1 V1 (r + 1) x (dep + 1) dS dV j1 hK (by omega) (by omega) (by omega) (by omega)
  rw [s2, v2, bd2_some, bd2_some]
  exact ⟨_, _, _, _, rfl, rfl, j2, by omega⟩
theorem ag_1_1 : AG 1 1 3 3 := by
  intro K b S V r x dep dS dV hJ hK hr hdep hS hV
  obtain ⟨dS, rfl⟩ : ∃ d, dS = d + 1 := ⟨dS - 1, by omega⟩
  obtain ⟨dV, rfl⟩ : ∃ d, dV = d + 1 := ⟨dV - 1, by omega⟩
  obtain ⟨S1, V1, n1, n2, j1⟩ := hJ.note (by omega) 10
  rw [lop_10 (k := 1) (a := 1) (k1 := 0) x (by rfl) (by omega) (by rfl) (by rfl) n1 (by omega)]
  have eV : rf 1 (dV + 1) V (nI 1) x = bd2 (rf 0 dV V1 (gi V1 44 33) x) fun y1 V2 => some (y1 * 2, V2) := by
    show Mo_ridesAs_B (rf 0 dV) (rf 1 dV) (rf 2 dV) (rf 3 dV) V (nI 1) x = _
    generalize rf 0 dV = f0
    generalize rf 1 dV = f1
    generalize rf 2 dV = f2
    generalize rf 3 dV = f3
    unfold Mo_ridesAs_B
    rw [if_neg (by decide : ¬ nI 1 = 3), if_neg (by decide : ¬ nI 1 = 5), if_neg (by decide : ¬ nI 1 = 2), if_neg (by decide : ¬ nI 1 = 7), n2, bd1_some]
    all_goals rfl
  rw [eV]
  obtain ⟨y2, S2, V2, r2, s2, v2, j2, l2⟩ := og_0 K b S1 V1 (r + 1) x (dep + 1) dS dV j1 hK (by omega) (by omega) (by omega) (by omega)
  rw [s2, v2, bd2_some, bd2_some]
  exact ⟨_, _, _, _, rfl, rfl, j2, by omega⟩
theorem ag_1_2 : AG 1 2 4 4 := by
  intro K b S V r x dep dS dV hJ hK hr hdep hS hV
  obtain ⟨dS, rfl⟩ : ∃ d, dS = d + 1 + 1 := ⟨dS - 2, by omega⟩
  obtain ⟨dV, rfl⟩ : ∃ d, dV = d + 1 := ⟨dV - 1, by omega⟩
  obtain ⟨S1, V1, n1, n2, j1⟩ := hJ.note (by omega) 30
  rw [lop_30 (k := 2) (a := 1) (k1 := 2) (kA := 0) (by rfl) x (by rfl) (by omega) (by rfl) (by rfl) n1 (by omega)]
  have eV : rf 1 (dV + 1) V (nI 2) x = bd2 (rf 1 dV V1 (nI 0) x) fun y1 V2 => some (-y1, V2) := by
    show Mo_ridesAs_B (rf 0 dV) (rf 1 dV) (rf 2 dV) (rf 3 dV) V (nI 2) x = _
    generalize rf 0 dV = f0
    generalize rf 1 dV = f1
    generalize rf 2 dV = f2
    generalize rf 3 dV = f3
    unfold Mo_ridesAs_B
    rw [if_neg (by decide : ¬ nI 2 = 3), if_neg (by decide : ¬ nI 2 = 5), if_pos (by decide : nI 2 = 2), n2, bd1_some]
    all_goals rfl
  rw [eV]
  obtain ⟨y2, S2, V2, r2, s2, v2, j2, l2⟩ := ag_1_0 K b S1 V1 (r + 1) x (dep + 1) dS dV j1 hK (by omega) (by omega) (by omega) (by omega)
  rw [s2, v2, bd2_some, bd2_some]
  exact ⟨_, _, _, _, rfl, rfl, j2, by omega⟩
theorem ag_1_3 : AG 1 3 5 5 := by
  intro K b S V r x dep dS dV hJ hK hr hdep hS hV
  obtain ⟨dS, rfl⟩ : ∃ d, dS = d + 1 + 1 := ⟨dS - 2, by omega⟩
  obtain ⟨dV, rfl⟩ : ∃ d, dV = d + 1 := ⟨dV - 1, by omega⟩
  obtain ⟨S1, V1, n1, n2, j1⟩ := hJ.note (by omega) 41
  rw [lop_41 (k := 3) (a := 1) (k1 := 3) (kA := 2) (by rfl) x (by rfl) (by omega) (by rfl) (by rfl) n1 (by omega)]
  have eV : rf 1 (dV + 1) V (nI 3) x = bd2 (rf 1 dV V1 (nI 2) (x + 1)) fun y1 V2 => some (y1, V2) := by
    show Mo_ridesAs_B (rf 0 dV) (rf 1 dV) (rf 2 dV) (rf 3 dV) V (nI 3) x = _
    generalize rf 0 dV = f0
    generalize rf 1 dV = f1
    generalize rf 2 dV = f2
    generalize rf 3 dV = f3
    unfold Mo_ridesAs_B Mo_ridesAs_b10
    rw [if_pos (by decide : nI 3 = 3), n2, bd1_some]
    all_goals rfl
  rw [eV]
  obtain ⟨y2, S2, V2, r2, s2, v2, j2, l2⟩ := ag_1_2 K b S1 V1 (r + 1) (x + 1) (dep + 1) dS dV j1 hK (by omega) (by omega) (by omega) (by omega)
  rw [s2, v2, bd2_some, bd2_some]
  exact ⟨_, _, _, _, rfl, rfl, j2, by omega⟩
theorem ag_1_4 : AG 1 4 3 3 := by
  intro K b S V r x dep dS dV hJ hK hr hdep hS hV
  obtain ⟨dS, rfl⟩ : ∃ d, dS = d + 1 := ⟨dS - 1, by omega⟩
  obtain ⟨dV, rfl⟩ : ∃ d, dV = d + 1 := ⟨dV - 1, by omega⟩
  obtain ⟨S1, V1, n1, n2, j1⟩ := hJ.note (by omega) 10
  rw [lop_10 (k := 4) (a := 1) (k1 := 0) x (by rfl) (by omega) (by rfl) (by rfl) n1 (by omega)]
  have eV : rf 1 (dV + 1) V (nI 4) x = bd2 (rf 0 dV V1 (gi V1 44 33) x) fun y1 V2 => some (y1 * 2, V2) := by
    show Mo_ridesAs_B (rf 0 dV) (rf 1 dV) (rf 2 dV) (rf 3 dV) V (nI 4) x = _
    generalize rf 0 dV = f0
    generalize rf 1 dV = f1
    generalize rf 2 dV = f2
    generalize rf 3 dV = f3
    unfold Mo_ridesAs_B
    rw [if_neg (by decide : ¬ nI 4 = 3), if_neg (by decide : ¬ nI 4 = 5), if_neg (by decide : ¬ nI 4 = 2), if_neg (by decide : ¬ nI 4 = 7), n2, bd1_some]
    all_goals rfl
  rw [eV]
  obtain ⟨y2, S2, V2, r2, s2, v2, j2, l2⟩ := og_0 K b S1 V1 (r + 1) x (dep + 1) dS dV j1 hK (by omega) (by omega) (by omega) (by omega)
  rw [s2, v2, bd2_some, bd2_some]
  exact ⟨_, _, _, _, rfl, rfl, j2, by omega⟩
theorem ag_1_5 : AG 1 5 5 5 := by
  intro K b S V r x dep dS dV hJ hK hr hdep hS hV
  obtain ⟨dS, rfl⟩ : ∃ d, dS = d + 1 + 1 := ⟨dS - 2, by omega⟩
  obtain ⟨dV, rfl⟩ : ∃ d, dV = d + 1 := ⟨dV - 1, by omega⟩
  obtain ⟨S1, V1, n1, n2, j1⟩ := hJ.note (by omega) 41
  rw [lop_41 (k := 5) (a := 1) (k1 := 3) (kA := 2) (by rfl) x (by rfl) (by omega) (by rfl) (by rfl) n1 (by omega)]
  have eV : rf 1 (dV + 1) V (nI 5) x = bd2 (rf 1 dV V1 (nI 2) (x + 1)) fun y1 V2 => some (y1, V2) := by
    show Mo_ridesAs_B (rf 0 dV) (rf 1 dV) (rf 2 dV) (rf 3 dV) V (nI 5) x = _
    generalize rf 0 dV = f0
    generalize rf 1 dV = f1
    generalize rf 2 dV = f2
    generalize rf 3 dV = f3
    unfold Mo_ridesAs_B Mo_ridesAs_b10
    rw [if_neg (by decide : ¬ nI 5 = 3), if_pos (by decide : nI 5 = 5), n2, bd1_some]
    all_goals rfl
  rw [eV]
  obtain ⟨y2, S2, V2, r2, s2, v2, j2, l2⟩ := ag_1_2 K b S1 V1 (r + 1) (x + 1) (dep + 1) dS dV j1 hK (by omega) (by omega) (by omega) (by omega)
  rw [s2, v2, bd2_some, bd2_some]
  exact ⟨_, _, _, _, rfl, rfl, j2, by omega⟩
theorem ag_1_6 : AG 1 6 3 3 := by
  intro K b S V r x dep dS dV hJ hK hr hdep hS hV
  obtain ⟨dS, rfl⟩ : ∃ d, dS = d + 1 := ⟨dS - 1, by omega⟩
  obtain ⟨dV, rfl⟩ : ∃ d, dV = d + 1 := ⟨dV - 1, by omega⟩
  obtain ⟨S1, V1, n1, n2, j1⟩ := hJ.note (by omega) 10
  rw [lop_10 (k := 6) (a := 1) (k1 := 0) x (by rfl) (by omega) (by rfl) (by rfl) n1 (by omega)]
  have eV : rf 1 (dV + 1) V (nI 6) x = bd2 (rf 0 dV V1 (gi V1 44 33) x) fun y1 V2 => some (y1 * 2, V2) := by
    show Mo_ridesAs_B (rf 0 dV) (rf 1 dV) (rf 2 dV) (rf 3 dV) V (nI 6) x = _
    generalize rf 0 dV = f0
    generalize rf 1 dV = f1
    generalize rf 2 dV = f2
    generalize rf 3 dV = f3
    unfold Mo_ridesAs_B
    rw [if_neg (by decide : ¬ nI 6 = 3), if_neg (by decide : ¬ nI 6 = 5), if_neg (by decide : ¬ nI 6 = 2), if_neg (by decide : ¬ nI 6 = 7), n2, bd1_some]
    all_goals rfl
  rw [eV]
  obtain ⟨y2, S2, V2, r2, s2, v2, j2, l2⟩ := og_0 K b S1 V1 (r + 1) x (dep + 1) dS dV j1 hK (by omega) (by omega) (by omega) (by omega)
  rw [s2, v2, bd2_some, bd2_some]
  exact ⟨_, _, _, _, rfl, rfl, j2, by omega⟩
theorem ag_1_7 : AG 1 7 4 8 := by
  intro K b S V r x dep dS dV hJ hK hr hdep hS hV
  obtain ⟨dS, rfl⟩ : ∃ d, dS = d + 1 + 1 := ⟨dS - 2, by omega⟩
  obtain ⟨dV, rfl⟩ : ∃ d, dV = d + 1 := ⟨dV - 1, by omega⟩
  obtain ⟨S1, V1, n1, n2, j1⟩ := hJ.note (by omega) 80
  rw [lop_80 (k := 7) (a := 1) (k1 := 7) (kA := 4) (by rfl) x (by rfl) (by omega) (by rfl) (by rfl) n1 (by omega)]
  have eV : rf 1 (dV + 1) V (nI 7) x = bd2 (rf 1 dV V1 (nI 4) x) fun y1 V2 => bd2 (rf 2 dV V2 (gi V2 44 33) 2) fun y2 V3 => some (y1 + y2, V3) := by
    show Mo_ridesAs_B (rf 0 dV) (rf 1 dV) (rf 2 dV) (rf 3 dV) V (nI 7) x = _
    generalize rf 0 dV = f0
    generalize rf 1 dV = f1
    generalize rf 2 dV = f2
    generalize rf 3 dV = f3
    unfold Mo_ridesAs_B
    rw [if_neg (by decide : ¬ nI 7 = 3), if_neg (by decide : ¬ nI 7 = 5), if_neg (by decide : ¬ nI 7 = 2), if_pos (by decide : nI 7 = 7), n2, bd1_some]
    all_goals rfl
  rw [eV]
  obtain ⟨y2, S2, V2, r2, s2, v2, j2, l2⟩ := ag_1_4 K b S1 V1 (r + 1) x (dep + 1) dS dV j1 hK (by omega) (by omega) (by omega) (by omega)
  rw [s2, v2, bd2_some, bd2_some]
  obtain ⟨y3, S3, V3, r3, s3, v3, j3, l3⟩ := og_2 K b S2 V2 r2 2 (dep + 1) (dS + 1) dV j2 hK (by omega) (by omega) (by omega) (by omega)
  rw [s3, v3, bd2_some, bd2_some]
  exact ⟨_, _, _, _, rfl, rfl, j3, by omega⟩
theorem og_all_1 : ∀ k, k < 8 → AG 1 k 5 8
  | 0, _ => ag_1_0.mono (by omega) (by omega)
  | 1, _ => ag_1_1.mono (by omega) (by omega)
  | 2, _ => ag_1_2.mono (by omega) (by omega)
  | 3, _ => ag_1_3.mono (by omega) (by omega)
  | 4, _ => ag_1_4.mono (by omega) (by omega)
  | 5, _ => ag_1_5.mono (by omega) (by omega)
  | 6, _ => ag_1_6.mono (by omega) (by omega)
  | 7, _ => ag_1_7.mono (by omega) (by omega)
  | n + 8, h => absurd h (by omega)
theorem og_1 : OG 1 5 8 := AG.own og_all_1
theorem ag_3_0 : AG 3 0 6 13 := by
  intro K b S V r x dep dS dV hJ hK hr hdep hS hV
  obtain ⟨dS, rfl⟩ : ∃ d, dS = d + 1 := ⟨dS - 1, by omega⟩
  obtain ⟨dV, rfl⟩ : ∃ d, dV = d + 1 := ⟨dV - 1, by omega⟩
  obtain ⟨S1, V1, n1, n2, j1⟩ := hJ.note (by omega) 2
  rw [lop_2 (k := 0) (a := 3) (k1 := 0) x (by rfl) (by omega) (by rfl) (by rfl) n1 (by omega)]
  have eV : rf 3 (dV + 1) V (nI 0) x = bd2 (rf 1 dV V1 (gi V1 44 33) x) fun y1 V2 => bd2 (rf 2 dV V2 (gi V2 44 33) 1) fun y2 V3 => some (y1 - y2, V3) := by
    show Mo_tellsAs_B (rf 0 dV) (rf 1 dV) (rf 2 dV) (rf 3 dV) V (nI 0) x = _
    generalize rf 0 dV = f0
    generalize rf 1 dV = f1
    generalize rf 2 dV = f2
    generalize rf 3 dV = f3
    unfold Mo_tellsAs_B
    rw [if_neg (by decide : ¬ nI 0 = 5), if_neg (by decide : ¬ nI 0 = 7), n2, bd1_some]
    all_goals rfl
  rw [eV]
  obtain ⟨y2, S2, V2, r2, s2, v2, j2, l2⟩ := og_1 K b S1 V1 (r + 1) x (dep + 1) dS dV j1 hK (by omega) (by omega) (by omega) (by omega)
  rw [s2, v2, bd2_some, bd2_some]
  obtain ⟨y3, S3, V3, r3, s3, v3, j3, l3⟩ := og_2 K b S2 V2 r2 1 (dep + 1) dS dV j2 hK (by omega) (by omega) (by omega) (by omega)
  rw [s3, v3, bd2_some, bd2_some]
  exact ⟨_, _, _, _, rfl, rfl, j3, by omega⟩
theorem ag_3_1 : AG 3 1 6 13 := by
  intro K b S V r x dep dS dV hJ hK hr hdep hS hV
  obtain ⟨dS, rfl⟩ : ∃ d, dS = d + 1 := ⟨dS - 1, by omega⟩
  obtain ⟨dV, rfl⟩ : ∃ d, dV = d + 1 := ⟨dV - 1, by omega⟩
  obtain ⟨S1, V1, n1, n2, j1⟩ := hJ.note (by omega) 2
  rw [lop_2 (k := 1) (a := 3) (k1 := 0) x (by rfl) (by omega) (by rfl) (by rfl) n1 (by omega)]
  have eV : rf 3 (dV + 1) V (nI 1) x = bd2 (rf 1 dV V1 (gi V1 44 33) x) fun y1 V2 => bd2 (rf 2 dV V2 (gi V2 44 33) 1) fun y2 V3 => some (y1 - y2, V3) := by
    show Mo_tellsAs_B (rf 0 dV) (rf 1 dV) (rf 2 dV) (rf 3 dV) V (nI 1) x = _
    generalize rf 0 dV = f0
    generalize rf 1 dV = f1
    generalize rf 2 dV = f2
    generalize rf 3 dV = f3
    unfold Mo_tellsAs_B
    rw [if_neg (by decide : ¬ nI 1 = 5), if_neg (by decide : ¬ nI 1 = 7), n2, bd1_some]
    all_goals rfl
  rw [eV]
  obtain ⟨y2, S2, V2, r2, s2, v2, j2, l2⟩ := og_1 K b S1 V1 (r + 1) x (dep + 1) dS dV j1 hK (by omega) (by omega) (by omega) (by omega)
  rw [s2, v2, bd2_some, bd2_some]
  obtain ⟨y3, S3, V3, r3, s3, v3, j3, l3⟩ := og_2 K b S2 V2 r2 1 (dep + 1) dS dV j2 hK (by omega) (by omega) (by omega) (by omega)
  rw [s3, v3, bd2_some, bd2_some]
  exact ⟨_, _, _, _, rfl, rfl, j3, by omega⟩
theorem ag_3_2 : AG 3 2 6 13 := by
  intro K b S V r x dep dS dV hJ hK hr hdep hS hV
  obtain ⟨dS, rfl⟩ : ∃ d, dS = d + 1 := ⟨dS - 1, by omega⟩
  obtain ⟨dV, rfl⟩ : ∃ d, dV = d + 1 := ⟨dV - 1, by omega⟩
  obtain ⟨S1, V1, n1, n2, j1⟩ := hJ.note (by omega) 2
  rw [lop_2 (k := 2) (a := 3) (k1 := 0) x (by rfl) (by omega) (by rfl) (by rfl) n1 (by omega)]
  have eV : rf 3 (dV + 1) V (nI 2) x = bd2 (rf 1 dV V1 (gi V1 44 33) x) fun y1 V2 => bd2 (rf 2 dV V2 (gi V2 44 33) 1) fun y2 V3 => some (y1 - y2, V3) := by
    show Mo_tellsAs_B (rf 0 dV) (rf 1 dV) (rf 2 dV) (rf 3 dV) V (nI 2) x = _
    generalize rf 0 dV = f0
    generalize rf 1 dV = f1
    generalize rf 2 dV = f2
    generalize rf 3 dV = f3
    unfold Mo_tellsAs_B
    rw [if_neg (by decide : ¬ nI 2 = 5), if_neg (by decide : ¬ nI 2 = 7), n2, bd1_some]
    all_goals rfl
  rw [eV]
  obtain ⟨y2, S2, V2, r2, s2, v2, j2, l2⟩ := og_1 K b S1 V1 (r + 1) x (dep + 1) dS dV j1 hK (by omega) (by omega) (by omega) (by omega)
  rw [s2, v2, bd2_some, bd2_some]
  obtain ⟨y3, S3, V3, r3, s3, v3, j3, l3⟩ := og_2 K b S2 V2 r2 1 (dep + 1) dS dV j2 hK (by omega) (by omega) (by omega) (by omega)
  rw [s3, v3, bd2_some, bd2_some]
  exact ⟨_, _, _, _, rfl, rfl, j3, by omega⟩
theorem ag_3_3 : AG 3 3 6 13 := by
  intro K b S V r x dep dS dV hJ hK hr hdep hS hV
  obtain ⟨dS, rfl⟩ : ∃ d, dS = d + 1 := ⟨dS - 1, by omega⟩
  obtain ⟨dV, rfl⟩ : ∃ d, dV = d + 1 := ⟨dV - 1, by omega⟩
  obtain ⟨S1, V1, n1, n2, j1⟩ := hJ.note (by omega) 2
  rw [lop_2 (k := 3) (a := 3) (k1 := 0) x (by rfl) (by omega) (by rfl) (by rfl) n1 (by omega)]
  have eV : rf 3 (dV + 1) V (nI 3) x = bd2 (rf 1 dV V1 (gi V1 44 33) x) fun y1 V2 => bd2 (rf 2 dV V2 (gi V2 44 33) 1) fun y2 V3 => some (y1 - y2, V3) := by
    show Mo_tellsAs_B (rf 0 dV) (rf 1 dV) (rf 2 dV) (rf 3 dV) V (nI 3) x = _
    generalize rf 0 dV = f0
    generalize rf 1 dV = f1
    generalize rf 2 dV = f2
    generalize rf 3 dV = f3
    unfold Mo_tellsAs_B
    rw [if_neg (by decide : ¬ nI 3 = 5), if_neg (by decide : ¬ nI 3 = 7), n2, bd1_some]
    all_goals rfl
  rw [eV]
  obtain ⟨y2, S2, V2, r2, s2, v2, j2, l2⟩ := og_1 K b S1 V1 (r + 1) x (dep + 1) dS dV j1 hK (by omega) (by omega) (by omega) (by omega)
  rw [s2, v2, bd2_some, bd2_some]
  obtain ⟨y3, S3, V3, r3, s3, v3, j3, l3⟩ := og_2 K b S2 V2 r2 1 (dep + 1) dS dV j2 hK (by omega) (by omega) (by omega) (by omega)
  rw [s3, v3, bd2_some, bd2_some]
  exact ⟨_, _, _, _, rfl, rfl, j3, by omega⟩
theorem ag_3_4 : AG 3 4 6 13 := by
  intro K b S V r x dep dS dV hJ hK hr hdep hS hV
  obtain ⟨dS, rfl⟩ : ∃ d, dS = d + 1 := ⟨dS - 1, by omega⟩
  obtain ⟨dV, rfl⟩ : ∃ d, dV = d + 1 := ⟨dV - 1, by omega⟩
  obtain ⟨S1, V1, n1, n2, j1⟩ := hJ.note (by omega) 2
  rw [lop_2 (k := 4) (a := 3) (k1 := 0) x (by rfl) (by omega) (by rfl) (by rfl) n1 (by omega)]
  have eV : rf 3 (dV + 1) V (nI 4) x = bd2 (rf 1 dV V1 (gi V1 44 33) x) fun y1 V2 => bd2 (rf 2 dV V2 (gi V2 44 33) 1) fun y2 V3 => some (y1 - y2, V3) := by
    show Mo_tellsAs_B (rf 0 dV) (rf 1 dV) (rf 2 dV) (rf 3 dV) V (nI 4) x = _
    generalize rf 0 dV = f0
    generalize rf 1 dV = f1
    generalize rf 2 dV = f2
    generalize rf 3 dV = f3
    unfold Mo_tellsAs_B
    rw [if_neg (by decide : ¬ nI 4 = 5), if_neg (by decide : ¬ nI 4 = 7), n2, bd1_some]
    all_goals rfl
  rw [eV]
  obtain ⟨y2, S2, V2, r2, s2, v2, j2, l2⟩ := og_1 K b S1 V1 (r + 1) x (dep + 1) dS dV j1 hK (by omega) (by omega) (by omega) (by omega)
  rw [s2, v2, bd2_some, bd2_some]
  obtain ⟨y3, S3, V3, r3, s3, v3, j3, l3⟩ := og_2 K b S2 V2 r2 1 (dep + 1) dS dV j2 hK (by omega) (by omega) (by omega) (by omega)
  rw [s3, v3, bd2_some, bd2_some]
  exact ⟨_, _, _, _, rfl, rfl, j3, by omega⟩
theorem ag_3_5 : AG 3 5 7 14 := by
  intro K b S V r x dep dS dV hJ hK hr hdep hS hV
  obtain ⟨dS, rfl⟩ : ∃ d, dS = d + 1 + 1 := ⟨dS - 2, by omega⟩
  obtain ⟨dV, rfl⟩ : ∃ d, dV = d + 1 := ⟨dV - 1, by omega⟩
  obtain ⟨S1, V1, n1, n2, j1⟩ := hJ.note (by omega) 60
  rw [lop_60 (k := 5) (a := 3) (k1 := 5) (kA := 3) (by rfl) x (by rfl) (by omega) (by rfl) (by rfl) n1 (by omega)]
  have eV : rf 3 (dV + 1) V (nI 5) x = bd2 (rf 3 dV V1 (nI 3) x) fun y1 V2 => some (y1 ^^^ 5, V2) := by
    show Mo_tellsAs_B (rf 0 dV) (rf 1 dV) (rf 2 dV) (rf 3 dV) V (nI 5) x = _
    generalize rf 0 dV = f0
    generalize rf 1 dV = f1
    generalize rf 2 dV = f2
    generalize rf 3 dV = f3
    unfold Mo_tellsAs_B
    rw [if_pos (by decide : nI 5 = 5), n2, bd1_some]
    all_goals rfl
  rw [eV]
  obtain ⟨y2, S2, V2, r2, s2, v2, j2, l2⟩ := ag_3_3 K b S1 V1 (r + 1) x (dep + 1) dS dV j1 hK (by omega) (by omega) (by omega) (by omega)
  rw [s2, v2, bd2_some, bd2_some]
  exact ⟨_, _, _, _, rfl, rfl, j2, by omega⟩
theorem ag_3_6 : AG 3 6 6 13 := by
  intro K b S V r x dep dS dV hJ hK hr hdep hS hV
  obtain ⟨dS, rfl⟩ : ∃ d, dS = d + 1 := ⟨dS - 1, by omega⟩
  obtain ⟨dV, rfl⟩ : ∃ d, dV = d + 1 := ⟨dV - 1, by omega⟩
  obtain ⟨S1, V1, n1, n2, j1⟩ := hJ.note (by omega) 2
  rw [lop_2 (k := 6) (a := 3) (k1 := 0) x (by rfl) (by omega) (by rfl) (by rfl) n1 (by omega)]
  have eV : rf 3 (dV + 1) V (nI 6) x = bd2 (rf 1 dV V1 (gi V1 44 33) x) fun y1 V2 => bd2 (rf 2 dV V2 (gi V2 44 33) 1) fun y2 V3 => some (y1 - y2, V3) := by
    show Mo_tellsAs_B (rf 0 dV) (rf 1 dV) (rf 2 dV) (rf 3 dV) V (nI 6) x = _
    generalize rf 0 dV = f0
    generalize rf 1 dV = f1
    generalize rf 2 dV = f2
    generalize rf 3 dV = f3
    unfold Mo_tellsAs_B
    rw [if_neg (by decide : ¬ nI 6 = 5), if_neg (by decide : ¬ nI 6 = 7), n2, bd1_some]
    all_goals rfl
  rw [eV]
  obtain ⟨y2, S2, V2, r2, s2, v2, j2, l2⟩ := og_1 K b S1 V1 (r + 1) x (dep + 1) dS dV j1 hK (by omega) (by omega) (by omega) (by omega)
  rw [s2, v2, bd2_some, bd2_some]
  obtain ⟨y3, S3, V3, r3, s3, v3, j3, l3⟩ := og_2 K b S2 V2 r2 1 (dep + 1) dS dV j2 hK (by omega) (by omega) (by omega) (by omega)
  rw [s3, v3, bd2_some, bd2_some]
  exact ⟨_, _, _, _, rfl, rfl, j3, by omega⟩
theorem ag_3_7 : AG 3 7 7 14 := by
  intro K b S V r x dep dS dV hJ hK hr hdep hS hV
  obtain ⟨dS, rfl⟩ : ∃ d, dS = d + 1 + 1 := ⟨dS - 2, by omega⟩
  obtain ⟨dV, rfl⟩ : ∃ d, dV = d + 1 := ⟨dV - 1, by omega⟩
  obtain ⟨S1, V1, n1, n2, j1⟩ := hJ.note (by omega) 81
  rw [lop_81 (k := 7) (a := 3) (k1 := 7) (kA := 4) (by rfl) x (by rfl) (by omega) (by rfl) (by rfl) n1 (by omega)]
  have eV : rf 3 (dV + 1) V (nI 7) x = bd2 (rf 3 dV V1 (nI 4) x) fun y1 V2 => some (y1 - 1, V2) := by
    show Mo_tellsAs_B (rf 0 dV) (rf 1 dV) (rf 2 dV) (rf 3 dV) V (nI 7) x = _
    generalize rf 0 dV = f0
    generalize rf 1 dV = f1
    generalize rf 2 dV = f2
    generalize rf 3 dV = f3
    unfold Mo_tellsAs_B
    rw [if_neg (by decide : ¬ nI 7 = 5), if_pos (by decide : nI 7 = 7), n2, bd1_some]
    all_goals rfl
  rw [eV]
  obtain ⟨y2, S2, V2, r2, s2, v2, j2, l2⟩ := ag_3_4 K b S1 V1 (r + 1) x (dep + 1) dS dV j1 hK (by omega) (by omega) (by omega) (by omega)
  rw [s2, v2, bd2_some, bd2_some]
  exact ⟨_, _, _, _, rfl, rfl, j2, by omega⟩
theorem og_all_3 : ∀ k, k < 8 → AG 3 k 7 14
  | 0, _ => ag_3_0.mono (by omega) (by omega)
  | 1, _ => ag_3_1.mono (by omega) (by omega)
  | 2, _ => ag_3_2.mono (by omega) (by omega)
  | 3, _ => ag_3_3.mono (by omega) (by omega)
  | 4, _ => ag_3_4.mono (by omega) (by omega)
  | 5, _ => ag_3_5.mono (by omega) (by omega)
  | 6, _ => ag_3_6.mono (by omega) (by omega)
  | 7, _ => ag_3_7.mono (by omega) (by omega)
  | n + 8, h => absurd h (by omega)
theorem og_3 : OG 3 7 14 := AG.own og_all_3
/-- an act that the class performs -/
theorem RR_act : LS_act RR := by
  rintro S V p1 p2 p3 hRR
  obtain ⟨T, P, Q, F, c, a, B, hC, hR⟩ := hRR
  have hR0 : RLk (si V 44 32 0) (si T 9 1 0) P Q F c a B := RL_ran hR 0
  have hC0 : Core (si S 9 1 0) (si T 9 1 0) := hC.si _ _ _
  obtain ⟨b1, b2, b3, b4, -, -⟩ := hR0.2.2.2.2.2.2.2.2.1
  unfold Ch_act Li_perform Mo_act
  simp only [nm_eq, Li_isBody_eq hC0 b1 b2, Mo_isBody_eq b3 b2, Ch_within_eq, bd1_some, if_bI]
  by_cases h : wi p1.toInt 0 ((B : Int) - 1) = true
  · rw [if_pos h, if_pos h]
    obtain ⟨b, hb, rfl⟩ := wi_nI h
    obtain ⟨K, k1, k2, k3⟩ := b4 b hb
    rw [inb_nI (j := b) (n := 50) (by omega) (by omega), ck_true, cl b (by omega), k3]
    have hOf : OfM (si V 44 32 0) (si (si (si V 44 32 0) 44 33 (nI K)) 44 34 (nI b)) := ⟨fun v i hv => by
      rw [gi_si, gi_si]
      by_cases e : v = 44
      · have n1 : ¬ i = 34 := fun q => by rw [e, q] at hv; exact Bool.noConfusion hv
        have n2 : ¬ i = 33 := fun q => by rw [e, q] at hv; exact Bool.noConfusion hv
        rw [if_pos e, if_neg n1, if_pos e, if_neg n2]
      · rw [if_neg e, if_neg e], fun _ => rfl⟩
    have hC4 : Core (si (si S 9 1 0) 9 4 (nI b)) (si T 9 1 0) := ⟨fun v i hv => by
      rw [gi_si]
      by_cases e : v = 9
      · have n1 : ¬ i = 4 := fun q => by rw [e, q] at hv; exact Bool.noConfusion hv
        rw [if_pos e, if_neg n1]; exact hC0.1 v i hv
      · rw [if_neg e]; exact hC0.1 v i hv, hC0.2⟩
    have e33 : gi (si (si (si V 44 32 0) 44 33 (nI K)) 44 34 (nI b)) 44 33 = nI K := by simp only [gi_si, gl_si, gi_sl, gl_sl, row_si, row_sl, Nat.reduceEqDiff, reduceIte]
    have hJ : J K b (si (si S 9 1 0) 9 4 (nI b)) (si (si (si V 44 32 0) 44 33 (nI K)) 44 34 (nI b)) 0 :=
      ⟨by omega, by simp only [gi_si, gl_si, gi_sl, gl_sl, row_si, row_sl, Nat.reduceEqDiff, reduceIte], by simp only [gi_si, gl_si, gi_sl, gl_sl, row_si, row_sl, Nat.reduceEqDiff, reduceIte], e33, si T 9 1 0, P, Q, F, c, a, B, hC4, hOf.RLk hR0, by simp only [gi_si, gl_si, gi_sl, gl_sl, row_si, row_sl, Nat.reduceEqDiff, reduceIte]; rfl, k2⟩
    have hV4 : RR (si (si S 9 1 0) 9 4 (nI b)) (si (si (si V 44 32 0) 44 33 (nI K)) 44 34 (nI b)) := ⟨_, P, Q, F, c, a, B, hC4, hOf.RLk hR0⟩
    have hS0 : RR (si S 9 1 0) (si (si (si V 44 32 0) 44 33 (nI K)) 44 34 (nI b)) := ⟨_, P, Q, F, c, a, B, hC0, hOf.RLk hR0⟩
    generalize si (si S 9 1 0) 9 4 (nI b) = S4 at *
    generalize si (si (si V 44 32 0) 44 33 (nI K)) 44 34 (nI b) = V4 at *
    by_cases h3 : wi p2.toInt (Int32.toInt 0) (Int32.toInt 3) = true
    · rw [if_pos h3]
      have key : ∀ (t D M : Nat), OG t D M → M ≤ 100 → D ≤ 20 → ∃ y S1 V1, Li_own fuel fuel S4 (nI t) p3 0 = some (y, S1) ∧ rf t fuel V4 (gi V4 44 33) p3 = some (y, V1) ∧ RR S1 V1 := by
        intro t D M hO hM hD
        obtain ⟨y, S1, V1, r1, s1, v1, ⟨-, -, -, -, T1, P1, Q1, F1, c1, a1, B1, g1, g2, -⟩, -⟩ := hO K b S4 V4 0 p3 0 fuel fuel hJ k1 (by omega) (by omega) (by show _ ≤ 1200; omega) (by show _ ≤ 1200; omega)
        exact ⟨y, S1, V1, s1, v1, T1, P1, Q1, F1, c1, a1, B1, g1, g2⟩
      have h4 : p2 = nI 0 ∨ p2 = nI 1 ∨ p2 = nI 2 ∨ p2 = nI 3 := by
        rw [wi_t] at h3
        have q0 : (Int32.toInt 0) = 0 := rfl
        have q3 : (Int32.toInt 3) = 3 := rfl
        rw [q0, q3] at h3
        obtain ⟨e, e2⟩ := i32_nI h3.1
        rcases (show p2.toNatClampNeg = 0 ∨ p2.toNatClampNeg = 1 ∨ p2.toNatClampNeg = 2 ∨ p2.toNatClampNeg = 3 by omega) with q | q | q | q
        · exact .inl (by rw [e, q])
        · exact .inr (.inl (by rw [e, q]))
        · exact .inr (.inr (.inl (by rw [e, q])))
        · exact .inr (.inr (.inr (by rw [e, q])))
      rcases h4 with rfl | rfl | rfl | rfl
      · obtain ⟨y, S1, V1, s1, v1, r1⟩ := key 0 _ _ og_0 (by omega) (by omega)
        rw [s1, if_pos (by decide : nI 0 = 0), show Mo_holdsAs fuel V4 (gi V4 44 33) p3 = _ from v1]
        exact ⟨_, _, _, rfl, rfl, r1⟩
      · obtain ⟨y, S1, V1, s1, v1, r1⟩ := key 1 _ _ og_1 (by omega) (by omega)
        rw [s1, if_neg (by decide : ¬ nI 1 = 0), if_pos (by decide : nI 1 = 1), show Mo_ridesAs fuel V4 (gi V4 44 33) p3 = _ from v1]
        exact ⟨_, _, _, rfl, rfl, r1⟩
      · obtain ⟨y, S1, V1, s1, v1, r1⟩ := key 2 _ _ og_2 (by omega) (by omega)
        rw [s1, if_neg (by decide : ¬ nI 2 = 0), if_neg (by decide : ¬ nI 2 = 1), if_pos (by decide : nI 2 = 2), show Mo_creaksAs fuel V4 (gi V4 44 33) p3 = _ from v1]
        exact ⟨_, _, _, rfl, rfl, r1⟩
      · obtain ⟨y, S1, V1, s1, v1, r1⟩ := key 3 _ _ og_3 (by omega) (by omega)
        rw [s1, if_neg (by decide : ¬ nI 3 = 0), if_neg (by decide : ¬ nI 3 = 1), if_neg (by decide : ¬ nI 3 = 2), if_pos (by decide : nI 3 = 3), show Mo_tellsAs fuel V4 (gi V4 44 33) p3 = _ from v1]
        exact ⟨_, _, _, rfl, rfl, r1⟩
    · rw [if_neg h3]
      have q0 : ¬ p2 = 0 := fun q => h3 (by rw [q]; decide)
      have q1 : ¬ p2 = 1 := fun q => h3 (by rw [q]; decide)
      have q2 : ¬ p2 = 2 := fun q => h3 (by rw [q]; decide)
      have q3 : ¬ p2 = 3 := fun q => h3 (by rw [q]; decide)
      rw [if_neg q0, if_neg q1, if_neg q2, if_neg q3]
      exact ⟨_, _, _, rfl, rfl, hS0⟩
  · rw [if_neg h, if_neg h]
    exact ⟨_, _, _, rfl, rfl, _, P, Q, F, c, a, B, hC0, hR0⟩
