/-- how loud all of one creak -/
def soV (o : Option (List Li)) (T : St) (Q w : Nat) (d : Int32) : Nat → Int32
  | 0 => 0
  | j + 1 => soV o T Q w d j + (if con T j (nI w) = true then ckv o T Q j d else 0)
def Fr2 (S S' : St) : Prop := ∀ v i, v ≠ 23 → v ≠ 24 → gi S' v i = gi S v i
theorem ofOne_S {S T : St} {P Q N : Nat} {o : Option (List Li)} (hX : XP S T P Q) (hL : LcT T o) (w : Nat) (d : Int32) (hN : 122 < N) : ∃ S', Cr_ofOne N S (nI w) d = some (soV o T Q w d Q, S') ∧ Core S' T ∧ Fr2 S S' := by
  obtain ⟨hC, hNn, hPe, hPr⟩ := hX
  have hQ10 := hNn.2.2.2
  unfold Cr_ofOne Cr_ofOne_L5
  have hs : ∀ j (x : St × Int32 × Int32), j < Q → (fun j (x : St × Int32 × Int32) => ∃ Sj, x = (Sj, soV o T Q w d j, nI j) ∧ Core Sj T ∧ Fr2 S Sj) j x → ∃ x', (∀ k, (fun k (x : St × Int32 × Int32) => Cr_ofOne_b5 N k x.1 (nI w) d x.2.1 x.2.2) k x = k x') ∧ (fun j (x : St × Int32 × Int32) => ∃ Sj, x = (Sj, soV o T Q w d j, nI j) ∧ Core Sj T ∧ Fr2 S Sj) (j + 1) x' := by
    rintro j x hj ⟨Sj, rfl, h1, h2⟩
    have es : soV o T Q w d (j + 1) = soV o T Q w d j + (if con T j (nI w) = true then ckv o T Q j d else 0) := rfl
    by_cases hc : con T j (nI w) = true
    · obtain ⟨S', s1, s2, s3⟩ := creak_S (N := N) (S := Sj) ⟨h1, hNn, hPe, hPr⟩ hL hj d hN
      refine ⟨(S', soV o T Q w d (j + 1), nI (j + 1)), fun k => ?_, S', rfl, s2, fun v i a b => (s3 v i a b).trans (h2 v i a b)⟩
      dsimp only
      unfold Cr_ofOne_b5
      rw [h1.1 1 10 rfl, hNn.2.2.1, if_neg (by rw [le_nI _ _ (by omega) (by omega)]; omega), Sm_concerns_eq h1 (by omega), bd1_some, if_bI, if_pos hc, s1, bd2_some, nm_eq, nm_eq, nI_1, es, if_pos hc]
    · refine ⟨(Sj, soV o T Q w d (j + 1), nI (j + 1)), fun k => ?_, Sj, rfl, h1, h2⟩
      dsimp only
      unfold Cr_ofOne_b5
      rw [h1.1 1 10 rfl, hNn.2.2.1, if_neg (by rw [le_nI _ _ (by omega) (by omega)]; omega), Sm_concerns_eq h1 (by omega), bd1_some, if_bI, if_neg hc, nm_eq, nI_1, es, if_neg hc, Int32.add_zero]
  obtain ⟨x, k, e, Sj, rfl, h1, h2⟩ := lp_go _ Q hs N 0 (S, 0, 0) (by omega) (by omega) ⟨S, rfl, hC, fun _ _ _ _ => rfl⟩
  refine ⟨Sj, ?_, h1, h2⟩
  rw [e]
  dsimp only
  unfold Cr_ofOne_b5
  rw [h1.1 1 10 rfl, hNn.2.2.1, if_pos (Int32.le_refl _)]
theorem ofOne_V {V T : St} {P Q N : Nat} {o : Option (List Li)} (hM : MP V T P Q) (hL : LcV V o) (w : Nat) {y : Nat} (hy : y < 100) (hN : 122 < N) : ∃ V', Mo_creaksOf N V (nI w) (nI y) = some (soV o T Q w (nI y) Q, V') ∧ OfM V V' := by
  have hQ10 := hM.2.1.2.2.2
  unfold Mo_creaksOf Mo_creaksOf_L5
  have hs : ∀ j (x : St × Int32 × Int32), j < Q → (fun j (x : St × Int32 × Int32) => ∃ Vj, x = (Vj, soV o T Q w (nI y) j, nI j) ∧ OfM V Vj) j x → ∃ x', (∀ k, (fun k (x : St × Int32 × Int32) => Mo_creaksOf_b5 N k x.1 (nI w) (nI y) x.2.1 x.2.2) k x = k x') ∧ (fun j (x : St × Int32 × Int32) => ∃ Vj, x = (Vj, soV o T Q w (nI y) j, nI j) ∧ OfM V Vj) (j + 1) x' := by
    rintro j x hj ⟨Vj, rfl, h1⟩
    have hMj := hM.of h1
    have es : soV o T Q w (nI y) (j + 1) = soV o T Q w (nI y) j + (if con T j (nI w) = true then ckv o T Q j (nI y) else 0) := rfl
    by_cases hc : con T j (nI w) = true
    · obtain ⟨V', s1, s2⟩ := creak_V (N := N) hMj (hL.of h1) hj hy hN
      refine ⟨(V', soV o T Q w (nI y) (j + 1), nI (j + 1)), fun k => ?_, V', rfl, h1.trans s2⟩
      dsimp only
      unfold Mo_creaksOf_b5
      rw [hMj.1.2.1, hM.2.1.2.2.1, if_neg (by rw [le_nI _ _ (by omega) (by omega)]; omega), Mo_isOf_eq hMj.1 (by omega), bd1_some, if_bI, if_pos hc, s1, bd2_some, nm_eq, nm_eq, nI_1, es, if_pos hc]
    · refine ⟨(Vj, soV o T Q w (nI y) (j + 1), nI (j + 1)), fun k => ?_, Vj, rfl, h1⟩
      dsimp only
      unfold Mo_creaksOf_b5
      rw [hMj.1.2.1, hM.2.1.2.2.1, if_neg (by rw [le_nI _ _ (by omega) (by omega)]; omega), Mo_isOf_eq hMj.1 (by omega), bd1_some, if_bI, if_neg hc, nm_eq, nm_eq, nI_1, es, if_neg hc]
  obtain ⟨x, k, e, Vj, rfl, h1⟩ := lp_go _ Q hs N 0 (V, 0, 0) (by omega) (by omega) ⟨V, rfl, OfM.refl V⟩
  refine ⟨Vj, ?_, h1⟩
  rw [e]
  dsimp only
  unfold Mo_creaksOf_b5
  rw [(hM.of h1).1.2.1, hM.2.1.2.2.1, if_pos (Int32.le_refl _)]
def dbU (T : St) (w : Nat) (d : Int32) : Nat → Int32
  | 0 => 0
  | j + 1 => dbU T w d j + (if (con T j (nI w) && (opn T j d && !decide (d ≤ gi T 16 j))) = true then gi T 17 j else 0)
theorem debt_S {S T : St} {P Q N : Nat} (hX : XP S T P Q) (w : Nat) (d : Int32) (hN : 10 < N) : Cr_debtOf N S (nI w) d = some (dbU T w d Q) := by
  obtain ⟨hC, hNn, hPe, hPr⟩ := hX
  have hQ10 := hNn.2.2.2
  unfold Cr_debtOf Cr_debtOf_L5
  refine lp_run (fun j => (dbU T w d j, nI j)) Q (fun k => ?_) N 0 (by omega) (by omega) (fun j _ hj k => ?_)
  · dsimp only
    unfold Cr_debtOf_b5
    rw [hC.1 1 10 rfl, hNn.2.2.1, if_pos (Int32.le_refl _)]
  · dsimp only
    unfold Cr_debtOf_b5 Sm_isOverDue
    rw [hC.1 1 10 rfl, hNn.2.2.1, if_neg (by rw [le_nI _ _ (by omega) (by omega)]; omega), Sm_concerns_eq hC (by omega), bd1_some, if_bI, Sm_isOpen_eq hC (by omega), bd1_some, if_bI, inb_nI (j := j) (n := 10) (by omega) (by omega), ck_true, ck_true, cl j (by omega), hC.g 16 (fun _ => rfl), hC.g 17 (fun _ => rfl)]
    simp only [nm_eq, nI_1, dbU]
    by_cases h1 : con T j (nI w) = true <;> by_cases h2 : opn T j d = true <;> by_cases h3 : d ≤ gi T 16 j <;> simp [h1, h2, h3, bd1_some]
theorem debt_V {V T : St} {P Q N : Nat} (hM : MP V T P Q) (w : Nat) (d : Int32) (hN : 10 < N) : Mo_debtOf N V (nI w) d = some (dbU T w d Q) := by
  have hQ10 := hM.2.1.2.2.2
  unfold Mo_debtOf Mo_debtOf_L5
  refine lp_run (fun j => (dbU T w d j, nI j)) Q (fun k => ?_) N 0 (by omega) (by omega) (fun j _ hj k => ?_)
  · dsimp only
    unfold Mo_debtOf_b5
    rw [hM.1.2.1, hM.2.1.2.2.1, if_pos (Int32.le_refl _)]
  · dsimp only
    obtain ⟨b1, b2, b3, b4, b5, b6⟩ := hM.1.2.2.2 j (by omega)
    unfold Mo_debtOf_b5 Mo_debtOf_b62
    rw [hM.1.2.1, hM.2.1.2.2.1, if_neg (by rw [le_nI _ _ (by omega) (by omega)]; omega), Mo_isOf_eq hM.1 (by omega), bd1_some, if_bI, Mo_isOpen_eq hM hj, bd1_some, if_bI, a18, a28, inb_nI (j := 18 + j) (n := 58) (by omega) (by omega), inb_nI (j := 28 + j) (n := 58) (by omega) (by omega), ck_true, ck_true, cl (18 + j) (by omega), cl (28 + j) (by omega), b3, b4]
    simp only [nm_eq, nI_1, dbU, Int32.add_zero]
    by_cases h1 : con T j (nI w) = true <;> by_cases h2 : opn T j d = true <;> by_cases h3 : d ≤ gi T 16 j <;> simp [h1, h2, h3]
theorem RR_chain : LS_chain RR := by
  rintro S V p1 p2 p3 hRR
  have hRR' := hRR
  obtain ⟨T, P, Q, F, c, a, B, hC, hR⟩ := hRR
  have hR' := hR
  obtain ⟨hN, hPe, hPr, hP, hTa, hLw, -⟩ := hR'
  obtain ⟨o, o1, o2⟩ := hLw.split
  have hX : XP S T P Q := ⟨hC, hN, hPe, hPr⟩
  have hM : MP V T P Q := ⟨hP, hN, hPe, hPr⟩
  unfold Ch_chain Mo_chain
  simp only [Sm_isOne_eq hC hN, Mo_isOne_eq hP hN, Ch_isDay_eq, Mo_isDay_eq, Mo_within_eq, bd1_some, if_bI, Int32.toInt_toInt64, tI0, tI3]
  by_cases h1 : wi p1.toInt 0 ((P : Int) - 1) = true
  · rw [if_pos h1, if_pos h1]
    obtain ⟨w, hw, rfl⟩ := wi_nI h1
    by_cases h2 : wi p2.toInt 0 99 = true
    · rw [if_pos h2, if_pos h2]
      obtain ⟨x, hx, rfl⟩ := wi_nI99 h2
      rw [Sm_lengthOn_eq (N := fuel) hX hw _ (by decide), Sm_ridesOn_eq (N := fuel) hX hw _ (by decide), Mo_chainOf_eq (N := fuel) hM hw _ (by decide), Mo_doesRide_eq (N := fuel) hM hw _ (by decide), debt_S (N := fuel) hX w _ (by decide), debt_V (N := fuel) hM w _ (by decide)]
      obtain ⟨S', s1, s2, -⟩ := ofOne_S (N := fuel) hX o1 w (nI x) (by decide)
      obtain ⟨V', v1, v2⟩ := ofOne_V (N := fuel) hM o2 w hx (by decide)
      rw [s1, v1]
      simp only [bd1_some, bd2_some, if_bI]
      by_cases q0 : p3 = 0
      · subst q0; exact ⟨_, _, _, rfl, rfl, hRR'⟩
      by_cases q1 : p3 = 1
      · subst q1
        refine ⟨bI (rid T Q w (nI x)), S, V, ?_, ?_, hRR'⟩
        · show (if rid T Q w (nI x) = true then some (1, S) else some (0, S)) = _
          cases rid T Q w (nI x) <;> rfl
        · show (if rid T Q w (nI x) = true then some (1, V) else some (0, V)) = _
          cases rid T Q w (nI x) <;> rfl
      by_cases q2 : p3 = 2
      · subst q2; exact ⟨_, S', V', rfl, rfl, T, P, Q, F, c, a, B, s2, v2.RLk hR⟩
      by_cases q3 : p3 = 3
      · subst q3; exact ⟨_, _, _, rfl, rfl, hRR'⟩
      have nw : ¬ wi p3.toInt 0 3 = true := by
        rw [wi_t]
        intro h
        have z : ∀ k : Int32, p3 ≠ k → p3.toInt ≠ k.toInt := fun k hk e => hk (Int32.toInt_inj.mp e)
        have y0 := z 0 q0; have y1 := z 1 q1; have y2 := z 2 q2; have y3 := z 3 q3
        rw [show (3 : Int32).toInt = 3 from rfl] at y3
        rw [ti0] at y0; rw [ti1] at y1; rw [ti2] at y2
        omega
      rw [if_neg q0, if_neg q1, if_neg q2, if_neg q3, if_neg nw]
      exact ⟨_, _, _, rfl, rfl, hRR'⟩
    · rw [if_neg h2, if_neg h2]; exact ⟨_, _, _, rfl, rfl, hRR'⟩
  · rw [if_neg h1, if_neg h1]; exact ⟨_, _, _, rfl, rfl, hRR'⟩
theorem lgc_0 (x y : Int64) : (lg_cmp x y = 0) = (x = y) := by
  have h1 := lgc_lt x y
  have h2 := lgc_gt x y
  have key : (lg_cmp x y = 0) = (¬ lg_cmp x y < 0 ∧ ¬ 0 < lg_cmp x y) := by
    rw [← Int32.toInt_inj, Int32.lt_iff_toInt_lt, Int32.lt_iff_toInt_lt, ti0]
    exact propext ⟨fun h => by omega, fun h => by omega⟩
  rw [key, h1, h2, ← Int64.toInt_inj]
  exact propext ⟨fun h => by omega, fun h => by omega⟩
/-- whether a book has a day otherwise -/
def fwr (o : Option (List Li)) (T : St) (Q w d k : Nat) : Bool := !decide (gl T 43 (60 * d + k) = Int32.toInt64 (soV o T Q w (nI k) Q))
theorem first_S2 {T : St} {P Q N nn d w : Nat} {o : Option (List Li)} (hNn : iN T P Q) (hPe : iPe T P) (hPr : iPr T P Q) (hL : LcT T o) (hd : d < 6) (hnn : nn ≤ 60) (h40 : gi T 40 d = nI nn) (hN : 122 < N) : ∀ (m k : Nat) (S : St), k + m = nn → Core S T → ∀ n1, m < n1 → ∃ S', lp (fun kk (x : St × Int32) => Cr_firstWrongDay_b2 N kk x.1 (nI d) (nI w) x.2) n1 (S, nI k) = some (fsr (fwr o T Q w d) k m, S') ∧ Core S' T
  | 0, k, S, hk, hC, n1, h1 => by
    obtain ⟨n1, rfl⟩ : ∃ k, n1 = k + 1 := ⟨n1 - 1, by omega⟩
    refine ⟨S, ?_, hC⟩
    show Cr_firstWrongDay_b2 N (lp (fun kk (x : St × Int32) => Cr_firstWrongDay_b2 N kk x.1 (nI d) (nI w) x.2) n1) S (nI d) (nI w) (nI k) = _
    generalize lp (fun kk (x : St × Int32) => Cr_firstWrongDay_b2 N kk x.1 (nI d) (nI w) x.2) n1 = K
    unfold Cr_firstWrongDay_b2
    rw [inb_nI hd (by omega), ck_true, cl d (by omega), hC.g 40 (fun _ => rfl), h40, if_pos (by rw [le_nI _ _ (by omega) (by omega)]; omega)]; rfl
  | m + 1, k, S, hk, hC, n1, h1 => by
    obtain ⟨n1, rfl⟩ : ∃ k, n1 = k + 1 := ⟨n1 - 1, by omega⟩
    obtain ⟨S1, s1, s2, -⟩ := ofOne_S (N := N) ⟨hC, hNn, hPe, hPr⟩ hL w (nI k) hN
    obtain ⟨S2, t1, t2⟩ := first_S2 (N := N) (w := w) hNn hPe hPr hL hd hnn h40 hN m (k + 1) S1 (by omega) s2 n1 (by omega)
    have step : Cr_firstWrongDay_b2 N (lp (fun kk (x : St × Int32) => Cr_firstWrongDay_b2 N kk x.1 (nI d) (nI w) x.2) n1) S (nI d) (nI w) (nI k) = if fwr o T Q w d k = true then some (nI k, S1) else lp (fun kk (x : St × Int32) => Cr_firstWrongDay_b2 N kk x.1 (nI d) (nI w) x.2) n1 (S1, nI (k + 1)) := by
      generalize lp (fun kk (x : St × Int32) => Cr_firstWrongDay_b2 N kk x.1 (nI d) (nI w) x.2) n1 = K
      unfold Cr_firstWrongDay_b2 Sh_elementAt
      rw [inb_nI hd (by omega), ck_true, cl d (by omega), hC.g 40 (fun _ => rfl), h40, if_neg (by rw [le_nI _ _ (by omega) (by omega)]; omega), Ch_isDay_eq, bd1_some, if_bI, if_pos (by rw [wi_t, ti k (by omega)]; omega), (s60 d).1, nI_add, inb_nI (j := 60 * d + k) (n := 360) (by omega) (by omega), ck_true, cl (60 * d + k) (by omega), bd1_some, s1, bd2_some, hC.2]
      simp only [lgc_0, nm_eq, nI_1]
      unfold fwr
      by_cases h : gl T 43 (60 * d + k) = Int32.toInt64 (soV o T Q w (nI k) Q)
      · rw [if_pos h, decide_eq_true h, if_neg (by decide)]
      · rw [if_neg h, decide_eq_false h]; rfl
    show ∃ S', Cr_firstWrongDay_b2 N (lp (fun kk (x : St × Int32) => Cr_firstWrongDay_b2 N kk x.1 (nI d) (nI w) x.2) n1) S (nI d) (nI w) (nI k) = some (fsr (fwr o T Q w d) k (m + 1), S') ∧ Core S' T
    rw [step]
    unfold fsr
    by_cases h : fwr o T Q w d k = true
    · rw [if_pos h, if_pos h]; exact ⟨S1, rfl, s2⟩
    · rw [if_neg h, if_neg h, t1]
      exact ⟨S2, by cases m <;> rfl, t2⟩
theorem first_V2 {T : St} {P Q N nn d w : Nat} {o : Option (List Li)} (hd : d < 6) (hnn : nn ≤ 60) (hN : 122 < N) : ∀ (m k : Nat) (V : St), k + m = nn → MP V T P Q → LcV V o → gi V 62 d = nI nn → (∀ j, j < 360 → gl V 63 j = gl T 43 j) → ∀ n1, m < n1 → ∃ V', lp (fun kk (x : St × Int32) => Mo_firstFalse_b2 N kk x.1 (nI d) (nI w) x.2) n1 (V, nI k) = some (fsr (fwr o T Q w d) k m, V') ∧ OfM V V'
  | 0, k, V, hk, hM, hL, h62, hit, n1, h1 => by
    obtain ⟨n1, rfl⟩ : ∃ k, n1 = k + 1 := ⟨n1 - 1, by omega⟩
    refine ⟨V, ?_, OfM.refl V⟩
    show Mo_firstFalse_b2 N (lp (fun kk (x : St × Int32) => Mo_firstFalse_b2 N kk x.1 (nI d) (nI w) x.2) n1) V (nI d) (nI w) (nI k) = _
    generalize lp (fun kk (x : St × Int32) => Mo_firstFalse_b2 N kk x.1 (nI d) (nI w) x.2) n1 = K
    unfold Mo_firstFalse_b2
    rw [inb_nI hd (by omega), ck_true, cl d (by omega), h62, if_pos (by rw [le_nI _ _ (by omega) (by omega)]; omega)]; rfl
  | m + 1, k, V, hk, hM, hL, h62, hit, n1, h1 => by
    obtain ⟨n1, rfl⟩ : ∃ k, n1 = k + 1 := ⟨n1 - 1, by omega⟩
    obtain ⟨V1, s1, s2⟩ := ofOne_V (N := N) hM hL w (y := k) (by omega) hN
    obtain ⟨V2, t1, t2⟩ := first_V2 (N := N) (w := w) hd hnn hN m (k + 1) V1 (by omega) (hM.of s2) (hL.of s2) ((s2.1 62 d rfl).trans h62) (fun j hj => (s2.2 j).trans (hit j hj)) n1 (by omega)
    have step : Mo_firstFalse_b2 N (lp (fun kk (x : St × Int32) => Mo_firstFalse_b2 N kk x.1 (nI d) (nI w) x.2) n1) V (nI d) (nI w) (nI k) = if fwr o T Q w d k = true then some (nI k, V1) else lp (fun kk (x : St × Int32) => Mo_firstFalse_b2 N kk x.1 (nI d) (nI w) x.2) n1 (V1, nI (k + 1)) := by
      generalize lp (fun kk (x : St × Int32) => Mo_firstFalse_b2 N kk x.1 (nI d) (nI w) x.2) n1 = K
      unfold Mo_firstFalse_b2
      rw [inb_nI hd (by omega), ck_true, cl d (by omega), h62, if_neg (by rw [le_nI _ _ (by omega) (by omega)]; omega), if_neg (by show ¬ nI 99 < nI k; rw [lt_nI _ _ (by omega) (by omega)]; omega), s1, bd2_some, (s60 d).2, nI_add, inb_nI (j := 60 * d + k) (n := 360) (by omega) (by omega), ck_true, cl (60 * d + k) (by omega), s2.2, hit _ (by omega)]
      simp only [lgc_0, nm_eq, nI_1]
      unfold fwr
      by_cases h : gl T 43 (60 * d + k) = Int32.toInt64 (soV o T Q w (nI k) Q)
      · rw [if_pos h.symm, decide_eq_true h, if_neg (by decide)]
      · rw [if_neg (fun e => h e.symm), decide_eq_false h]; rfl
    show ∃ V', Mo_firstFalse_b2 N (lp (fun kk (x : St × Int32) => Mo_firstFalse_b2 N kk x.1 (nI d) (nI w) x.2) n1) V (nI d) (nI w) (nI k) = some (fsr (fwr o T Q w d) k (m + 1), V') ∧ OfM V V'
    rw [step]
    unfold fsr
    by_cases h : fwr o T Q w d k = true
    · rw [if_pos h, if_pos h]; exact ⟨V1, rfl, s2⟩
    · rw [if_neg h, if_neg h, t1]
      exact ⟨V2, by cases m <;> rfl, s2.trans t2⟩
/-- a shelf asked for a row of shorts -/
theorem shorts {S V T : St} {P Q F c a B d : Nat} (hC : Core S T) (h : RLk V T P Q F c a B) (hd : d < 6) : (∃ r : Int32, (r = -11 ∨ r = -12) ∧ Sh_refusalOfRow S (nI d) 1 = some r ∧ Mo_shortsIs V (nI d) = some r) ∨ (Sh_refusalOfRow S (nI d) 1 = some 0 ∧ Mo_shortsIs V (nI d) = some 1 ∧ ∃ nn, nn ≤ 60 ∧ gi T 40 d = nI nn ∧ gi V 62 d = nI nn) := by
  obtain ⟨hN, hPe, hPr, hP, hTa, hLw, hLd, hCh, hBo, hSh⟩ := h
  have hB := hBo.2.1
  have i6 : inb (nI d) 6 = true := inb_nI hd (by omega)
  have w1 : wi (nI d).toInt 0 5 = true := by rw [wi_t, ti d (by omega)]; omega
  unfold Sh_refusalOfRow Mo_shortsIs
  rw [Mo_isShelf_eq, bd1_some, if_bI, if_pos w1]
  simp only [i6, ck_true, cl d (show d < 5000 by omega), hC.g 42 (fun _ => rfl)]
  rcases hSh.1 d hd with ⟨x1, x2⟩ | ⟨x1, b, x2, x3, x4⟩ | ⟨s, n, x1, x2, x3, x4, x5, x6, x7⟩
  · rw [x1, x2, if_pos rfl, if_neg (by decide)]
    exact .inl ⟨_, .inl rfl, rfl, rfl⟩
  · rw [x1, x4, if_neg (by decide), if_neg (by decide), if_pos (by show nI 0 ≤ nI b; rw [le_nI _ _ (by omega) (by omega)]; omega), if_neg (by show ¬ nI b = nI 51; rw [eq_nI _ _ (by omega) (by omega)]; omega)]
    exact .inl ⟨_, .inr rfl, rfl, rfl⟩
  · have p0 : (0 : Int32) ≤ nI (50 + s) := by show nI 0 ≤ nI (50 + s); rw [le_nI _ _ (by omega) (by omega)]; omega
    rw [x3, x5, if_neg (nI_nem1 s (by omega))]
    by_cases hs : s = 1
    · subst hs
      rw [if_pos (show nI 1 = (1 : Int32) from rfl), if_pos p0, if_pos (show nI (50 + 1) = (51 : Int32) from rfl)]
      exact .inr ⟨rfl, rfl, n, x2, x4, x6⟩
    · rw [if_neg (by show ¬ nI s = nI 1; rw [eq_nI _ _ (by omega) (by omega)]; exact hs), if_pos p0, if_neg (by show ¬ nI (50 + s) = nI 51; rw [eq_nI _ _ (by omega) (by omega)]; omega)]
      exact .inl ⟨_, .inr rfl, rfl, rfl⟩
theorem RR_judge : LS_judge RR := by
  rintro S V p1 p2 hRR
  have hRR' := hRR
  obtain ⟨T, P, Q, F, c, a, B, hC, hR⟩ := hRR
  have hR' := hR
  obtain ⟨hN, hPe, hPr, hP, hTa, hLw, hLd, hCh, hBo, hSh⟩ := hR'
  obtain ⟨o, o1, o2⟩ := hLw.split
  unfold Ch_judge Mo_judge
  rw [Sh_isShelf_eq, bd1_some, if_bI]
  simp only [Sm_isOne_eq hC hN, Mo_isOne_eq hP hN, bd1_some, if_bI, Int32.toInt_toInt64]
  by_cases h : wi p1.toInt 0 5 = true
  · rw [if_pos h]
    obtain ⟨d, hd, rfl⟩ := wi_nI5 h
    rcases shorts hC hR hd with ⟨r, r0, r1, r2⟩ | ⟨r1, r2, nn, n1, n2, n3⟩
    · have rm : ¬ r = -1 := by rcases r0 with rfl | rfl <;> decide
      have rn : ¬ r = 0 := by rcases r0 with rfl | rfl <;> decide
      have rp : ¬ 0 ≤ r := by rcases r0 with rfl | rfl <;> decide
      rw [r1, r2]
      simp only [bd1_some, if_neg rm, if_neg rn, if_neg rp]
      by_cases h2 : wi p2.toInt 0 ((P : Int) - 1) = true
      · rw [if_pos h2, if_pos h2]; exact ⟨_, _, _, rfl, rfl, hRR'⟩
      · rw [if_neg h2, if_neg h2]; exact ⟨_, _, _, rfl, rfl, hRR'⟩
    · rw [r1, r2]
      simp only [bd1_some, if_neg (by decide : ¬ (1 : Int32) = -1), if_true, if_pos (by decide : (0 : Int32) ≤ 1)]
      by_cases h2 : wi p2.toInt 0 ((P : Int) - 1) = true
      · rw [if_pos h2, if_pos h2]
        obtain ⟨w, hw, rfl⟩ := wi_nI h2
        obtain ⟨S', s1, s2⟩ := first_S2 (N := fuel) (w := w) hN hPe hPr o1 hd n1 n2 (by decide) nn 0 S (by omega) hC fuel (by show _ < 1200; omega)
        obtain ⟨V', v1, v2⟩ := first_V2 (N := fuel) (w := w) hd n1 (by decide) nn 0 V (by omega) ⟨hP, hN, hPe, hPr⟩ o2 n3 hSh.2 fuel (by show _ < 1200; omega)
        rw [show Cr_firstWrongDay fuel S (nI d) (nI w) = _ from s1, show Mo_firstFalse fuel V (nI d) (nI w) = _ from v1, bd2_some, bd2_some]
        exact ⟨_, _, _, rfl, rfl, T, P, Q, F, c, a, B, s2, v2.RLk hR⟩
      · rw [if_neg h2, if_neg h2]; exact ⟨_, _, _, rfl, rfl, hRR'⟩
  · rw [if_neg h]
    have : Mo_shortsIs V p1 = some (-1) := by
      unfold Mo_shortsIs; rw [Mo_isShelf_eq, bd1_some, if_bI, if_neg h]
    rw [this, bd1_some, if_pos rfl]
    exact ⟨_, _, _, rfl, rfl, hRR'⟩
theorem RR_whose : LS_whose RR := by
  rintro S V p1 hRR
  have hRR' := hRR
  obtain ⟨T, P, Q, F, c, a, B, hC, hR⟩ := hRR
  have hR' := hR
  obtain ⟨hN, hPe, hPr, hP, hTa, hLw, hLd, hCh, hBo, hSh⟩ := hR'
  have hP6 := hN.2.1
  obtain ⟨o, o1, o2⟩ := hLw.split
  unfold Ch_whose Mo_whose
  rw [Sh_isShelf_eq, bd1_some, if_bI]
  by_cases h : wi p1.toInt 0 5 = true
  · rw [if_pos h]
    obtain ⟨d, hd, rfl⟩ := wi_nI5 h
    rcases shorts hC hR hd with ⟨r, r0, r1, r2⟩ | ⟨r1, r2, nn, n1, n2, n3⟩
    · have rn : ¬ r = 0 := by rcases r0 with rfl | rfl <;> decide
      have rp : ¬ 0 ≤ r := by rcases r0 with rfl | rfl <;> decide
      rw [r1, r2, bd1_some, bd1_some, bd1_some, if_neg rn, if_neg rp]
      exact ⟨_, _, _, rfl, rfl, hRR'⟩
    · rw [r1, r2, bd1_some, bd1_some, if_pos rfl, if_pos (by decide : (0 : Int32) ≤ 1)]
      have oneS : ∃ S', Cr_ownersOf fuel S (nI d) = some (nI (setU (fun w => decide (fsr (fwr o T Q w d) 0 nn = -2)) P), S') ∧ Core S' T := by
        unfold Cr_ownersOf Cr_ownersOf_L4
        have hs : ∀ j (x : St × Int32 × Int32), j < P → (fun j (x : St × Int32 × Int32) => ∃ Sj, x = (Sj, nI (setU (fun w => decide (fsr (fwr o T Q w d) 0 nn = -2)) j), nI j) ∧ Core Sj T) j x → ∃ x', (∀ k, (fun k (x : St × Int32 × Int32) => Cr_ownersOf_b4 fuel k x.1 (nI d) x.2.1 x.2.2) k x = k x') ∧ (fun j (x : St × Int32 × Int32) => ∃ Sj, x = (Sj, nI (setU (fun w => decide (fsr (fwr o T Q w d) 0 nn = -2)) j), nI j) ∧ Core Sj T) (j + 1) x' := by
          rintro j x hj ⟨Sj, rfl, h1⟩
          obtain ⟨S', s1, s2⟩ := first_S2 (N := fuel) (w := j) hN hPe hPr o1 hd n1 n2 (by decide) nn 0 Sj (by omega) h1 fuel (by show _ < 1200; omega)
          refine ⟨(S', nI (setU (fun w => decide (fsr (fwr o T Q w d) 0 nn = -2)) (j + 1)), nI (j + 1)), fun k => ?_, S', rfl, s2⟩
          dsimp only
          unfold Cr_ownersOf_b4
          rw [h1.1 1 9 rfl, hN.1, if_neg (by rw [le_nI _ _ (by omega) (by omega)]; omega), show Cr_firstWrongDay fuel Sj (nI d) (nI j) = _ from s1, bd2_some, or_all j (by omega) _ (setU_lt _ j)]
          simp only [nm_eq, nI_1, setU]
          by_cases hf : fsr (fwr o T Q j d) 0 nn = -2
          · rw [if_pos hf, if_pos (decide_eq_true hf)]
          · rw [if_neg hf, if_neg (by rw [decide_eq_false hf]; decide)]; rfl
        obtain ⟨x, k, e, Sj, rfl, h1⟩ := lp_go _ P hs fuel 0 (S, 0, 0) (by omega) (by show _ < 1200; omega) ⟨S, rfl, hC⟩
        refine ⟨Sj, ?_, h1⟩
        rw [e]
        dsimp only
        unfold Cr_ownersOf_b4
        rw [h1.1 1 9 rfl, hN.1, if_pos (Int32.le_refl _)]
      have oneV : ∃ V', Mo_whose_L18 fuel (nI d) (V, 0, 0) = some (nI (setU (fun w => decide (fsr (fwr o T Q w d) 0 nn = -2)) P), V') ∧ OfM V V' := by
        unfold Mo_whose_L18
        have hs : ∀ j (x : St × Int32 × Int32), j < P → (fun j (x : St × Int32 × Int32) => ∃ Vj, x = (Vj, nI (setU (fun w => decide (fsr (fwr o T Q w d) 0 nn = -2)) j), nI j) ∧ OfM V Vj) j x → ∃ x', (∀ k, (fun k (x : St × Int32 × Int32) => Mo_whose_b18 fuel k x.1 (nI d) x.2.1 x.2.2) k x = k x') ∧ (fun j (x : St × Int32 × Int32) => ∃ Vj, x = (Vj, nI (setU (fun w => decide (fsr (fwr o T Q w d) 0 nn = -2)) j), nI j) ∧ OfM V Vj) (j + 1) x' := by
          rintro j x hj ⟨Vj, rfl, h1⟩
          have hMj : MP Vj T P Q := MP.of h1 ⟨hP, hN, hPe, hPr⟩
          obtain ⟨V', v1, v2⟩ := first_V2 (N := fuel) (w := j) hd n1 (by decide) nn 0 Vj (by omega) hMj (o2.of h1) ((h1.1 62 d rfl).trans n3) (fun i hi => (h1.2 i).trans (hSh.2 i hi)) fuel (by show _ < 1200; omega)
          refine ⟨(V', nI (setU (fun w => decide (fsr (fwr o T Q w d) 0 nn = -2)) (j + 1)), nI (j + 1)), fun k => ?_, V', rfl, h1.trans v2⟩
          dsimp only
          unfold Mo_whose_b18
          rw [hMj.1.1, hN.1, if_neg (by rw [le_nI _ _ (by omega) (by omega)]; omega), show Mo_firstFalse fuel Vj (nI d) (nI j) = _ from v1, bd2_some, or_all j (by omega) _ (setU_lt _ j)]
          simp only [nm_eq, nI_1, setU, Int32.or_zero]
          by_cases hf : fsr (fwr o T Q j d) 0 nn = -2
          · rw [if_pos hf, if_pos (decide_eq_true hf)]
          · rw [if_neg hf, if_neg (by rw [decide_eq_false hf]; decide)]; rfl
        obtain ⟨x, k, e, Vj, rfl, h1⟩ := lp_go _ P hs fuel 0 (V, 0, 0) (by omega) (by show _ < 1200; omega) ⟨V, rfl, OfM.refl V⟩
        refine ⟨Vj, ?_, h1⟩
        rw [e]
        dsimp only
        unfold Mo_whose_b18
        rw [(h1.1 44 6 rfl).trans hP.1, hN.1, if_pos (Int32.le_refl _)]
      obtain ⟨S', s1, s2⟩ := oneS
      obtain ⟨V', v1, v2⟩ := oneV
      rw [s1, v1, bd2_some]
      exact ⟨_, _, _, rfl, rfl, T, P, Q, F, c, a, B, s2, v2.RLk hR⟩
  · rw [if_neg h]
    have : Mo_shortsIs V p1 = some (-1) := by
      unfold Mo_shortsIs; rw [Mo_isShelf_eq, bd1_some, if_bI, if_neg h]
    rw [this, bd1_some, bd1_some, if_neg (by decide)]
    exact ⟨_, _, _, rfl, rfl, hRR'⟩
