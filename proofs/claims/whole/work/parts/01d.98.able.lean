/-- the reference's day: who is worked on -/
def pI : Option Nat → Int32
  | none => -1
  | some i => nI i
theorem pI_none : pI none = -1 := of_eq_true (eq_self _)
theorem pI_some (i : Nat) : pI (some i) = nI i := of_eq_true (eq_self _)
theorem pick_V {V T : St} {P Q N x : Nat} {R : Nat → Nat} (hM : MP V T P Q) (hR : ∀ j, j < Q → gi V 54 j = nI (R j)) (hb : ∀ j, j < Q → R j ≤ 9) (hx : x < 100) (hN : 122 < N) (k45 : (St × Int32) → Option (Int32 × St)) : Mo_areAbleTo_L56 N k45 V (nI x) (-1, 0) = match pkw R (mkN T) (duN T) x Q with
    | none => k45 (V, nI (x + 1))
    | some p => if x ≤ duN T p then k45 (si V 54 p (nI (R p - 1)), nI (x + 1)) else some (0, V) := by
  obtain ⟨hP, hNn, hPe, hPr⟩ := hM
  have hQ10 := hNn.2.2.2
  have h7 : gi V 44 7 = nI Q := (hP.pq hNn).2
  have h50 : ∀ j, j < Q → gi V 50 j = nI (mkN T j) := fun j hj => (hP.2.2.2 j (by omega)).2.1.trans (mdN_ok hPr hj).1
  have h18 : ∀ j, j < Q → gi V 45 (18 + j) = nI (duN T j) := fun j hj => (hP.2.2.2 j (by omega)).2.2.1.trans (mdN_ok hPr hj).2.1
  have e18 : ∀ j, (18 : Int32) + nI j = nI (18 + j) := fun j => by show nI 18 + nI j = _; rw [nI_add]
  unfold Mo_areAbleTo_L56
  have hs : ∀ j (y : Int32 × Int32), j < Q → (fun j (y : Int32 × Int32) => y = (pI (pkw R (mkN T) (duN T) x j), nI j)) j y → ∃ y', (∀ k, (fun k (y : Int32 × Int32) => Mo_areAbleTo_b56 N k45 k V (nI x) y.1 y.2) k y = k y') ∧ (fun j (y : Int32 × Int32) => y = (pI (pkw R (mkN T) (duN T) x j), nI j)) (j + 1) y' := by
    rintro j y hj rfl
    refine ⟨_, fun k => ?_, rfl⟩
    dsimp only
    have hmd := mdN_ok hPr hj
    have ep : pkw R (mkN T) (duN T) x (j + 1) = if R j = 0 then pkw R (mkN T) (duN T) x j else if x < mkN T j then pkw R (mkN T) (duN T) x j else match pkw R (mkN T) (duN T) x j with
      | none => some j
      | some i => if duN T i ≤ duN T j then some i else some j := rfl
    have hps : ∀ i, pkw R (mkN T) (duN T) x j = some i → i < j := fun i h => (pkw_some h).1
    rw [ep]
    generalize pkw R (mkN T) (duN T) x j = o at *
    have hbj := hb j hj
    unfold Mo_areAbleTo_b56
    rw [h7, if_neg (show ¬ nI Q ≤ nI j by rw [le_nI _ _ (by omega) (by omega)]; omega), inb_nI (j := j) (n := 10) (by omega) (by omega), ck_true, cl j (by omega), hR j hj]
    by_cases c1 : R j = 0
    · rw [if_pos c1, if_pos (show nI (R j) ≤ 0 by rw [c1]; decide), nm_eq, nI_1]
    · rw [if_neg c1, if_neg (show ¬ nI (R j) ≤ 0 by show ¬ nI (R j) ≤ nI 0; rw [le_nI _ _ (by omega) (by omega)]; omega), ck_true, h50 j hj]
      by_cases c2 : x < mkN T j
      · rw [if_pos c2, if_pos (show nI x < nI (mkN T j) by rw [lt_nI _ _ (by omega) (by omega)]; exact c2), nm_eq, nI_1]
      · rw [if_neg c2, if_neg (show ¬ nI x < nI (mkN T j) by rw [lt_nI _ _ (by omega) (by omega)]; exact c2)]
        cases o with
        | none => rw [pI_none, if_pos (by decide : (-1 : Int32) < 0), nm_eq, nI_1]; rfl
        | some i =>
          have hi := hps i rfl
          have hmi := mdN_ok hPr (j := i) (by omega)
          rw [pI_some, if_neg (show ¬ nI i < 0 by show ¬ nI i < nI 0; rw [lt_nI _ _ (by omega) (by omega)]; omega), e18, e18, inb_nI (j := 18 + j) (n := 58) (by omega) (by omega), ck_true, inb_nI (j := 18 + i) (n := 58) (by omega) (by omega), ck_true, cl (18 + j) (by omega), cl (18 + i) (by omega), h18 j hj, h18 i (by omega)]
          dsimp only
          by_cases c3 : duN T i ≤ duN T j
          · rw [if_pos c3, if_pos (show nI (duN T i) ≤ nI (duN T j) by rw [le_nI _ _ (by omega) (by omega)]; exact c3), nm_eq, nI_1]; rfl
          · rw [if_neg c3, if_neg (show ¬ nI (duN T i) ≤ nI (duN T j) by rw [le_nI _ _ (by omega) (by omega)]; exact c3), nm_eq, nI_1]; rfl
  obtain ⟨y, k, e, rfl⟩ := lp_go _ Q hs N 0 (-1, 0) (by omega) (by omega) (by rfl)
  rw [e]
  dsimp only
  have hps : ∀ i, pkw R (mkN T) (duN T) x Q = some i → i < Q ∧ R i ≠ 0 := fun i h => ⟨(pkw_some h).1, (pkw_some h).2.1⟩
  generalize pkw R (mkN T) (duN T) x Q = o at *
  unfold Mo_areAbleTo_b56 Mo_areAbleTo_b140
  rw [h7, if_pos (Int32.le_refl _)]
  cases o with
  | none => rw [pI_none, if_pos (by decide : (-1 : Int32) < 0), if_pos (by decide : (-1 : Int32) < 0), nm_eq, nI_1]
  | some p =>
    obtain ⟨hp, hRp⟩ := hps p rfl
    have hmp := mdN_ok hPr hp
    have hbp := hb p hp
    have n0 : ¬ nI p < 0 := by show ¬ nI p < nI 0; rw [lt_nI _ _ (by omega) (by omega)]; omega
    have e9 : nI (R p) - 1 = nI (R p - 1) := by
      obtain ⟨r, hr⟩ : ∃ r, R p = r + 1 := ⟨R p - 1, by omega⟩
      rw [hr, nI_1m]; rfl
    dsimp only
    rw [pI_some, if_neg n0, e18, inb_nI (j := 18 + p) (n := 58) (by omega) (by omega), ck_true, cl (18 + p) (by omega), h18 p hp, if_neg n0, inb_nI (j := p) (n := 10) (by omega) (by omega), cl p (by omega), hR p hp, e9]
    simp only [ck_true, nm_eq, nI_1]
    by_cases c3 : x ≤ duN T p
    · rw [if_pos c3, if_pos (show nI x ≤ nI (duN T p) by rw [le_nI _ _ (by omega) (by omega)]; exact c3)]
    · rw [if_neg c3, if_neg (show ¬ nI x ≤ nI (duN T p) by rw [le_nI _ _ (by omega) (by omega)]; exact c3)]
theorem OfM.si54 (V : St) (i : Nat) (x : Int32) : OfM V (si V 54 i x) := ⟨fun v j h => by
  have : v ≠ 54 := fun e => by rw [e] at h; exact Bool.noConfusion h
  rw [gi_si, if_neg this], fun _ => rfl⟩
theorem rest_V {V : St} {Q N : Nat} {R : Nat → Nat} (h7 : gi V 44 7 = nI Q) (hQ : Q ≤ 10) (hR : ∀ j, j < Q → gi V 54 j = nI (R j)) (hb : ∀ j, j < Q → R j ≤ 9) : ∀ (m k : Nat), k + m = Q → ∀ n1, m < n1 → ∃ b, lp (fun kk (x : Int32) => Mo_areAbleTo_b162 N kk V x) n1 (nI k) = some (bI b, V) ∧ (b = true ↔ ∀ i, k ≤ i → i < Q → R i = 0)
  | 0, k, hk, n1, h1 => by
    obtain ⟨n1, rfl⟩ : ∃ k, n1 = k + 1 := ⟨n1 - 1, by omega⟩
    show ∃ b, Mo_areAbleTo_b162 N (lp (fun kk (x : Int32) => Mo_areAbleTo_b162 N kk V x) n1) V (nI k) = some (bI b, V) ∧ _
    generalize lp (fun kk (x : Int32) => Mo_areAbleTo_b162 N kk V x) n1 = K
    unfold Mo_areAbleTo_b162
    rw [h7, if_pos (by rw [le_nI _ _ (by omega) (by omega)]; omega)]
    exact ⟨true, rfl, fun _ i h1 h2 => absurd h2 (by omega), fun _ => rfl⟩
  | m + 1, k, hk, n1, h1 => by
    obtain ⟨n1, rfl⟩ : ∃ k, n1 = k + 1 := ⟨n1 - 1, by omega⟩
    obtain ⟨b, t1, t2⟩ := rest_V (N := N) h7 hQ hR hb m (k + 1) (by omega) n1 (by omega)
    have hbk := hb k (by omega)
    have step : Mo_areAbleTo_b162 N (lp (fun kk (x : Int32) => Mo_areAbleTo_b162 N kk V x) n1) V (nI k) = if R k = 0 then lp (fun kk (x : Int32) => Mo_areAbleTo_b162 N kk V x) n1 (nI (k + 1)) else some (0, V) := by
      generalize lp (fun kk (x : Int32) => Mo_areAbleTo_b162 N kk V x) n1 = K
      unfold Mo_areAbleTo_b162
      rw [h7, if_neg (by rw [le_nI _ _ (by omega) (by omega)]; omega), inb_nI (j := k) (n := 10) (by omega) (by omega), ck_true, cl k (by omega), hR k (by omega)]
      by_cases c : R k = 0
      · rw [if_pos c, if_pos (show nI (R k) ≤ 0 by rw [c]; decide), nm_eq, nI_1]
      · rw [if_neg c, if_neg (show ¬ nI (R k) ≤ 0 by show ¬ nI (R k) ≤ nI 0; rw [le_nI _ _ (by omega) (by omega)]; omega)]
    show ∃ b, Mo_areAbleTo_b162 N (lp (fun kk (x : Int32) => Mo_areAbleTo_b162 N kk V x) n1) V (nI k) = some (bI b, V) ∧ _
    rw [step]
    by_cases c : R k = 0
    · rw [if_pos c]
      refine ⟨b, t1, t2.trans ⟨fun h i h1 h2 => ?_, fun h i h1 h2 => h i (by omega) h2⟩⟩
      by_cases e : i = k
      · rw [e]; exact c
      · exact h i (by omega) h2
    · rw [if_neg c]
      exact ⟨false, rfl, fun h => Bool.noConfusion h, fun h => absurd (h k (Nat.le_refl k) (by omega)) c⟩
theorem workdays_V {V0 T : St} {P Q N s : Nat} (hM0 : MP V0 T P Q) (hN : 122 < N) : ∀ (m x : Nat) (V : St) (R : Nat → Nat), x + m = 100 → OfM V0 V → (∀ j, j < Q → gi V 54 j = nI (R j)) → daysW (mkN T) (duN T) Q (R0w (lnN T) (sb s)) x = some R → ∀ n1, m < n1 → ∃ V', lp (fun k (y : St × Int32) => Mo_areAbleTo_b45 N k y.1 y.2) n1 (V, nI x) = some (bI (hB T Q s), V') ∧ OfM V0 V' := by
  intro m
  have hNn := hM0.2.1
  have hPr := hM0.2.2.2
  have hQ10 := hNn.2.2.2
  have hmD : ∀ i, i < Q → mkN T i ≤ duN T i ∧ duN T i ≤ 99 := fun i hi => (mdN_ok hPr hi).2.2
  have hb : ∀ x R, daysW (mkN T) (duN T) Q (R0w (lnN T) (sb s)) x = some R → ∀ j, j < Q → R j ≤ 9 := fun x R h j hj => by
    have q1 := (days_full 0 x R h).1 j
    have q2 := (lnN_ok hPr hj).2.2
    have q3 : R0w (lnN T) (sb s) j ≤ lnN T j := by unfold R0w; split <;> omega
    omega
  induction m with
  | zero =>
    intro x V R hx hOf hR hD n1 h1
    obtain rfl : x = 100 := by omega
    obtain ⟨n1, rfl⟩ : ∃ k, n1 = k + 1 := ⟨n1 - 1, by omega⟩
    obtain ⟨b, t1, t2⟩ := rest_V (N := N) ((MP.of hOf hM0).1.pq hNn).2 hQ10 hR (hb 100 R hD) Q 0 (by omega) N (by omega)
    refine ⟨V, ?_, hOf⟩
    show Mo_areAbleTo_b45 N (lp (fun k (y : St × Int32) => Mo_areAbleTo_b45 N k y.1 y.2) n1) V (nI 100) = _
    generalize lp (fun k (y : St × Int32) => Mo_areAbleTo_b45 N k y.1 y.2) n1 = K
    unfold Mo_areAbleTo_b45
    rw [if_pos (by decide : (99 : Int32) < nI 100), show Mo_areAbleTo_L162 N V 0 = _ from t1]
    have : hB T Q s = b := by
      have e := edf_hall (l := lnN T) (s := sb s) hmD
      cases c : b
      · cases q : hB T Q s
        · rfl
        · obtain ⟨R', r1, r2⟩ := e.mpr (hB_t.mp q)
          rw [hD] at r1
          obtain rfl : R = R' := by injection r1
          have := t2.mpr (fun i _ hi => r2 i hi)
          rw [c] at this; exact Bool.noConfusion this
      · exact hB_t.mpr (e.mp ⟨R, hD, fun i hi => t2.mp c i (Nat.zero_le _) hi⟩)
    rw [this]
  | succ m ih =>
    intro x V R hx hOf hR hD n1 h1
    obtain ⟨n1, rfl⟩ : ∃ k, n1 = k + 1 := ⟨n1 - 1, by omega⟩
    have ed : daysW (mkN T) (duN T) Q (R0w (lnN T) (sb s)) (x + 1) = dayW (mkN T) (duN T) Q x R := by
      show (match daysW (mkN T) (duN T) Q (R0w (lnN T) (sb s)) x with
        | none => none
        | some R1 => dayW (mkN T) (duN T) Q x R1) = _
      rw [hD]
    unfold dayW at ed
    have hp := pick_V (N := N) (x := x) (R := R) (MP.of hOf hM0) hR (hb x R hD) (by omega) hN
    show ∃ V', Mo_areAbleTo_b45 N (lp (fun k (y : St × Int32) => Mo_areAbleTo_b45 N k y.1 y.2) n1) V (nI x) = some (bI (hB T Q s), V') ∧ OfM V0 V'
    have step : Mo_areAbleTo_b45 N (lp (fun k (y : St × Int32) => Mo_areAbleTo_b45 N k y.1 y.2) n1) V (nI x) = Mo_areAbleTo_L56 N (lp (fun k (y : St × Int32) => Mo_areAbleTo_b45 N k y.1 y.2) n1) V (nI x) (-1, 0) := by
      generalize lp (fun k (y : St × Int32) => Mo_areAbleTo_b45 N k y.1 y.2) n1 = K
      unfold Mo_areAbleTo_b45
      rw [if_neg (show ¬ 99 < nI x by show ¬ nI 99 < nI x; rw [lt_nI _ _ (by omega) (by omega)]; omega)]
    rw [step, hp]
    cases e2 : pkw R (mkN T) (duN T) x Q with
    | none =>
      rw [e2] at ed
      exact ih (x + 1) V R (by omega) hOf hR ed n1 (by omega)
    | some p =>
      rw [e2] at ed
      obtain ⟨a1, a2, -, -⟩ := pkw_some e2
      dsimp only at ed ⊢
      by_cases c : x ≤ duN T p
      · rw [if_pos c] at ed ⊢
        refine ih (x + 1) _ (dec1 R p) (by omega) (hOf.trans (OfM.si54 V p _)) (fun j hj => ?_) ed n1 (by omega)
        rw [gi_si, if_pos rfl]
        unfold dec1
        by_cases e : j = p
        · rw [if_pos e, if_pos e]
        · rw [if_neg e, if_neg e]; exact hR j hj
      · rw [if_neg c]
        refine ⟨V, ?_, hOf⟩
        cases q : hB T Q s
        · rfl
        · exact absurd (late hmD (hB_t.mp q) hD a1 a2) c
/-- the reference: are they able to do a set of promises -/
theorem able_V {V T : St} {P Q N s : Nat} (hM : MP V T P Q) (hs10 : s < 1024) (hN : 122 < N) : ∃ V', Mo_areAbleTo N V (nI s) = some (bI (hB T Q s), V') ∧ OfM V V' := by
  have hNn := hM.2.1
  have hPr := hM.2.2.2
  have hQ10 := hNn.2.2.2
  unfold Mo_areAbleTo Mo_areAbleTo_L2
  have hs : ∀ j (x : St × Int32), j < Q → (fun j (x : St × Int32) => ∃ Vj, x = (Vj, nI j) ∧ OfM V Vj ∧ ∀ i, i < j → gi Vj 54 i = nI (R0w (lnN T) (sb s) i)) j x → ∃ x', (∀ k, (fun k (x : St × Int32) => Mo_areAbleTo_b2 N k x.1 (nI s) x.2) k x = k x') ∧ (fun j (x : St × Int32) => ∃ Vj, x = (Vj, nI j) ∧ OfM V Vj ∧ ∀ i, i < j → gi Vj 54 i = nI (R0w (lnN T) (sb s) i)) (j + 1) x' := by
    rintro j x hj ⟨Vj, rfl, h1, h2⟩
    have hMj := MP.of h1 hM
    refine ⟨(si Vj 54 j (nI (R0w (lnN T) (sb s) j)), nI (j + 1)), fun k => ?_, _, rfl, h1.trans (OfM.si54 Vj j _), fun i hi => ?_⟩
    · dsimp only
      have e28 : (28 : Int32) + nI j = nI (28 + j) := by show nI 28 + nI j = _; rw [nI_add]
      unfold Mo_areAbleTo_b2
      rw [(hMj.1.pq hNn).2, if_neg (show ¬ nI Q ≤ nI j by rw [le_nI _ _ (by omega) (by omega)]; omega), Mo_isIn_eq Vj hs10 (by omega), bd1_some, if_bI, e28, inb_nI (j := j) (n := 10) (by omega) (by omega), inb_nI (j := 28 + j) (n := 58) (by omega) (by omega), cl j (by omega), cl (28 + j) (by omega), (hMj.1.2.2.2 j (by omega)).2.2.2.1, (lnN_ok hPr hj).1]
      simp only [ck_true, nm_eq, nI_1]
      unfold R0w sb
      by_cases c : decide (bit s j = 1) = true
      · rw [if_pos c, if_pos c]
      · rw [if_neg c, if_neg c]; rfl
    · rw [gi_si, if_pos rfl]
      by_cases e : i = j
      · rw [if_pos e, e]
      · rw [if_neg e]; exact h2 i (by omega)
  obtain ⟨x, k, e, Vj, rfl, h1, h2⟩ := lp_go _ Q hs N 0 (V, 0) (by omega) (by omega) ⟨V, rfl, OfM.refl V, fun i hi => absurd hi (Nat.not_lt_zero i)⟩
  rw [e]
  dsimp only
  obtain ⟨V', v1, v2⟩ := workdays_V (s := s) (N := N) hM hN 100 0 Vj _ (by omega) h1 h2 rfl N (by omega)
  refine ⟨V', ?_, v2⟩
  unfold Mo_areAbleTo_b2
  rw [((MP.of h1 hM).1.pq hNn).2, if_pos (Int32.le_refl _)]
  exact v1
