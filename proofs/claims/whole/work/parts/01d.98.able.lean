/-- the reference's day: who is worked on -/
def pI : Option Nat → Int32
  | none => -1
  | some i => nI i
theorem pI_none : pI none = -1 := of_eq_true (eq_self _)
theorem pI_some (i : Nat) : pI (some i) = nI i := of_eq_true (eq_self _)
theorem pick_V {V T : St} {P Q N x : Nat} {R : Nat → Nat} (hM : MP V T P Q) (hR : ∀ j, j < Q → gi V 54 j = nI (R j)) (hb : ∀ j, j < Q → R j ≤ 9) (hx : x < 100) (hN : 122 < N) (k45 : (St × Int32) → Option (Int32 × St)) : Mo_areAbleTo_L56 N k45 V (nI x) (-1, 0) = match pkw R (mkN T) (duN T) x Q with
    | none => k45 (V, nI (x + 1))
    | some p => if x ≤ duN T p then k45 (si V 54 p (nI (R p - 1)), nI (x + 1)) else some (0, V) := by
  obtain ⟨hP, hNn, hPe, hPr⟩ := hM
  have hQ10 := hNn.2.2.2
  have h7 : gi V 44 7 = nI Q := (hP.pq hNn).2
  have h50 : ∀ j, j < Q → gi V 50 j = nI (mkN T j) := fun j hj => (hP.2.2.2 j (by omega)).2.1.trans (mdN_ok hPr hj).1
  have h18 : ∀ j, j < Q → gi V 45 (18 + j) = nI (duN T j) := fun j hj => (hP.2.2.2 j (by omega)).2.2.1.trans (mdN_ok hPr hj).2.1
  have e18 : ∀ j, (18 : Int32) + nI j = nI (18 + j) := fun j => by show nI 18 + nI j = _; rw [nI_add]
  unfold Mo_areAbleTo_L56
  have hs : ∀ j (y : Int32 × Int32), j < Q → (fun j (y : Int32 × Int32) => y = (pI (pkw R (mkN T) (duN T) x j), nI j)) j y → ∃ y', (∀ k, (fun k (y : Int32 × Int32) => Mo_areAbleTo_b56 N k45 k V (nI x) y.1 y.2) k y = k y') ∧ (fun j (y : Int32 × Int32) => y = (pI (pkw R (mkN T) (duN T) x j), nI j)) (j + 1) y' := by
    rintro j y hj rfl
    refine ⟨_, fun k => ?_, rfl⟩
    dsimp only
    have hmd := mdN_ok hPr hj
    have ep : pkw R (mkN T) (duN T) x (j + 1) = if R j = 0 then pkw R (mkN T) (duN T) x j else if x < mkN T j then pkw R (mkN T) (duN T) x j else match pkw R (mkN T) (duN T) x j with
      | none => some j
      | some i => if duN T i ≤ duN T j then some i else some j := rfl
    have hps : ∀ i, pkw R (mkN T) (duN T) x j = some i → i < j := fun i h => (pkw_some h).1
    rw [ep]
    generalize pkw R (mkN T) (duN T) x j = o at *
    have hbj := hb j hj
    unfold Mo_areAbleTo_b56
    rw [h7, if_neg (show ¬ nI Q ≤ nI j by rw [le_nI _ _ (by omega) (by omega)]; omega), inb_nI (j := j) (n := 10) (by omega) (by omega), ck_true, cl j (by omega), hR j hj]
    by_cases c1 : R j = 0
    · rw [if_pos c1, if_pos (show nI (R j) ≤ 0 by rw [c1]; decide), nm_eq, nI_1]
    · rw [if_neg c1, if_neg (show ¬ nI (R j) ≤ 0 by show ¬ nI (R j) ≤ nI 0; rw [le_nI _ _ (by omega) (by omega)]; omega), ck_true, h50 j hj]
      by_cases c2 : x < mkN T j
      · rw [if_pos c2, if_pos (show nI x < nI (mkN T j) by rw [lt_nI _ _ (by omega) (by omega)]; exact c2), nm_eq, nI_1]
      · rw [if_neg c2, if_neg (show ¬ nI x < nI (mkN T j) by rw [lt_nI _ _ (by omega) (by omega)]; exact c2)]
        cases o with
        | none => rw [pI_none, if_pos (by decide : (-1 : Int32) < 0), nm_eq, nI_1]; rfl
        | some i =>
          have hi := hps i rfl
          have hmi := mdN_ok hPr (j := i) (by omega)
          rw [pI_some, if_neg (show ¬ nI i < 0 by show ¬ nI i < nI 0; rw [lt_nI _ _ (by omega) (by omega)]; omega), e18, e18, inb_nI (j := 18 + j) (n := 58) (by omega) (by omega), ck_true, inb_nI (j := 18 + i) (n := 58) (by omega) (by omega), ck_true, cl (18 + j) (by omega), cl (18 + i) (by omega), h18 j hj, h18 i (by omega)]
          dsimp only
          by_cases c3 : duN T i ≤ duN T j
          · rw [if_pos c3, if_pos (show nI (duN T i) ≤ nI (duN T j) by rw [le_nI _ _ (by omega) (by omega)]; exact c3), nm_eq, nI_1]; rfl
          · rw [if_neg c3, if_neg (show ¬ nI (duN T i) ≤ nI (duN T j) by rw [le_nI _ _ (by omega) (by omega)]; exact c3), nm_eq, nI_1]; rfl
  obtain ⟨y, k, e, rfl⟩ := lp_go _ Q hs N 0 (-1, 0) (by omega) (by omega) (by rfl)
  rw [e]
  dsimp only
  have hps : ∀ i, pkw R (mkN T) (duN T) x Q = some i → i < Q ∧ R i ≠ 0 := fun i h => ⟨(pkw_some h).1, (pkw_some h).2.1⟩
  generalize pkw R (mkN T) (duN T) x Q = o at *
  unfold Mo_areAbleTo_b56 Mo_areAbleTo_b140
  rw [h7, if_pos (Int32.le_refl _)]
  cases o with
  | none => rw [pI_none, if_pos (by decide : (-1 : Int32) < 0), nm_eq, nI_1]
  | some p =>
    obtain ⟨hp, hRp⟩ := hps p rfl
    have hmp := mdN_ok hPr hp
    have hbp := hb p hp
    have n0 : ¬ nI p < 0 := by show ¬ nI p < nI 0; rw [lt_nI _ _ (by omega) (by omega)]; omega
    have e9 : nI (R p) - 1 = nI (R p - 1) := by
      obtain ⟨r, hr⟩ : ∃ r, R p = r + 1 := ⟨R p - 1, by omega⟩
      rw [hr, nI_1m]; rfl
    dsimp only
    rw [pI_some, if_neg n0, e18, inb_nI (j := 18 + p) (n := 58) (by omega) (by omega), ck_true, cl (18 + p) (by omega), h18 p hp, if_neg n0, inb_nI (j := p) (n := 10) (by omega) (by omega), cl p (by omega), hR p hp, e9]
    simp only [ck_true, nm_eq, nI_1]
    by_cases c3 : x ≤ duN T p
    · rw [if_pos c3, if_pos (show nI x ≤ nI (duN T p) by rw [le_nI _ _ (by omega) (by omega)]; exact c3)]
    · rw [if_neg c3, if_neg (show ¬ nI x ≤ nI (duN T p) by rw [le_nI _ _ (by omega) (by omega)]; exact c3)]
