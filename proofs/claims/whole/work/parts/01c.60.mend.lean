theorem lp_go {α ρ : Type} {b : (α → Option ρ) → α → Option ρ} (I : Nat → α → Prop) (m : Nat) (hs : ∀ j x, j < m → I j x → ∃ x', (∀ k, b k x = k x') ∧ I (j + 1) x') : ∀ (n i : Nat) (x : α), i ≤ m → m - i < n → I i x → ∃ x' k, lp b n x = b k x' ∧ I m x' := by
  intro n
  induction n with
  | zero => intro i x _ h; exact absurd h (Nat.not_lt_zero _)
  | succ n ih =>
    intro i x hi hn hI
    show ∃ x' k, b (lp b n) x = b k x' ∧ I m x'
    rcases Nat.lt_or_ge i m with h | h
    · obtain ⟨x', e, hI'⟩ := hs i x h hI
      rw [e]
      exact ih (i + 1) x' h (by omega) hI'
    · have e : i = m := by omega
      subst e
      exact ⟨x, _, rfl, hI⟩
def okb (T : St) (P w n : Nat) (x : Int32) : Bool := if w = 0 then wi x.toInt 0 30 else if w = 1 then wi x.toInt 1 60 else if w = 2 then wi x.toInt 0 9 else if w = 3 then wi x.toInt (gi T 15 n).toInt 99 else if w = 4 then wi x.toInt 1 9 else if w = 5 then wi x.toInt (-1) 99 else decide (x = -1) || (wi x.toInt 0 (P - 1) && !decide (x = gi T 14 n))
theorem okb_ok {T : St} {P Q w n : Nat} {x : Int32} (h : okb T P w n x = true) (hw : w ≤ 6) (hn : n < if w < 3 then P else Q) : okv T P Q w n x := by
  rcases w7 hw with rfl | rfl | rfl | rfl | rfl | rfl | rfl
  all_goals (simp [okb] at h; simp at hn)
  · refine ⟨fun _ => ⟨hn, wi_t ▸ h⟩, fun e => absurd e (by decide), fun e => absurd e (by decide), fun e => absurd e (by decide), fun e => absurd e (by decide), fun e => absurd e (by decide), fun e => absurd e (by decide), fun e => absurd e (by decide)⟩
  · refine ⟨fun e => absurd e (by decide), fun _ => ⟨hn, wi_t ▸ h⟩, fun e => absurd e (by decide), fun e => absurd e (by decide), fun e => absurd e (by decide), fun e => absurd e (by decide), fun e => absurd e (by decide), fun e => absurd e (by decide)⟩
  · refine ⟨fun e => absurd e (by decide), fun e => absurd e (by decide), fun _ => ⟨hn, wi_t ▸ h⟩, fun e => absurd e (by decide), fun e => absurd e (by decide), fun e => absurd e (by decide), fun e => absurd e (by decide), fun e => absurd e (by decide)⟩
  · refine ⟨fun e => absurd e (by decide), fun e => absurd e (by decide), fun e => absurd e (by decide), fun _ => hn, fun _ => wi_t ▸ h, fun e => absurd e (by decide), fun e => absurd e (by decide), fun e => absurd e (by decide)⟩
  · refine ⟨fun e => absurd e (by decide), fun e => absurd e (by decide), fun e => absurd e (by decide), fun _ => hn, fun e => absurd e (by decide), fun _ => wi_t ▸ h, fun e => absurd e (by decide), fun e => absurd e (by decide)⟩
  · refine ⟨fun e => absurd e (by decide), fun e => absurd e (by decide), fun e => absurd e (by decide), fun _ => hn, fun e => absurd e (by decide), fun e => absurd e (by decide), fun _ => wi_t ▸ h, fun e => absurd e (by decide)⟩
  · refine ⟨fun e => absurd e (by decide), fun e => absurd e (by decide), fun e => absurd e (by decide), fun _ => hn, fun e => absurd e (by decide), fun e => absurd e (by decide), fun e => absurd e (by decide), fun _ => ?_⟩
    rcases h with h | ⟨h, -⟩
    · exact .inl h
    · obtain ⟨k, k1, k2⟩ := wi_nI h
      exact .inr ⟨k, k1, k2⟩
theorem Sm_canBecome_eq {S T : St} {P Q w n : Nat} (hC : Core S T) (hN : iN T P Q) (hw : w ≤ 6) (hn : n < if w < 3 then P else Q) (x : Int32) : Sm_canBecome S (nI n) (nI w) x = some (bI (okb T P w n x)) := by
  have hQ10 := hN.2.2.2
  unfold Sm_canBecome
  rcases w7 hw with rfl | rfl | rfl | rfl | rfl | rfl | rfl
  · show bd1 (Ch_within S x 0 30) _ = _
    rw [Ch_within_eq, bd1_some, isB_bI, ck_true]; rfl
  · show bd1 (Ch_within S x 1 60) _ = _
    rw [Ch_within_eq, bd1_some, isB_bI, ck_true]; rfl
  · show bd1 (Ch_within S x 0 9) _ = _
    rw [Ch_within_eq, bd1_some, isB_bI, ck_true]; rfl
  · have hn : n < Q := hn
    show ck (inb (nI n) 10) (bd1 (Ch_within S x (gi S 15 (nI n).toNatClampNeg) 99) _) = _
    rw [inb_nI (j := n) (n := 10) (by omega) (by omega), ck_true, cl n (by omega), Ch_within_eq, bd1_some, isB_bI, ck_true, hC.g 15 (fun _ => rfl)]; rfl
  · show bd1 (Ch_within S x 1 9) _ = _
    rw [Ch_within_eq, bd1_some, isB_bI, ck_true]; rfl
  · show bd1 (Ch_within S x (-1) 99) _ = _
    rw [Ch_within_eq, bd1_some, isB_bI, ck_true]; rfl
  · have hn : n < Q := hn
    show (if x = -1 then some 1 else bd1 (Sm_isOne S x) fun r7 => if r7 = 0 then some 0 else ck (inb (nI n) 10) (if x = gi S 14 (nI n).toNatClampNeg then some 0 else some 1)) = _
    rw [Sm_isOne_eq hC hN, bd1_some, if_bI, inb_nI (j := n) (n := 10) (by omega) (by omega), ck_true, cl n (by omega), hC.g 14 (fun _ => rfl)]
    have e : okb T P 6 n x = (decide (x = -1) || (wi x.toInt 0 (P - 1) && !decide (x = gi T 14 n))) := rfl
    rw [e]
    by_cases h1 : x = -1 <;> by_cases h2 : wi x.toInt 0 (P - 1) = true <;> by_cases h3 : x = gi T 14 n <;> simp [h1, h2, h3, bI] <;> (split <;> rfl)
theorem Mo_mayBecome_eq {V T : St} {P Q w n : Nat} (hP : rP V T) (hN : iN T P Q) (hw : w ≤ 6) (hn : n < if w < 3 then P else Q) (x : Int32) : Mo_mayBecome V (nI n) (nI w) x = some (bI (okb T P w n x)) := by
  have hQ10 := hN.2.2.2
  unfold Mo_mayBecome
  rcases w7 hw with rfl | rfl | rfl | rfl | rfl | rfl | rfl
  · show bd1 (Mo_within V (Int32.toInt64 x) 0 30) _ = _
    rw [Mo_within_eq, bd1_some, isB_bI, ck_true, Int32.toInt_toInt64]; rfl
  · show bd1 (Mo_within V (Int32.toInt64 x) 1 60) _ = _
    rw [Mo_within_eq, bd1_some, isB_bI, ck_true, Int32.toInt_toInt64]; rfl
  · show bd1 (Mo_within V (Int32.toInt64 x) 0 9) _ = _
    rw [Mo_within_eq, bd1_some, isB_bI, ck_true, Int32.toInt_toInt64]; rfl
  · have hn : n < Q := hn
    show ck (inb (nI n) 10) (bd1 (Mo_within V (Int32.toInt64 x) (Int32.toInt64 (gi V 50 (nI n).toNatClampNeg)) 99) _) = _
    rw [inb_nI (j := n) (n := 10) (by omega) (by omega), ck_true, cl n (by omega), Mo_within_eq, bd1_some, isB_bI, ck_true, (hP.2.2.2 n (by omega)).2.1, Int32.toInt_toInt64, Int32.toInt_toInt64]; rfl
  · show bd1 (Mo_within V (Int32.toInt64 x) 1 9) _ = _
    rw [Mo_within_eq, bd1_some, isB_bI, ck_true, Int32.toInt_toInt64]; rfl
  · show bd1 (Mo_within V (Int32.toInt64 x) (-1) 99) _ = _
    rw [Mo_within_eq, bd1_some, isB_bI, ck_true, Int32.toInt_toInt64]; rfl
  · have hn : n < Q := hn
    show (if x = -1 then some 1 else bd1 (Mo_isOne V (Int32.toInt64 x)) fun r7 => if r7 = 0 then some 0 else ck (inb (nI n) 10) (if x = gi V 49 (nI n).toNatClampNeg then some 0 else some 1)) = _
    rw [Mo_isOne_eq hP hN, bd1_some, if_bI, inb_nI (j := n) (n := 10) (by omega) (by omega), ck_true, cl n (by omega), (hP.2.2.2 n (by omega)).1, Int32.toInt_toInt64]
    have e : okb T P 6 n x = (decide (x = -1) || (wi x.toInt 0 (P - 1) && !decide (x = gi T 14 n))) := rfl
    rw [e]
    by_cases h1 : x = -1 <;> by_cases h2 : wi x.toInt 0 (P - 1) = true <;> by_cases h3 : x = gi T 14 n <;> simp [h1, h2, h3, bI] <;> (split <;> rfl)
theorem w9 {w : Nat} (h : w ≤ 8) : w = 0 ∨ w = 1 ∨ w = 2 ∨ w = 3 ∨ w = 4 ∨ w = 5 ∨ w = 6 ∨ w = 7 ∨ w = 8 := by omega
theorem Sm_has_eq {S T : St} {P Q w : Nat} (hC : Core S T) (hN : iN T P Q) (hw : w ≤ 8) (x : Int32) : Sm_has S x (nI w) = some (bI (wi x.toInt 0 ((if w < 3 then P else Q : Nat) - 1))) := by
  unfold Sm_has
  rcases w9 hw with rfl | rfl | rfl | rfl | rfl | rfl | rfl | rfl | rfl
  all_goals (first
    | (show bd1 (Sm_isOne S x) _ = _; rw [Sm_isOne_eq hC hN, bd1_some, isB_bI, ck_true]; rfl)
    | (show bd1 (Sm_isPromise S x) _ = _; rw [Sm_isPromise_eq hC hN, bd1_some, isB_bI, ck_true]; rfl))
theorem Sm_has_no (S : St) (x : Int32) {y : Int32} (h : ¬ (0 ≤ y.toInt ∧ y.toInt ≤ 8)) : Sm_has S x y = some 0 := by
  unfold Sm_has
  simp only [Int32.lt_iff_toInt_lt, ti0, ti9]
  by_cases h1 : y.toInt < 0
  · rw [if_pos h1]
  · rw [if_neg h1, if_neg (by omega)]
theorem Mo_placeOf_eq {V T : St} {P Q w : Nat} (hP : rP V T) (hN : iN T P Q) (hw : w ≤ 6) (x : Int32) : Mo_placeOf V x (nI w) = some (if wi x.toInt 0 ((if w < 3 then P else Q : Nat) - 1) = true then (if w < 3 then 6 * nI w + x else 18 + 10 * (nI w - 3) + x) else -1) := by
  unfold Mo_placeOf
  rcases w7 hw with rfl | rfl | rfl | rfl | rfl | rfl | rfl
  all_goals simp only [Mo_within_eq, bd1_some, if_bI, Mo_isOne_eq hP hN, Mo_isPromise_eq hP hN, Int32.toInt_toInt64]
  all_goals simp [wi, tI0, tI2, tI3, tI6, ti]
  all_goals (split <;> rfl)
theorem Mo_placeOf_no {V T : St} {P Q : Nat} (hP : rP V T) (hN : iN T P Q) (x : Int32) {y : Int32} (h : ¬ (0 ≤ y.toInt ∧ y.toInt ≤ 6)) : Mo_placeOf V x y = some (-1) := by
  unfold Mo_placeOf
  simp only [Mo_within_eq, bd1_some, if_bI, Int32.toInt_toInt64, tI0, tI2, tI3, tI6, wi_t]
  rw [if_neg (by omega), if_neg (by omega)]
theorem place_nI {w n : Nat} (hw : w ≤ 6) : (if w < 3 then 6 * nI w + nI n else 18 + 10 * (nI w - 3) + nI n) = nI (plc w n) := by
  rcases w7 hw with rfl | rfl | rfl | rfl | rfl | rfl | rfl
  · exact nI_add 0 n
  · exact nI_add 6 n
  · exact nI_add 12 n
  · exact nI_add 18 n
  · exact nI_add 28 n
  · exact nI_add 38 n
  · exact nI_add 48 n
theorem Sm_numberOf_eq {S T : St} (hC : Core S T) {w n : Nat} (hw : w ≤ 6) (hn : n < if w < 3 then 6 else 10) : Sm_numberOf S (nI n) (nI w) = some (gi T (rwN w) n) := by
  obtain ⟨r1, r2, r3⟩ := rwN_scr hw
  have h10 : n < 10 := by split at hn <;> omega
  unfold Sm_numberOf
  rw [Sm_rowOf_eq S hw, bd1_some, r1, ck_true, r3, inb_nI hn (by split <;> omega), ck_true, cl n (by omega), hC.g _ r2]
