def scr (v i : Nat) : Bool := (decide (22 ≤ v) && decide (v ≤ 30)) || (decide (v = 2) && (decide (7 ≤ i) && decide (i ≤ 9))) || (decide (v = 9) && decide (i = 4))
def Core (S T : St) : Prop := (∀ v i, scr v i = false → gi S v i = gi T v i) ∧ ∀ i, gl S 43 i = gl T 43 i
theorem Core.g {S T : St} (h : Core S T) (v : Nat) (hv : ∀ i, scr v i = false) (i : Nat) : gi S v i = gi T v i := h.1 v i (hv i)
/-- people, promises: how many -/
def iN (T : St) (P Q : Nat) : Prop := gi T 1 9 = nI P ∧ P ≤ 6 ∧ gi T 1 10 = nI Q ∧ Q ≤ 10
/-- people's numbers -/
def iPe (T : St) (P : Nat) : Prop := ∀ j, j < P → (0 ≤ (gi T 11 j).toInt ∧ (gi T 11 j).toInt ≤ 30) ∧ (1 ≤ (gi T 12 j).toInt ∧ (gi T 12 j).toInt ≤ 60) ∧ (0 ≤ (gi T 13 j).toInt ∧ (gi T 13 j).toInt ≤ 9)
/-- promises' numbers -/
def iPr (T : St) (P Q : Nat) : Prop := ∀ j, j < Q → (∃ w, w < P ∧ gi T 14 j = nI w) ∧ (0 ≤ (gi T 15 j).toInt ∧ (gi T 15 j).toInt ≤ (gi T 16 j).toInt ∧ (gi T 16 j).toInt ≤ 99) ∧ (1 ≤ (gi T 17 j).toInt ∧ (gi T 17 j).toInt ≤ 9) ∧ (-1 ≤ (gi T 18 j).toInt ∧ (gi T 18 j).toInt ≤ 99) ∧ (gi T 19 j = -1 ∨ ∃ w, w < P ∧ gi T 19 j = nI w)
/-- the reference's people and promises -/
def rP (V T : St) : Prop := gi V 44 6 = gi T 1 9 ∧ gi V 44 7 = gi T 1 10 ∧ (∀ j, j < 6 → gi V 45 j = gi T 11 j ∧ gi V 45 (6 + j) = gi T 12 j ∧ gi V 45 (12 + j) = gi T 13 j) ∧ ∀ j, j < 10 → gi V 49 j = gi T 14 j ∧ gi V 50 j = gi T 15 j ∧ gi V 45 (18 + j) = gi T 16 j ∧ gi V 45 (28 + j) = gi T 17 j ∧ gi V 45 (38 + j) = gi T 18 j ∧ gi V 45 (48 + j) = gi T 19 j
/-- what the thoughts rest on: class side, reference side -/
def XP (S T : St) (P Q : Nat) : Prop := Core S T ∧ iN T P Q ∧ iPe T P ∧ iPr T P Q
def MP (V T : St) (P Q : Nat) : Prop := rP V T ∧ iN T P Q ∧ iPe T P ∧ iPr T P Q
def wi (a b c : Int) : Bool := decide (b ≤ a ∧ a ≤ c)
theorem Ch_within_eq (S : St) (a b c : Int32) : Ch_within S a b c = some (bI (wi a.toInt b.toInt c.toInt)) := by
  unfold Ch_within wi bI
  simp only [Int32.lt_iff_toInt_lt]
  by_cases h1 : a.toInt < b.toInt
  · simp [h1]; omega
  · by_cases h2 : c.toInt < a.toInt
    · simp [h1, h2]
    · simp [h1, h2]; try omega
theorem lgc_lt (x y : Int64) : (lg_cmp x y < 0) = (x.toInt < y.toInt) := by
  unfold lg_cmp
  simp only [gt_iff_lt, Int64.lt_iff_toInt_lt, ← Int64.toInt_inj]
  by_cases h1 : y.toInt < x.toInt
  · simp [h1]; omega
  · by_cases h2 : x.toInt = y.toInt
    · simp [h2]
    · simp [h1, h2]; try omega
theorem lgc_gt (x y : Int64) : (0 < lg_cmp x y) = (y.toInt < x.toInt) := by
  unfold lg_cmp
  simp only [gt_iff_lt, Int64.lt_iff_toInt_lt, ← Int64.toInt_inj]
  by_cases h1 : y.toInt < x.toInt
  · simp [h1]
  · by_cases h2 : x.toInt = y.toInt
    · simp [h2]
    · simp [h1, h2]
theorem Mo_within_eq (S : St) (a b c : Int64) : Mo_within S a b c = some (bI (wi a.toInt b.toInt c.toInt)) := by
  unfold Mo_within wi bI
  simp only [lgc_lt, lgc_gt]
  by_cases h1 : a.toInt < b.toInt
  · simp [h1]; omega
  · by_cases h2 : c.toInt < a.toInt
    · simp [h1, h2]
    · simp [h1, h2]; try omega
theorem Ch_isDay_eq (S : St) (a : Int32) : Ch_isDay S a = some (bI (wi a.toInt 0 99)) := by
  unfold Ch_isDay
  rw [Ch_within_eq]
  simp [bd1_some, isB_bI, ck_true]
theorem Mo_isDay_eq (S : St) (a : Int64) : Mo_isDay S a = some (bI (wi a.toInt 0 99)) := by
  unfold Mo_isDay
  rw [Mo_within_eq]
  simp [bd1_some, isB_bI, ck_true]
theorem Sm_isOne_eq {S T : St} {P Q : Nat} (hC : Core S T) (hN : iN T P Q) (a : Int32) : Sm_isOne S a = some (bI (wi a.toInt 0 (P - 1))) := by
  unfold Sm_isOne wi bI
  rw [hC.1 1 9 rfl, hN.1]
  simp only [Int32.lt_iff_toInt_lt, Int32.le_iff_toInt_le, nI_toInt (n := P) (by have := hN.2.1; omega)]
  by_cases h1 : a.toInt < 0
  · simp [h1]; try omega
  · by_cases h2 : (P : Int) ≤ a.toInt
    · simp [h1, h2]; try omega
    · simp [h1, h2]; try omega
theorem Sm_isPromise_eq {S T : St} {P Q : Nat} (hC : Core S T) (hN : iN T P Q) (a : Int32) : Sm_isPromise S a = some (bI (wi a.toInt 0 (Q - 1))) := by
  unfold Sm_isPromise wi bI
  rw [hC.1 1 10 rfl, hN.2.2.1]
  simp only [Int32.lt_iff_toInt_lt, Int32.le_iff_toInt_le, nI_toInt (n := Q) (by have := hN.2.2.2; omega)]
  by_cases h1 : a.toInt < 0
  · simp [h1]; try omega
  · by_cases h2 : (Q : Int) ≤ a.toInt
    · simp [h1, h2]; try omega
    · simp [h1, h2]; try omega
