noncomputable def fC (T : St) (Q O n : Nat) : Bool := decide (nI n &&& (nI O ^^^ -1) = 0) && clB T Q n
def lq (f : Nat → Bool) : Nat → Int32
  | 0 => -2
  | j + 1 => if f j = true then (if cN f j = 0 then nI j else lq f j) else lq f j
theorem lq_stay (f : Nat → Bool) (j : Nat) (h : cN f j ≠ 0) : ∀ m, lq f (j + m) = lq f j ∧ cN f (j + m) ≠ 0
  | 0 => ⟨rfl, h⟩
  | m + 1 => by
    obtain ⟨a, b⟩ := lq_stay f j h m
    constructor
    · show (if f (j + m) = true then (if cN f (j + m) = 0 then nI (j + m) else lq f (j + m)) else lq f (j + m)) = lq f j
      rw [if_neg b, a]; split <;> rfl
    · show (if f (j + m) = true then cN f (j + m) + 1 else cN f (j + m)) ≠ 0
      split <;> omega
theorem lq_none (f : Nat → Bool) : ∀ j, cN f j = 0 → lq f j = -2
  | 0, _ => rfl
  | j + 1, h => by
    unfold cN at h
    unfold lq
    by_cases c : f j = true
    · rw [if_pos c] at h; omega
    · rw [if_neg c] at h ⊢; exact lq_none f j h
theorem lq_ext (f : Nat → Bool) (a : Nat) : ∀ m, (∀ i, a ≤ i → i < a + m → f i = false) → lq f (a + m) = lq f a ∧ cN f (a + m) = cN f a
  | 0, _ => ⟨rfl, rfl⟩
  | m + 1, h => by
    obtain ⟨x, y⟩ := lq_ext f a m (fun i h1 h2 => h i h1 (by omega))
    have nf : ¬ f (a + m) = true := by rw [h (a + m) (by omega) (by omega)]; decide
    constructor
    · show (if f (a + m) = true then (if cN f (a + m) = 0 then nI (a + m) else lq f (a + m)) else lq f (a + m)) = lq f a
      rw [if_neg nf, x]
    · show (if f (a + m) = true then cN f (a + m) + 1 else cN f (a + m)) = cN f a
      rw [if_neg nf, y]
theorem fC_0 (T : St) (Q O : Nat) : fC T Q O 0 = false := by
  have h : hB T Q 0 = true := hB_t.mpr (fun c hc a b _ => by
    rw [sB_zero (fun i hi hci => ?_)]
    · exact Nat.zero_le _
    · have := hc i hi hci
      have e : sb 0 i = false := by unfold sb bit; rw [Nat.zero_div]; rfl
      rw [e] at this; exact Bool.noConfusion this)
  unfold fC clB
  rw [h, Bool.not_true, Bool.false_and, Bool.and_false]
theorem fC_hi {T : St} {Q O i : Nat} (hO : O < 1024) (hi : i < 1024) (h : O < i) : fC T Q O i = false := by
  unfold fC
  rw [decide_eq_false (fun q => by have := sub_le hi hO q; omega), Bool.false_and]
theorem many2_S {S T : St} {P Q N O : Nat} (hC : Core S T) (hNn : iN T P Q) (hPr : iPr T P Q) (hO : O < 2 ^ Q) (hN : 1100 < N) : (∃ S', Wk_howManyClashes N S (nI O) = some (nI (cN (fC T Q O) (O + 1)), S') ∧ Core S' T) ∧ ∃ S', Wk_leastClash N S (nI O) = some (lq (fC T Q O) (O + 1), S') ∧ Core S' T := by
  have hQ10 := hNn.2.2.2
  have hO10 : O < 1024 := Nat.lt_of_lt_of_le hO (pow_le hQ10)
  obtain ⟨S', s1, s2, s3⟩ := fill_S (N := N) (O := O) hC hNn hPr hO hN
  have hcl : ∀ j, j ≤ O → Wk_isClash N S' (nI j) (nI O) = some (bI (fC T Q O j)) := fun j hj => isClash_S s2 hNn hO10 hj s3 (by omega)
  refine ⟨⟨S', ?_, s2⟩, S', ?_, s2⟩
  · unfold Wk_howManyClashes Wk_howManyClashes_L9
    rw [s1, bd1_some]
    refine lp_run (fun j => (nI (cN (fC T Q O) j), nI j)) (O + 1) (fun k => ?_) N 0 (by omega) (by omega) (fun j _ hj k => ?_)
    · dsimp only
      unfold Wk_howManyClashes_b9
      rw [if_pos (show nI O < nI (O + 1) by rw [lt_nI _ _ (by omega) (by omega)]; omega)]
    · dsimp only
      have nlt : ¬ nI O < nI j := by rw [lt_nI _ _ (by omega) (by omega)]; omega
      unfold Wk_howManyClashes_b9
      rw [if_neg nlt, isSet_eq S' (by omega), bd1_some, if_neg (by decide : ¬ (1 : Int32) = 0), hcl j (by omega), bd1_some, if_bI, show cN (fC T Q O) (j + 1) = if fC T Q O j = true then cN (fC T Q O) j + 1 else cN (fC T Q O) j from rfl]
      simp only [nm_eq, nI_1]
      split <;> rfl
  · unfold Wk_leastClash Wk_leastClash_L7
    rw [s1, bd1_some]
    have go : ∀ (m j : Nat), j + m = O + 1 → cN (fC T Q O) j = 0 → ∀ n1, m < n1 → lp (fun k x => Wk_leastClash_b7 N k S' (nI O) x) n1 (nI j) = some (lq (fC T Q O) (O + 1), S') := by
      intro m
      induction m with
      | zero =>
        intro j hj h0 n1 h1
        obtain ⟨n1, rfl⟩ : ∃ k, n1 = k + 1 := ⟨n1 - 1, by omega⟩
        show Wk_leastClash_b7 N (lp (fun k x => Wk_leastClash_b7 N k S' (nI O) x) n1) S' (nI O) (nI j) = _
        generalize lp (fun k x => Wk_leastClash_b7 N k S' (nI O) x) n1 = K
        obtain rfl : j = O + 1 := by omega
        unfold Wk_leastClash_b7
        rw [if_pos (show nI O < nI (O + 1) by rw [lt_nI _ _ (by omega) (by omega)]; omega), lq_none _ _ h0]
      | succ m ih =>
        intro j hj h0 n1 h1
        obtain ⟨n1, rfl⟩ : ∃ k, n1 = k + 1 := ⟨n1 - 1, by omega⟩
        have nlt : ¬ nI O < nI j := by rw [lt_nI _ _ (by omega) (by omega)]; omega
        show Wk_leastClash_b7 N (lp (fun k x => Wk_leastClash_b7 N k S' (nI O) x) n1) S' (nI O) (nI j) = _
        have step : Wk_leastClash_b7 N (lp (fun k x => Wk_leastClash_b7 N k S' (nI O) x) n1) S' (nI O) (nI j) = if fC T Q O j = true then some (nI j, S') else lp (fun k x => Wk_leastClash_b7 N k S' (nI O) x) n1 (nI (j + 1)) := by
          generalize lp (fun k x => Wk_leastClash_b7 N k S' (nI O) x) n1 = K
          unfold Wk_leastClash_b7
          rw [if_neg nlt, isSet_eq S' (by omega), bd1_some, if_neg (by decide : ¬ (1 : Int32) = 0), hcl j (by omega), bd1_some, if_bI, nm_eq, nI_1]
        rw [step]
        have ec : cN (fC T Q O) (j + 1) = if fC T Q O j = true then cN (fC T Q O) j + 1 else cN (fC T Q O) j := rfl
        by_cases c : fC T Q O j = true
        · rw [if_pos c] at ec
          have q := (lq_stay (fC T Q O) (j + 1) (by omega) m).1
          rw [show j + 1 + m = O + 1 by omega] at q
          have el : lq (fC T Q O) (j + 1) = if fC T Q O j = true then (if cN (fC T Q O) j = 0 then nI j else lq (fC T Q O) j) else lq (fC T Q O) j := rfl
          rw [if_pos c, q, el, if_pos c, if_pos h0]
        · rw [if_neg c] at ec
          rw [if_neg c]
          exact ih (j + 1) (by omega) (by omega) n1 (by omega)
    exact go (O + 1) 0 (by omega) rfl N (by omega)
