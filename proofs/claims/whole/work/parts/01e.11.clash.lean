/-- each set with one less can be done -/
def EL (T : St) (Q n : Nat) : Prop := ∀ i, i < Q → bit n i = 1 → HW T Q (n - 2 ^ i)
noncomputable def elB (T : St) (Q n : Nat) : Bool := @decide (EL T Q n) (Classical.propDecidable _)
theorem elB_t {T : St} {Q n : Nat} : elB T Q n = true ↔ EL T Q n := by unfold elB; exact @decide_eq_true_iff _ (Classical.propDecidable _)
theorem elB_of {T : St} {Q n : Nat} {b : Bool} (h : b = true ↔ EL T Q n) : b = elB T Q n := by
  cases c : b
  · cases q : elB T Q n
    · rfl
    · have := h.mpr (elB_t.mp q); rw [c] at this; exact this
  · exact (elB_t.mpr (h.mp c)).symm
noncomputable def clB (T : St) (Q n : Nat) : Bool := !hB T Q n && elB T Q n
theorem isClash_S {S T : St} {P Q N O n : Nat} (hC : Core S T) (hNn : iN T P Q) (hO : O < 1024) (hn : n ≤ O) (ht : ∀ n, n ≤ O → wth n O → gi S 28 n = bI (hB T Q n)) (hN : 122 < N) : Wk_isClash N S (nI n) (nI O) = some (bI (decide (nI n &&& (nI O ^^^ -1) = 0) && clB T Q n)) := by
  have hQ10 := hNn.2.2.2
  unfold Wk_isClash
  by_cases hw : nI n &&& (nI O ^^^ -1) = 0
  · obtain ⟨b, s1, s2⟩ := each_S (S := S) (T := T) (P := P) (N := N) (Q := Q) (n := n) ((hC.1 1 10 rfl).trans hNn.2.2.1) hQ10 (by omega) (fun i hi hb => ht _ (Nat.le_trans (Nat.sub_le _ _) hn) (wth_off (by omega) (by omega) hb hw)) Q 0 (by omega) N (by omega)
    have eb : b = elB T Q n := elB_of (s2.trans ⟨fun h i hi hb => h i (Nat.zero_le _) hi hb, fun h i _ hi hb => h i hi hb⟩)
    rw [if_pos hw, inb_nI (j := n) (n := 1024) (by omega) (by omega), ck_true, cl n (by omega), ht n hn hw, if_bI, show Wk_eachLessOneFits N S (nI n) = _ from s1, bd1_some, if_bI, decide_eq_true hw, Bool.true_and, eb]
    unfold clB
    cases hB T Q n <;> cases elB T Q n <;> rfl
  · rw [if_neg hw, decide_eq_false hw, Bool.false_and]; rfl
theorem lessV {T : St} {P Q N n : Nat} (hn : n < 1024) (hN : 122 < N) : ∀ (m k : Nat) (V : St), k + m = Q → MP V T P Q → ∀ n1, m < n1 → ∃ b V', lp (fun kk (x : St × Int32) => Mo_isClash_b12 N kk x.1 (nI n) x.2) n1 (V, nI k) = some (bI b, V') ∧ OfM V V' ∧ (b = true ↔ ∀ i, k ≤ i → i < Q → bit n i = 1 → HW T Q (n - 2 ^ i))
  | 0, k, V, hk, hM, n1, h1 => by
    obtain ⟨n1, rfl⟩ : ∃ k, n1 = k + 1 := ⟨n1 - 1, by omega⟩
    have hQ10 := hM.2.1.2.2.2
    refine ⟨true, V, ?_, OfM.refl V, fun _ i h1 h2 => absurd h2 (by omega), fun _ => rfl⟩
    show Mo_isClash_b12 N (lp (fun kk (x : St × Int32) => Mo_isClash_b12 N kk x.1 (nI n) x.2) n1) V (nI n) (nI k) = _
    generalize lp (fun kk (x : St × Int32) => Mo_isClash_b12 N kk x.1 (nI n) x.2) n1 = K
    unfold Mo_isClash_b12
    rw [(hM.1.pq hM.2.1).2, if_pos (by rw [le_nI _ _ (by omega) (by omega)]; omega)]; rfl
  | m + 1, k, V, hk, hM, n1, h1 => by
    obtain ⟨n1, rfl⟩ : ∃ k, n1 = k + 1 := ⟨n1 - 1, by omega⟩
    have hQ10 := hM.2.1.2.2.2
    have nle : ¬ nI Q ≤ nI k := by rw [le_nI _ _ (by omega) (by omega)]; omega
    show ∃ b V', Mo_isClash_b12 N (lp (fun kk (x : St × Int32) => Mo_isClash_b12 N kk x.1 (nI n) x.2) n1) V (nI n) (nI k) = some (bI b, V') ∧ _
    by_cases c : bit n k = 1
    · have hlt : n - 2 ^ k < 1024 := Nat.lt_of_le_of_lt (Nat.sub_le _ _) hn
      obtain ⟨V1, v1, v2⟩ := able_V (N := N) (s := n - 2 ^ k) hM hlt hN
      obtain ⟨b, V', t1, t2, t3⟩ := lessV (T := T) (P := P) (N := N) hn hN m (k + 1) V1 (by omega) (MP.of v2 hM) n1 (by omega)
      have step : Mo_isClash_b12 N (lp (fun kk (x : St × Int32) => Mo_isClash_b12 N kk x.1 (nI n) x.2) n1) V (nI n) (nI k) = if hB T Q (n - 2 ^ k) = true then lp (fun kk (x : St × Int32) => Mo_isClash_b12 N kk x.1 (nI n) x.2) n1 (V1, nI (k + 1)) else some (0, V1) := by
        generalize lp (fun kk (x : St × Int32) => Mo_isClash_b12 N kk x.1 (nI n) x.2) n1 = K
        unfold Mo_isClash_b12
        rw [(hM.1.pq hM.2.1).2, if_neg nle, Mo_isIn_eq V hn (by omega), bd1_some, if_bI, if_pos (decide_eq_true c), (off_all k (by omega) n hn c).2, v1, bd2_some, if_bI, nm_eq, nI_1]
      rw [step]
      by_cases q : hB T Q (n - 2 ^ k) = true
      · rw [if_pos q]
        refine ⟨b, V', t1, v2.trans t2, t3.trans ⟨fun h i h1 h2 h3 => ?_, fun h i h1 h2 h3 => h i (by omega) h2 h3⟩⟩
        by_cases e : i = k
        · rw [e]; exact hB_t.mp q
        · exact h i (by omega) h2 h3
      · rw [if_neg q]
        exact ⟨false, V1, rfl, v2, fun h => Bool.noConfusion h, fun h => absurd (hB_t.mpr (h k (Nat.le_refl k) (by omega) c)) q⟩
    · obtain ⟨b, V', t1, t2, t3⟩ := lessV (T := T) (P := P) (N := N) hn hN m (k + 1) V (by omega) hM n1 (by omega)
      have step : Mo_isClash_b12 N (lp (fun kk (x : St × Int32) => Mo_isClash_b12 N kk x.1 (nI n) x.2) n1) V (nI n) (nI k) = lp (fun kk (x : St × Int32) => Mo_isClash_b12 N kk x.1 (nI n) x.2) n1 (V, nI (k + 1)) := by
        generalize lp (fun kk (x : St × Int32) => Mo_isClash_b12 N kk x.1 (nI n) x.2) n1 = K
        unfold Mo_isClash_b12
        rw [(hM.1.pq hM.2.1).2, if_neg nle, Mo_isIn_eq V hn (by omega), bd1_some, if_bI, if_neg (show ¬ decide (bit n k = 1) = true from fun h => c (of_decide_eq_true h)), nm_eq, nI_1]
      rw [step]
      refine ⟨b, V', t1, t2, t3.trans ⟨fun h i h1 h2 h3 => ?_, fun h i h1 h2 h3 => h i (by omega) h2 h3⟩⟩
      by_cases e : i = k
      · rw [e] at h3; exact absurd h3 c
      · exact h i (by omega) h2 h3
theorem isClash_V {V T : St} {P Q N n : Nat} (hM : MP V T P Q) (hn : n < 1024) (hN : 122 < N) : ∃ V', Mo_isClash N V (nI n) = some (bI (clB T Q n), V') ∧ OfM V V' := by
  have hQ10 := hM.2.1.2.2.2
  obtain ⟨V1, v1, v2⟩ := able_V (N := N) (s := n) hM hn hN
  obtain ⟨b, V2, t1, t2, t3⟩ := lessV (T := T) (P := P) (N := N) hn hN Q 0 V1 (by omega) (MP.of v2 hM) N (by omega)
  have eb : b = elB T Q n := elB_of (t3.trans ⟨fun h i hi hb => h i (Nat.zero_le _) hi hb, fun h i _ hi hb => h i hi hb⟩)
  unfold Mo_isClash
  rw [v1, bd2_some, if_bI, show Mo_isClash_L12 N (nI n) (V1, 0) = _ from t1]
  unfold clB
  cases q : hB T Q n
  · rw [if_neg (by decide), eb]; exact ⟨V2, rfl, v2.trans t2⟩
  · rw [if_pos rfl]; exact ⟨V1, rfl, v2⟩
