/-- a promise's first day, last day, as numbers -/
def mkN (T : St) (j : Nat) : Nat := (gi T 15 j).toNatClampNeg
def duN (T : St) (j : Nat) : Nat := (gi T 16 j).toNatClampNeg
theorem mdN_ok {T : St} {P Q : Nat} (hPr : iPr T P Q) {j : Nat} (hj : j < Q) : gi T 15 j = nI (mkN T j) ∧ gi T 16 j = nI (duN T j) ∧ mkN T j ≤ duN T j ∧ duN T j ≤ 99 := by
  obtain ⟨-, ⟨h1, h2, h3⟩, -⟩ := hPr j hj
  obtain ⟨e, e2⟩ := i32_nI (x := gi T 15 j) (by omega)
  obtain ⟨f, f2⟩ := i32_nI (x := gi T 16 j) (by omega)
  unfold mkN duN
  exact ⟨e, f, by omega, by omega⟩
def sb (n i : Nat) : Bool := decide (bit n i = 1)
def HW (T : St) (Q n : Nat) : Prop := HallW (lnN T) (mkN T) (duN T) Q (sb n)
def HS (T : St) (Q n : Nat) : Prop := HasW (lnN T) (mkN T) (duN T) Q (sb n)
noncomputable def hB (T : St) (Q n : Nat) : Bool := @decide (HW T Q n) (Classical.propDecidable _)
theorem hB_t {T : St} {Q n : Nat} : hB T Q n = true ↔ HW T Q n := by unfold hB; exact @decide_eq_true_iff _ (Classical.propDecidable _)
theorem sb_off {n i : Nat} (hn : n < 1024) (hi : i < 10) (hb : bit n i = 1) {j : Nat} (hj : j < 10) : sb (n - 2 ^ i) j = (sb n j && !decide (j = i)) := by
  unfold sb
  rw [(off_bit i hi n hn hb).2 j hj]
  by_cases e : j = i
  · rw [if_pos e, decide_eq_true e, Bool.not_true, Bool.and_false]; rfl
  · rw [if_neg e, decide_eq_false e, Bool.not_false, Bool.and_true]
theorem HallW_congr {l m D : Nat → Nat} {Q : Nat} {s s' : Nat → Bool} (h : ∀ i, i < Q → s i = s' i) : HallW l m D Q s → HallW l m D Q s' := fun H c hc => H c (fun i hi hci => (h i hi).trans (hc i hi hci))
theorem HW_step {T : St} {P Q n : Nat} (hPr : iPr T P Q) (hQ : Q ≤ 10) (hn : n < 1024) : HW T Q n ↔ (∀ i, i < Q → bit n i = 1 → HW T Q (n - 2 ^ i)) ∧ HS T Q n := by
  have h := hall_step (l := lnN T) (m := mkN T) (D := duN T) (Q := Q) (s := sb n) (fun i hi => (mdN_ok hPr hi).2.2)
  unfold HW HS
  rw [h]
  refine and_congr_left fun _ => ⟨fun g i hi hb => ?_, fun g i hi hb => ?_⟩
  · exact HallW_congr (fun j hj => (sb_off hn (by omega) hb (by omega)).symm) (g i hi (decide_eq_true hb))
  · have hb' : bit n i = 1 := of_decide_eq_true hb
    exact HallW_congr (fun j hj => sb_off hn (by omega) hb' (by omega)) (g i hi hb')
/-- the class: days for all of a set -/
theorem has_S {S T : St} {P Q N n : Nat} (hC : Core S T) (hNn : iN T P Q) (hPr : iPr T P Q) (hn : n < 2 ^ Q) (hN : 122 < N) : ∃ b, Wk_hasDaysForAll N S (nI n) = some (bI b) ∧ (b = true ↔ HS T Q n) := by
  have hQ10 := hNn.2.2.2
  have hn10 : n < 1024 := Nat.lt_of_lt_of_le hn (pow_le hQ10)
  unfold Wk_hasDaysForAll Wk_hasDaysForAll_L11
  have hb : ∀ j, j ≤ Q → mnB (mkN T) (sb n) j ≤ 100 ∧ mxB (duN T) (sb n) j ≤ 100 ∧ sB (lnN T) (sb n) j ≤ 9 * j := by
    intro j
    induction j with
    | zero => intro _; exact ⟨Nat.le_refl _, Nat.zero_le _, Nat.le_refl _⟩
    | succ j ih =>
      intro hj
      obtain ⟨a1, a2, a3⟩ := ih (by omega)
      have f1 := mdN_ok hPr (j := j) (by omega)
      have f2 := lnN_ok hPr (j := j) (by omega)
      unfold mnB mxB sB
      by_cases c : sb n j = true
      · rw [if_pos c, if_pos c, if_pos c]; omega
      · rw [if_neg c, if_neg c, if_neg c]; omega
  have hs : ∀ j (x : Int32 × Int32 × Int32 × Int32), j < Q → (fun j (x : Int32 × Int32 × Int32 × Int32) => x = (nI (mnB (mkN T) (sb n) j), vv (mxB (duN T) (sb n) j), nI (sB (lnN T) (sb n) j), nI j)) j x → ∃ x', (∀ k, (fun k (x : Int32 × Int32 × Int32 × Int32) => Wk_hasDaysForAll_b11 N k S (nI n) x.1 x.2.1 x.2.2.1 x.2.2.2) k x = k x') ∧ (fun j (x : Int32 × Int32 × Int32 × Int32) => x = (nI (mnB (mkN T) (sb n) j), vv (mxB (duN T) (sb n) j), nI (sB (lnN T) (sb n) j), nI j)) (j + 1) x' := by
    rintro j x hj rfl
    refine ⟨_, fun k => ?_, rfl⟩
    dsimp only
    obtain ⟨b1, b2, b3⟩ := hb j (by omega)
    obtain ⟨f1, f2, f3, f4⟩ := mdN_ok hPr (j := j) hj
    obtain ⟨g1, g2, g3⟩ := lnN_ok hPr (j := j) hj
    have e1 : mnB (mkN T) (sb n) (j + 1) = if sb n j = true then min (mnB (mkN T) (sb n) j) (mkN T j) else mnB (mkN T) (sb n) j := rfl
    have e2 : mxB (duN T) (sb n) (j + 1) = if sb n j = true then max (mxB (duN T) (sb n) j) (duN T j + 1) else mxB (duN T) (sb n) j := rfl
    have e3 : sB (lnN T) (sb n) (j + 1) = sB (lnN T) (sb n) j + (if sb n j = true then lnN T j else 0) := rfl
    rw [e1, e2, e3]
    generalize mnB (mkN T) (sb n) j = A at *
    generalize mxB (duN T) (sb n) j = B at *
    generalize sB (lnN T) (sb n) j = C at *
    unfold Wk_hasDaysForAll_b11 Ma_min Ma_max
    rw [hC.1 1 10 rfl, hNn.2.2.1, if_neg (by rw [le_nI _ _ (by omega) (by omega)]; omega), Ch_isIn_eq S hn10 (by omega), bd1_some, if_bI]
    by_cases c : sb n j = true
    · have c' : decide (bit n j = 1) = true := c
      have m1 : (if nI (mkN T j) < nI A then some (nI (mkN T j)) else some (nI A)) = some (nI (min A (mkN T j))) := by
        by_cases q : mkN T j < A
        · rw [if_pos (show nI (mkN T j) < nI A by rw [lt_nI _ _ (by omega) (by omega)]; exact q), Nat.min_eq_right (by omega)]
        · rw [if_neg (show ¬ nI (mkN T j) < nI A by rw [lt_nI _ _ (by omega) (by omega)]; exact q), Nat.min_eq_left (by omega)]
      have m2 : (if vv B < nI (duN T j) then some (nI (duN T j)) else some (vv B)) = some (vv (max B (duN T j + 1))) := by
        have q0 : (vv B < nI (duN T j)) = (B < duN T j + 1) := by
          cases B with
          | zero =>
            refine propext ⟨fun _ => by omega, fun _ => ?_⟩
            rw [Int32.lt_iff_toInt_lt, ti _ (by omega)]
            have : (vv 0).toInt = -1 := by decide
            omega
          | succ B => rw [vv_1, lt_nI _ _ (by omega) (by omega)]; exact propext ⟨fun _ => by omega, fun _ => by omega⟩
        by_cases q : B < duN T j + 1
        · rw [if_pos (show vv B < nI (duN T j) by rw [q0]; exact q), Nat.max_eq_right (by omega), vv_1]
        · rw [if_neg (show ¬ vv B < nI (duN T j) by rw [q0]; exact q), Nat.max_eq_left (by omega)]
      rw [if_pos c', if_pos c, if_pos c, if_pos c, inb_nI (j := j) (n := 10) (by omega) (by omega), ck_true, cl j (by omega), hC.g 15 (fun _ => rfl), hC.g 16 (fun _ => rfl), hC.g 17 (fun _ => rfl), f1, f2, g1, m1, bd1_some, ck_true, m2, bd1_some, ck_true, nm_eq, nm_eq, nI_add, nI_1]
    · have c' : ¬ decide (bit n j = 1) = true := c
      rw [if_neg c', if_neg c, if_neg c, if_neg c, nm_eq, nI_1]; rfl
  obtain ⟨x, k, e, rfl⟩ := lp_go _ Q hs N 0 (100, -1, 0, 0) (by omega) (by omega) (by rfl)
  rw [e]
  dsimp only
  unfold Wk_hasDaysForAll_b11
  rw [hC.1 1 10 rfl, hNn.2.2.1, if_pos (Int32.le_refl _)]
  obtain ⟨b1, b2, b3⟩ := hb Q (Nat.le_refl Q)
  by_cases n0 : n = 0
  · refine ⟨true, ?_, ⟨fun _ => .inl (fun i _ => ?_), fun _ => rfl⟩⟩
    · rw [n0, if_pos (by rfl)]; rfl
    · unfold sb; rw [n0]; unfold bit; rw [Nat.zero_div]; rfl
  · obtain ⟨i, hi, hbi⟩ := bit_ex n hn10 n0
    have hiQ : i < Q := by
      apply Nat.lt_of_not_le
      intro hq
      rw [bit_hi hn hq] at hbi; exact absurd hbi (by decide)
    have q1 := mnB_le (f := mkN T) (c := sb n) (decide_eq_true hbi) hiQ
    have q2 := mxB_ge (f := duN T) (c := sb n) (decide_eq_true hbi) hiQ
    have q3 := (mdN_ok hPr hiQ).2.2.1
    have e0 : ¬ nI n = 0 := by show ¬ nI n = nI 0; rw [eq_nI _ _ (by omega) (by omega)]; exact n0
    have e1 : vv (mxB (duN T) (sb n) Q) - nI (mnB (mkN T) (sb n) Q) + 1 = nI (mxB (duN T) (sb n) Q - mnB (mkN T) (sb n) Q) := by
      obtain ⟨B, hB⟩ : ∃ B, mxB (duN T) (sb n) Q = B + 1 := ⟨mxB (duN T) (sb n) Q - 1, by omega⟩
      rw [hB, vv_1, ← pk_sub (by omega)]
      by_cases q : mnB (mkN T) (sb n) Q ≤ B
      · have z1 := pk_sub (a := B) (b := mnB (mkN T) (sb n) Q) q
        have z2 := pk_sub (a := B + 1) (b := mnB (mkN T) (sb n) Q) (by omega)
        have z1' : nI B - nI (mnB (mkN T) (sb n) Q) = nI (B - mnB (mkN T) (sb n) Q) := z1
        rw [z1', nI_1]
        exact (congrArg nI (by omega)).trans z2.symm
      · omega
    rw [if_neg e0, e1]
    by_cases c : mxB (duN T) (sb n) Q - mnB (mkN T) (sb n) Q < sB (lnN T) (sb n) Q
    · rw [if_pos (show nI (mxB (duN T) (sb n) Q - mnB (mkN T) (sb n) Q) < nI (sB (lnN T) (sb n) Q) by rw [lt_nI _ _ (by omega) (by omega)]; exact c)]
      refine ⟨false, rfl, fun h => Bool.noConfusion h, fun h => ?_⟩
      rcases h with h | h
      · exact absurd ((show sb n i = true from decide_eq_true hbi).symm.trans (h i hiQ)) (by decide)
      · omega
    · rw [if_neg (show ¬ nI (mxB (duN T) (sb n) Q - mnB (mkN T) (sb n) Q) < nI (sB (lnN T) (sb n) Q) by rw [lt_nI _ _ (by omega) (by omega)]; exact c)]
      exact ⟨true, rfl, fun _ => .inr (by omega), fun _ => rfl⟩
/-- the class: does each set with one less fit -/
theorem each_S {S T : St} {P Q N n : Nat} (hC : gi S 1 10 = nI Q) (hQ : Q ≤ 10) (hn : n < 1024) (ht : ∀ i, i < Q → bit n i = 1 → gi S 28 (n - 2 ^ i) = bI (hB T Q (n - 2 ^ i))) : ∀ (m k : Nat), k + m = Q → ∀ n1, m < n1 → ∃ b, lp (fun kk (x : Int32) => Wk_eachLessOneFits_b2 N kk S (nI n) x) n1 (nI k) = some (bI b) ∧ (b = true ↔ ∀ i, k ≤ i → i < Q → bit n i = 1 → HW T Q (n - 2 ^ i))
  | 0, k, hk, n1, h1 => by
    obtain ⟨n1, rfl⟩ : ∃ k, n1 = k + 1 := ⟨n1 - 1, by omega⟩
    show ∃ b, Wk_eachLessOneFits_b2 N (lp (fun kk (x : Int32) => Wk_eachLessOneFits_b2 N kk S (nI n) x) n1) S (nI n) (nI k) = some (bI b) ∧ _
    generalize lp (fun kk (x : Int32) => Wk_eachLessOneFits_b2 N kk S (nI n) x) n1 = K
    unfold Wk_eachLessOneFits_b2
    rw [hC, if_pos (by rw [le_nI _ _ (by omega) (by omega)]; omega)]
    exact ⟨true, rfl, fun _ i h1 h2 => absurd h2 (by omega), fun _ => rfl⟩
  | m + 1, k, hk, n1, h1 => by
    obtain ⟨n1, rfl⟩ : ∃ k, n1 = k + 1 := ⟨n1 - 1, by omega⟩
    obtain ⟨b, t1, t2⟩ := each_S (P := P) (N := N) hC hQ hn ht m (k + 1) (by omega) n1 (by omega)
    have step : Wk_eachLessOneFits_b2 N (lp (fun kk (x : Int32) => Wk_eachLessOneFits_b2 N kk S (nI n) x) n1) S (nI n) (nI k) = if bit n k = 1 ∧ hB T Q (n - 2 ^ k) = false then some 0 else lp (fun kk (x : Int32) => Wk_eachLessOneFits_b2 N kk S (nI n) x) n1 (nI (k + 1)) := by
      generalize lp (fun kk (x : Int32) => Wk_eachLessOneFits_b2 N kk S (nI n) x) n1 = K
      unfold Wk_eachLessOneFits_b2
      rw [hC, if_neg (by rw [le_nI _ _ (by omega) (by omega)]; omega), Ch_isIn_eq S hn (by omega), bd1_some, if_bI]
      by_cases c : bit n k = 1
      · have hlt : n - 2 ^ k < 1024 := Nat.lt_of_le_of_lt (Nat.sub_le _ _) hn
        rw [if_pos (decide_eq_true c), (off_all k (by omega) n hn c).1, inb_nI (j := n - 2 ^ k) (n := 1024) hlt (by omega), ck_true, cl (n - 2 ^ k) (Nat.lt_trans hlt (by decide)), ht k (by omega) c, nm_eq, nI_1]
        cases q : hB T Q (n - 2 ^ k)
        · rw [if_pos (show bI false = 0 by rfl), if_pos (show bit n k = 1 ∧ false = false from ⟨c, rfl⟩)]
        · rw [if_neg (show ¬ bI true = 0 by decide), if_neg (show ¬ (bit n k = 1 ∧ true = false) from fun h => Bool.noConfusion h.2)]
      · rw [if_neg (show ¬ decide (bit n k = 1) = true from fun h => c (of_decide_eq_true h)), if_neg (show ¬ (bit n k = 1 ∧ hB T Q (n - 2 ^ k) = false) from fun h => c h.1), nm_eq, nI_1]
    show ∃ b, Wk_eachLessOneFits_b2 N (lp (fun kk (x : Int32) => Wk_eachLessOneFits_b2 N kk S (nI n) x) n1) S (nI n) (nI k) = some (bI b) ∧ _
    rw [step]
    by_cases c : bit n k = 1 ∧ hB T Q (n - 2 ^ k) = false
    · rw [if_pos c]
      refine ⟨false, rfl, fun h => Bool.noConfusion h, fun h => ?_⟩
      have := hB_t.mpr (h k (Nat.le_refl k) (by omega) c.1)
      rw [c.2] at this; exact this
    · rw [if_neg c]
      refine ⟨b, t1, t2.trans ⟨fun h i h1 h2 h3 => ?_, fun h i h1 h2 h3 => h i (by omega) h2 h3⟩⟩
      by_cases e : i = k
      · subst e
        apply hB_t.mp
        cases q : hB T Q (n - 2 ^ i)
        · exact absurd ⟨h3, q⟩ c
        · rfl
      · exact h i (by omega) h2 h3
theorem isSet_eq (S : St) {n : Nat} (hn : n < 1024) : Wk_isSet S (nI n) = some 1 := by
  unfold Wk_isSet
  rw [if_neg (show ¬ nI n < 0 by show ¬ nI n < nI 0; rw [lt_nI _ _ (by omega) (by omega)]; omega), if_neg (show ¬ 1024 ≤ nI n by show ¬ nI 1024 ≤ nI n; rw [le_nI _ _ (by omega) (by omega)]; omega)]
/-- within a set -/
def wth (n O : Nat) : Prop := nI n &&& (nI O ^^^ -1) = 0
theorem wth_off {n O i : Nat} (hn : n < 1024) (hi : i < 10) (hb : bit n i = 1) (h : wth n O) : wth (n - 2 ^ i) O := by
  unfold wth at h ⊢
  rw [← (off_all i hi n hn hb).2, Int32.and_assoc, Int32.and_comm _ (nI O ^^^ -1), ← Int32.and_assoc, h, Int32.zero_and]
theorem fill_S {S T : St} {P Q N O : Nat} (hC : Core S T) (hNn : iN T P Q) (hPr : iPr T P Q) (hO : O < 2 ^ Q) (hN : 1100 < N) : ∃ S', Wk_fillFits N S (nI O) = some S' ∧ Core S' T ∧ ∀ n, n ≤ O → wth n O → gi S' 28 n = bI (hB T Q n) := by
  have hQ10 := hNn.2.2.2
  have hO10 : O < 1024 := Nat.lt_of_lt_of_le hO (pow_le hQ10)
  unfold Wk_fillFits Wk_fillFits_L2
  have hs : ∀ j (x : St × Int32), j < O + 1 → (fun j (x : St × Int32) => ∃ Sj, x = (Sj, nI j) ∧ Core Sj T ∧ ∀ n, n < j → wth n O → gi Sj 28 n = bI (hB T Q n)) j x → ∃ x', (∀ k, (fun k (x : St × Int32) => Wk_fillFits_b2 N k x.1 (nI O) x.2) k x = k x') ∧ (fun j (x : St × Int32) => ∃ Sj, x = (Sj, nI j) ∧ Core Sj T ∧ ∀ n, n < j → wth n O → gi Sj 28 n = bI (hB T Q n)) (j + 1) x' := by
    rintro j x hj ⟨Sj, rfl, h1, h2⟩
    have nlt : ¬ nI O < nI j := by rw [lt_nI _ _ (by omega) (by omega)]; omega
    by_cases hw : wth j O
    · have hw' : nI j &&& (nI O ^^^ -1) = 0 := hw
      obtain ⟨b1, s1, s2⟩ := each_S (S := Sj) (T := T) (P := P) (N := N) (Q := Q) (n := j) ((h1.1 1 10 rfl).trans hNn.2.2.1) hQ10 (by omega) (fun i hi hb => h2 _ (by
        have q1 := (off_bit i (by omega) j (by omega) hb).1
        have q2 := Nat.two_pow_pos i
        omega) (wth_off (by omega) (by omega) hb hw)) Q 0 (by omega) N (by omega)
      obtain ⟨b2, t1, t2⟩ := has_S (S := Sj) (N := N) (n := j) h1 hNn hPr (by omega) (by omega)
      have hstep := HW_step (n := j) hPr hQ10 (by omega)
      have hv : hB T Q j = (b1 && b2) := by
        cases c1 : b1
        · cases q : hB T Q j
          · rfl
          · have := s2.mpr (fun i _ hi hb => (hstep.mp (hB_t.mp q)).1 i hi hb)
            rw [c1] at this; exact Bool.noConfusion this
        · cases c2 : b2
          · cases q : hB T Q j
            · rfl
            · have := t2.mpr (hstep.mp (hB_t.mp q)).2
              rw [c2] at this; exact Bool.noConfusion this
          · exact hB_t.mpr (hstep.mpr ⟨fun i hi hb => s2.mp c1 i (Nat.zero_le _) hi hb, t2.mp c2⟩)
      refine ⟨(si Sj 28 j (bI (hB T Q j)), nI (j + 1)), fun k => ?_, _, rfl, h1.off (fun _ => rfl) (Off.si 28 j _ Sj), fun n hn hwn => ?_⟩
      · dsimp only
        unfold Wk_fillFits_b2
        rw [if_neg nlt, isSet_eq Sj (by omega), bd1_some, if_neg (by decide : ¬ (1 : Int32) = 0), if_pos hw', show Wk_eachLessOneFits N Sj (nI j) = _ from s1, t1, bd1_some, bd1_some, inb_nI (j := j) (n := 1024) (by omega) (by omega)]
        simp only [ck_true, cl j (show j < 5000 by omega), hv, nm_eq, nI_1]
        cases b1 <;> cases b2 <;> rfl
      · rw [gi_si, if_pos rfl]
        by_cases e : n = j
        · rw [if_pos e, e]
        · rw [if_neg e]; exact h2 n (by omega) hwn
    · have hw' : ¬ nI j &&& (nI O ^^^ -1) = 0 := hw
      refine ⟨(Sj, nI (j + 1)), fun k => ?_, _, rfl, h1, fun n hn hwn => ?_⟩
      · dsimp only
        unfold Wk_fillFits_b2
        rw [if_neg nlt, isSet_eq Sj (by omega), bd1_some, if_neg (by decide : ¬ (1 : Int32) = 0), if_neg hw', nm_eq, nI_1]
      · have : n ≠ j := fun q => hw (by rw [← q]; exact hwn)
        exact h2 n (by omega) hwn
  obtain ⟨x, k, e, Sj, rfl, h1, h2⟩ := lp_go _ (O + 1) hs N 0 (S, 0) (by omega) (by omega) ⟨S, rfl, hC, fun n hn => absurd hn (Nat.not_lt_zero n)⟩
  refine ⟨Sj, ?_, h1, fun n hn hw => h2 n (by omega) hw⟩
  rw [e]
  dsimp only
  unfold Wk_fillFits_b2
  rw [if_pos (by rw [lt_nI _ _ (by omega) (by omega)]; omega)]
