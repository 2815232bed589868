theorem nI_and (a b : Nat) : nI a &&& nI b = nI (a &&& b) := by
  apply Int32.toBitVec_inj.mp
  show BitVec.ofNat 32 a &&& BitVec.ofNat 32 b = BitVec.ofNat 32 (a &&& b)
  exact (BitVec.ofNat_and).symm
theorem and_not0 (x y : Int32) (h : x &&& (y ^^^ -1) = 0) : x &&& y = x := by
  have h2 : x.toBitVec &&& (y.toBitVec ^^^ BitVec.allOnes 32) = 0#32 := congrArg Int32.toBitVec h
  apply Int32.toBitVec_inj.mp
  show x.toBitVec &&& y.toBitVec = x.toBitVec
  generalize x.toBitVec = X at *
  generalize y.toBitVec = Y at *
  apply BitVec.eq_of_getLsbD_eq
  intro i hi
  have h3 := congrArg (fun z => z.getLsbD i) h2
  rw [BitVec.getLsbD_and, BitVec.getLsbD_xor, BitVec.getLsbD_allOnes, BitVec.getLsbD_zero] at h3
  rw [BitVec.getLsbD_and]
  simp only [hi, decide_true] at h3
  cases hx : X.getLsbD i <;> cases hy : Y.getLsbD i <;> simp [hx, hy] at h3 ⊢
theorem sub_le {s O : Nat} (hs : s < 1024) (hO : O < 1024) (h : nI s &&& (nI O ^^^ -1) = 0) : s ≤ O := by
  have := and_not0 _ _ h
  rw [nI_and] at this
  have hb : s &&& O ≤ O := Nat.and_le_right
  rw [eq_nI _ _ (by omega) (by omega)] at this
  omega
theorem bit_setU (f : Nat → Bool) : ∀ j i, Nat.testBit (setU f j) i = (decide (i < j) && f i)
  | 0, i => by simp [setU]
  | j + 1, i => by
    have hlt := setU_lt f j
    have e : setU f (j + 1) = setU f j + (if f j = true then 2 ^ j else 0) := rfl
    rw [e]
    by_cases hf : f j = true
    · rw [if_pos hf, Nat.add_comm]
      rcases Nat.lt_trichotomy i j with h | h | h
      · rw [Nat.testBit_two_pow_add_gt h, bit_setU f j i]
        have h2 : i < j + 1 := by omega
        simp [h, h2]
      · subst h
        rw [Nat.testBit_two_pow_add_eq, bit_setU f i i]
        simp [hf]
      · rw [Nat.testBit_lt_two_pow]
        · have : ¬ i < j + 1 := by omega
          simp [this]
        · have h1 : 2 ^ (j + 1) ≤ 2 ^ i := Nat.pow_le_pow_right (by decide) (by omega)
          rw [Nat.pow_succ] at h1; omega
    · rw [if_neg hf, Nat.add_zero, bit_setU f j i]
      have hf' : f j = false := by simpa using hf
      by_cases h : i = j
      · subst h; simp [hf']
      · by_cases h1 : i < j
        · have h2 : i < j + 1 := by omega
          simp [h1, h2]
        · have h2 : ¬ i < j + 1 := by omega
          simp [h1, h2]
theorem setU_and (f g : Nat → Bool) (j : Nat) : setU f j &&& setU g j = setU (fun p => f p && g p) j := by
  apply Nat.eq_of_testBit_eq
  intro i
  rw [Nat.testBit_and, bit_setU, bit_setU, bit_setU]
  cases decide (i < j) <;> cases f i <;> cases g i <;> rfl
theorem Sm_promisesOf_eq {S T : St} {P Q N : Nat} (hC : Core S T) (hN : iN T P Q) (o : Int32) (hf : 10 < N) : Sm_promisesOf N S o = some (nI (setU (fun p => decide (gi T 14 p = o)) Q)) := by
  obtain ⟨-, -, hQ, hQ10⟩ := hN
  unfold Sm_promisesOf Sm_promisesOf_L4
  refine lp_run (fun j => (nI (setU (fun p => decide (gi T 14 p = o)) j), nI j)) Q (fun k => ?_) N 0 (by omega) (by omega) (fun j _ hj k => ?_)
  · unfold Sm_promisesOf_b4
    rw [hC.1 1 10 rfl, hQ, if_pos (by rw [le_nI _ _ (by omega) (by omega)]; exact Nat.le_refl _)]
  · unfold Sm_promisesOf_b4
    dsimp only
    rw [hC.1 1 10 rfl, hQ, if_neg (by rw [le_nI _ _ (by omega) (by omega)]; omega), inb_nI (j := j) (n := 10) (by omega) (by omega), ck_true, cl j (by omega), hC.g 14 (fun _ => rfl), or_all j (by omega) _ (setU_lt _ j)]
    simp only [nm_eq, nI_1, setU]
    by_cases h : gi T 14 j = o <;> simp [h]
/-- his open ones -/
def oo (T : St) (Q o : Nat) (d : Int32) : Nat := setU (fun p => decide (gi T 14 p = nI o) && opn T p d) Q
theorem oo_lt {T : St} {Q o : Nat} {d : Int32} (hQ : Q ≤ 10) : oo T Q o d < 1024 := setU_lt10 _ hQ
theorem oo_lt2 {T : St} {Q o : Nat} {d : Int32} : oo T Q o d < 2 ^ Q := setU_lt _ Q
theorem Kp_mayKeep_eq {S T : St} {P Q N : Nat} (hC : Core S T) (hN : iN T P Q) (o : Nat) (d : Int32) (hf : 10 < N) : Kp_mayKeep N S (nI o) d = some (nI (oo T Q o d)) := by
  unfold Kp_mayKeep oo
  rw [Sm_promisesOf_eq hC hN _ hf, bd1_some, Sm_openOnes_eq hC hN _ hf, bd1_some, nI_and, setU_and]
theorem Mo_ownOpen_eq {V T : St} {P Q N : Nat} (hM : MP V T P Q) (o : Nat) (d : Int32) (hf : 10 < N) : Mo_ownOpen N V (nI o) d = some (nI (oo T Q o d)) := by
  have hR := hM.1
  obtain ⟨-, -, hQ, hQ10⟩ := hM.2.1
  unfold Mo_ownOpen Mo_ownOpen_L5 oo
  refine lp_run (fun j => (nI (setU (fun p => decide (gi T 14 p = nI o) && opn T p d) j), nI j)) Q (fun k => ?_) N 0 (by omega) (by omega) (fun j _ hj k => ?_)
  · unfold Mo_ownOpen_b5
    rw [hR.2.1, hQ, if_pos (by rw [le_nI _ _ (by omega) (by omega)]; exact Nat.le_refl _)]
  · unfold Mo_ownOpen_b5 Mo_ownOpen_b43
    dsimp only
    rw [hR.2.1, hQ, if_neg (by rw [le_nI _ _ (by omega) (by omega)]; omega), inb_nI (j := j) (n := 10) (by omega) (by omega), ck_true, cl j (by omega), (hR.2.2.2 j (by omega)).1, Mo_isOpen_eq hM hj, bd1_some, if_bI, or_all j (by omega) _ (setU_lt _ j)]
    simp only [nm_eq, nI_1, setU, Int32.or_zero]
    by_cases h : gi T 14 j = nI o <;> by_cases h2 : opn T j d = true <;> simp [h, h2]
def lnN (T : St) (j : Nat) : Nat := (gi T 17 j).toNatClampNeg
def lkN (T : St) (s : Nat) : Nat → Nat
  | 0 => 0
  | j + 1 => lkN T s j + (if bit s j = 1 then lnN T j else 0)
theorem lnN_ok {T : St} {P Q : Nat} (hPr : iPr T P Q) {j : Nat} (hj : j < Q) : gi T 17 j = nI (lnN T j) ∧ 1 ≤ lnN T j ∧ lnN T j ≤ 9 := by
  obtain ⟨-, -, ⟨h1, h2⟩, -⟩ := hPr j hj
  obtain ⟨e, e2⟩ := i32_nI (x := gi T 17 j) (by omega)
  exact ⟨e, by unfold lnN; omega, by unfold lnN; omega⟩
theorem lkN_le {T : St} {P Q : Nat} (hPr : iPr T P Q) (s : Nat) : ∀ j, j ≤ Q → lkN T s j ≤ 9 * j
  | 0, _ => Nat.zero_le _
  | j + 1, h => by
    have := lkN_le hPr s j (by omega)
    have := (lnN_ok hPr (j := j) (by omega)).2.2
    unfold lkN; split <;> omega
theorem Sm_linksOf_eq {S T : St} {P Q N : Nat} (hX : XP S T P Q) {s : Nat} (hs : s < 1024) (hf : 10 < N) : Sm_linksOf N S (nI s) = some (nI (lkN T s Q)) := by
  obtain ⟨hC, hN, -, hPr⟩ := hX
  obtain ⟨-, -, hQ, hQ10⟩ := hN
  unfold Sm_linksOf Sm_linksOf_L4
  refine lp_run (fun j => (nI (lkN T s j), nI j)) Q (fun k => ?_) N 0 (by omega) (by omega) (fun j _ hj k => ?_)
  · unfold Sm_linksOf_b4
    rw [hC.1 1 10 rfl, hQ, if_pos (by rw [le_nI _ _ (by omega) (by omega)]; exact Nat.le_refl _)]
  · unfold Sm_linksOf_b4
    dsimp only
    rw [hC.1 1 10 rfl, hQ, if_neg (by rw [le_nI _ _ (by omega) (by omega)]; omega), Ch_isIn_eq S hs (by omega), bd1_some, if_bI, inb_nI (j := j) (n := 10) (by omega) (by omega), ck_true, cl j (by omega), hC.g 17 (fun _ => rfl), (lnN_ok hPr hj).1]
    simp only [nm_eq, nI_1, nI_add, lkN]
    by_cases h : bit s j = 1 <;> simp [h]
theorem Mo_linksOf_eq {V T : St} {P Q N : Nat} (hM : MP V T P Q) {s : Nat} (hs : s < 1024) (hf : 10 < N) : Mo_linksOf N V (nI s) = some (nI (lkN T s Q)) := by
  obtain ⟨hR, hN, -, hPr⟩ := hM
  obtain ⟨-, -, hQ, hQ10⟩ := hN
  unfold Mo_linksOf Mo_linksOf_L4
  refine lp_run (fun j => (nI (lkN T s j), nI j)) Q (fun k => ?_) N 0 (by omega) (by omega) (fun j _ hj k => ?_)
  · unfold Mo_linksOf_b4
    rw [hR.2.1, hQ, if_pos (by rw [le_nI _ _ (by omega) (by omega)]; exact Nat.le_refl _)]
  · unfold Mo_linksOf_b4
    dsimp only
    rw [hR.2.1, hQ, if_neg (by rw [le_nI _ _ (by omega) (by omega)]; omega), Mo_isIn_eq V hs (by omega), bd1_some, if_bI, a28, inb_nI (j := 28 + j) (n := 58) (by omega) (by omega), ck_true, cl (28 + j) (by omega), (hR.2.2.2 j (by omega)).2.2.2.1, (lnN_ok hPr hj).1]
    simp only [nm_eq, nI_1, nI_add, lkN, show (0 : Int32) = nI 0 from rfl]
    by_cases h : bit s j = 1 <;> simp [h]
/-- whether a set lets him ride -/
def ltb (T : St) (Q o : Nat) (d : Int32) (s : Nat) : Bool := decide (nI s &&& (nI (oo T Q o d) ^^^ -1) = 0) && gor T o (lenU T o d Q - nI (lkN T s Q))
theorem Kp_letsRide_eq {S T : St} {P Q N : Nat} (hX : XP S T P Q) {o : Nat} (ho : o < P) (d : Int32) {s : Nat} (hs : s < 1024) (hf : 10 < N) : Kp_letsRide N S (nI s) (nI (oo T Q o d)) (nI o) (lenU T o d Q) = some (bI (ltb T Q o d s)) := by
  have hP6 := hX.2.1.2.1
  unfold Kp_letsRide ltb
  rw [Sm_linksOf_eq hX hs hf, bd1_some, Sm_goesRound_eq hX.1 (by omega), bd1_some, if_bI]
  by_cases h1 : nI s &&& (nI (oo T Q o d) ^^^ -1) = 0
  · rw [if_pos h1, decide_eq_true h1, Bool.true_and]
    cases gor T o (lenU T o d Q - nI (lkN T s Q)) <;> rfl
  · rw [if_neg h1, decide_eq_false h1]; rfl
theorem Mo_lets_eq {V T : St} {P Q N : Nat} (hM : MP V T P Q) {o : Nat} (ho : o < P) (d : Int32) {s : Nat} (hs : s < 1024) (hf : 10 < N) : Mo_lets N V (nI o) d (nI s) = some (bI (ltb T Q o d s)) := by
  have hP6 := hM.2.1.2.1
  unfold Mo_lets ltb
  rw [Mo_ownOpen_eq hM o d hf, bd1_some, Mo_chainOf_eq hM ho d hf, bd1_some, Mo_linksOf_eq hM hs hf, bd1_some, Mo_goesRound_eq hM.1 (by omega), bd1_some, if_bI]
  by_cases h1 : nI s &&& (nI (oo T Q o d) ^^^ -1) = 0
  · rw [if_pos h1, decide_eq_true h1, Bool.true_and]
    cases gor T o (lenU T o d Q - nI (lkN T s Q)) <;> rfl
  · rw [if_neg h1, decide_eq_false h1]; rfl
theorem ltb_le {T : St} {Q o : Nat} {d : Int32} (hQ : Q ≤ 10) {s : Nat} (hs : s < 1024) (h : oo T Q o d < s) : ltb T Q o d s = false := by
  have : ¬ nI s &&& (nI (oo T Q o d) ^^^ -1) = 0 := fun e => by have := sub_le hs (oo_lt hQ) e; omega
  unfold ltb; rw [decide_eq_false this]; rfl
theorem cnt_ext (f : Nat → Bool) {m : Nat} : ∀ n, (∀ s, m ≤ s → s < m + n → f s = false) → cnt f (m + n) = cnt f m
  | 0, _ => rfl
  | n + 1, h => by
    show cnt f (m + n) + (if f (m + n) = true then 1 else 0) = cnt f m
    rw [h (m + n) (by omega) (by omega), cnt_ext f n (fun s h1 h2 => h s h1 (by omega))]; rfl
theorem pow_Q : ∀ Q, Q ≤ 10 → (1 : Int32) <<< (nI Q &&& 31) = nI (2 ^ Q) := by decide +kernel
theorem pow_le {Q : Nat} (h : Q ≤ 10) : 2 ^ Q ≤ 1024 := Nat.pow_le_pow_right (by decide) h
theorem ways_S {S T : St} {P Q N : Nat} (hX : XP S T P Q) {o : Nat} (ho : o < P) (d : Int32) (hf : 1025 < N) : Kp_howManySets N S (nI o) d = some (nI (cnt (ltb T Q o d) (oo T Q o d + 1))) := by
  have hQ10 := hX.2.1.2.2.2
  have hO := oo_lt (T := T) (o := o) (d := d) hQ10
  unfold Kp_howManySets Kp_howManySets_L24
  rw [Kp_mayKeep_eq hX.1 hX.2.1 o d (by omega), bd1_some, Sm_lengthOn_eq hX ho d (by omega), bd1_some]
  refine lp_run (fun j => (nI (cnt (ltb T Q o d) j), nI j)) (oo T Q o d + 1) (fun k => ?_) N 0 (by omega) (by omega) (fun j _ hj k => ?_)
  · unfold Kp_howManySets_b24
    rw [if_pos (by rw [lt_nI _ _ (by omega) (by omega)]; omega)]
  · unfold Kp_howManySets_b24
    dsimp only
    rw [if_neg (by rw [lt_nI _ _ (by omega) (by omega)]; omega), Kp_letsRide_eq hX ho d (by omega) (by omega), bd1_some, if_bI]
    simp only [nm_eq, nI_1, cnt]
    by_cases h : ltb T Q o d j = true <;> simp [h]
theorem ways_V {V T : St} {P Q N : Nat} (hM : MP V T P Q) {o : Nat} (ho : o < P) (d : Int32) (hf : 1025 < N) : Mo_ways_L24 N V (nI o) d (0, 0) = some (nI (cnt (ltb T Q o d) (2 ^ Q))) := by
  have hQ10 := hM.2.1.2.2.2
  have hp := pow_le hQ10
  have hq := pow_Q Q hQ10
  generalize 2 ^ Q = M at hp hq ⊢
  unfold Mo_ways_L24
  refine lp_run (fun j => (nI (cnt (ltb T Q o d) j), nI j)) M (fun k => ?_) N 0 (by omega) (by omega) (fun j _ hj k => ?_)
  · unfold Mo_ways_b24
    rw [hM.1.2.1, hM.2.1.2.2.1, hq, if_pos (Int32.le_refl _)]
  · unfold Mo_ways_b24
    dsimp only
    rw [hM.1.2.1, hM.2.1.2.2.1, hq, if_neg (by rw [le_nI _ _ (by omega) (by omega)]; omega), Mo_lets_eq hM ho d (by omega) (by omega), bd1_some, if_bI]
    simp only [nm_eq, nI_1, cnt]
    by_cases h : ltb T Q o d j = true <;> simp [h]
theorem RR_ways : LS_ways RR := by
  rintro S V p1 p2 hRR
  have hRR' := hRR
  obtain ⟨T, P, Q, F, c, a, B, hC, hR⟩ := hRR
  obtain ⟨hN, hPe, hPr, hP, -⟩ := hR
  have hX : XP S T P Q := ⟨hC, hN, hPe, hPr⟩
  have hM : MP V T P Q := ⟨hP, hN, hPe, hPr⟩
  have hQ10 := hN.2.2.2
  unfold Ch_ways Mo_ways
  simp only [Sm_isOne_eq hC hN, Mo_isOne_eq hP hN, Ch_isDay_eq, Mo_isDay_eq, bd1_some, if_bI, Int32.toInt_toInt64]
  by_cases h1 : wi p1.toInt 0 ((P : Int) - 1) = true
  · rw [if_pos h1, if_pos h1]
    obtain ⟨o, ho, rfl⟩ := wi_nI h1
    by_cases h2 : wi p2.toInt 0 99 = true
    · rw [if_pos h2, if_pos h2, ways_S (N := fuel) hX ho p2 (by decide), ways_V (N := fuel) hM ho p2 (by decide), bd1_some]
      have hO := oo_lt2 (T := T) (Q := Q) (o := o) (d := p2)
      have hp := pow_le hQ10
      have := cnt_ext (ltb T Q o p2) (m := oo T Q o p2 + 1) (2 ^ Q - (oo T Q o p2 + 1)) (fun s h1 h2 => ltb_le hQ10 (by omega) (by omega))
      rw [show oo T Q o p2 + 1 + (2 ^ Q - (oo T Q o p2 + 1)) = 2 ^ Q from by omega] at this
      rw [this]
      exact ⟨_, rfl, rfl, hRR'⟩
    · rw [if_neg h2, if_neg h2]; exact ⟨_, rfl, rfl, hRR'⟩
  · rw [if_neg h1, if_neg h1]; exact ⟨_, rfl, rfl, hRR'⟩
