def bf (ok : Nat → Bool) (w : Nat → Nat) : Nat → Option Nat
  | 0 => none
  | s + 1 => if ok s = true then (match bf ok w s with
    | none => some s
    | some b => if w s < w b then some s else some b) else bf ok w s
theorem bf_lt (ok : Nat → Bool) (w : Nat → Nat) : ∀ s b, bf ok w s = some b → b < s
  | 0, b, h => by cases h
  | s + 1, b, h => by
    unfold bf at h
    by_cases hk : ok s = true
    · rw [if_pos hk] at h
      cases hb : bf ok w s with
      | none => rw [hb] at h; cases h; omega
      | some b' =>
        have := bf_lt ok w s b' hb
        rw [hb] at h
        dsimp only at h
        split at h <;> (cases h; omega)
    · rw [if_neg hk] at h
      have := bf_lt ok w s b h
      omega
theorem bf_ext (ok : Nat → Bool) (w : Nat → Nat) {m : Nat} : ∀ n, (∀ s, m ≤ s → s < m + n → ok s = false) → bf ok w (m + n) = bf ok w m
  | 0, _ => rfl
  | n + 1, h => by
    show (if ok (m + n) = true then _ else bf ok w (m + n)) = _
    rw [h (m + n) (by omega) (by omega), bf_ext ok w n (fun s h1 h2 => h s h1 (by omega))]; rfl
def oI : Option Nat → Int32
  | none => -2
  | some b => nI b
def oW (x : Int32) (w : Nat → Nat) : Option Nat → Int32
  | none => x
  | some b => nI (w b)
theorem oI_none : oI none = -2 := of_eq_true (eq_self _)
theorem oI_some (b : Nat) : oI (some b) = nI b := of_eq_true (eq_self _)
theorem oW_none (x : Int32) (w : Nat → Nat) : oW x w none = x := of_eq_true (eq_self _)
theorem oW_some (x : Int32) (w : Nat → Nat) (b : Nat) : oW x w (some b) = nI (w b) := of_eq_true (eq_self _)
theorem nb0 (b : Nat) (h : b < 5000) : ¬ nI b < (0 : Int32) := by show ¬ nI b < nI 0; rw [lt_nI _ _ (by omega) (by omega)]; omega
theorem popU_le (n : Nat) : ∀ j, popU n j ≤ j
  | 0 => Nat.le_refl _
  | j + 1 => by
    have := popU_le n j
    have := bit_lt n j
    unfold popU; omega
theorem pop_le (n : Nat) : pop n ≤ 10 := popU_le n 10
theorem fewest_S {S T : St} {P Q N : Nat} (hX : XP S T P Q) {o : Nat} (ho : o < P) (d : Int32) (hf : 1025 < N) : Kp_fewestSet N S (nI o) d = some (oI (bf (ltb T Q o d) pop (oo T Q o d + 1))) := by
  have hQ10 := hX.2.1.2.2.2
  have hO := oo_lt (T := T) (o := o) (d := d) hQ10
  unfold Kp_fewestSet Kp_fewestSet_L29
  rw [Kp_mayKeep_eq hX.1 hX.2.1 o d (by omega), bd1_some, Sm_lengthOn_eq hX ho d (by omega), bd1_some]
  refine lp_run (fun j => (oI (bf (ltb T Q o d) pop j), oW 11 pop (bf (ltb T Q o d) pop j), nI j)) (oo T Q o d + 1) (fun k => ?_) N 0 (by omega) (by omega) (fun j _ hj k => ?_)
  · dsimp only
    unfold Kp_fewestSet_b29
    rw [if_pos (by rw [lt_nI _ _ (by omega) (by omega)]; omega)]
  · dsimp only
    unfold Kp_fewestSet_b29
    rw [if_neg (by rw [lt_nI _ _ (by omega) (by omega)]; omega), Kp_letsRide_eq hX ho d (by omega) (by omega), bd1_some, if_bI, In_bitCount_eq S (n := j) (by omega), bd1_some, bd1_some]
    have hp := pop_le j
    simp only [nm_eq, nI_1, bf]
    by_cases h : ltb T Q o d j = true
    · rw [if_pos h, if_pos h]
      cases hb : bf (ltb T Q o d) pop j with
      | none =>
        simp only [oI_none, oI_some, oW_none, oW_some]
        rw [if_neg (by show ¬ nI 11 ≤ nI (pop j); rw [le_nI _ _ (by omega) (by omega)]; omega)]
      | some b =>
        have hq := pop_le b
        simp only [oI_none, oI_some, oW_none, oW_some]
        by_cases hlt : pop j < pop b
        · have hc : ¬ nI (pop b) ≤ nI (pop j) := by rw [le_nI _ _ (by omega) (by omega)]; omega
          rw [if_neg hc, if_pos hlt]; rfl
        · have hc : nI (pop b) ≤ nI (pop j) := by rw [le_nI _ _ (by omega) (by omega)]; omega
          rw [if_pos hc, if_neg hlt]; rfl
    · rw [if_neg h, if_neg h]
theorem fewest_V {V T : St} {P Q N : Nat} (hM : MP V T P Q) {o : Nat} (ho : o < P) (d : Int32) (w : Int32) (hf : 1025 < N) : Mo_keepBy_L36 N V (nI o) d w (-2, 0) = some (match bf (ltb T Q o d) pop (2 ^ Q) with
    | none => -2
    | some b => if w = 1 then nI b else nI (pop b)) := by
  have hQ10 := hM.2.1.2.2.2
  have hp := pow_le hQ10
  have hq := pow_Q Q hQ10
  generalize 2 ^ Q = M at hp hq ⊢
  unfold Mo_keepBy_L36
  refine lp_run (fun j => (oI (bf (ltb T Q o d) pop j), nI j)) M (fun k => ?_) N 0 (by omega) (by omega) (fun j _ hj k => ?_)
  · dsimp only
    unfold Mo_keepBy_b36
    rw [hM.1.2.1, hM.2.1.2.2.1, hq, if_pos (Int32.le_refl _)]
    cases hb : bf (ltb T Q o d) pop M with
    | none => rfl
    | some b =>
      have hlt := bf_lt _ _ _ _ hb
      simp only [oI_none, oI_some]
      rw [if_neg (nb0 b (by omega)), Mo_bitsOf_eq (N := N) V (n := b) (by omega) (by omega), bd1_some]
      split <;> rfl
  · dsimp only
    unfold Mo_keepBy_b36
    rw [hM.1.2.1, hM.2.1.2.2.1, hq, if_neg (by rw [le_nI _ _ (by omega) (by omega)]; omega), Mo_lets_eq hM ho d (by omega) (by omega), bd1_some, if_bI]
    simp only [nm_eq, nI_1, bf]
    by_cases h : ltb T Q o d j = true
    · rw [if_pos h, if_pos h]
      cases hb : bf (ltb T Q o d) pop j with
      | none =>
        simp only [oI_none, oI_some]
        rw [if_pos (by decide)]
      | some b =>
        have hlt := bf_lt _ _ _ _ hb
        have hpb := pop_le b
        have hpj := pop_le j
        simp only [oI_none, oI_some]
        rw [if_neg (nb0 b (by omega)), Mo_bitsOf_eq (N := N) V (n := b) (by omega) (by omega), Mo_bitsOf_eq (N := N) V (n := j) (by omega) (by omega), bd1_some, bd1_some]
        by_cases hlt2 : pop j < pop b
        · have hc : ¬ nI (pop b) ≤ nI (pop j) := by rw [le_nI _ _ (by omega) (by omega)]; omega
          rw [if_neg hc, if_pos hlt2]; rfl
        · have hc : nI (pop b) ≤ nI (pop j) := by rw [le_nI _ _ (by omega) (by omega)]; omega
          rw [if_pos hc, if_neg hlt2]; rfl
    · rw [if_neg h, if_neg h]
theorem bf_same {T : St} {Q o : Nat} {d : Int32} (hQ : Q ≤ 10) (w : Nat → Nat) : bf (ltb T Q o d) w (oo T Q o d + 1) = bf (ltb T Q o d) w (2 ^ Q) := by
  have hO := oo_lt2 (T := T) (Q := Q) (o := o) (d := d)
  have hp := pow_le hQ
  have := bf_ext (ltb T Q o d) w (m := oo T Q o d + 1) (2 ^ Q - (oo T Q o d + 1)) (fun s h1 h2 => ltb_le hQ (by omega) (by omega))
  rw [show oo T Q o d + 1 + (2 ^ Q - (oo T Q o d + 1)) = 2 ^ Q from by omega] at this
  exact this.symm
theorem nI_ne2 (b : Nat) (h : b < 5000) : ¬ nI b = (-2 : Int32) := fun e => by
  have := congrArg Int32.toInt e; rw [ti _ h] at this; have e2 : (-2 : Int32).toInt = -2 := rfl; omega
theorem RR_keepBy : LS_keepBy RR := by
  rintro S V p1 p2 p3 hRR
  have hRR' := hRR
  obtain ⟨T, P, Q, F, c, a, B, hC, hR⟩ := hRR
  obtain ⟨hN, hPe, hPr, hP, -⟩ := hR
  have hX : XP S T P Q := ⟨hC, hN, hPe, hPr⟩
  have hM : MP V T P Q := ⟨hP, hN, hPe, hPr⟩
  have hQ10 := hN.2.2.2
  unfold Ch_keepBy Mo_keepBy
  simp only [Sm_isOne_eq hC hN, Mo_isOne_eq hP hN, Ch_isDay_eq, Mo_isDay_eq, Ch_isEither_eq, Mo_within_eq, bd1_some, if_bI, Int32.toInt_toInt64, tI0, tI1]
  by_cases h1 : wi p1.toInt 0 ((P : Int) - 1) = true
  · rw [if_pos h1, if_pos h1]
    obtain ⟨o, ho, rfl⟩ := wi_nI h1
    by_cases h2 : wi p2.toInt 0 99 = true
    · rw [if_pos h2, if_pos h2]
      by_cases h3 : wi p3.toInt 0 1 = true
      · rw [if_pos h3, if_pos h3, fewest_S (N := fuel) hX ho p2 (by decide), fewest_V (N := fuel) hM ho p2 p3 (by decide), bd1_some, bf_same hQ10]
        have hp := pow_le hQ10
        cases hb : bf (ltb T Q o p2) pop (2 ^ Q) with
        | none => exact ⟨_, rfl, rfl, hRR'⟩
        | some b =>
          have hlt := bf_lt _ _ _ _ hb
          simp only [oI_none, oI_some]
          rw [if_neg (nI_ne2 b (by omega)), In_bitCount_eq S (n := b) (by omega), bd1_some]
          refine ⟨_, ?_, rfl, hRR'⟩
          split <;> rfl
      · rw [if_neg h3, if_neg h3]; exact ⟨_, rfl, rfl, hRR'⟩
    · rw [if_neg h2, if_neg h2]; exact ⟨_, rfl, rfl, hRR'⟩
  · rw [if_neg h1, if_neg h1]; exact ⟨_, rfl, rfl, hRR'⟩
def wgt (T : St) (Q s : Nat) : Nat := lkN T s Q * 11 + pop s
theorem wgt_le {T : St} {P Q : Nat} (hPr : iPr T P Q) (hQ : Q ≤ 10) (s : Nat) : wgt T Q s ≤ 1000 := by
  have h1 := lkN_le hPr s Q (Nat.le_refl _)
  have h2 := pop_le s
  unfold wgt; omega
theorem weight_S {S T : St} {P Q N : Nat} (hX : XP S T P Q) {s : Nat} (hs : s < 1024) (hf : 10 < N) : Kp_weightOf N S (nI s) = some (nI (wgt T Q s)) := by
  unfold Kp_weightOf wgt
  rw [Sm_linksOf_eq hX hs hf, bd1_some, In_bitCount_eq S hs, bd1_some, show nI (lkN T s Q) * 11 = nI (lkN T s Q * 11) from (Int32.ofNat_mul _ 11).symm, nI_add]
theorem lightest_S {S T : St} {P Q N : Nat} (hX : XP S T P Q) {o : Nat} (ho : o < P) (d : Int32) (hf : 1025 < N) : Kp_lightestSet N S (nI o) d = some (oI (bf (ltb T Q o d) (wgt T Q) (oo T Q o d + 1))) := by
  have hQ10 := hX.2.1.2.2.2
  have hO := oo_lt (T := T) (o := o) (d := d) hQ10
  unfold Kp_lightestSet Kp_lightestSet_L29
  rw [Kp_mayKeep_eq hX.1 hX.2.1 o d (by omega), bd1_some, Sm_lengthOn_eq hX ho d (by omega), bd1_some]
  refine lp_run (fun j => (oI (bf (ltb T Q o d) (wgt T Q) j), oW 2147483647 (wgt T Q) (bf (ltb T Q o d) (wgt T Q) j), nI j)) (oo T Q o d + 1) (fun k => ?_) N 0 (by omega) (by omega) (fun j _ hj k => ?_)
  · dsimp only
    unfold Kp_lightestSet_b29
    rw [if_pos (by rw [lt_nI _ _ (by omega) (by omega)]; omega)]
  · dsimp only
    unfold Kp_lightestSet_b29
    rw [if_neg (by rw [lt_nI _ _ (by omega) (by omega)]; omega), Kp_letsRide_eq hX ho d (by omega) (by omega), bd1_some, if_bI, weight_S hX (s := j) (by omega) (by omega), bd1_some, bd1_some]
    have hp := wgt_le hX.2.2.2 hQ10 j
    simp only [nm_eq, nI_1, bf]
    by_cases h : ltb T Q o d j = true
    · rw [if_pos h, if_pos h]
      cases hb : bf (ltb T Q o d) (wgt T Q) j with
      | none =>
        simp only [oI_none, oI_some, oW_none, oW_some]
        rw [if_neg (by rw [Int32.le_iff_toInt_le, ti _ (by omega), show (2147483647 : Int32).toInt = 2147483647 from rfl]; omega)]
      | some b =>
        have hq := wgt_le hX.2.2.2 hQ10 b
        simp only [oI_none, oI_some, oW_none, oW_some]
        by_cases hlt : wgt T Q j < wgt T Q b
        · have hc : ¬ nI (wgt T Q b) ≤ nI (wgt T Q j) := by rw [le_nI _ _ (by omega) (by omega)]; omega
          rw [if_neg hc, if_pos hlt]; rfl
        · have hc : nI (wgt T Q b) ≤ nI (wgt T Q j) := by rw [le_nI _ _ (by omega) (by omega)]; omega
          rw [if_pos hc, if_neg hlt]; rfl
    · rw [if_neg h, if_neg h]
theorem lightest_V {V T : St} {P Q N : Nat} (hM : MP V T P Q) {o : Nat} (ho : o < P) (d : Int32) (w : Int32) (hf : 1025 < N) : Mo_lightest_L36 N V (nI o) d w (-2, 0) = some (match bf (ltb T Q o d) (wgt T Q) (2 ^ Q) with
    | none => -2
    | some b => if w = 0 then nI b else nI (lkN T b Q)) := by
  have hQ10 := hM.2.1.2.2.2
  have hp := pow_le hQ10
  have hq := pow_Q Q hQ10
  generalize 2 ^ Q = M at hp hq ⊢
  unfold Mo_lightest_L36
  refine lp_run (fun j => (oI (bf (ltb T Q o d) (wgt T Q) j), nI j)) M (fun k => ?_) N 0 (by omega) (by omega) (fun j _ hj k => ?_)
  · dsimp only
    unfold Mo_lightest_b36
    rw [hM.1.2.1, hM.2.1.2.2.1, hq, if_pos (Int32.le_refl _)]
    cases hb : bf (ltb T Q o d) (wgt T Q) M with
    | none => rfl
    | some b =>
      have hlt := bf_lt _ _ _ _ hb
      simp only [oI_none, oI_some]
      rw [if_neg (nb0 b (by omega)), Mo_linksOf_eq (N := N) hM (s := b) (by omega) (by omega), bd1_some]
      split <;> rfl
  · dsimp only
    unfold Mo_lightest_b36 Mo_lightest_b80 Mo_lightest_b110
    rw [hM.1.2.1, hM.2.1.2.2.1, hq, if_neg (by rw [le_nI _ _ (by omega) (by omega)]; omega), Mo_lets_eq hM ho d (by omega) (by omega), bd1_some, if_bI]
    simp only [nm_eq, nI_1, bf]
    by_cases h : ltb T Q o d j = true
    · rw [if_pos h, if_pos h]
      cases hb : bf (ltb T Q o d) (wgt T Q) j with
      | none =>
        simp only [oI_none, oI_some]
        rw [if_neg (by decide), if_pos (by decide)]
      | some b =>
        have hlt := bf_lt _ _ _ _ hb
        have hpb := pop_le b
        have hpj := pop_le j
        have lb := lkN_le hM.2.2.2 b Q (Nat.le_refl _)
        have lj := lkN_le hM.2.2.2 j Q (Nat.le_refl _)
        simp only [oI_none, oI_some]
        rw [if_pos (by show nI 0 ≤ nI b; rw [le_nI _ _ (by omega) (by omega)]; omega), Mo_linksOf_eq (N := N) hM (s := b) (by omega) (by omega), Mo_linksOf_eq (N := N) hM (s := j) (by omega) (by omega), bd1_some, bd1_some, if_neg (nb0 b (by omega)), Mo_bitsOf_eq (N := N) V (n := b) (by omega) (by omega), Mo_bitsOf_eq (N := N) V (n := j) (by omega) (by omega), bd1_some, bd1_some]
        have es : (nI (lkN T j Q) - nI (lkN T b Q)).toInt = (lkN T j Q : Int) - lkN T b Q := pk_sub_toInt (by omega) (by omega)
        have e0 : (nI (lkN T j Q) - nI (lkN T b Q) = 0) = ((lkN T j Q : Int) - lkN T b Q = 0) := by
          rw [← Int32.toInt_inj, es]; rfl
        simp only [Int32.lt_iff_toInt_lt (x := nI (lkN T j Q) - nI (lkN T b Q)), es, e0, ti0]
        unfold wgt
        by_cases c1 : (lkN T j Q : Int) - lkN T b Q < 0
        · rw [if_pos c1, if_pos (by omega)]; rfl
        · rw [if_neg c1]
          by_cases c2 : (lkN T j Q : Int) - lkN T b Q = 0
          · rw [if_pos c2]
            by_cases c3 : pop j < pop b
            · rw [if_neg (by rw [le_nI _ _ (by omega) (by omega)]; omega), if_pos (by omega)]; rfl
            · rw [if_pos (by rw [le_nI _ _ (by omega) (by omega)]; omega), if_neg (by omega)]; rfl
          · rw [if_neg c2, if_neg (by omega)]; rfl
    · rw [if_neg h, if_neg h]
theorem RR_lightest : LS_lightest RR := by
  rintro S V p1 p2 p3 hRR
  have hRR' := hRR
  obtain ⟨T, P, Q, F, c, a, B, hC, hR⟩ := hRR
  obtain ⟨hN, hPe, hPr, hP, -⟩ := hR
  have hX : XP S T P Q := ⟨hC, hN, hPe, hPr⟩
  have hM : MP V T P Q := ⟨hP, hN, hPe, hPr⟩
  have hQ10 := hN.2.2.2
  unfold Ch_lightest Mo_lightest
  simp only [Sm_isOne_eq hC hN, Mo_isOne_eq hP hN, Ch_isDay_eq, Mo_isDay_eq, Ch_isEither_eq, Mo_within_eq, bd1_some, if_bI, Int32.toInt_toInt64, tI0, tI1]
  by_cases h1 : wi p1.toInt 0 ((P : Int) - 1) = true
  · rw [if_pos h1, if_pos h1]
    obtain ⟨o, ho, rfl⟩ := wi_nI h1
    by_cases h2 : wi p2.toInt 0 99 = true
    · rw [if_pos h2, if_pos h2]
      by_cases h3 : wi p3.toInt 0 1 = true
      · rw [if_pos h3, if_pos h3, lightest_S (N := fuel) hX ho p2 (by decide), lightest_V (N := fuel) hM ho p2 p3 (by decide), bd1_some, bf_same hQ10]
        have hp := pow_le hQ10
        cases hb : bf (ltb T Q o p2) (wgt T Q) (2 ^ Q) with
        | none => exact ⟨_, rfl, rfl, hRR'⟩
        | some b =>
          have hlt := bf_lt _ _ _ _ hb
          simp only [oI_none, oI_some]
          rw [if_neg (nI_ne2 b (by omega)), Sm_linksOf_eq (N := fuel) hX (s := b) (by omega) (by decide), bd1_some]
          refine ⟨_, ?_, rfl, hRR'⟩
          split <;> rfl
      · rw [if_neg h3, if_neg h3]; exact ⟨_, rfl, rfl, hRR'⟩
    · rw [if_neg h2, if_neg h2]; exact ⟨_, rfl, rfl, hRR'⟩
  · rw [if_neg h1, if_neg h1]; exact ⟨_, rfl, rfl, hRR'⟩
