/-- whether one of the places from p on, m of them, is so -/
def anf (f : Nat → Bool) : Nat → Nat → Bool
  | _, 0 => false
  | p, m + 1 => f p || anf f (p + 1) m
def ff (f : Nat → Bool) : Nat → Nat → Option Nat
  | _, 0 => none
  | p, m + 1 => if f p = true then some p else ff f (p + 1) m
/-- the game: he rides in the end, with r turns to come of n -/
def gm (T : St) (Q o n : Nat) : Nat → Nat → Int32 → Bool
  | 0, _, L => gor T o L
  | r + 1, O, L => if (n - (r + 1)) % 2 = 1 then gm T Q o n r O L && gm T Q o n r O (L + 1) else gm T Q o n r O L || anf (fun p => decide (bit O p = 1) && gm T Q o n r (O - 2 ^ p) (L - gi T 17 p)) 0 Q
theorem par : ∀ t, t < 8 → ((nI t - nI t / 2 * 2 = 1) ↔ (t % 2 = 1)) := by decide +kernel
theorem off_all : ∀ j, j < 10 → ∀ n, n < 1024 → bit n j = 1 → (nI n ^^^ ((1 : Int32) <<< (nI j &&& 31))) = nI (n - 2 ^ j) ∧ (nI n &&& (((1 : Int32) <<< (nI j &&& 31)) ^^^ -1)) = nI (n - 2 ^ j) := by decide +kernel
theorem ends_eq {S T : St} {P Q N o n : Nat} (hX : XP S T P Q) (ho : o < P) (hn : n ≤ 6) (hf : 10 < N) : ∀ r, r ≤ n → ∀ D, r < D → ∀ O, O < 1024 → ∀ L, grp_Kp_endsRiding N D S (nI o) L (nI O) (nI (n - r)) (nI n) = some (bI (gm T Q o n r O L))
  | 0, _, D, hD, O, hO, L => by
    obtain ⟨D, rfl⟩ : ∃ k, D = k + 1 := ⟨D - 1, by omega⟩
    have hP6 := hX.2.1.2.1
    show Kp_endsRiding_B N (grp_Kp_endsRiding N D) S (nI o) L (nI O) (nI (n - 0)) (nI n) = _
    unfold Kp_endsRiding_B
    rw [if_neg (by rw [lt_nI _ _ (by omega) (by omega)]; omega), Sm_goesRound_eq hX.1 (by omega), bd1_some, isB_bI, ck_true]
    rfl
  | r + 1, hr, D, hD, O, hO, L => by
    obtain ⟨D, rfl⟩ : ∃ k, D = k + 1 := ⟨D - 1, by omega⟩
    have ih := ends_eq hX ho hn hf r (by omega) D (by omega)
    have hQ10 := hX.2.1.2.2.2
    have hC := hX.1
    show Kp_endsRiding_B N (grp_Kp_endsRiding N D) S (nI o) L (nI O) (nI (n - (r + 1))) (nI n) = _
    generalize grp_Kp_endsRiding N D = f at ih
    unfold Kp_endsRiding_B
    have e1 : nI (n - (r + 1)) + 1 = nI (n - r) := by rw [nI_1, show n - (r + 1) + 1 = n - r from by omega]
    rw [if_pos (by rw [lt_nI _ _ (by omega) (by omega)]; omega), nm_eq, e1, ih O hO L, bd1_some]
    have eg : gm T Q o n (r + 1) O L = if (n - (r + 1)) % 2 = 1 then gm T Q o n r O L && gm T Q o n r O (L + 1) else gm T Q o n r O L || anf (fun p => decide (bit O p = 1) && gm T Q o n r (O - 2 ^ p) (L - gi T 17 p)) 0 Q := rfl
    rw [eg]
    have pr := par (n - (r + 1)) (by omega)
    by_cases hp : (n - (r + 1)) % 2 = 1
    · rw [if_pos (pr.mpr hp), if_pos hp, if_bI, ih O hO (L + 1), bd1_some, if_bI]
      cases gm T Q o n r O L <;> cases gm T Q o n r O (L + 1) <;> rfl
    · rw [if_neg (fun h => hp (pr.mp h)), if_neg hp]
      have key : ∀ m p, p + m = Q → ∀ n1, m < n1 → ∀ b : Bool, lp (fun k (x : Int32 × Int32) => Kp_endsRiding_b75 N f k S (nI o) L (nI O) (nI n) (nI (n - r)) x.1 x.2) n1 (bI b, nI p) = some (bI (b || anf (fun p => decide (bit O p = 1) && gm T Q o n r (O - 2 ^ p) (L - gi T 17 p)) p m)) := by
        intro m
        induction m with
        | zero =>
          intro p hp n1 h1 b
          obtain ⟨n1, rfl⟩ : ∃ k, n1 = k + 1 := ⟨n1 - 1, by omega⟩
          show Kp_endsRiding_b75 N f _ S (nI o) L (nI O) (nI n) (nI (n - r)) (bI b) (nI p) = _
          unfold Kp_endsRiding_b75
          rw [hC.1 1 10 rfl, hX.2.1.2.2.1, if_pos (by rw [le_nI _ _ (by omega) (by omega)]; omega), isB_bI, ck_true]
          unfold anf; rw [Bool.or_false]
        | succ m ih2 =>
          intro p hp n1 h1 b
          obtain ⟨n1, rfl⟩ : ∃ k, n1 = k + 1 := ⟨n1 - 1, by omega⟩
          have ih3 := ih2 (p + 1) (by omega) n1 (by omega)
          show Kp_endsRiding_b75 N f (lp (fun k (x : Int32 × Int32) => Kp_endsRiding_b75 N f k S (nI o) L (nI O) (nI n) (nI (n - r)) x.1 x.2) n1) S (nI o) L (nI O) (nI n) (nI (n - r)) (bI b) (nI p) = _
          generalize lp (fun k (x : Int32 × Int32) => Kp_endsRiding_b75 N f k S (nI o) L (nI O) (nI n) (nI (n - r)) x.1 x.2) n1 = K at ih3
          unfold Kp_endsRiding_b75
          rw [hC.1 1 10 rfl, hX.2.1.2.2.1, if_neg (by rw [le_nI _ _ (by omega) (by omega)]; omega), if_bI, isB_bI, ck_true, Ch_isIn_eq S hO (by omega), bd1_some, if_bI, inb_nI (j := p) (n := 10) (by omega) (by omega), ck_true, cl p (by omega), hC.g 17 (fun _ => rfl)]
          have i0 := ih3 false
          have i1 := ih3 true
          simp only [bI_t, bI_f] at i0 i1
          have ea : anf (fun p => decide (bit O p = 1) && gm T Q o n r (O - 2 ^ p) (L - gi T 17 p)) p (m + 1) = ((decide (bit O p = 1) && gm T Q o n r (O - 2 ^ p) (L - gi T 17 p)) || anf (fun p => decide (bit O p = 1) && gm T Q o n r (O - 2 ^ p) (L - gi T 17 p)) (p + 1) m) := rfl
          rw [ea]
          simp only [nm_eq, nI_1, i0, i1]
          cases b
          · rw [if_neg (by decide)]
            by_cases hb : bit O p = 1
            · obtain ⟨x1, x2⟩ := off_all p (by omega) O hO hb
              rw [if_pos (decide_eq_true hb), x1, ih _ (Nat.lt_of_le_of_lt (Nat.sub_le _ _) hO) _, bd1_some, if_bI, decide_eq_true hb]
              cases gm T Q o n r (O - 2 ^ p) (L - gi T 17 p)
              · rw [if_neg (by decide)]; rfl
              · rw [if_pos rfl]; rfl
            · rw [if_neg (by rw [decide_eq_false hb]; decide), decide_eq_false hb]; rfl
          · rw [if_pos rfl]; rfl
      exact key Q 0 (by omega) N (by omega) _
theorem wins_eq {V T : St} {P Q N o n : Nat} (hM : MP V T P Q) (ho : o < P) (hn : n ≤ 6) (hf : 10 < N) : ∀ r, r ≤ n → ∀ D, r < D → ∀ O, O < 1024 → ∀ L, grp_Mo_winsFrom N D V (nI o) (nI (n - r)) (nI n) (nI O) L = some (bI (gm T Q o n r O L))
  | 0, _, D, hD, O, hO, L => by
    obtain ⟨D, rfl⟩ : ∃ k, D = k + 1 := ⟨D - 1, by omega⟩
    have hP6 := hM.2.1.2.1
    show Mo_winsFrom_B N (grp_Mo_winsFrom N D) V (nI o) (nI (n - 0)) (nI n) (nI O) L = _
    unfold Mo_winsFrom_B
    rw [Nat.sub_zero, if_pos rfl, Mo_goesRound_eq hM.1 (by omega), bd1_some, isB_bI, ck_true]
    rfl
  | r + 1, hr, D, hD, O, hO, L => by
    obtain ⟨D, rfl⟩ : ∃ k, D = k + 1 := ⟨D - 1, by omega⟩
    have ih := wins_eq hM ho hn hf r (by omega) D (by omega)
    have hQ10 := hM.2.1.2.2.2
    show Mo_winsFrom_B N (grp_Mo_winsFrom N D) V (nI o) (nI (n - (r + 1))) (nI n) (nI O) L = _
    generalize grp_Mo_winsFrom N D = f at ih
    unfold Mo_winsFrom_B
    have e1 : nI (n - (r + 1)) + 1 = nI (n - r) := by rw [nI_1, show n - (r + 1) + 1 = n - r from by omega]
    rw [if_neg (by rw [eq_nI _ _ (by omega) (by omega)]; omega), e1, ih O hO L, bd1_some, ih O hO (L + 1), bd1_some, if_bI, if_bI]
    have eg : gm T Q o n (r + 1) O L = if (n - (r + 1)) % 2 = 1 then gm T Q o n r O L && gm T Q o n r O (L + 1) else gm T Q o n r O L || anf (fun p => decide (bit O p = 1) && gm T Q o n r (O - 2 ^ p) (L - gi T 17 p)) 0 Q := rfl
    rw [eg]
    have pr := par (n - (r + 1)) (by omega)
    by_cases hp : (n - (r + 1)) % 2 = 1
    · rw [if_pos (pr.mpr hp), if_pos hp]
      cases gm T Q o n r O L <;> cases gm T Q o n r O (L + 1) <;> rfl
    · rw [if_neg (fun h => hp (pr.mp h)), if_neg hp]
      have key : ∀ m p, p + m = Q → ∀ n1, m < n1 → lp (fun k (x : Int32) => Mo_winsFrom_b63 N f k V (nI o) (nI (n - (r + 1))) (nI n) (nI O) L x) n1 (nI p) = some (bI (gm T Q o n r O L || anf (fun p => decide (bit O p = 1) && gm T Q o n r (O - 2 ^ p) (L - gi T 17 p)) p m)) := by
        intro m
        induction m with
        | zero =>
          intro p hp n1 h1
          obtain ⟨n1, rfl⟩ : ∃ k, n1 = k + 1 := ⟨n1 - 1, by omega⟩
          show Mo_winsFrom_b63 N f _ V (nI o) (nI (n - (r + 1))) (nI n) (nI O) L (nI p) = _
          unfold Mo_winsFrom_b63
          rw [hM.1.2.1, hM.2.1.2.2.1, if_pos (by rw [le_nI _ _ (by omega) (by omega)]; omega), e1, ih O hO L, bd1_some, isB_bI, ck_true]
          unfold anf; rw [Bool.or_false]
        | succ m ih2 =>
          intro p hp n1 h1
          obtain ⟨n1, rfl⟩ : ∃ k, n1 = k + 1 := ⟨n1 - 1, by omega⟩
          have ih3 := ih2 (p + 1) (by omega) n1 (by omega)
          show Mo_winsFrom_b63 N f (lp (fun k (x : Int32) => Mo_winsFrom_b63 N f k V (nI o) (nI (n - (r + 1))) (nI n) (nI O) L x) n1) V (nI o) (nI (n - (r + 1))) (nI n) (nI O) L (nI p) = _
          generalize lp (fun k (x : Int32) => Mo_winsFrom_b63 N f k V (nI o) (nI (n - (r + 1))) (nI n) (nI O) L x) n1 = K at ih3
          unfold Mo_winsFrom_b63
          rw [hM.1.2.1, hM.2.1.2.2.1, if_neg (by rw [le_nI _ _ (by omega) (by omega)]; omega), Mo_isIn_eq V hO (by omega), bd1_some, if_bI, a28, inb_nI (j := 28 + p) (n := 58) (by omega) (by omega), ck_true, cl (28 + p) (by omega), (hM.1.2.2.2 p (by omega)).2.2.2.1, e1]
          have ea : anf (fun p => decide (bit O p = 1) && gm T Q o n r (O - 2 ^ p) (L - gi T 17 p)) p (m + 1) = ((decide (bit O p = 1) && gm T Q o n r (O - 2 ^ p) (L - gi T 17 p)) || anf (fun p => decide (bit O p = 1) && gm T Q o n r (O - 2 ^ p) (L - gi T 17 p)) (p + 1) m) := rfl
          rw [ea]
          simp only [nm_eq, nI_1, ih3]
          by_cases hb : bit O p = 1
          · obtain ⟨x1, x2⟩ := off_all p (by omega) O hO hb
            rw [if_pos (decide_eq_true hb), x2, ih _ (Nat.lt_of_le_of_lt (Nat.sub_le _ _) hO) _, bd1_some, if_bI, decide_eq_true hb]
            cases gm T Q o n r (O - 2 ^ p) (L - gi T 17 p)
            · rw [if_neg (by decide)]; rfl
            · rw [if_pos rfl]; cases gm T Q o n r O L <;> rfl
          · rw [if_neg (by rw [decide_eq_false hb]; decide), decide_eq_false hb]; rfl
      exact key Q 0 (by omega) N (by omega)
theorem ntz_all : ∀ n, n < 1024 → 0 < n → In_numberOfTrailingZeros S0 (nI n) = some (match ff (fun p => decide (bit n p = 1)) 0 10 with
    | none => 10
    | some p => nI p) := by decide +kernel
theorem ff_ext (f : Nat → Bool) : ∀ m p n, (∀ q, p + m ≤ q → f q = false) → ff f p (m + n) = ff f p m
  | 0, p, n, h => by
    rw [Nat.zero_add]
    have : ∀ n p, (∀ q, p ≤ q → f q = false) → ff f p n = none := by
      intro n
      induction n with
      | zero => intro p _; rfl
      | succ n ih =>
        intro p hq
        unfold ff
        rw [hq p (Nat.le_refl _), if_neg (by decide)]
        exact ih (p + 1) (fun q hq2 => hq q (by omega))
    rw [this n p (fun q hq => h q (by omega))]; rfl
  | m + 1, p, n, h => by
    rw [show m + 1 + n = (m + n) + 1 from by omega]
    unfold ff
    rw [ff_ext f m (p + 1) n (fun q hq => h q (by omega))]
theorem ff_anf (f : Nat → Bool) : ∀ m p, (ff f p m = none ∧ anf f p m = false) ∨ ∃ q, ff f p m = some q ∧ anf f p m = true
  | 0, p => .inl ⟨rfl, rfl⟩
  | m + 1, p => by
    unfold ff anf
    by_cases h : f p = true
    · rw [if_pos h, h]; exact .inr ⟨p, rfl, rfl⟩
    · rw [if_neg h, (by simpa using h : f p = false), Bool.false_or]
      exact ff_anf f m (p + 1)
theorem ff_congr (f g : Nat → Bool) : ∀ m p, (∀ q, p ≤ q → q < p + m → f q = g q) → ff f p m = ff g p m
  | 0, _, _ => rfl
  | m + 1, p, h => by
    unfold ff
    rw [h p (by omega) (by omega), ff_congr f g m (p + 1) (fun q h1 h2 => h q (by omega) (by omega))]
theorem anf_f (f : Nat → Bool) : ∀ m p, anf f p m = false → ∀ q, p ≤ q → q < p + m → f q = false
  | 0, p, _, q, h1, h2 => by omega
  | m + 1, p, h, q, h1, h2 => by
    unfold anf at h
    rw [Bool.or_eq_false_iff] at h
    by_cases e : q = p
    · rw [e]; exact h.1
    · exact anf_f f m (p + 1) h.2 q (by omega) (by omega)
theorem bit_hi {n q Q : Nat} (h : n < 2 ^ Q) (hq : Q ≤ q) : bit n q = 0 := by
  unfold bit
  have : 2 ^ Q ≤ 2 ^ q := Nat.pow_le_pow_right (by decide) hq
  rw [Nat.div_eq_of_lt (by omega)]
/-- the best first turn -/
def bft (T : St) (Q o n O : Nat) (L : Int32) : Int32 := match ff (fun p => decide (bit O p = 1) && gm T Q o n (n - 1) (O - 2 ^ p) (L - gi T 17 p)) 0 Q with
  | some p => nI p
  | none => if O = 0 then 10 else if gm T Q o n (n - 1) O L = true then 10 else match ff (fun p => decide (bit O p = 1)) 0 Q with
    | some p => nI p
    | none => 10
theorem first_S {S T : St} {P Q N o n : Nat} (hX : XP S T P Q) (ho : o < P) (hn1 : 1 ≤ n) (hn : n ≤ 6) (hf : 10 < N) {O : Nat} (hO : O < 2 ^ Q) (L : Int32) : Kp_bestFirstTurn_L22 N S (nI o) (nI n) (nI O) L 0 = some (bft T Q o n O L) := by
  have hQ10 := hX.2.1.2.2.2
  have hC := hX.1
  have hp := pow_le hQ10
  have e1 : ∀ O', O' < 1024 → ∀ L', Kp_endsRiding N N S (nI o) L' (nI O') 1 (nI n) = some (bI (gm T Q o n (n - 1) O' L')) := fun O' h L' => by
    have := ends_eq hX ho hn hf (n - 1) (by omega) N (by omega) O' h L'
    rw [show n - (n - 1) = 1 from by omega] at this
    exact this
  have key : ∀ m p, p + m = Q → ∀ n1, m < n1 → lp (fun k (x : Int32) => Kp_bestFirstTurn_b22 N k S (nI o) (nI n) (nI O) L x) n1 (nI p) = some (match ff (fun p => decide (bit O p = 1) && gm T Q o n (n - 1) (O - 2 ^ p) (L - gi T 17 p)) p m with
    | some p => nI p
    | none => if O = 0 then 10 else if gm T Q o n (n - 1) O L = true then 10 else match ff (fun p => decide (bit O p = 1)) 0 Q with
      | some p => nI p
      | none => 10) := by
    intro m
    induction m with
    | zero =>
      intro p hp n1 h1
      obtain ⟨n1, rfl⟩ : ∃ k, n1 = k + 1 := ⟨n1 - 1, by omega⟩
      show Kp_bestFirstTurn_b22 N _ S (nI o) (nI n) (nI O) L (nI p) = _
      unfold Kp_bestFirstTurn_b22
      rw [show ff (fun p => decide (bit O p = 1) && gm T Q o n (n - 1) (O - 2 ^ p) (L - gi T 17 p)) p 0 = none from rfl, hC.1 1 10 rfl, hX.2.1.2.2.1, if_pos (by rw [le_nI _ _ (by omega) (by omega)]; omega)]
      dsimp only
      by_cases h0 : O = 0
      · rw [if_pos h0, h0]; rfl
      · rw [if_neg h0, if_neg (by show ¬ nI O = nI 0; rw [eq_nI _ _ (by omega) (by omega)]; exact h0), e1 O (by omega) L, bd1_some, if_bI]
        by_cases hg : gm T Q o n (n - 1) O L = true
        · rw [if_pos hg, if_pos hg]
        · rw [if_neg hg, if_neg hg, show In_numberOfTrailingZeros S (nI O) = In_numberOfTrailingZeros S0 (nI O) from rfl, ntz_all O (by omega) (by omega), bd1_some]
          have := ff_ext (fun p => decide (bit O p = 1)) Q 0 (10 - Q) (fun q hq => by rw [bit_hi hO (by omega)]; rfl)
          rw [show Q + (10 - Q) = 10 from by omega] at this
          rw [this]
          cases ff (fun p => decide (bit O p = 1)) 0 Q <;> rfl
    | succ m ih2 =>
      intro p hp n1 h1
      obtain ⟨n1, rfl⟩ : ∃ k, n1 = k + 1 := ⟨n1 - 1, by omega⟩
      have ih3 := ih2 (p + 1) (by omega) n1 (by omega)
      show Kp_bestFirstTurn_b22 N (lp (fun k (x : Int32) => Kp_bestFirstTurn_b22 N k S (nI o) (nI n) (nI O) L x) n1) S (nI o) (nI n) (nI O) L (nI p) = _
      generalize lp (fun k (x : Int32) => Kp_bestFirstTurn_b22 N k S (nI o) (nI n) (nI O) L x) n1 = K at ih3
      unfold Kp_bestFirstTurn_b22
      rw [hC.1 1 10 rfl, hX.2.1.2.2.1, if_neg (by rw [le_nI _ _ (by omega) (by omega)]; omega), Ch_isIn_eq S (n := O) (by omega) (by omega), bd1_some, if_bI, inb_nI (j := p) (n := 10) (by omega) (by omega), ck_true, cl p (by omega), hC.g 17 (fun _ => rfl)]
      simp only [nm_eq, nI_1, ih3]
      have ef : ff (fun p => decide (bit O p = 1) && gm T Q o n (n - 1) (O - 2 ^ p) (L - gi T 17 p)) p (m + 1) = if (decide (bit O p = 1) && gm T Q o n (n - 1) (O - 2 ^ p) (L - gi T 17 p)) = true then some p else ff (fun p => decide (bit O p = 1) && gm T Q o n (n - 1) (O - 2 ^ p) (L - gi T 17 p)) (p + 1) m := rfl
      rw [ef]
      by_cases hb : bit O p = 1
      · obtain ⟨x1, x2⟩ := off_all p (by omega) O (by omega) hb
        rw [if_pos (decide_eq_true hb), x1, e1 _ (Nat.lt_of_le_of_lt (Nat.sub_le _ _) (by omega)) _, bd1_some, if_bI, decide_eq_true hb]
        cases gm T Q o n (n - 1) (O - 2 ^ p) (L - gi T 17 p)
        · rw [if_neg (by decide)]; rfl
        · rw [if_pos rfl]; rfl
      · rw [if_neg (by rw [decide_eq_false hb]; decide), decide_eq_false hb]; rfl
  exact key Q 0 (by omega) N (by omega)
theorem first_V {V T : St} {P Q N o n : Nat} (hM : MP V T P Q) (ho : o < P) (hn1 : 1 ≤ n) (hn : n ≤ 6) (hf : 10 < N) {O : Nat} (hO : O < 2 ^ Q) (L : Int32) (b : Bool) : Mo_byTurns_L111 N V (nI o) (nI O) L (nI n) (bI b) 0 = some (match ff (fun p => decide (bit O p = 1) && (gm T Q o n (n - 1) (O - 2 ^ p) (L - gi T 17 p) == b)) 0 Q with
    | some p => nI p
    | none => 10) := by
  have hQ10 := hM.2.1.2.2.2
  have hp := pow_le hQ10
  have e1 : ∀ O', O' < 1024 → ∀ L', Mo_winsFrom N N V (nI o) 1 (nI n) (nI O') L' = some (bI (gm T Q o n (n - 1) O' L')) := fun O' h L' => by
    have := wins_eq hM ho hn hf (n - 1) (by omega) N (by omega) O' h L'
    rw [show n - (n - 1) = 1 from by omega] at this
    exact this
  have key : ∀ m p, p + m = Q → ∀ n1, m < n1 → lp (fun k (x : Int32) => Mo_byTurns_b111 N k V (nI o) (nI O) L (nI n) (bI b) x) n1 (nI p) = some (match ff (fun p => decide (bit O p = 1) && (gm T Q o n (n - 1) (O - 2 ^ p) (L - gi T 17 p) == b)) p m with
    | some p => nI p
    | none => 10) := by
    intro m
    induction m with
    | zero =>
      intro p hp n1 h1
      obtain ⟨n1, rfl⟩ : ∃ k, n1 = k + 1 := ⟨n1 - 1, by omega⟩
      show Mo_byTurns_b111 N _ V (nI o) (nI O) L (nI n) (bI b) (nI p) = _
      unfold Mo_byTurns_b111 ff
      rw [hM.1.2.1, hM.2.1.2.2.1, if_pos (by rw [le_nI _ _ (by omega) (by omega)]; omega)]
    | succ m ih2 =>
      intro p hp n1 h1
      obtain ⟨n1, rfl⟩ : ∃ k, n1 = k + 1 := ⟨n1 - 1, by omega⟩
      have ih3 := ih2 (p + 1) (by omega) n1 (by omega)
      show Mo_byTurns_b111 N (lp (fun k (x : Int32) => Mo_byTurns_b111 N k V (nI o) (nI O) L (nI n) (bI b) x) n1) V (nI o) (nI O) L (nI n) (bI b) (nI p) = _
      generalize lp (fun k (x : Int32) => Mo_byTurns_b111 N k V (nI o) (nI O) L (nI n) (bI b) x) n1 = K at ih3
      unfold Mo_byTurns_b111
      rw [hM.1.2.1, hM.2.1.2.2.1, if_neg (by rw [le_nI _ _ (by omega) (by omega)]; omega), Mo_isIn_eq V (n := O) (by omega) (by omega), bd1_some, if_bI, a28, inb_nI (j := 28 + p) (n := 58) (by omega) (by omega), ck_true, cl (28 + p) (by omega), (hM.1.2.2.2 p (by omega)).2.2.2.1]
      simp only [nm_eq, nI_1, ih3]
      have ef : ff (fun p => decide (bit O p = 1) && (gm T Q o n (n - 1) (O - 2 ^ p) (L - gi T 17 p) == b)) p (m + 1) = if (decide (bit O p = 1) && (gm T Q o n (n - 1) (O - 2 ^ p) (L - gi T 17 p) == b)) = true then some p else ff (fun p => decide (bit O p = 1) && (gm T Q o n (n - 1) (O - 2 ^ p) (L - gi T 17 p) == b)) (p + 1) m := rfl
      rw [ef]
      by_cases hb : bit O p = 1
      · obtain ⟨x1, x2⟩ := off_all p (by omega) O (by omega) hb
        rw [if_pos (decide_eq_true hb), x2, e1 _ (Nat.lt_of_le_of_lt (Nat.sub_le _ _) (by omega)) _, bd1_some, decide_eq_true hb]
        cases gm T Q o n (n - 1) (O - 2 ^ p) (L - gi T 17 p) <;> cases b
        · rw [if_pos rfl]; rfl
        · rw [if_neg (by decide)]; rfl
        · rw [if_neg (by decide)]; rfl
        · rw [if_pos rfl]; rfl
      · rw [if_neg (by rw [decide_eq_false hb]; decide), decide_eq_false hb]; rfl
  exact key Q 0 (by omega) N (by omega)
theorem bft_same {T : St} {Q o n O : Nat} {L : Int32} (hn1 : 1 ≤ n) (hO : O < 2 ^ Q) : (match ff (fun p => decide (bit O p = 1) && (gm T Q o n (n - 1) (O - 2 ^ p) (L - gi T 17 p) == gm T Q o n n O L)) 0 Q with
    | some p => nI p
    | none => 10) = bft T Q o n O L := by
  obtain ⟨r, rfl⟩ : ∃ r, n = r + 1 := ⟨n - 1, by omega⟩
  have eg : gm T Q o (r + 1) (r + 1) O L = (gm T Q o (r + 1) r O L || anf (fun p => decide (bit O p = 1) && gm T Q o (r + 1) r (O - 2 ^ p) (L - gi T 17 p)) 0 Q) := by
    show (if (r + 1 - (r + 1)) % 2 = 1 then _ else _) = _
    rw [Nat.sub_self, if_neg (by decide)]
  unfold bft
  rw [Nat.add_sub_cancel, eg]
  generalize hg : (fun p => gm T Q o (r + 1) r (O - 2 ^ p) (L - gi T 17 p)) = g
  have hg' : ∀ p, gm T Q o (r + 1) r (O - 2 ^ p) (L - gi T 17 p) = g p := fun p => by rw [← hg]
  simp only [hg']
  generalize gm T Q o (r + 1) r O L = e
  rcases ff_anf (fun p => decide (bit O p = 1) && g p) Q 0 with ⟨h1, h2⟩ | ⟨q, h1, h2⟩
  · rw [h1, h2, Bool.or_false]
    dsimp only
    have hf := anf_f _ Q 0 h2
    cases e
    · rw [if_neg (by decide : ¬ false = true)]
      have : ff (fun p => decide (bit O p = 1) && (g p == false)) 0 Q = ff (fun p => decide (bit O p = 1)) 0 Q := ff_congr _ _ Q 0 (fun q h3 h4 => by
        have := hf q h3 h4
        show (decide (bit O q = 1) && (g q == false)) = decide (bit O q = 1)
        revert this
        cases decide (bit O q = 1) <;> cases g q <;> simp)
      rw [this]
      by_cases h0 : O = 0
      · rw [if_pos h0]
        have : ff (fun p => decide (bit O p = 1)) 0 Q = none := by
          rcases ff_anf (fun p => decide (bit O p = 1)) Q 0 with ⟨k1, k2⟩ | ⟨q, k1, k2⟩
          · exact k1
          · have e0 : ∀ m p, anf (fun p => decide (bit O p = 1)) p m = false := by
              intro m
              induction m with
              | zero => intro p; rfl
              | succ m ih => intro p; unfold anf; rw [ih]; have : bit O p = 0 := by rw [h0]; unfold bit; simp
                             rw [this]; rfl
            rw [e0] at k2; cases k2
        rw [this]
      · rw [if_neg h0]
    · have : ff (fun p => decide (bit O p = 1) && (g p == true)) 0 Q = none := by
        rw [← h1]
        refine ff_congr _ _ Q 0 (fun q h3 h4 => ?_)
        cases g q <;> rfl
      rw [this, if_pos rfl]
      dsimp only
      split <;> rfl
  · rw [h1, h2, Bool.or_true]
    have : ff (fun p => decide (bit O p = 1) && (g p == true)) 0 Q = some q := by
      rw [← h1]
      refine ff_congr _ _ Q 0 (fun q h3 h4 => ?_)
      cases g q <;> rfl
    rw [this]
theorem RR_byTurns : LS_byTurns RR := by
  rintro S V p1 p2 p3 hRR
  have hRR' := hRR
  obtain ⟨T, P, Q, F, c, a, B, hC, hR⟩ := hRR
  obtain ⟨hN, hPe, hPr, hP, -⟩ := hR
  have hX : XP S T P Q := ⟨hC, hN, hPe, hPr⟩
  have hM : MP V T P Q := ⟨hP, hN, hPe, hPr⟩
  have hQ10 := hN.2.2.2
  obtain ⟨q1, r1, a1, a2, a3, a4, a5⟩ := dm p2 10 10 rfl (by omega)
  unfold Ch_byTurns Mo_byTurns
  simp only [nm_eq, Sm_isOne_eq hC hN, Mo_isOne_eq hP hN, Ch_isDay_eq, Mo_isDay_eq, Ch_isEither_eq, Ch_within_eq, Mo_within_eq, bd1_some, if_bI, Int32.toInt_toInt64, tI0, tI1, tI6, ti1, ti6, a1, a2, Int32.lt_iff_toInt_lt (x := p2), ti0]
  by_cases h1 : wi p1.toInt 0 ((P : Int) - 1) = true
  · rw [if_pos h1, if_pos h1]
    obtain ⟨o, ho, rfl⟩ := wi_nI h1
    by_cases h0 : p2.toInt < 0
    · have := a5 h0
      rw [if_pos h0]
      by_cases h2 : wi q1 0 99 = true
      · have h3 : ¬ wi r1 1 6 = true := by rw [wi_t]; omega
        rw [if_pos h2, if_neg h3]; exact ⟨_, rfl, rfl, hRR'⟩
      · rw [if_neg h2]; exact ⟨_, rfl, rfl, hRR'⟩
    rw [if_neg h0]
    by_cases h2 : wi q1 0 99 = true
    · rw [if_pos h2, if_pos h2]
      by_cases h3 : wi r1 1 6 = true
      · rw [if_pos h3, if_pos h3]
        by_cases h4 : wi p3.toInt 0 1 = true
        · rw [if_pos h4, if_pos h4]
          rw [wi_t] at h2 h3
          obtain ⟨e, e2⟩ := i32_nI (x := p2 - p2 / 10 * 10) (by omega)
          generalize (p2 - p2 / 10 * 10).toNatClampNeg = n at e e2
          rw [e]
          have hO2 := oo_lt2 (T := T) (Q := Q) (o := o) (d := p2 / 10)
          have hO := oo_lt (T := T) (o := o) (d := p2 / 10) hQ10
          have w0 := wins_eq (N := 1200) (n := n) hM ho (by omega) (by decide) n (Nat.le_refl _) 1200 (by omega) _ hO (lenU T o (p2 / 10) Q)
          have s0 := ends_eq (N := 1200) (n := n) hX ho (by omega) (by decide) n (Nat.le_refl _) 1200 (by omega) _ hO (lenU T o (p2 / 10) Q)
          rw [Nat.sub_self] at w0 s0
          have w0' : Mo_winsFrom fuel fuel V (nI o) 0 (nI n) (nI (oo T Q o (p2 / 10))) (lenU T o (p2 / 10) Q) = some (bI (gm T Q o n n (oo T Q o (p2 / 10)) (lenU T o (p2 / 10) Q))) := w0
          have s0' : Kp_endsRiding fuel fuel S (nI o) (lenU T o (p2 / 10) Q) (nI (oo T Q o (p2 / 10))) 0 (nI n) = some (bI (gm T Q o n n (oo T Q o (p2 / 10)) (lenU T o (p2 / 10) Q))) := s0
          unfold Kp_bestFirstTurn Kp_winsByTurns
          have fS := first_S (N := fuel) (n := n) hX ho (by omega) (by omega) (by decide) hO2 (lenU T o (p2 / 10) Q)
          have fV := first_V (N := fuel) (n := n) hM ho (by omega) (by omega) (by decide) hO2 (lenU T o (p2 / 10) Q) (gm T Q o n n (oo T Q o (p2 / 10)) (lenU T o (p2 / 10) Q))
          have fB := bft_same (T := T) (Q := Q) (o := o) (n := n) (O := oo T Q o (p2 / 10)) (L := lenU T o (p2 / 10) Q) (by omega) hO2
          rw [fB] at fV
          simp only [Kp_mayKeep_eq (N := fuel) hC hN o (p2 / 10) (by decide), Sm_lengthOn_eq (N := fuel) hX ho (p2 / 10) (by decide), Mo_ownOpen_eq (N := fuel) hM o (p2 / 10) (by decide), Mo_chainOf_eq (N := fuel) hM ho (p2 / 10) (by decide), bd1_some, s0', w0', isB_bI, ck_true, if_bI, fS, fV]
          rcases wi_01 h4 with rfl | rfl
          · rw [if_neg (by decide), if_pos rfl]; refine ⟨bI (gm T Q o n n (oo T Q o (p2 / 10)) (lenU T o (p2 / 10) Q)), ?_, ?_, hRR'⟩ <;> (cases gm T Q o n n (oo T Q o (p2 / 10)) (lenU T o (p2 / 10) Q) <;> rfl)
          · rw [if_pos rfl, if_neg (by decide)]; exact ⟨_, rfl, rfl, hRR'⟩
        · rw [if_neg h4, if_neg h4]; exact ⟨_, rfl, rfl, hRR'⟩
      · rw [if_neg h3, if_neg h3]; exact ⟨_, rfl, rfl, hRR'⟩
    · rw [if_neg h2, if_neg h2]; exact ⟨_, rfl, rfl, hRR'⟩
  · rw [if_neg h1, if_neg h1]; exact ⟨_, rfl, rfl, hRR'⟩
