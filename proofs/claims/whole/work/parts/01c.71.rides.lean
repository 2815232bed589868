theorem Ch_isEither_eq (S : St) (x : Int32) : Ch_isEither S x = some (bI (wi x.toInt 0 1)) := by
  unfold Ch_isEither
  by_cases h0 : x = 0
  · subst h0; rfl
  · by_cases h1 : x = 1
    · subst h1; rfl
    · rw [if_neg h0, if_neg h1]
      have : wi x.toInt 0 1 = false := by
        unfold wi
        rw [decide_eq_false_iff_not]
        rintro ⟨a, b⟩
        have a0 : x.toInt ≠ 0 := fun e => h0 (Int32.toInt_inj.mp e)
        have a1 : x.toInt ≠ 1 := fun e => h1 (Int32.toInt_inj.mp e)
        omega
      rw [this]; rfl
theorem XP.row18 {S T : St} {P Q : Nat} (hX : XP S T P Q) : setRow T 18 (S.1 18) = T := by
  have e : S.1 18 = T.1 18 := funext fun i => hX.1.1 18 i rfl
  rw [e, setRow_self]
theorem XP.kr {S T : St} {P Q : Nat} (hX : XP S T P Q) : ∀ j, j < Q → -1 ≤ (gi S 18 j).toInt ∧ (gi S 18 j).toInt ≤ 99 := fun j hj => by
  rw [hX.1.1 18 j rfl]; exact (hX.2.2.2 j hj).2.2.2.1
theorem layT {S T : St} {P Q N : Nat} (hX : XP S T P Q) {o : Nat} (ho : o < P) (hf : 110 < N) : ∃ S', Dy_layOut N S (nI o) 18 = some S' ∧ Off 25 S S' ∧ Core S' T ∧ ∀ x, x < 100 → gi S' 25 x = lenU T o (nI x) Q := by
  obtain ⟨S', e, h1, h2⟩ := Dy_layOut_eq hX ho (k := 18) (.inl rfl) hX.kr hf
  rw [hX.row18] at h2
  exact ⟨S', e, h1, hX.1.off (fun _ => rfl) h1, h2⟩
def rd (T : St) (Q o x : Nat) : Bool := rid T Q o (nI x)
theorem Dy_ridesLaidOut_eq {S T : St} {P Q : Nat} (hC : Core S T) (hN : iN T P Q) {o : Nat} (ho : o < P) (hl : ∀ x, x < 100 → gi S 25 x = lenU T o (nI x) Q) {x : Nat} (hx : x < 100) : Dy_ridesLaidOut S (nI o) (nI x) = some (bI (rd T Q o x)) := by
  have hP6 := hN.2.1
  unfold Dy_ridesLaidOut rd rid
  rw [inb_nI (j := x) (n := 101) (by omega) (by omega), ck_true, cl x (by omega), hl x hx, Sm_goesRound_eq hC (by omega), bd1_some, isB_bI, ck_true]
theorem Mo_doesRide_rd {V T : St} {P Q N : Nat} (hM : MP V T P Q) {o : Nat} (ho : o < P) (x : Nat) (hf : 10 < N) : Mo_doesRide N V (nI o) (nI x) = some (bI (rd T Q o x)) := Mo_doesRide_eq hM ho _ hf
theorem within_eq {S T : St} {P Q N : Nat} (hC : Core S T) (hN : iN T P Q) {o : Nat} (ho : o < P) (hl : ∀ x, x < 100 → gi S 25 x = lenU T o (nI x) Q) {a b : Nat} (hab : a ≤ b) (hb : b < 100) (hf : 101 < N) : Dy_ridesLaidOutWithin N S (nI o) (nI a) (nI b) = some (nI (cnt (fun j => rd T Q o (a + j)) (b + 1 - a))) := by
  unfold Dy_ridesLaidOutWithin Dy_ridesLaidOutWithin_L6
  refine lp_run (fun j => (nI (cnt (fun j => rd T Q o (a + j)) j), nI (a + j))) (b + 1 - a) (fun k => ?_) N 0 (by omega) (by omega) (fun j _ hj k => ?_)
  · unfold Dy_ridesLaidOutWithin_b6
    rw [if_pos (by rw [lt_nI _ _ (by omega) (by omega)]; omega)]
  · unfold Dy_ridesLaidOutWithin_b6
    dsimp only
    rw [if_neg (by rw [lt_nI _ _ (by omega) (by omega)]; omega), Dy_ridesLaidOut_eq hC hN ho hl (by omega), bd1_some]
    simp only [nm_eq, bI_0, nI_1, cnt, Nat.add_assoc]
    by_cases h : rd T Q o (a + j) = true <;> simp [h]
def fsr (f : Nat → Bool) : Nat → Nat → Int32
  | _, 0 => -2
  | a, m + 1 => if f a = true then nI a else fsr f (a + 1) m
theorem first_lp {S T : St} {P Q N : Nat} (hC : Core S T) (hN : iN T P Q) {o : Nat} (ho : o < P) (hl : ∀ x, x < 100 → gi S 25 x = lenU T o (nI x) Q) : ∀ (m a : Nat), a + m = 100 → ∀ n, m < n → lp (fun k x => Dy_firstRideFrom_b14 N k S (nI o) x) n (nI a) = some (fsr (rd T Q o) a m, S)
  | 0, a, ha, n, hn => by
    obtain ⟨n, rfl⟩ : ∃ k, n = k + 1 := ⟨n - 1, by omega⟩
    show Dy_firstRideFrom_b14 N _ S (nI o) (nI a) = _
    unfold Dy_firstRideFrom_b14
    rw [if_pos (by show nI 100 ≤ nI a; rw [le_nI _ _ (by omega) (by omega)]; omega)]; rfl
  | m + 1, a, ha, n, hn => by
    obtain ⟨n, rfl⟩ : ∃ k, n = k + 1 := ⟨n - 1, by omega⟩
    have ih := first_lp (N := N) hC hN ho hl m (a + 1) (by omega) n (by omega)
    show Dy_firstRideFrom_b14 N (lp (fun k x => Dy_firstRideFrom_b14 N k S (nI o) x) n) S (nI o) (nI a) = _
    generalize lp (fun k x => Dy_firstRideFrom_b14 N k S (nI o) x) n = K at ih
    unfold Dy_firstRideFrom_b14
    rw [if_neg (by show ¬ nI 100 ≤ nI a; rw [le_nI _ _ (by omega) (by omega)]; omega), Dy_ridesLaidOut_eq hC hN ho hl (by omega), bd1_some, if_bI, nm_eq, nI_1, ih]
    unfold fsr
    split
    · rfl
    · cases m <;> rfl
theorem firstV_lp {V T : St} {P Q N : Nat} (hM : MP V T P Q) {o : Nat} (ho : o < P) (hf : 10 < N) : ∀ (m a : Nat), a + m = 100 → ∀ n, m < n → lp (fun k (x : Int32 × Int32) => Mo_rides_b43 N k V (nI o) (-1) x.1 x.2) n (0, nI a) = some (fsr (rd T Q o) a m)
  | 0, a, ha, n, hn => by
    obtain ⟨n, rfl⟩ : ∃ k, n = k + 1 := ⟨n - 1, by omega⟩
    show Mo_rides_b43 N _ V (nI o) (-1) 0 (nI a) = _
    unfold Mo_rides_b43 Mo_rides_b55
    rw [if_neg (by decide), if_pos (by show nI 99 < nI a; rw [lt_nI _ _ (by omega) (by omega)]; omega)]; rfl
  | m + 1, a, ha, n, hn => by
    obtain ⟨n, rfl⟩ : ∃ k, n = k + 1 := ⟨n - 1, by omega⟩
    have ih := firstV_lp (N := N) hM ho hf m (a + 1) (by omega) n (by omega)
    show Mo_rides_b43 N (lp (fun k (x : Int32 × Int32) => Mo_rides_b43 N k V (nI o) (-1) x.1 x.2) n) V (nI o) (-1) 0 (nI a) = _
    generalize lp (fun k (x : Int32 × Int32) => Mo_rides_b43 N k V (nI o) (-1) x.1 x.2) n = K at ih
    unfold Mo_rides_b43 Mo_rides_b55
    rw [if_neg (by decide), if_neg (by show ¬ nI 99 < nI a; rw [lt_nI _ _ (by omega) (by omega)]; omega), Mo_doesRide_rd hM ho a hf, bd1_some, if_bI, if_neg (by decide : ¬ (0 : Int32) ≤ -1), nm_eq, nI_1, ih]
    unfold fsr
    split
    · rfl
    · cases m <;> rfl
theorem withinV_eq {V T : St} {P Q N : Nat} (hM : MP V T P Q) {o : Nat} (ho : o < P) {a b : Nat} (hab : a ≤ b) (hb : b < 100) (hf : 101 < N) : Mo_rides_L43 N V (nI o) (nI b) (0, nI a) = some (nI (cnt (fun j => rd T Q o (a + j)) (b + 1 - a))) := by
  unfold Mo_rides_L43
  have hb0 : (0 : Int32) ≤ nI b := by show nI 0 ≤ nI b; rw [le_nI _ _ (by omega) (by omega)]; omega
  refine lp_run (fun j => (nI (cnt (fun j => rd T Q o (a + j)) j), nI (a + j))) (b + 1 - a) (fun k => ?_) N 0 (by omega) (by omega) (fun j _ hj k => ?_)
  · unfold Mo_rides_b43 Mo_rides_b55
    rw [if_pos hb0, if_pos (by rw [lt_nI _ _ (by omega) (by omega)]; omega), if_pos hb0]
  · unfold Mo_rides_b43 Mo_rides_b55
    dsimp only
    rw [if_pos hb0, if_neg (by rw [lt_nI _ _ (by omega) (by omega)]; omega), Mo_doesRide_rd hM ho _ (by omega), bd1_some, if_pos hb0]
    simp only [nm_eq, bI_0, nI_1, cnt, Nat.add_assoc]
    by_cases h : rd T Q o (a + j) = true <;> simp [h]
theorem wi_nI99 {x : Int32} (h : wi x.toInt 0 99 = true) : ∃ k, k < 100 ∧ x = nI k := by
  rw [wi_t] at h
  obtain ⟨e, e2⟩ := i32_nI h.1
  exact ⟨_, by omega, e⟩
theorem RR_rides : LS_rides RR := by
  rintro S V p1 p2 p3 hRR
  have hRR' := hRR
  obtain ⟨T, P, Q, F, c, a, B, hC, hR⟩ := hRR
  have hR' := hR
  obtain ⟨hN, hPe, hPr, hP, -⟩ := hR'
  have hX : XP S T P Q := ⟨hC, hN, hPe, hPr⟩
  have hM : MP V T P Q := ⟨hP, hN, hPe, hPr⟩
  unfold Ch_rides Mo_rides
  simp only [Sm_isOne_eq hC hN, Mo_isOne_eq hP hN, Ch_isDay_eq, Mo_isDay_eq, Mo_within_eq, bd1_some, if_bI, Int32.toInt_toInt64, tI99]
  by_cases h1 : wi p1.toInt 0 ((P : Int) - 1) = true
  · rw [if_pos h1, if_pos h1]
    obtain ⟨o, ho, rfl⟩ := wi_nI h1
    by_cases h2 : wi p2.toInt 0 99 = true
    · rw [if_pos h2, if_pos h2]
      obtain ⟨x, hx, rfl⟩ := wi_nI99 h2
      by_cases h3 : p3 = -1
      · subst h3
        rw [if_pos rfl, if_pos rfl]
        obtain ⟨S', s1, s2, s3, s4⟩ := layT (N := fuel) hX ho (by decide)
        unfold Dy_firstRideFrom
        rw [s1, bd1_some, show Dy_firstRideFrom_L14 fuel S' (nI o) (nI x) = _ from first_lp (N := fuel) s3 hN ho s4 (100 - x) x (by omega) fuel (by show _ < 1200; omega), bd2_some, show Mo_rides_L43 fuel V (nI o) (-1) (0, nI x) = _ from firstV_lp (N := fuel) hM ho (by decide) (100 - x) x (by omega) fuel (by show _ < 1200; omega)]
        exact ⟨_, _, rfl, rfl, T, P, Q, F, c, a, B, s3, hR⟩
      · rw [if_neg h3, if_neg h3]
        by_cases h4 : wi p3.toInt 0 99 = true
        · rw [if_pos h4]
          obtain ⟨y, hy, rfl⟩ := wi_nI99 h4
          by_cases h5 : nI y < nI x
          · have h5' := h5
            rw [lt_nI _ _ (by omega) (by omega)] at h5'
            rw [if_pos h5, if_neg (by rw [wi_t, ti _ (by omega), ti _ (by omega)]; omega)]
            exact ⟨_, _, rfl, rfl, hRR'⟩
          · have h5' := h5
            rw [lt_nI _ _ (by omega) (by omega)] at h5'
            obtain ⟨S', s1, s2, s3, s4⟩ := layT (N := fuel) hX ho (by decide)
            unfold Dy_ridesWithin
            rw [if_neg h5, if_pos (by rw [wi_t, ti _ (by omega), ti _ (by omega)]; omega), s1, bd1_some, within_eq (N := fuel) s3 hN ho s4 (by omega) hy (by decide), bd1_some, bd2_some, withinV_eq (N := fuel) hM ho (by omega) hy (by decide)]
            exact ⟨_, _, rfl, rfl, T, P, Q, F, c, a, B, s3, hR⟩
        · rw [if_neg h4]
          have : ¬ wi p3.toInt (nI x).toInt 99 = true := by
            rw [wi_t, ti _ (by omega)]; rw [wi_t] at h4; omega
          rw [if_neg this]
          exact ⟨_, _, rfl, rfl, hRR'⟩
    · rw [if_neg h2, if_neg h2]; exact ⟨_, _, rfl, rfl, hRR'⟩
  · rw [if_neg h1, if_neg h1]; exact ⟨_, _, rfl, rfl, hRR'⟩
theorem RR_who : LS_who RR := by
  rintro S V p1 hRR
  have hRR' := hRR
  obtain ⟨T, P, Q, F, c, a, B, hC, hR⟩ := hRR
  obtain ⟨hN, hPe, hPr, hP, -⟩ := hR
  unfold Ch_who Mo_who
  simp only [Ch_isDay_eq, Mo_isDay_eq, bd1_some, if_bI, Int32.toInt_toInt64]
  by_cases h1 : wi p1.toInt 0 99 = true
  · rw [if_pos h1, if_pos h1, Sm_ridersOn_eq (N := fuel) ⟨hC, hN, hPe, hPr⟩ _ (by decide), Mo_ridersOn_eq (N := fuel) ⟨hP, hN, hPe, hPr⟩ _ (by decide), bd1_some]
    exact ⟨_, rfl, rfl, hRR'⟩
  · rw [if_neg h1, if_neg h1]; exact ⟨_, rfl, rfl, hRR'⟩
