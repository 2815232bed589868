def stp (T : St) (P Q : Nat) (d : Int32) (p to : Nat) (x : Nat × Int32) : Nat × Int32 := if gi T 19 p = -1 ∧ ¬ nI to = gi T 14 p then (if hv T P Q p to d ≤ x.1 then x else (hv T P Q p to d, nI (100 * p + to))) else x
def hin (T : St) (P Q : Nat) (d : Int32) (p : Nat) (x : Nat × Int32) : Nat → Nat × Int32
  | 0 => x
  | t + 1 => stp T P Q d p t (hin T P Q d p x t)
def hou (T : St) (P Q : Nat) (d : Int32) (n0 : Nat) : Nat → Nat × Int32
  | 0 => (n0, -2)
  | p + 1 => hin T P Q d p (hou T P Q d n0 p) P
def hok (T : St) (P Q : Nat) (d : Int32) (x : Nat × Int32) : Prop := x.1 ≤ 6 ∧ (x.2 = -2 ∨ ∃ p to, p < Q ∧ to < P ∧ gi T 19 p = -1 ∧ ¬ nI to = gi T 14 p ∧ x.2 = nI (100 * p + to) ∧ x.1 = hv T P Q p to d)
theorem hv_le {T : St} {P Q p to : Nat} {d : Int32} (hP : P ≤ 6) : hv T P Q p to d ≤ 6 := Nat.le_trans (cnt_le _ P) hP
theorem hin_ok {T : St} {P Q p : Nat} {d : Int32} (hP : P ≤ 6) (hp : p < Q) {x : Nat × Int32} (h : hok T P Q d x) : ∀ t, t ≤ P → hok T P Q d (hin T P Q d p x t)
  | 0, _ => h
  | t + 1, ht => by
    have ih := hin_ok hP hp h t (by omega)
    unfold hin stp
    split
    · rename_i hc
      split
      · exact ih
      · exact ⟨hv_le hP, .inr ⟨p, t, hp, by omega, hc.1, hc.2, rfl, rfl⟩⟩
    · exact ih
theorem hou_ok {T : St} {P Q n0 : Nat} {d : Int32} (hP : P ≤ 6) (hn : n0 ≤ 6) : ∀ p, p ≤ Q → hok T P Q d (hou T P Q d n0 p)
  | 0, _ => ⟨hn, .inl rfl⟩
  | p + 1, hp => hin_ok hP (by omega) (hou_ok hP hn p (by omega)) P (Nat.le_refl _)
theorem h100 (p to : Nat) : 100 * nI p + nI to = nI (100 * p + to) := by
  rw [show (100 : Int32) * nI p = nI (100 * p) from (Int32.ofNat_mul 100 p).symm, nI_add]
theorem hin_S {S T : St} {P Q N p : Nat} (k18 : (Int32 × Int32 × Int32) → Option Int32) (hX : XP S T P Q) (hp : p < Q) (d : Int32) {x : Nat × Int32} (hx : hok T P Q d x) (hf : 10 < N) : Dy_bestHanding_L33 N k18 S d (nI p) (nI x.1, x.2, 0) = k18 (nI (hin T P Q d p x P).1, (hin T P Q d p x P).2, nI (p + 1)) := by
  have hP6 := hX.2.1.2.1
  have hQ10 := hX.2.1.2.2.2
  have hC := hX.1
  unfold Dy_bestHanding_L33
  refine lp_run (fun t => (nI (hin T P Q d p x t).1, (hin T P Q d p x t).2, nI t)) P (fun k => ?_) N 0 (by omega) (by omega) (fun t _ ht k => ?_)
  · dsimp only
    unfold Dy_bestHanding_b33
    rw [hC.1 1 9 rfl, hX.2.1.1, if_pos (Int32.le_refl _), nm_eq, nI_1]
  · dsimp only
    unfold Dy_bestHanding_b33
    rw [hC.1 1 9 rfl, hX.2.1.1, if_neg (by rw [le_nI _ _ (by omega) (by omega)]; omega), Sm_isTied_eq hC hX.2.2.2 hP6 hp hQ10, bd1_some, if_bI, inb_nI (j := p) (n := 10) (by omega) (by omega), ck_true, cl p (by omega), hC.g 14 (fun _ => rfl)]
    simp only [nm_eq, nI_1]
    have es : hin T P Q d p x (t + 1) = stp T P Q d p t (hin T P Q d p x t) := rfl
    have hk := (hin_ok hP6 hp hx t (by omega)).1
    rw [es]
    generalize hin T P Q d p x t = y at *
    obtain ⟨m, h⟩ := y
    unfold stp
    dsimp only at *
    by_cases h5 : gi T 19 p = -1
    · rw [if_neg (by rw [decide_eq_true h5]; decide)]
      by_cases h3 : nI t = gi T 14 p
      · rw [if_pos h3, if_neg (fun hc => hc.2 h3)]
      · rw [if_neg h3, if_pos ⟨h5, h3⟩, handed_S hX hp ht d h3 h5 hf, bd1_some]
        have hl := hv_le (T := T) (Q := Q) (p := p) (to := t) (d := d) hP6
        by_cases c : hv T P Q p t d ≤ m
        · rw [if_pos c, if_pos (by rw [le_nI _ _ (by omega) (by omega)]; exact c)]
        · rw [if_neg c, if_neg (by rw [le_nI _ _ (by omega) (by omega)]; exact c), h100]
    · rw [if_pos (by rw [decide_eq_false h5]; decide), if_neg (fun hc => h5 hc.1)]
theorem hin_V {V T : St} {P Q N p : Nat} (k36 : (St × Int32 × Int32 × Int32) → Option (Int32 × St)) (hM : MP V T P Q) (hp : p < Q) (d w : Int32) {x : Nat × Int32} (hx : hok T P Q d x) (hf : 10 < N) : Mo_handBest_L48 N k36 d w (nI p) (V, x.2, nI x.1, 0) = k36 (V, (hin T P Q d p x P).2, nI (hin T P Q d p x P).1, nI (p + 1)) := by
  have hP6 := hM.2.1.2.1
  have hQ10 := hM.2.1.2.2.2
  unfold Mo_handBest_L48
  refine lp_run (fun t => (V, (hin T P Q d p x t).2, nI (hin T P Q d p x t).1, nI t)) P (fun k => ?_) N 0 (by omega) (by omega) (fun t _ ht k => ?_)
  · dsimp only
    unfold Mo_handBest_b48
    rw [hM.1.1, hM.2.1.1, if_pos (Int32.le_refl _), nm_eq, nI_1]
  · dsimp only
    unfold Mo_handBest_b48 Mo_handBest_b112
    rw [hM.1.1, hM.2.1.1, if_neg (by rw [le_nI _ _ (by omega) (by omega)]; omega), a48, inb_nI (j := p) (n := 10) (by omega) (by omega), inb_nI (j := 48 + p) (n := 58) (by omega) (by omega), ck_true, ck_true, cl p (by omega), cl (48 + p) (by omega), (hM.1.2.2.2 p (by omega)).1, (hM.1.2.2.2 p (by omega)).2.2.2.2.2]
    simp only [nm_eq, nI_1]
    have es : hin T P Q d p x (t + 1) = stp T P Q d p t (hin T P Q d p x t) := rfl
    have hk := (hin_ok hP6 hp hx t (by omega)).1
    rw [es]
    generalize hin T P Q d p x t = y at *
    obtain ⟨m, h⟩ := y
    unfold stp
    dsimp only at *
    have tn := tied_neg hM.2.2.2 hP6 hp
    by_cases h3 : nI t = gi T 14 p
    · rw [if_pos h3, if_neg (fun hc => hc.2 h3)]
    · rw [if_neg h3]
      by_cases h5 : gi T 19 p = -1
      · rw [if_neg (by rw [h5]; decide), if_pos ⟨h5, h3⟩, handed_V hM hp ht d hf, bd2_some, h100]
        have hl := hv_le (T := T) (Q := Q) (p := p) (to := t) (d := d) hP6
        by_cases c : hv T P Q p t d ≤ m
        · have c' : nI (hv T P Q p t d) ≤ nI m := by rw [le_nI _ _ (by omega) (by omega)]; exact c
          rw [if_pos c, if_pos c', if_pos c']
        · have c' : ¬ nI (hv T P Q p t d) ≤ nI m := by rw [le_nI _ _ (by omega) (by omega)]; exact c
          rw [if_neg c, if_neg c', if_neg c']
      · have h6 : (0 : Int32) ≤ gi T 19 p := by
          rw [Int32.le_iff_toInt_le, ti0]
          rw [Int32.lt_iff_toInt_lt, ti0] at tn
          have : ¬ (gi T 19 p).toInt < 0 := fun hc => h5 (tn ▸ hc)
          omega
        have h7 : ¬ (gi T 19 p = -1 ∧ ¬ nI t = gi T 14 p) := fun hc => h5 hc.1
        rw [if_neg h7, if_pos h6]
theorem hou_S {S T : St} {P Q N : Nat} (hX : XP S T P Q) (d : Int32) {n0 : Nat} (hn : n0 ≤ 6) (hf : 10 < N) : Dy_bestHanding_L18 N S d (nI n0, -2, 0) = some (hou T P Q d n0 Q).2 := by
  have hP6 := hX.2.1.2.1
  have hQ10 := hX.2.1.2.2.2
  have hC := hX.1
  unfold Dy_bestHanding_L18
  refine lp_run (fun p => (nI (hou T P Q d n0 p).1, (hou T P Q d n0 p).2, nI p)) Q (fun k => ?_) N 0 (by omega) (by omega) (fun p _ hp k => ?_)
  · dsimp only
    unfold Dy_bestHanding_b18
    rw [hC.1 1 10 rfl, hX.2.1.2.2.1, if_pos (Int32.le_refl _)]
  · dsimp only
    unfold Dy_bestHanding_b18
    rw [hC.1 1 10 rfl, hX.2.1.2.2.1, if_neg (by rw [le_nI _ _ (by omega) (by omega)]; omega), hin_S k hX hp d (hou_ok hP6 hn p (by omega)) hf]
    rfl
theorem hou_V {V T : St} {P Q N : Nat} (hM : MP V T P Q) (d w : Int32) {n0 : Nat} (hn : n0 ≤ 6) (hf : 10 < N) : Mo_handBest_L36 N d w (V, -2, nI n0, 0) = some (if (hou T P Q d n0 Q).2 < 0 then (hou T P Q d n0 Q).2 else if w = 0 then (hou T P Q d n0 Q).2 else nI (hou T P Q d n0 Q).1, V) := by
  have hP6 := hM.2.1.2.1
  have hQ10 := hM.2.1.2.2.2
  unfold Mo_handBest_L36
  refine lp_run (fun p => (V, (hou T P Q d n0 p).2, nI (hou T P Q d n0 p).1, nI p)) Q (fun k => ?_) N 0 (by omega) (by omega) (fun p _ hp k => ?_)
  · dsimp only
    unfold Mo_handBest_b36
    rw [hM.1.2.1, hM.2.1.2.2.1, if_pos (Int32.le_refl _)]
    split
    · rfl
    · split <;> rfl
  · dsimp only
    unfold Mo_handBest_b36
    rw [hM.1.2.1, hM.2.1.2.2.1, if_neg (by rw [le_nI _ _ (by omega) (by omega)]; omega), hin_V k hM hp d w (hou_ok hP6 hn p (by omega)) hf]
    rfl
theorem RR_handBest : LS_handBest RR := by
  rintro S V p1 p2 hRR
  have hRR' := hRR
  obtain ⟨T, P, Q, F, c, a, B, hC, hR⟩ := hRR
  obtain ⟨hN, hPe, hPr, hP, -⟩ := hR
  have hX : XP S T P Q := ⟨hC, hN, hPe, hPr⟩
  have hM : MP V T P Q := ⟨hP, hN, hPe, hPr⟩
  have hP6 := hN.2.1
  have hQ10 := hN.2.2.2
  unfold Ch_handBest Mo_handBest Dy_bestHanding
  simp only [Ch_isDay_eq, Mo_isDay_eq, Ch_isEither_eq, Mo_within_eq, bd1_some, if_bI, Int32.toInt_toInt64, tI0, tI1]
  by_cases h1 : wi p1.toInt 0 99 = true
  · rw [if_pos h1, if_pos h1]
    by_cases h2 : wi p2.toInt 0 1 = true
    · rw [if_pos h2, if_pos h2, Sm_ridersOn_eq (N := fuel) hX _ (by decide), Mo_ridersOn_eq (N := fuel) hM _ (by decide), bd1_some, bd1_some, In_bitCount_eq _ (setU_lt10 _ (by omega)), Mo_bitsOf_eq (N := fuel) _ (setU_lt10 _ (by omega)) (by decide), bd1_some, bd1_some, pop_setU _ P (by omega)]
      have n6 : cnt (fun o => rid T Q o p1) P ≤ 6 := Nat.le_trans (cnt_le _ P) hP6
      have ok := hou_ok (T := T) (P := P) (Q := Q) (d := p1) hP6 n6 Q (Nat.le_refl _)
      rw [hou_S (N := fuel) hX p1 n6 (by decide), hou_V (N := fuel) hM p1 p2 n6 (by decide), bd1_some]
      generalize hou T P Q p1 (cnt (fun o => rid T Q o p1) P) Q = y at *
      obtain ⟨m, h⟩ := y
      obtain ⟨m6, ok⟩ := ok
      dsimp only at *
      rcases ok with rfl | ⟨p, to, k1, k2, k3, k4, rfl, rfl⟩
      · rw [if_pos rfl, if_pos (by decide)]; exact ⟨_, _, rfl, rfl, hRR'⟩
      · rw [if_neg (nI_ne2 _ (by omega)), if_neg (nb0 _ (by omega))]
        obtain ⟨q, r, a1, a2, a3, a4, a5⟩ := dm (nI (100 * p + to)) 100 100 rfl (by omega)
        rw [ti _ (by omega)] at a3 a4
        have := a4 (by omega)
        have e1 : nI (100 * p + to) / 100 = nI p := Int32.toInt_inj.mp (by rw [a1, ti _ (by omega)]; omega)
        have e2 : nI (100 * p + to) - nI (100 * p + to) / 100 * 100 = nI to := Int32.toInt_inj.mp (by rw [a2, ti _ (by omega)]; omega)
        rw [e2, e1, handed_S (N := fuel) hX k1 k2 p1 k4 k3 (by decide), bd1_some]
        refine ⟨_, _, ?_, rfl, hRR'⟩
        split <;> rfl
    · rw [if_neg h2, if_neg h2]; exact ⟨_, _, rfl, rfl, hRR'⟩
  · rw [if_neg h1, if_neg h1]; exact ⟨_, _, rfl, rfl, hRR'⟩
