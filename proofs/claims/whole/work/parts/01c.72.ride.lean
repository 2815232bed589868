/-- the longest run so far: its start, its length, the run that goes on -/
def lr (f : Nat → Bool) : Nat → Nat × Nat × Nat
  | 0 => (0, 0, 0)
  | d + 1 => if f d = true then (if (lr f d).2.2 + 1 ≤ (lr f d).2.1 then ((lr f d).1, (lr f d).2.1, (lr f d).2.2 + 1) else (d - (lr f d).2.2, (lr f d).2.2 + 1, (lr f d).2.2 + 1)) else ((lr f d).1, (lr f d).2.1, 0)
theorem lr_inv (f : Nat → Bool) : ∀ d, (lr f d).2.2 ≤ (lr f d).2.1 ∧ (lr f d).2.2 ≤ d ∧ (∀ x, d - (lr f d).2.2 ≤ x → x < d → f x = true) ∧ ((lr f d).2.1 = 0 ∨ ((lr f d).1 + (lr f d).2.1 ≤ d ∧ (∀ x, (lr f d).1 ≤ x → x < (lr f d).1 + (lr f d).2.1 → f x = true) ∧ ((lr f d).1 + (lr f d).2.1 < d → f ((lr f d).1 + (lr f d).2.1) = false) ∧ ((lr f d).1 + (lr f d).2.1 = d → (lr f d).2.2 = (lr f d).2.1)))
  | 0 => ⟨Nat.le_refl _, Nat.le_refl _, fun x _ h => absurd h (Nat.not_lt_zero _), .inl rfl⟩
  | d + 1 => by
    obtain ⟨h1, h2, h3, h4⟩ := lr_inv f d
    unfold lr
    generalize lr f d = st at *
    obtain ⟨s, L, e⟩ := st
    dsimp only at *
    by_cases hf : f d = true
    · rw [if_pos hf]
      by_cases hL : e + 1 ≤ L
      · rw [if_pos hL]
        dsimp only
        refine ⟨hL, by omega, fun x hx1 hx2 => ?_, ?_⟩
        · by_cases hx : x = d
          · rw [hx]; exact hf
          · exact h3 x (by omega) (by omega)
        · rcases h4 with h4 | ⟨a1, a2, a3, a4⟩
          · exact .inl h4
          · have ne : s + L ≠ d := fun h => by have := a4 h; omega
            exact .inr ⟨by omega, a2, fun h => a3 (by omega), fun h => by omega⟩
      · rw [if_neg hL]
        dsimp only
        refine ⟨Nat.le_refl _, by omega, fun x hx1 hx2 => ?_, .inr ⟨by omega, fun x hx1 hx2 => ?_, fun h => by omega, fun _ => rfl⟩⟩
        · by_cases hx : x = d
          · rw [hx]; exact hf
          · exact h3 x (by omega) (by omega)
        · by_cases hx : x = d
          · rw [hx]; exact hf
          · exact h3 x (by omega) (by omega)
    · have hf' : f d = false := by simpa using hf
      rw [if_neg hf]
      dsimp only
      refine ⟨Nat.zero_le _, Nat.zero_le _, fun x hx1 hx2 => by omega, ?_⟩
      rcases h4 with h4 | ⟨a1, a2, a3, a4⟩
      · exact .inl h4
      · refine .inr ⟨by omega, a2, fun h => ?_, fun h => by omega⟩
        by_cases hd : s + L = d
        · rw [hd]; exact hf'
        · exact a3 (by omega)
def lrS (f : Nat → Bool) (d : Nat) : Int32 := if (lr f d).2.1 = 0 then -2 else nI (lr f d).1
theorem lr_le (f : Nat → Bool) (d : Nat) : (lr f d).2.1 ≤ d ∧ (lr f d).1 ≤ d := by
  obtain ⟨h1, h2, h3, h4⟩ := lr_inv f d
  rcases h4 with h4 | ⟨a1, -⟩
  · refine ⟨by omega, ?_⟩
    clear h1 h2 h3
    induction d with
    | zero => exact Nat.le_refl _
    | succ d ih =>
      unfold lr at h4 ⊢
      split at h4
      · split at h4
        · dsimp only at h4; omega
        · dsimp only at h4; omega
      · rename_i h
        rw [if_neg h]
        dsimp only at h4 ⊢
        have := ih h4
        omega
  · omega
theorem lr_step {f : Nat → Bool} {d : Nat} (hd : d < 100) (e : Nat) (he : e = if f d = true then (lr f d).2.2 + 1 else 0) : (if nI e ≤ nI (lr f d).2.1 then (lrS f d, nI (lr f d).2.1, nI e) else (nI d - nI e + 1, nI e, nI e)) = (lrS f (d + 1), nI (lr f (d + 1)).2.1, nI (lr f (d + 1)).2.2) := by
  obtain ⟨h1, h2, h3, h4⟩ := lr_inv f d
  obtain ⟨h5, h6⟩ := lr_le f d
  unfold lrS
  rw [show lr f (d + 1) = if f d = true then (if (lr f d).2.2 + 1 ≤ (lr f d).2.1 then ((lr f d).1, (lr f d).2.1, (lr f d).2.2 + 1) else (d - (lr f d).2.2, (lr f d).2.2 + 1, (lr f d).2.2 + 1)) else ((lr f d).1, (lr f d).2.1, 0) from rfl]
  generalize lr f d = st at *
  obtain ⟨s, L, g⟩ := st
  dsimp only at *
  by_cases hf : f d = true
  · rw [if_pos hf] at he ⊢
    subst he
    by_cases hL : g + 1 ≤ L
    · rw [if_pos hL, if_pos (by rw [le_nI _ _ (by omega) (by omega)]; exact hL)]
    · rw [if_neg hL, if_neg (by rw [le_nI _ _ (by omega) (by omega)]; exact hL)]
      dsimp only
      rw [if_neg (by omega)]
      have : nI d - nI (g + 1) + 1 = nI (d - g) := by
        rw [← nI_1, ← Int32.sub_sub, Int32.sub_add_cancel]
        exact pk_sub h2
      rw [this]
  · rw [if_neg hf] at he ⊢
    subst he
    rw [if_pos (by rw [le_nI _ _ (by omega) (by omega)]; omega)]
theorem longest_eq {S T : St} {P Q N : Nat} (hC : Core S T) (hN : iN T P Q) {o : Nat} (ho : o < P) (hl : ∀ x, x < 100 → gi S 25 x = lenU T o (nI x) Q) (hf : 101 < N) : Dy_longestRideStart_L23 N S (nI o) (-2, 0, 0, 0) = some (lrS (rd T Q o) 100, S) := by
  unfold Dy_longestRideStart_L23
  refine lp_run (fun d => (lrS (rd T Q o) d, nI (lr (rd T Q o) d).2.1, nI (lr (rd T Q o) d).2.2, nI d)) 100 (fun k => ?_) N 0 (by omega) (by omega) (fun d _ hd k => ?_)
  · unfold Dy_longestRideStart_b23
    rw [if_pos (by show (100 : Int32) ≤ nI 100; decide)]
  · unfold Dy_longestRideStart_b23 Dy_longestRideStart_b48
    dsimp only
    rw [if_neg (by show ¬ nI 100 ≤ nI d; rw [le_nI _ _ (by omega) (by omega)]; omega), Dy_ridesLaidOut_eq hC hN ho hl hd, bd1_some, if_bI]
    obtain ⟨e, he⟩ : ∃ e, e = if rd T Q o d = true then (lr (rd T Q o) d).2.2 + 1 else 0 := ⟨_, rfl⟩
    have st := lr_step hd e he
    have e1 : (if rd T Q o d = true then nI (lr (rd T Q o) d).2.2 + 1 else 0) = nI e := by
      rw [he]; split
      · exact nI_1 _
      · rfl
    have key : (if nI e ≤ nI (lr (rd T Q o) d).2.1 then nm (nI d + 1) fun x1 => k (lrS (rd T Q o) d, nI (lr (rd T Q o) d).2.1, nI e, x1) else nm (nI d - nI e + 1) fun x2 => nm (nI d + 1) fun x3 => k (x2, nI e, nI e, x3)) = k (lrS (rd T Q o) (d + 1), nI (lr (rd T Q o) (d + 1)).2.1, nI (lr (rd T Q o) (d + 1)).2.2, nI (d + 1)) := by
      simp only [nm_eq, nI_1]
      rw [show (lrS (rd T Q o) (d + 1), nI (lr (rd T Q o) (d + 1)).2.1, nI (lr (rd T Q o) (d + 1)).2.2, nI (d + 1)) = ((lrS (rd T Q o) (d + 1), nI (lr (rd T Q o) (d + 1)).2.1, nI (lr (rd T Q o) (d + 1)).2.2).1, (lrS (rd T Q o) (d + 1), nI (lr (rd T Q o) (d + 1)).2.1, nI (lr (rd T Q o) (d + 1)).2.2).2.1, (lrS (rd T Q o) (d + 1), nI (lr (rd T Q o) (d + 1)).2.1, nI (lr (rd T Q o) (d + 1)).2.2).2.2, nI (d + 1)) from rfl, ← st]
      split <;> rfl
    rw [← key, ← e1]
    by_cases h : rd T Q o d = true
    · rw [if_pos h, if_pos h]
    · rw [if_neg h, if_neg h]
theorem longestV_eq {V T : St} {P Q N : Nat} (hM : MP V T P Q) {o : Nat} (ho : o < P) (w : Int32) (hf : 101 < N) : Mo_ride_L33 N V (nI o) w (0, -2, 0, 0) = some (if w = 0 then nI (lr (rd T Q o) 100).2.1 else lrS (rd T Q o) 100) := by
  unfold Mo_ride_L33
  refine lp_run (fun d => (nI (lr (rd T Q o) d).2.1, lrS (rd T Q o) d, nI (lr (rd T Q o) d).2.2, nI d)) 100 (fun k => ?_) N 0 (by omega) (by omega) (fun d _ hd k => ?_)
  · unfold Mo_ride_b33
    rw [if_pos (by show (99 : Int32) < nI 100; decide)]
    split <;> rfl
  · unfold Mo_ride_b33 Mo_ride_b58
    dsimp only
    rw [if_neg (by show ¬ nI 99 < nI d; rw [lt_nI _ _ (by omega) (by omega)]; omega), Mo_doesRide_rd hM ho d (by omega), bd1_some, if_bI]
    obtain ⟨e, he⟩ : ∃ e, e = if rd T Q o d = true then (lr (rd T Q o) d).2.2 + 1 else 0 := ⟨_, rfl⟩
    have st := lr_step hd e he
    have e1 : (if rd T Q o d = true then nI (lr (rd T Q o) d).2.2 + 1 else 0) = nI e := by
      rw [he]; split
      · exact nI_1 _
      · rfl
    have key : (if nI e ≤ nI (lr (rd T Q o) d).2.1 then nm (nI d + 1) fun x1 => k (nI (lr (rd T Q o) d).2.1, lrS (rd T Q o) d, nI e, x1) else nm (nI d - nI e + 1) fun x2 => nm (nI d + 1) fun x3 => k (nI e, x2, nI e, x3)) = k (nI (lr (rd T Q o) (d + 1)).2.1, lrS (rd T Q o) (d + 1), nI (lr (rd T Q o) (d + 1)).2.2, nI (d + 1)) := by
      simp only [nm_eq, nI_1]
      rw [show (nI (lr (rd T Q o) (d + 1)).2.1, lrS (rd T Q o) (d + 1), nI (lr (rd T Q o) (d + 1)).2.2, nI (d + 1)) = ((lrS (rd T Q o) (d + 1), nI (lr (rd T Q o) (d + 1)).2.1, nI (lr (rd T Q o) (d + 1)).2.2).2.1, (lrS (rd T Q o) (d + 1), nI (lr (rd T Q o) (d + 1)).2.1, nI (lr (rd T Q o) (d + 1)).2.2).1, (lrS (rd T Q o) (d + 1), nI (lr (rd T Q o) (d + 1)).2.1, nI (lr (rd T Q o) (d + 1)).2.2).2.2, nI (d + 1)) from rfl, ← st]
      split <;> rfl
    rw [← key, ← e1]
    by_cases h : rd T Q o d = true
    · rw [if_pos h, if_pos h]
    · rw [if_neg h, if_neg h]
theorem rideFrom_lp {S T : St} {P Q N : Nat} (hC : Core S T) (hN : iN T P Q) {o : Nat} (ho : o < P) (hl : ∀ x, x < 100 → gi S 25 x = lenU T o (nI x) Q) {s L : Nat} (hL : s + L ≤ 100) (h1 : ∀ x, s ≤ x → x < s + L → rd T Q o x = true) (h2 : s + L < 100 → rd T Q o (s + L) = false) (hf : 101 < N) : Dy_rideFrom_L14 N S (nI o) (nI s) (nI s) = some (nI L, S) := by
  unfold Dy_rideFrom_L14
  have sb : nI (s + L) - nI s = nI L := by rw [pk_sub (by omega), Nat.add_sub_cancel_left]
  refine lp_run (fun j => nI (s + j)) L (fun k => ?_) N 0 (by omega) (by omega) (fun j _ hj k => ?_)
  · unfold Dy_rideFrom_b14
    by_cases h : s + L < 100
    · rw [if_neg (by show ¬ nI 100 ≤ nI (s + L); rw [le_nI _ _ (by omega) (by omega)]; omega), Dy_ridesLaidOut_eq hC hN ho hl h, bd1_some, if_bI, h2 h, if_neg (by decide), sb]
    · rw [if_pos (by show nI 100 ≤ nI (s + L); rw [le_nI _ _ (by omega) (by omega)]; omega), sb]
  · unfold Dy_rideFrom_b14
    rw [if_neg (by show ¬ nI 100 ≤ nI (s + j); rw [le_nI _ _ (by omega) (by omega)]; omega), Dy_ridesLaidOut_eq hC hN ho hl (by omega), bd1_some, if_bI, h1 _ (by omega) (by omega), if_pos rfl, nm_eq, nI_1, Nat.add_assoc]
theorem wi_01 {x : Int32} (h : wi x.toInt 0 1 = true) : x = 0 ∨ x = 1 := by
  rw [wi_t] at h
  rcases (show x.toInt = 0 ∨ x.toInt = 1 by omega) with e | e
  · exact .inl (Int32.toInt_inj.mp e)
  · exact .inr (Int32.toInt_inj.mp e)
theorem RR_ride : LS_ride RR := by
  rintro S V p1 p2 hRR
  have hRR' := hRR
  obtain ⟨T, P, Q, F, c, a, B, hC, hR⟩ := hRR
  have hR' := hR
  obtain ⟨hN, hPe, hPr, hP, -⟩ := hR'
  have hX : XP S T P Q := ⟨hC, hN, hPe, hPr⟩
  have hM : MP V T P Q := ⟨hP, hN, hPe, hPr⟩
  unfold Ch_ride Mo_ride Dy_longestRideStart Dy_rideFrom
  simp only [Sm_isOne_eq hC hN, Mo_isOne_eq hP hN, Ch_isEither_eq, Mo_within_eq, bd1_some, if_bI, Int32.toInt_toInt64, tI0, tI1]
  by_cases h1 : wi p1.toInt 0 ((P : Int) - 1) = true
  · rw [if_pos h1, if_pos h1]
    obtain ⟨o, ho, rfl⟩ := wi_nI h1
    by_cases h2 : wi p2.toInt 0 1 = true
    · rw [if_pos h2, if_pos h2]
      obtain ⟨S', s1, s2, s3, s4⟩ := layT (N := fuel) hX ho (by decide)
      rw [s1, bd1_some, longest_eq (N := fuel) s3 hN ho s4 (by decide), bd2_some, longestV_eq (N := fuel) hM ho p2 (by decide)]
      rcases wi_01 h2 with rfl | rfl
      · rw [if_neg (by decide), if_pos rfl]
        have hi := (lr_inv (rd T Q o) 100).2.2.2
        have hle := lr_le (rd T Q o) 100
        unfold lrS
        by_cases hL : (lr (rd T Q o) 100).2.1 = 0
        · rw [if_pos hL, if_pos rfl, hL]
          exact ⟨_, _, rfl, rfl, T, P, Q, F, c, a, B, s3, hR⟩
        · rw [if_neg hL]
          obtain ⟨i1, i2, i3, i4⟩ := hi.resolve_left hL
          rw [if_neg (by intro e; have := congrArg Int32.toInt e; rw [ti _ (by omega)] at this; have e2 : (-2 : Int32).toInt = -2 := rfl; omega)]
          obtain ⟨S2, t1, t2, t3, t4⟩ := layT (N := fuel) (S := S') (T := T) ⟨s3, hN, hPe, hPr⟩ ho (by decide)
          rw [t1, bd1_some, rideFrom_lp (N := fuel) t3 hN ho t4 i1 i2 i3 (by decide), bd2_some]
          exact ⟨_, _, rfl, rfl, T, P, Q, F, c, a, B, t3, hR⟩
      · rw [if_pos rfl, if_neg (by decide)]
        exact ⟨_, _, rfl, rfl, T, P, Q, F, c, a, B, s3, hR⟩
    · rw [if_neg h2, if_neg h2]; exact ⟨_, _, rfl, rfl, hRR'⟩
  · rw [if_neg h1, if_neg h1]; exact ⟨_, _, rfl, rfl, hRR'⟩
