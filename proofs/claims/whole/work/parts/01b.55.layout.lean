def Off (v : Nat) (S S' : St) : Prop := (∀ w i, w ≠ v → gi S' w i = gi S w i) ∧ ∀ w i, gl S' w i = gl S w i
theorem Off.refl (v : Nat) (S : St) : Off v S S := ⟨fun _ _ _ => rfl, fun _ _ => rfl⟩
theorem Off.trans {v : Nat} {A B C : St} (h1 : Off v A B) (h2 : Off v B C) : Off v A C := ⟨fun w i h => (h2.1 w i h).trans (h1.1 w i h), fun w i => (h2.2 w i).trans (h1.2 w i)⟩
theorem Off.si (v i : Nat) (x : Int32) (S : St) : Off v S (si S v i x) := ⟨fun w j h => by rw [gi_si, if_neg h], fun _ _ => rfl⟩
theorem Core.off {S S' T : St} {v : Nat} (hC : Core S T) (hv : ∀ i, scr v i = true) (h : Off v S S') : Core S' T := ⟨fun w i hw => by
  rw [h.1 w i (fun e => by rw [e, hv i] at hw; cases hw)]; exact hC.1 w i hw, fun i => (h.2 43 i).trans (hC.2 i)⟩
theorem fill_eq (S : St) {k n N : Nat} (c : Int32) (hk : isI k = true) (hn : lenI k = n) (hn2 : n < 2000) (hf : n < N) : ∃ S', Ar_fill_53178 N S k c = some S' ∧ Off k S S' ∧ ∀ i, i < n → gi S' k i = c := by
  unfold Ar_fill_53178 Ar_fill_53178_L5
  rw [hk, ck_true, nm_eq, hn]
  refine lp_inv (Post := fun S' => Off k S S' ∧ ∀ i, i < n → gi S' k i = c) (fun j x => ∃ Sj, x = (Sj, nI j) ∧ Off k S Sj ∧ ∀ i, i < j → gi Sj k i = c) n ?_ ?_ N 0 _ (by omega) (by omega) ⟨S, rfl, Off.refl _ _, fun i h => absurd h (Nat.not_lt_zero _)⟩
  · rintro x ⟨Sj, rfl, h1, h2⟩
    refine ⟨Sj, fun kk => ?_, h1, h2⟩
    unfold Ar_fill_53178_b5
    rw [if_pos (by show nI n ≤ nI n; rw [le_nI _ _ (by omega) (by omega)]; exact Nat.le_refl _)]
  · rintro j x hj ⟨Sj, rfl, h1, h2⟩
    refine ⟨(si Sj k j c, nI (j + 1)), fun kk => ?_, _, rfl, h1.trans (Off.si _ _ _ _), fun i hi => ?_⟩
    · unfold Ar_fill_53178_b5
      dsimp only
      rw [if_neg (by show ¬ nI n ≤ nI j; rw [le_nI _ _ (by omega) (by omega)]; omega), hk, ck_true, hn, inb_nI hj (by omega), ck_true, nm_eq, nm_eq, cl j (by omega), nI_1]
    · rw [gi_si, if_pos rfl]
      by_cases h : i = j
      · rw [if_pos h]
      · rw [if_neg h]; exact h2 i (by omega)
theorem pre_eq {S : St} {N : Nat} (d : Nat → Int32) (hd : ∀ y, y < 101 → gi S 25 y = d y) (hf : 100 < N) : ∃ S', Dy_layOut_L132 N (S, 1) = some S' ∧ Off 25 S S' ∧ ∀ y, y < 100 → gi S' 25 y = psum d y := by
  unfold Dy_layOut_L132
  refine lp_inv (Post := fun S' => Off 25 S S' ∧ ∀ y, y < 100 → gi S' 25 y = psum d y) (fun j x => ∃ Sj, 1 ≤ j ∧ x = (Sj, nI j) ∧ Off 25 S Sj ∧ ∀ y, y < 101 → gi Sj 25 y = if y < j then psum d y else d y) 100 ?_ ?_ N 1 _ (by omega) (by omega) ⟨S, by omega, rfl, Off.refl _ _, fun y h => ?_⟩
  · rintro x ⟨Sj, -, rfl, h1, h2⟩
    refine ⟨Sj, fun kk => ?_, h1, fun y hy => by rw [h2 y (by omega), if_pos hy]⟩
    unfold Dy_layOut_b132
    rw [if_pos (by show (100 : Int32) ≤ nI 100; decide)]
  · rintro j x hj ⟨Sj, h0, rfl, h1, h2⟩
    refine ⟨(si Sj 25 j (gi Sj 25 j + gi Sj 25 (j - 1)), nI (j + 1)), fun kk => ?_, _, by omega, rfl, h1.trans (Off.si _ _ _ _), fun y hy => ?_⟩
    · unfold Dy_layOut_b132
      dsimp only
      have e : nI j - 1 = nI (j - 1) := pk_sub (a := j) (b := 1) h0
      rw [if_neg (by show ¬ nI 100 ≤ nI j; rw [le_nI _ _ (by omega) (by omega)]; omega), e, inb_nI (j := j) (n := 101) (by omega) (by omega), inb_nI (j := j - 1) (n := 101) (by omega) (by omega), ck_true, ck_true, ck_true, nm_eq, nm_eq, cl j (by omega), cl (j - 1) (by omega), nI_1]
    · rw [gi_si, if_pos rfl]
      by_cases h : y = j
      · subst h
        rw [if_pos rfl, h2 y (by omega), h2 (y - 1) (by omega), if_neg (by omega), if_pos (by omega), if_pos (by omega)]
        obtain ⟨z, rfl⟩ : ∃ z, y = z + 1 := ⟨y - 1, by omega⟩
        show d (z + 1) + psum d z = psum d z + d (z + 1)
        exact Int32.add_comm _ _
      · rw [if_neg h, h2 y hy]
        by_cases h3 : y < j
        · rw [if_pos h3, if_pos (by omega)]
        · rw [if_neg h3, if_neg (by omega)]
  · rw [hd y h]
    by_cases h3 : y < 1
    · have : y = 0 := by omega
      subst this; rw [if_pos h3]; rfl
    · rw [if_neg h3]
theorem Dy_layOut_eq {S T : St} {P Q N : Nat} (hX : XP S T P Q) {o : Nat} (ho : o < P) {k : Nat} (hk : k = 18 ∨ k = 27) (hr : ∀ j, j < Q → -1 ≤ (gi S k j).toInt ∧ (gi S k j).toInt ≤ 99) (hf : 110 < N) :
    ∃ S', Dy_layOut N S (nI o) k = some S' ∧ Off 25 S S' ∧ ∀ x, x < 100 → gi S' 25 x = lenU (setRow T 18 (S.1 k)) o (nI x) Q := by
  obtain ⟨hC, hN, hPe, hPr⟩ := hX
  obtain ⟨hP, hP6, hQ, hQ10⟩ := hN
  obtain ⟨T2, hT2⟩ : ∃ T2, T2 = setRow T 18 (S.1 k) := ⟨_, rfl⟩
  have g2 : ∀ w i, w ≠ 18 → gi T2 w i = gi T w i := fun w i h => by rw [hT2, gi_setRow, if_neg h]
  have g18 : ∀ i, gi T2 18 i = gi S k i := fun i => by rw [hT2, gi_setRow, if_pos rfl]; rfl
  have hkI : isI k = true := by rcases hk with rfl | rfl <;> rfl
  have hkL : lenI k = 10 := by rcases hk with rfl | rfl <;> rfl
  have hk25 : k ≠ 25 := by rcases hk with rfl | rfl <;> decide
  have hok : okK T2 Q := fun j hj => by
    obtain ⟨-, ⟨h1, h2, h3⟩, -⟩ := hPr j hj
    rw [g2 15 j (by decide), g18]
    exact ⟨⟨h1, by omega⟩, hr j hj⟩
  rw [← hT2]
  unfold Dy_layOut
  obtain ⟨S1, e1, o1, f1⟩ := fill_eq (N := N) S (k := 25) (n := 101) 0 rfl rfl (by omega) (by omega)
  rw [e1, bd1_some, inb_nI (j := o) (n := 6) (by omega) (by omega), ck_true, nm_eq, cl o (by omega), show (0 : Int32).toNatClampNeg = 0 from rfl]
  unfold Dy_layOut_L25
  refine lp_inv (Post := fun S' => Off 25 S S' ∧ ∀ x, x < 100 → gi S' 25 x = lenU T2 o (nI x) Q) (fun j x => ∃ Sj, x = (Sj, nI j) ∧ Off 25 S Sj ∧ ∀ y, y < 101 → gi Sj 25 y = dU T2 o j y) Q ?_ ?_ N 0 _ (by omega) (by omega) ⟨_, rfl, o1.trans (Off.si _ _ _ _), fun y hy => ?_⟩
  · rintro x ⟨Sj, rfl, h1, h2⟩
    obtain ⟨S', e3, o3, p3⟩ := pre_eq (N := N) (dU T2 o Q) h2 (by omega)
    refine ⟨S', fun kk => ?_, h1.trans o3, fun x hx => by rw [p3 x hx]; exact psum_dU hok hx Q (Nat.le_refl _)⟩
    unfold Dy_layOut_b25
    rw [show gi (Sj, nI Q).1 1 10 = nI Q from by rw [h1.1 1 10 (by decide), hC.1 1 10 rfl, hQ], if_pos (by show nI Q ≤ nI Q; rw [le_nI _ _ (by omega) (by omega)]; exact Nat.le_refl _)]
    exact e3
  · rintro j x hj ⟨Sj, rfl, h1, h2⟩
    have hCj : Core Sj T := hC.off (fun _ => rfl) h1
    obtain ⟨⟨hm0, hm1⟩, hk0, hk1⟩ := hok j hj
    have em := (i32_nI hm0).1
    have em2 := (i32_nI hm0).2
    rw [g2 15 j (by decide)] at em em2 hm1
    generalize hmm : (gi T 15 j).toNatClampNeg = mm at em em2
    -- the end as a number
    obtain ⟨s0, hs0⟩ : ∃ s0 : Int32, s0 = if gi S k j = -1 then 100 else gi S k j := ⟨_, rfl⟩
    have hen : ende (gi S k j) ≤ 100 := by rw [← g18]; exact ende_lt hok hj
    have es0 : s0 = nI (ende (gi S k j)) := by
      rw [hs0]; unfold ende
      by_cases h : gi S k j = -1
      · rw [if_pos h, if_pos h]; rfl
      · rw [if_neg h, if_neg h]
        exact (i32_nI (by
          have h2 := (hr j hj).1
          have : (gi S k j).toInt ≠ -1 := fun e => h (Int32.toInt_inj.mp e)
          omega)).1
    have e51 : ∀ kk, Dy_layOut_b25 N kk Sj (nI o) k (nI j) = Dy_layOut_b51 N kk Sj (nI o) k (nI j) s0 := by
      intro kk
      unfold Dy_layOut_b25
      rw [h1.1 1 10 (by decide), hC.1 1 10 rfl, hQ, if_neg (by rw [le_nI _ _ (by omega) (by omega)]; omega), hkI, hkL, ck_true, inb_nI (j := j) (n := 10) (by omega) (by omega), ck_true, cl j (by omega), h1.1 k j hk25, ck_true, ck_true, hs0]
      by_cases h : gi S k j = -1
      · rw [if_pos h, if_pos h]
      · rw [if_neg h, if_neg h]
    have hcon : con T2 j (nI o) = con T j (nI o) := by unfold con; rw [g2 14 j (by decide), g2 19 j (by decide)]
    have hd : ∀ y, dU T2 o (j + 1) y = dU T2 o j y + ((if y = mm then (if con T j (nI o) && decide (mm < ende (gi S k j)) then gi T 17 j else 0) else 0) + (if y = ende (gi S k j) then (if con T j (nI o) && decide (mm < ende (gi S k j)) then - gi T 17 j else 0) else 0)) := by
      intro y
      have : dU T2 o (j + 1) y = dU T2 o j y + ((if y = (gi T2 15 j).toNatClampNeg then (if con T2 j (nI o) && decide ((gi T2 15 j).toNatClampNeg < ende (gi T2 18 j)) then gi T2 17 j else 0) else 0) + (if y = ende (gi T2 18 j) then (if con T2 j (nI o) && decide ((gi T2 15 j).toNatClampNeg < ende (gi T2 18 j)) then - gi T2 17 j else 0) else 0)) := rfl
      rw [this, hcon, g2 15 j (by decide), g2 17 j (by decide), g18, hmm]
    generalize ende (gi S k j) = en at *
    by_cases hc : con T j (nI o) = true ∧ mm < en
    · obtain ⟨hc1, hc2⟩ := hc
      refine ⟨(si (si Sj 25 mm (gi Sj 25 mm + gi T 17 j)) 25 en (gi (si Sj 25 mm (gi Sj 25 mm + gi T 17 j)) 25 en - gi T 17 j), nI (j + 1)), fun kk => ?_, _, rfl, (h1.trans (Off.si _ _ _ _)).trans (Off.si _ _ _ _), fun y hy => ?_⟩
      · dsimp only
        rw [e51]
        unfold Dy_layOut_b51
        rw [Sm_concerns_eq hCj (by omega), bd1_some, hc1, bI_t, if_neg (by decide), inb_nI (j := j) (n := 10) (by omega) (by omega), ck_true, cl j (by omega), hCj.g 15 (fun _ => rfl), em, es0, if_neg (by rw [le_nI _ _ (by omega) (by omega)]; omega), ck_true, ck_true, inb_nI (j := mm) (n := 101) (by omega) (by omega), ck_true, ck_true, cl mm (by omega), nm_eq, inb_nI (j := en) (n := 101) (by omega) (by omega), ck_true, ck_true, ck_true, cl en (by omega), nm_eq, nm_eq, nI_1, hCj.g 17 (fun _ => rfl), gi_si _ _ _ _ 17, if_neg (by decide), hCj.g 17 (fun _ => rfl)]
      · rw [hd y]
        simp only [gi_si, if_true, hc1, hc2, decide_true, Bool.and_self]
        have hne : ¬ (en = mm) := by omega
        by_cases h3 : y = en
        · subst h3
          rw [if_pos rfl, if_neg hne, if_neg hne, if_pos rfl, h2 _ hy, Int32.sub_eq_add_neg, Int32.zero_add]
        · by_cases h4 : y = mm
          · subst h4
            rw [if_neg h3, if_pos rfl, if_pos rfl, if_neg h3, h2 _ hy, Int32.add_zero]
          · rw [if_neg h3, if_neg h4, if_neg h4, if_neg h3, h2 _ hy, Int32.add_zero, Int32.add_zero]
    · refine ⟨(Sj, nI (j + 1)), fun kk => ?_, _, rfl, h1, fun y hy => ?_⟩
      · dsimp only
        rw [e51]
        unfold Dy_layOut_b51
        rw [Sm_concerns_eq hCj (by omega), bd1_some, inb_nI (j := j) (n := 10) (by omega) (by omega), ck_true, cl j (by omega), hCj.g 15 (fun _ => rfl), em, es0, nm_eq, nm_eq, nI_1]
        by_cases h3 : con T j (nI o) = true
        · rw [h3, bI_t, if_neg (by decide), if_pos (by rw [le_nI _ _ (by omega) (by omega)]; exact Nat.le_of_not_lt (fun h => hc ⟨h3, h⟩))]
        · have h3' : con T j (nI o) = false := by simpa using h3
          rw [h3', bI_f, if_pos rfl]
      · have hz : (con T j (nI o) && decide (mm < en)) = false := by
          by_cases h3 : con T j (nI o) = true
          · have : ¬ mm < en := fun h => hc ⟨h3, h⟩
            simp [this]
          · simp [h3]
        rw [hd y, hz, h2 y hy]
        simp
  · rw [gi_si, if_pos rfl]
    have : dU T2 o 0 y = if y = 0 then gi T2 11 o else 0 := rfl
    rw [this, g2 11 o (by decide), f1 y hy, o1.1 11 o (by decide), hC.g 11 (fun _ => rfl)]
