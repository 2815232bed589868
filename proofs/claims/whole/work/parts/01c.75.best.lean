/-- how many ride on a day -/
def rdn (T : St) (P Q x : Nat) : Nat := cnt (fun o => rd T Q o x) P
theorem rdn_le (T : St) (P Q x : Nat) : rdn T P Q x ≤ P := cnt_le _ P
theorem rdn_pop {T : St} {P Q : Nat} (hP : P ≤ 6) (x : Nat) : pop (setU (fun o => rid T Q o (nI x)) P) = rdn T P Q x := pop_setU _ P (by omega)
def am (f : Nat → Nat) : Nat → Nat
  | 0 => 0
  | d + 1 => if f d ≤ f (am f d) then am f d else d
theorem am_le (f : Nat → Nat) : ∀ d, am f d ≤ d
  | 0 => Nat.le_refl _
  | d + 1 => by
    have := am_le f d
    unfold am; split <;> omega
theorem am_1 (f : Nat → Nat) : am f 1 = 0 := by
  show (if f 0 ≤ f 0 then 0 else 0) = 0
  split <;> rfl
theorem lp_fam {κ α ρ : Type} {b : κ → (α → Option ρ) → α → Option ρ} (I : Nat → α → Prop) (m : Nat) (hs : ∀ j x, j < m → I j x → ∃ x', (∀ q k, b q k x = k x') ∧ I (j + 1) x') : ∀ (n i : Nat) (x : α), i ≤ m → m - i < n → I i x → ∃ x', I m x' ∧ ∀ q, ∃ k, lp (b q) n x = b q k x' := by
  intro n
  induction n with
  | zero => intro i x _ h; exact absurd h (Nat.not_lt_zero _)
  | succ n ih =>
    intro i x hi hn hI
    rcases Nat.lt_or_ge i m with h | h
    · obtain ⟨x', e, hI'⟩ := hs i x h hI
      obtain ⟨y, y1, y2⟩ := ih (i + 1) x' h (by omega) hI'
      refine ⟨y, y1, fun q => ?_⟩
      show ∃ k, b q (lp (b q) n) x = b q k y
      rw [e]; exact y2 q
    · have e : i = m := by omega
      subst e
      exact ⟨x, hI, fun q => ⟨_, rfl⟩⟩
theorem full_in {S T : St} {P Q N o : Nat} (hC : Core S T) (hN : iN T P Q) (ho : o < P) (hl : ∀ x, x < 100 → gi S 25 x = lenU T o (nI x) Q) (f : Nat → Nat) (hr : ∀ x, x < 100 → gi S 26 x = nI (f x)) (hf : 101 < N) :
    ∃ S', (∀ k10, Dy_fullestDay_L35 N k10 (nI o) (S, 0) = k10 (S', nI (o + 1))) ∧ Core S' T ∧ ∀ x, x < 100 → gi S' 26 x = nI (f x + if rd T Q o x = true then 1 else 0) := by
  unfold Dy_fullestDay_L35
  have hs : ∀ j (x : St × Int32), j < 100 → (fun j (x : St × Int32) => ∃ Sj, x = (Sj, nI j) ∧ Core Sj T ∧ (∀ x, x < 100 → gi Sj 25 x = lenU T o (nI x) Q) ∧ ∀ x, x < 100 → gi Sj 26 x = nI (f x + if x < j ∧ rd T Q o x = true then 1 else 0)) j x → ∃ x', (∀ (k10 k : (St × Int32) → Option (Int32 × St)), (fun k10 k (x : St × Int32) => Dy_fullestDay_b35 N k10 k x.1 (nI o) x.2) k10 k x = k x') ∧ (fun j (x : St × Int32) => ∃ Sj, x = (Sj, nI j) ∧ Core Sj T ∧ (∀ x, x < 100 → gi Sj 25 x = lenU T o (nI x) Q) ∧ ∀ x, x < 100 → gi Sj 26 x = nI (f x + if x < j ∧ rd T Q o x = true then 1 else 0)) (j + 1) x' := by
    rintro j x hj ⟨Sj, rfl, h1, h2, h3⟩
    dsimp only
    by_cases h : rd T Q o j = true
    · refine ⟨(si Sj 26 j (gi Sj 26 j + 1), nI (j + 1)), fun k10 k => ?_, _, rfl, h1.off (v := 26) (fun _ => rfl) (Off.si _ _ _ _), fun x hx => ?_, fun x hx => ?_⟩
      · unfold Dy_fullestDay_b35
        rw [if_neg (by show ¬ nI 100 ≤ nI j; rw [le_nI _ _ (by omega) (by omega)]; omega), Dy_ridesLaidOut_eq h1 hN ho h2 hj, bd1_some, if_bI, if_pos h, inb_nI (j := j) (n := 100) (by omega) (by omega), ck_true, ck_true, cl j (by omega), nm_eq, nm_eq, nI_1]
      · rw [gi_si, if_neg (by decide)]; exact h2 x hx
      · rw [gi_si, if_pos rfl]
        by_cases e : x = j
        · subst e
          rw [if_pos rfl, h3 x hx, if_neg (by omega), if_pos ⟨by omega, h⟩]; exact nI_1 _
        · rw [if_neg e, h3 x hx]
          by_cases e2 : x < j
          · have e3 : x < j + 1 := by omega
            simp only [e2, e3, true_and]
          · have e3 : ¬ x < j + 1 := by omega
            simp only [e2, e3, false_and, if_false]
    · refine ⟨(Sj, nI (j + 1)), fun k10 k => ?_, _, rfl, h1, h2, fun x hx => ?_⟩
      · unfold Dy_fullestDay_b35
        rw [if_neg (by show ¬ nI 100 ≤ nI j; rw [le_nI _ _ (by omega) (by omega)]; omega), Dy_ridesLaidOut_eq h1 hN ho h2 hj, bd1_some, if_bI, if_neg h, nm_eq, nI_1]
      · rw [h3 x hx]
        by_cases e : x = j
        · subst e
          simp [h]
        · by_cases e2 : x < j
          · have e3 : x < j + 1 := by omega
            simp only [e2, e3, true_and]
          · have e3 : ¬ x < j + 1 := by omega
            simp only [e2, e3, false_and, if_false]
  obtain ⟨x, ⟨Sj, rfl, h1, h2, h3⟩, e⟩ := lp_fam _ 100 hs N 0 (S, 0) (by omega) (by omega) ⟨S, rfl, hC, hl, fun x hx => by rw [hr x hx, if_neg (by omega)]; rfl⟩
  refine ⟨Sj, fun k10 => ?_, h1, fun x hx => ?_⟩
  · obtain ⟨k, e⟩ := e k10
    rw [e]
    dsimp only
    unfold Dy_fullestDay_b35
    rw [if_pos (by show nI 100 ≤ nI 100; exact Int32.le_refl _), nm_eq, nI_1]
  · rw [h3 x hx]; simp only [hx, true_and]
theorem full_eq {S T : St} {P Q N : Nat} (hX : XP S T P Q) (hf : 110 < N) : ∃ S', Dy_fullestDay N S = some (nI (am (rdn T P Q) 100), S') ∧ Core S' T := by
  obtain ⟨hC, hN, hPe, hPr⟩ := hX
  have hP6 := hN.2.1
  unfold Dy_fullestDay
  obtain ⟨S1, e1, o1, f1⟩ := fill_eq (N := N) S (k := 26) (n := 100) 0 rfl rfl (by omega) (by omega)
  rw [e1, bd1_some]
  unfold Dy_fullestDay_L10
  have hs : ∀ j (x : St × Int32), j < P → (fun j (x : St × Int32) => ∃ Sj, x = (Sj, nI j) ∧ Core Sj T ∧ ∀ x, x < 100 → gi Sj 26 x = nI (rdn T j Q x)) j x → ∃ x', (∀ k, (fun k (x : St × Int32) => Dy_fullestDay_b10 N k x.1 x.2) k x = k x') ∧ (fun j (x : St × Int32) => ∃ Sj, x = (Sj, nI j) ∧ Core Sj T ∧ ∀ x, x < 100 → gi Sj 26 x = nI (rdn T j Q x)) (j + 1) x' := by
    rintro j x hj ⟨Sj, rfl, h1, h2⟩
    dsimp only
    obtain ⟨S', s1, s2, s3, s4⟩ := layT (N := N) (S := Sj) (T := T) ⟨h1, hN, hPe, hPr⟩ hj hf
    have h2' : ∀ x, x < 100 → gi S' 26 x = nI (rdn T j Q x) := fun x hx => by rw [s2.1 26 x (by decide)]; exact h2 x hx
    obtain ⟨S'', k1, k2, k3⟩ := full_in (N := N) s3 hN hj s4 (rdn T j Q) h2' (by omega)
    refine ⟨(S'', nI (j + 1)), fun k => ?_, _, rfl, k2, fun x hx => ?_⟩
    · unfold Dy_fullestDay_b10
      rw [h1.1 1 9 rfl, hN.1, if_neg (by rw [le_nI _ _ (by omega) (by omega)]; omega), s1, bd1_some, k1]
    · rw [k3 x hx]; rfl
  obtain ⟨x, k, e, Sj, rfl, h1, h2⟩ := lp_go _ P hs N 0 (S1, 0) (by omega) (by omega) ⟨S1, rfl, hC.off (fun _ => rfl) o1, fun x hx => by rw [f1 x hx]; rfl⟩
  refine ⟨Sj, ?_, h1⟩
  rw [e]
  dsimp only
  unfold Dy_fullestDay_b10
  rw [h1.1 1 9 rfl, hN.1, if_pos (Int32.le_refl _)]
  unfold Dy_fullestDay_L76
  have h : lp (fun k (x : Int32 × Int32) => Dy_fullestDay_b76 N k Sj x.1 x.2) N ((fun d => (nI (am (rdn T P Q) d), nI d)) 1) = some (nI (am (rdn T P Q) 100), Sj) := by
    refine lp_run (fun d => (nI (am (rdn T P Q) d), nI d)) 100 (fun k => ?_) N 1 (by omega) (by omega) (fun d hd1 hd k => ?_)
    · dsimp only
      unfold Dy_fullestDay_b76
      rw [if_pos (by show nI 100 ≤ nI 100; exact Int32.le_refl _)]
    · dsimp only
      have hle := am_le (rdn T P Q) d
      have b1 := rdn_le T P Q d
      have b2 := rdn_le T P Q (am (rdn T P Q) d)
      unfold Dy_fullestDay_b76
      rw [if_neg (by show ¬ nI 100 ≤ nI d; rw [le_nI _ _ (by omega) (by omega)]; omega), inb_nI (j := d) (n := 100) (by omega) (by omega), inb_nI (j := am (rdn T P Q) d) (n := 100) (by omega) (by omega), ck_true, ck_true, cl d (by omega), cl (am (rdn T P Q) d) (by omega), h2 d hd, h2 _ (by omega), nm_eq, nm_eq, nI_1]
      have ea : am (rdn T P Q) (d + 1) = if rdn T P Q d ≤ rdn T P Q (am (rdn T P Q) d) then am (rdn T P Q) d else d := rfl
      rw [ea]
      by_cases c : rdn T P Q d ≤ rdn T P Q (am (rdn T P Q) d)
      · rw [if_pos c, if_pos (by rw [le_nI _ _ (by omega) (by omega)]; exact c)]
      · rw [if_neg c, if_neg (by rw [le_nI _ _ (by omega) (by omega)]; exact c)]
  dsimp only at h
  rw [am_1] at h
  exact h
theorem bestV_eq {V T : St} {P Q N : Nat} (hM : MP V T P Q) (w : Int32) (hf : 101 < N) : Mo_best_L19 N V w (0, -1, 0) = some (if w = 0 then nI (am (rdn T P Q) 100) else nI (rdn T P Q (am (rdn T P Q) 100))) := by
  have hP6 := hM.2.1.2.1
  have hr : ∀ d, Mo_ridersOn N V (nI d) = some (nI (setU (fun o => rid T Q o (nI d)) P)) := fun d => Mo_ridersOn_eq hM _ (by omega)
  have hb : ∀ d, Mo_bitsOf N V (nI (setU (fun o => rid T Q o (nI d)) P)) = some (nI (rdn T P Q d)) := fun d => by
    rw [Mo_bitsOf_eq V (setU_lt10 _ (by omega)) (by omega), rdn_pop hP6]
  unfold Mo_best_L19
  refine lp_run (fun d => (nI (am (rdn T P Q) d), (if d = 0 then -1 else nI (rdn T P Q (am (rdn T P Q) d))), nI d)) 100 (fun k => ?_) N 0 (by omega) (by omega) (fun d hd1 hd k => ?_)
  · dsimp only
    unfold Mo_best_b19
    rw [if_pos (by show (99 : Int32) < nI 100; decide), if_neg (by decide : ¬ 100 = 0)]
    split <;> rfl
  · dsimp only
    have b1 := rdn_le T P Q d
    have b2 := rdn_le T P Q (am (rdn T P Q) d)
    unfold Mo_best_b19
    rw [if_neg (by show ¬ nI 99 < nI d; rw [lt_nI _ _ (by omega) (by omega)]; omega), hr, bd1_some, hb, bd1_some, nm_eq, nm_eq, nI_1, if_neg (by omega : ¬ d + 1 = 0)]
    have ea : am (rdn T P Q) (d + 1) = if rdn T P Q d ≤ rdn T P Q (am (rdn T P Q) d) then am (rdn T P Q) d else d := rfl
    by_cases d0 : d = 0
    · subst d0
      rw [if_pos rfl, if_neg (by rw [Int32.le_iff_toInt_le, ti _ (by omega), tim1]; omega), am_1]
    · rw [if_neg d0, ea]
      by_cases c : rdn T P Q d ≤ rdn T P Q (am (rdn T P Q) d)
      · rw [if_pos c, if_pos (by rw [le_nI _ _ (by omega) (by omega)]; exact c)]
      · rw [if_neg c, if_neg (by rw [le_nI _ _ (by omega) (by omega)]; exact c)]
theorem RR_best : LS_best RR := by
  rintro S V p1 hRR
  have hRR' := hRR
  obtain ⟨T, P, Q, F, c, a, B, hC, hR⟩ := hRR
  have hR' := hR
  obtain ⟨hN, hPe, hPr, hP, -⟩ := hR'
  have hX : XP S T P Q := ⟨hC, hN, hPe, hPr⟩
  have hM : MP V T P Q := ⟨hP, hN, hPe, hPr⟩
  have hP6 := hN.2.1
  unfold Ch_best Mo_best
  simp only [Ch_isEither_eq, Mo_within_eq, bd1_some, if_bI, Int32.toInt_toInt64, tI0, tI1]
  by_cases h1 : wi p1.toInt 0 1 = true
  · rw [if_pos h1, if_pos h1]
    obtain ⟨S', s1, s2⟩ := full_eq (N := fuel) hX (by decide)
    rw [s1, bd2_some, bestV_eq (N := fuel) hM p1 (by decide), Sm_ridersOn_eq (N := fuel) ⟨s2, hN, hPe, hPr⟩ _ (by decide), bd1_some, In_bitCount_eq S' (setU_lt10 _ (by omega)), bd1_some, rdn_pop hP6]
    refine ⟨if p1 = 0 then nI (am (rdn T P Q) 100) else nI (rdn T P Q (am (rdn T P Q) 100)), S', ?_, rfl, T, P, Q, F, c, a, B, s2, hR⟩
    split <;> rfl
  · rw [if_neg h1, if_neg h1]; exact ⟨_, _, rfl, rfl, hRR'⟩
