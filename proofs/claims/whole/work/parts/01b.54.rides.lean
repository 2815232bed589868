/-- a row of the abstract state put in another's place -/
def setRow (T : St) (v : Nat) (f : Nat → Int32) : St := (fun w => if w = v then f else T.1 w, T.2)
theorem gi_setRow (T : St) (v : Nat) (f : Nat → Int32) (w j : Nat) : gi (setRow T v f) w j = if w = v then f j else gi T w j := by
  unfold gi setRow
  by_cases h : w = v <;> simp [h]
theorem setRow_self (T : St) (v : Nat) : setRow T v (T.1 v) = T := by
  unfold setRow
  have : (fun w => if w = v then T.1 v else T.1 w) = T.1 := by
    funext w; by_cases h : w = v
    · simp [h]
    · simp [h]
  rw [this]
def psum (f : Nat → Int32) : Nat → Int32
  | 0 => f 0
  | n + 1 => psum f n + f (n + 1)
theorem add4 (a b c d : Int32) : a + b + (c + d) = a + c + (b + d) := by
  rw [Int32.add_assoc, Int32.add_assoc, ← Int32.add_assoc b c d, Int32.add_comm b c, Int32.add_assoc c b d]
theorem psum_add (f g : Nat → Int32) : ∀ n, psum (fun y => f y + g y) n = psum f n + psum g n
  | 0 => rfl
  | n + 1 => by
    unfold psum
    rw [psum_add f g n, add4]
theorem psum_spike (a : Nat) (c : Int32) : ∀ n, psum (fun y => if y = a then c else 0) n = if a ≤ n then c else 0
  | 0 => by
    unfold psum
    by_cases h : a = 0
    · simp [h]
    · have h2 : ¬ (0 = a) := fun e => h e.symm
      simp [h, h2]
  | n + 1 => by
    unfold psum
    rw [psum_spike a c n]
    by_cases h1 : a ≤ n
    · have h2 : ¬ (n + 1 = a) := by omega
      have h3 : a ≤ n + 1 := by omega
      simp [h1, h2, h3]
    · by_cases h2 : n + 1 = a
      · have h3 : a ≤ n + 1 := by omega
        simp [h1, h2, h3]
      · have h3 : ¬ a ≤ n + 1 := by omega
        simp [h1, h2, h3]
/-- where a promise ends in the laid-out row -/
def ende (x : Int32) : Nat := if x = -1 then 100 else x.toNatClampNeg
/-- what each day adds, with the first j promises -/
def dU (T : St) (o : Nat) : Nat → Nat → Int32
  | 0, x => if x = 0 then gi T 11 o else 0
  | j + 1, x => dU T o j x + ((if x = (gi T 15 j).toNatClampNeg then (if con T j (nI o) && decide ((gi T 15 j).toNatClampNeg < ende (gi T 18 j)) then gi T 17 j else 0) else 0) + (if x = ende (gi T 18 j) then (if con T j (nI o) && decide ((gi T 15 j).toNatClampNeg < ende (gi T 18 j)) then - gi T 17 j else 0) else 0))
theorem psum_congr {f g : Nat → Int32} (h : ∀ y, f y = g y) (n : Nat) : psum f n = psum g n := by
  have : f = g := funext h
  rw [this]
/-- the range of promises' numbers that the laying out needs -/
def okK (T : St) (Q : Nat) : Prop := ∀ j, j < Q → (0 ≤ (gi T 15 j).toInt ∧ (gi T 15 j).toInt ≤ 99) ∧ (-1 ≤ (gi T 18 j).toInt ∧ (gi T 18 j).toInt ≤ 99)
theorem i32_nI {x : Int32} (h : 0 ≤ x.toInt) : x = nI x.toNatClampNeg ∧ ((x.toNatClampNeg : Nat) : Int) = x.toInt := by
  obtain ⟨j, hj, e⟩ := nI_of (x := x) (by rw [Int32.lt_iff_toInt_lt]; simpa using h)
  subst e
  rw [nI_clamp hj, nI_toInt hj]
  exact ⟨rfl, rfl⟩
theorem ende_lt {T : St} {Q j : Nat} (h : okK T Q) (hj : j < Q) : ende (gi T 18 j) ≤ 100 := by
  have hk := (h j hj).2
  unfold ende
  split
  · exact Nat.le_refl _
  · rename_i hne
    have h0 : 0 ≤ (gi T 18 j).toInt := by
      have : (gi T 18 j).toInt ≠ -1 := fun e => hne (Int32.toInt_inj.mp e)
      omega
    have := (i32_nI h0).2
    omega
theorem psum_dU {T : St} {Q o : Nat} (hk : okK T Q) {x : Nat} (hx : x < 100) : ∀ j, j ≤ Q → psum (dU T o j) x = lenU T o (nI x) j
  | 0, _ => by
    have : psum (dU T o 0) x = psum (fun y => if y = 0 then gi T 11 o else 0) x := psum_congr (fun y => rfl) x
    rw [this, psum_spike]; simp [lenU]
  | j + 1, hj => by
    have ih := psum_dU (o := o) hk hx j (by omega)
    have e1 : psum (dU T o (j + 1)) x = psum (fun y => dU T o j y + ((fun y => if y = (gi T 15 j).toNatClampNeg then (if con T j (nI o) && decide ((gi T 15 j).toNatClampNeg < ende (gi T 18 j)) then gi T 17 j else 0) else 0) y + (fun y => if y = ende (gi T 18 j) then (if con T j (nI o) && decide ((gi T 15 j).toNatClampNeg < ende (gi T 18 j)) then - gi T 17 j else 0) else 0) y)) x := psum_congr (fun y => rfl) x
    rw [e1, psum_add (dU T o j), psum_add, psum_spike, psum_spike, ih]
    have e2 : lenU T o (nI x) (j + 1) = lenU T o (nI x) j + (if con T j (nI o) && opn T j (nI x) then gi T 17 j else 0) := rfl
    rw [e2]
    congr 1
    obtain ⟨⟨hm0, hm1⟩, hk0, hk1⟩ := hk j (by omega)
    obtain ⟨em, em2⟩ := i32_nI hm0
    generalize hmm : (gi T 15 j).toNatClampNeg = mm at *
    have ho : opn T j (nI x) = (decide (mm ≤ x) && decide (x < ende (gi T 18 j))) := by
      unfold opn ende
      simp only [em, lt_nI x mm (by omega) (by omega)]
      by_cases h1 : gi T 18 j = -1
      · by_cases h2 : mm ≤ x
        · have h4 : ¬ x < mm := by omega
          simp [h1, h2, h4, hx]
        · have h4 : x < mm := by omega
          simp [h1, h2, h4]
      · have h0 : 0 ≤ (gi T 18 j).toInt := by
          have : (gi T 18 j).toInt ≠ -1 := fun e => h1 (Int32.toInt_inj.mp e)
          omega
        obtain ⟨ek, ek2⟩ := i32_nI h0
        generalize hkk : (gi T 18 j).toNatClampNeg = kk at *
        simp only [h1, decide_false, Bool.false_or, if_false]
        simp only [ek, le_nI kk x (by omega) (by omega)]
        by_cases h2 : mm ≤ x <;> by_cases h3 : x < kk
        all_goals (have h4 : (kk ≤ x) = ¬ (x < kk) := propext (by omega)); (have h5 : (x < mm) = ¬ (mm ≤ x) := propext (by omega)); simp [h2, h3, h4, h5]
    rw [ho]
    generalize ende (gi T 18 j) = en
    cases con T j (nI o)
    · simp
    · by_cases h1 : mm < en
      · by_cases h2 : mm ≤ x <;> by_cases h3 : en ≤ x
        · have h4 : ¬ x < en := by omega
          simp [h1, h2, h3, h4, Int32.add_right_neg]
        · have h4 : x < en := by omega
          simp [h1, h2, h3, h4]
        · exact absurd h3 (by omega)
        · simp [h1, h2, h3]
      · have h4 : ¬ (mm ≤ x ∧ x < en) := by omega
        by_cases h2 : mm ≤ x
        · have h5 : ¬ x < en := by omega
          simp [h1, h2, h5]
        · simp [h1, h2]
