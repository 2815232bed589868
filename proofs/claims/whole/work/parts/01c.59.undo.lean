def rwN (w : Nat) : Nat := if w = 0 then 11 else if w = 1 then 12 else if w = 2 then 13 else if w = 3 then 16 else if w = 4 then 17 else if w = 5 then 18 else 19
theorem RL_become_0 {V T : St} {P Q F c a B n : Nat} {x : Int32} (h : RLk V T P Q F c a B) (hk : okv T P Q 0 n x) : RLk (si V 45 n x) (si T 11 n x) P Q F c a B := by
  obtain ⟨hN, hPe, hPr, hP, hTa, hLw, hLd, hCh, hBo, hSh⟩ := h
  obtain ⟨k0, k1, k2, k3, k4, k5, k6, k7⟩ := hk
  have hP6 := hN.2.1
  have hQ10 := hN.2.2.2
  have kw := k0 rfl
  refine ⟨by simpa only [iN, gi_si, gl_si, gi_sl, gl_sl, row_si, row_sl, Nat.reduceEqDiff, reduceIte] using hN, fun j hj => ?_, by simpa only [iPr, gi_si, gl_si, gi_sl, gl_sl, row_si, row_sl, Nat.reduceEqDiff, reduceIte] using hPr, ⟨by simpa only [gi_si, gl_si, gi_sl, gl_sl, row_si, row_sl, Nat.reduceEqDiff, reduceIte] using hP.1, by simpa only [gi_si, gl_si, gi_sl, gl_sl, row_si, row_sl, Nat.reduceEqDiff, reduceIte] using hP.2.1, fun j hj => ?_, fun j hj => ?_⟩, by simpa only [rTa, gi_si, gl_si, gi_sl, gl_sl, row_si, row_sl, Nat.reduceEqDiff, reduceIte] using hTa, by simpa only [rLw, gi_si, gl_si, gi_sl, gl_sl, row_si, row_sl, Nat.reduceEqDiff, reduceIte] using hLw, by simpa only [rLd, gi_si, gl_si, gi_sl, gl_sl, row_si, row_sl, Nat.reduceEqDiff, reduceIte] using hLd, by simpa only [rCh, iCe, okv, gi_si, gl_si, gi_sl, gl_sl, row_si, row_sl, Nat.reduceEqDiff, reduceIte] using hCh, by simpa only [rBo, gi_si, gl_si, gi_sl, gl_sl, row_si, row_sl, Nat.reduceEqDiff, reduceIte] using hBo, by simpa only [rSh, rS1, gi_si, gl_si, gi_sl, gl_sl, row_si, row_sl, Nat.reduceEqDiff, reduceIte] using hSh⟩
  · have b := hPe j hj
    simp only [gi_si, gl_si, gi_sl, gl_sl, row_si, row_sl, Nat.reduceEqDiff, reduceIte]
    by_cases e : j = n
    · (repeat (first | rw [if_pos (by omega)] | rw [if_neg (by omega)]))
      subst e
      exact ⟨kw.2, b.2.1, b.2.2⟩
    · (repeat (first | rw [if_pos (by omega)] | rw [if_neg (by omega)]))
      exact b
  · obtain ⟨b1, b2, b3⟩ := hP.2.2.1 j hj
    simp only [gi_si, gl_si, gi_sl, gl_sl, row_si, row_sl, Nat.reduceEqDiff, reduceIte]
    by_cases e : j = n
    · (repeat (first | rw [if_pos (by omega)] | rw [if_neg (by omega)]))
      exact ⟨rfl, b2, b3⟩
    · (repeat (first | rw [if_pos (by omega)] | rw [if_neg (by omega)]))
      exact ⟨b1, b2, b3⟩
  · obtain ⟨b1, b2, b3, b4, b5, b6⟩ := hP.2.2.2 j hj
    simp only [gi_si, gl_si, gi_sl, gl_sl, row_si, row_sl, Nat.reduceEqDiff, reduceIte]
    (repeat (first | rw [if_pos (by omega)] | rw [if_neg (by omega)]))
    exact ⟨b1, b2, b3, b4, b5, b6⟩
theorem RL_become_1 {V T : St} {P Q F c a B n : Nat} {x : Int32} (h : RLk V T P Q F c a B) (hk : okv T P Q 1 n x) : RLk (si V 45 (6 + n) x) (si T 12 n x) P Q F c a B := by
  obtain ⟨hN, hPe, hPr, hP, hTa, hLw, hLd, hCh, hBo, hSh⟩ := h
  obtain ⟨k0, k1, k2, k3, k4, k5, k6, k7⟩ := hk
  have hP6 := hN.2.1
  have hQ10 := hN.2.2.2
  have kw := k1 rfl
  refine ⟨by simpa only [iN, gi_si, gl_si, gi_sl, gl_sl, row_si, row_sl, Nat.reduceEqDiff, reduceIte] using hN, fun j hj => ?_, by simpa only [iPr, gi_si, gl_si, gi_sl, gl_sl, row_si, row_sl, Nat.reduceEqDiff, reduceIte] using hPr, ⟨by simpa only [gi_si, gl_si, gi_sl, gl_sl, row_si, row_sl, Nat.reduceEqDiff, reduceIte] using hP.1, by simpa only [gi_si, gl_si, gi_sl, gl_sl, row_si, row_sl, Nat.reduceEqDiff, reduceIte] using hP.2.1, fun j hj => ?_, fun j hj => ?_⟩, by simpa only [rTa, gi_si, gl_si, gi_sl, gl_sl, row_si, row_sl, Nat.reduceEqDiff, reduceIte] using hTa, by simpa only [rLw, gi_si, gl_si, gi_sl, gl_sl, row_si, row_sl, Nat.reduceEqDiff, reduceIte] using hLw, by simpa only [rLd, gi_si, gl_si, gi_sl, gl_sl, row_si, row_sl, Nat.reduceEqDiff, reduceIte] using hLd, by simpa only [rCh, iCe, okv, gi_si, gl_si, gi_sl, gl_sl, row_si, row_sl, Nat.reduceEqDiff, reduceIte] using hCh, by simpa only [rBo, gi_si, gl_si, gi_sl, gl_sl, row_si, row_sl, Nat.reduceEqDiff, reduceIte] using hBo, by simpa only [rSh, rS1, gi_si, gl_si, gi_sl, gl_sl, row_si, row_sl, Nat.reduceEqDiff, reduceIte] using hSh⟩
  · have b := hPe j hj
    simp only [gi_si, gl_si, gi_sl, gl_sl, row_si, row_sl, Nat.reduceEqDiff, reduceIte]
    by_cases e : j = n
    · (repeat (first | rw [if_pos (by omega)] | rw [if_neg (by omega)]))
      subst e
      exact ⟨b.1, kw.2, b.2.2⟩
    · (repeat (first | rw [if_pos (by omega)] | rw [if_neg (by omega)]))
      exact b
  · obtain ⟨b1, b2, b3⟩ := hP.2.2.1 j hj
    simp only [gi_si, gl_si, gi_sl, gl_sl, row_si, row_sl, Nat.reduceEqDiff, reduceIte]
    by_cases e : j = n
    · (repeat (first | rw [if_pos (by omega)] | rw [if_neg (by omega)]))
      exact ⟨b1, rfl, b3⟩
    · (repeat (first | rw [if_pos (by omega)] | rw [if_neg (by omega)]))
      exact ⟨b1, b2, b3⟩
  · obtain ⟨b1, b2, b3, b4, b5, b6⟩ := hP.2.2.2 j hj
    simp only [gi_si, gl_si, gi_sl, gl_sl, row_si, row_sl, Nat.reduceEqDiff, reduceIte]
    (repeat (first | rw [if_pos (by omega)] | rw [if_neg (by omega)]))
    exact ⟨b1, b2, b3, b4, b5, b6⟩
theorem RL_become_2 {V T : St} {P Q F c a B n : Nat} {x : Int32} (h : RLk V T P Q F c a B) (hk : okv T P Q 2 n x) : RLk (si V 45 (12 + n) x) (si T 13 n x) P Q F c a B := by
  obtain ⟨hN, hPe, hPr, hP, hTa, hLw, hLd, hCh, hBo, hSh⟩ := h
  obtain ⟨k0, k1, k2, k3, k4, k5, k6, k7⟩ := hk
  have hP6 := hN.2.1
  have hQ10 := hN.2.2.2
  have kw := k2 rfl
  refine ⟨by simpa only [iN, gi_si, gl_si, gi_sl, gl_sl, row_si, row_sl, Nat.reduceEqDiff, reduceIte] using hN, fun j hj => ?_, by simpa only [iPr, gi_si, gl_si, gi_sl, gl_sl, row_si, row_sl, Nat.reduceEqDiff, reduceIte] using hPr, ⟨by simpa only [gi_si, gl_si, gi_sl, gl_sl, row_si, row_sl, Nat.reduceEqDiff, reduceIte] using hP.1, by simpa only [gi_si, gl_si, gi_sl, gl_sl, row_si, row_sl, Nat.reduceEqDiff, reduceIte] using hP.2.1, fun j hj => ?_, fun j hj => ?_⟩, by simpa only [rTa, gi_si, gl_si, gi_sl, gl_sl, row_si, row_sl, Nat.reduceEqDiff, reduceIte] using hTa, by simpa only [rLw, gi_si, gl_si, gi_sl, gl_sl, row_si, row_sl, Nat.reduceEqDiff, reduceIte] using hLw, by simpa only [rLd, gi_si, gl_si, gi_sl, gl_sl, row_si, row_sl, Nat.reduceEqDiff, reduceIte] using hLd, by simpa only [rCh, iCe, okv, gi_si, gl_si, gi_sl, gl_sl, row_si, row_sl, Nat.reduceEqDiff, reduceIte] using hCh, by simpa only [rBo, gi_si, gl_si, gi_sl, gl_sl, row_si, row_sl, Nat.reduceEqDiff, reduceIte] using hBo, by simpa only [rSh, rS1, gi_si, gl_si, gi_sl, gl_sl, row_si, row_sl, Nat.reduceEqDiff, reduceIte] using hSh⟩
  · have b := hPe j hj
    simp only [gi_si, gl_si, gi_sl, gl_sl, row_si, row_sl, Nat.reduceEqDiff, reduceIte]
    by_cases e : j = n
    · (repeat (first | rw [if_pos (by omega)] | rw [if_neg (by omega)]))
      subst e
      exact ⟨b.1, b.2.1, kw.2⟩
    · (repeat (first | rw [if_pos (by omega)] | rw [if_neg (by omega)]))
      exact b
  · obtain ⟨b1, b2, b3⟩ := hP.2.2.1 j hj
    simp only [gi_si, gl_si, gi_sl, gl_sl, row_si, row_sl, Nat.reduceEqDiff, reduceIte]
    by_cases e : j = n
    · (repeat (first | rw [if_pos (by omega)] | rw [if_neg (by omega)]))
      exact ⟨b1, b2, rfl⟩
    · (repeat (first | rw [if_pos (by omega)] | rw [if_neg (by omega)]))
      exact ⟨b1, b2, b3⟩
  · obtain ⟨b1, b2, b3, b4, b5, b6⟩ := hP.2.2.2 j hj
    simp only [gi_si, gl_si, gi_sl, gl_sl, row_si, row_sl, Nat.reduceEqDiff, reduceIte]
    (repeat (first | rw [if_pos (by omega)] | rw [if_neg (by omega)]))
    exact ⟨b1, b2, b3, b4, b5, b6⟩
theorem RL_become_3 {V T : St} {P Q F c a B n : Nat} {x : Int32} (h : RLk V T P Q F c a B) (hk : okv T P Q 3 n x) : RLk (si V 45 (18 + n) x) (si T 16 n x) P Q F c a B := by
  obtain ⟨hN, hPe, hPr, hP, hTa, hLw, hLd, hCh, hBo, hSh⟩ := h
  obtain ⟨k0, k1, k2, k3, k4, k5, k6, k7⟩ := hk
  have hP6 := hN.2.1
  have hQ10 := hN.2.2.2
  have kn := k3 (by omega)
  have kw := k4 rfl
  refine ⟨by simpa only [iN, gi_si, gl_si, gi_sl, gl_sl, row_si, row_sl, Nat.reduceEqDiff, reduceIte] using hN, by simpa only [iPe, gi_si, gl_si, gi_sl, gl_sl, row_si, row_sl, Nat.reduceEqDiff, reduceIte] using hPe, fun j hj => ?_, ⟨by simpa only [gi_si, gl_si, gi_sl, gl_sl, row_si, row_sl, Nat.reduceEqDiff, reduceIte] using hP.1, by simpa only [gi_si, gl_si, gi_sl, gl_sl, row_si, row_sl, Nat.reduceEqDiff, reduceIte] using hP.2.1, fun j hj => ?_, fun j hj => ?_⟩, by simpa only [rTa, gi_si, gl_si, gi_sl, gl_sl, row_si, row_sl, Nat.reduceEqDiff, reduceIte] using hTa, by simpa only [rLw, gi_si, gl_si, gi_sl, gl_sl, row_si, row_sl, Nat.reduceEqDiff, reduceIte] using hLw, by simpa only [rLd, gi_si, gl_si, gi_sl, gl_sl, row_si, row_sl, Nat.reduceEqDiff, reduceIte] using hLd, by simpa only [rCh, iCe, okv, gi_si, gl_si, gi_sl, gl_sl, row_si, row_sl, Nat.reduceEqDiff, reduceIte] using hCh, by simpa only [rBo, gi_si, gl_si, gi_sl, gl_sl, row_si, row_sl, Nat.reduceEqDiff, reduceIte] using hBo, by simpa only [rSh, rS1, gi_si, gl_si, gi_sl, gl_sl, row_si, row_sl, Nat.reduceEqDiff, reduceIte] using hSh⟩
  · obtain ⟨b1, b2, b3, b4, b5⟩ := hPr j hj
    simp only [gi_si, gl_si, gi_sl, gl_sl, row_si, row_sl, Nat.reduceEqDiff, reduceIte]
    by_cases e : j = n
    · (repeat (first | rw [if_pos (by omega)] | rw [if_neg (by omega)]))
      subst e
      exact ⟨b1, ⟨b2.1, kw.1, kw.2⟩, b3, b4, b5⟩
    · (repeat (first | rw [if_pos (by omega)] | rw [if_neg (by omega)]))
      exact ⟨b1, b2, b3, b4, b5⟩
  · obtain ⟨b1, b2, b3⟩ := hP.2.2.1 j hj
    simp only [gi_si, gl_si, gi_sl, gl_sl, row_si, row_sl, Nat.reduceEqDiff, reduceIte]
    (repeat (first | rw [if_pos (by omega)] | rw [if_neg (by omega)]))
    exact ⟨b1, b2, b3⟩
  · obtain ⟨b1, b2, b3, b4, b5, b6⟩ := hP.2.2.2 j hj
    simp only [gi_si, gl_si, gi_sl, gl_sl, row_si, row_sl, Nat.reduceEqDiff, reduceIte]
    by_cases e : j = n
    · (repeat (first | rw [if_pos (by omega)] | rw [if_neg (by omega)]))
      exact ⟨b1, b2, rfl, b4, b5, b6⟩
    · (repeat (first | rw [if_pos (by omega)] | rw [if_neg (by omega)]))
      exact ⟨b1, b2, b3, b4, b5, b6⟩
theorem RL_become_4 {V T : St} {P Q F c a B n : Nat} {x : Int32} (h : RLk V T P Q F c a B) (hk : okv T P Q 4 n x) : RLk (si V 45 (28 + n) x) (si T 17 n x) P Q F c a B := by
  obtain ⟨hN, hPe, hPr, hP, hTa, hLw, hLd, hCh, hBo, hSh⟩ := h
  obtain ⟨k0, k1, k2, k3, k4, k5, k6, k7⟩ := hk
  have hP6 := hN.2.1
  have hQ10 := hN.2.2.2
  have kn := k3 (by omega)
  have kw := k5 rfl
  refine ⟨by simpa only [iN, gi_si, gl_si, gi_sl, gl_sl, row_si, row_sl, Nat.reduceEqDiff, reduceIte] using hN, by simpa only [iPe, gi_si, gl_si, gi_sl, gl_sl, row_si, row_sl, Nat.reduceEqDiff, reduceIte] using hPe, fun j hj => ?_, ⟨by simpa only [gi_si, gl_si, gi_sl, gl_sl, row_si, row_sl, Nat.reduceEqDiff, reduceIte] using hP.1, by simpa only [gi_si, gl_si, gi_sl, gl_sl, row_si, row_sl, Nat.reduceEqDiff, reduceIte] using hP.2.1, fun j hj => ?_, fun j hj => ?_⟩, by simpa only [rTa, gi_si, gl_si, gi_sl, gl_sl, row_si, row_sl, Nat.reduceEqDiff, reduceIte] using hTa, by simpa only [rLw, gi_si, gl_si, gi_sl, gl_sl, row_si, row_sl, Nat.reduceEqDiff, reduceIte] using hLw, by simpa only [rLd, gi_si, gl_si, gi_sl, gl_sl, row_si, row_sl, Nat.reduceEqDiff, reduceIte] using hLd, by simpa only [rCh, iCe, okv, gi_si, gl_si, gi_sl, gl_sl, row_si, row_sl, Nat.reduceEqDiff, reduceIte] using hCh, by simpa only [rBo, gi_si, gl_si, gi_sl, gl_sl, row_si, row_sl, Nat.reduceEqDiff, reduceIte] using hBo, by simpa only [rSh, rS1, gi_si, gl_si, gi_sl, gl_sl, row_si, row_sl, Nat.reduceEqDiff, reduceIte] using hSh⟩
  · obtain ⟨b1, b2, b3, b4, b5⟩ := hPr j hj
    simp only [gi_si, gl_si, gi_sl, gl_sl, row_si, row_sl, Nat.reduceEqDiff, reduceIte]
    by_cases e : j = n
    · (repeat (first | rw [if_pos (by omega)] | rw [if_neg (by omega)]))
      subst e
      exact ⟨b1, b2, kw, b4, b5⟩
    · (repeat (first | rw [if_pos (by omega)] | rw [if_neg (by omega)]))
      exact ⟨b1, b2, b3, b4, b5⟩
  · obtain ⟨b1, b2, b3⟩ := hP.2.2.1 j hj
    simp only [gi_si, gl_si, gi_sl, gl_sl, row_si, row_sl, Nat.reduceEqDiff, reduceIte]
    (repeat (first | rw [if_pos (by omega)] | rw [if_neg (by omega)]))
    exact ⟨b1, b2, b3⟩
  · obtain ⟨b1, b2, b3, b4, b5, b6⟩ := hP.2.2.2 j hj
    simp only [gi_si, gl_si, gi_sl, gl_sl, row_si, row_sl, Nat.reduceEqDiff, reduceIte]
    by_cases e : j = n
    · (repeat (first | rw [if_pos (by omega)] | rw [if_neg (by omega)]))
      exact ⟨b1, b2, b3, rfl, b5, b6⟩
    · (repeat (first | rw [if_pos (by omega)] | rw [if_neg (by omega)]))
      exact ⟨b1, b2, b3, b4, b5, b6⟩
theorem RL_become_5 {V T : St} {P Q F c a B n : Nat} {x : Int32} (h : RLk V T P Q F c a B) (hk : okv T P Q 5 n x) : RLk (si V 45 (38 + n) x) (si T 18 n x) P Q F c a B := by
  obtain ⟨hN, hPe, hPr, hP, hTa, hLw, hLd, hCh, hBo, hSh⟩ := h
  obtain ⟨k0, k1, k2, k3, k4, k5, k6, k7⟩ := hk
  have hP6 := hN.2.1
  have hQ10 := hN.2.2.2
  have kn := k3 (by omega)
  have kw := k6 rfl
  refine ⟨by simpa only [iN, gi_si, gl_si, gi_sl, gl_sl, row_si, row_sl, Nat.reduceEqDiff, reduceIte] using hN, by simpa only [iPe, gi_si, gl_si, gi_sl, gl_sl, row_si, row_sl, Nat.reduceEqDiff, reduceIte] using hPe, fun j hj => ?_, ⟨by simpa only [gi_si, gl_si, gi_sl, gl_sl, row_si, row_sl, Nat.reduceEqDiff, reduceIte] using hP.1, by simpa only [gi_si, gl_si, gi_sl, gl_sl, row_si, row_sl, Nat.reduceEqDiff, reduceIte] using hP.2.1, fun j hj => ?_, fun j hj => ?_⟩, by simpa only [rTa, gi_si, gl_si, gi_sl, gl_sl, row_si, row_sl, Nat.reduceEqDiff, reduceIte] using hTa, by simpa only [rLw, gi_si, gl_si, gi_sl, gl_sl, row_si, row_sl, Nat.reduceEqDiff, reduceIte] using hLw, by simpa only [rLd, gi_si, gl_si, gi_sl, gl_sl, row_si, row_sl, Nat.reduceEqDiff, reduceIte] using hLd, by simpa only [rCh, iCe, okv, gi_si, gl_si, gi_sl, gl_sl, row_si, row_sl, Nat.reduceEqDiff, reduceIte] using hCh, by simpa only [rBo, gi_si, gl_si, gi_sl, gl_sl, row_si, row_sl, Nat.reduceEqDiff, reduceIte] using hBo, by simpa only [rSh, rS1, gi_si, gl_si, gi_sl, gl_sl, row_si, row_sl, Nat.reduceEqDiff, reduceIte] using hSh⟩
  · obtain ⟨b1, b2, b3, b4, b5⟩ := hPr j hj
    simp only [gi_si, gl_si, gi_sl, gl_sl, row_si, row_sl, Nat.reduceEqDiff, reduceIte]
    by_cases e : j = n
    · (repeat (first | rw [if_pos (by omega)] | rw [if_neg (by omega)]))
      subst e
      exact ⟨b1, b2, b3, kw, b5⟩
    · (repeat (first | rw [if_pos (by omega)] | rw [if_neg (by omega)]))
      exact ⟨b1, b2, b3, b4, b5⟩
  · obtain ⟨b1, b2, b3⟩ := hP.2.2.1 j hj
    simp only [gi_si, gl_si, gi_sl, gl_sl, row_si, row_sl, Nat.reduceEqDiff, reduceIte]
    (repeat (first | rw [if_pos (by omega)] | rw [if_neg (by omega)]))
    exact ⟨b1, b2, b3⟩
  · obtain ⟨b1, b2, b3, b4, b5, b6⟩ := hP.2.2.2 j hj
    simp only [gi_si, gl_si, gi_sl, gl_sl, row_si, row_sl, Nat.reduceEqDiff, reduceIte]
    by_cases e : j = n
    · (repeat (first | rw [if_pos (by omega)] | rw [if_neg (by omega)]))
      exact ⟨b1, b2, b3, b4, rfl, b6⟩
    · (repeat (first | rw [if_pos (by omega)] | rw [if_neg (by omega)]))
      exact ⟨b1, b2, b3, b4, b5, b6⟩
theorem RL_become_6 {V T : St} {P Q F c a B n : Nat} {x : Int32} (h : RLk V T P Q F c a B) (hk : okv T P Q 6 n x) : RLk (si V 45 (48 + n) x) (si T 19 n x) P Q F c a B := by
  obtain ⟨hN, hPe, hPr, hP, hTa, hLw, hLd, hCh, hBo, hSh⟩ := h
  obtain ⟨k0, k1, k2, k3, k4, k5, k6, k7⟩ := hk
  have hP6 := hN.2.1
  have hQ10 := hN.2.2.2
  have kn := k3 (by omega)
  have kw := k7 rfl
  refine ⟨by simpa only [iN, gi_si, gl_si, gi_sl, gl_sl, row_si, row_sl, Nat.reduceEqDiff, reduceIte] using hN, by simpa only [iPe, gi_si, gl_si, gi_sl, gl_sl, row_si, row_sl, Nat.reduceEqDiff, reduceIte] using hPe, fun j hj => ?_, ⟨by simpa only [gi_si, gl_si, gi_sl, gl_sl, row_si, row_sl, Nat.reduceEqDiff, reduceIte] using hP.1, by simpa only [gi_si, gl_si, gi_sl, gl_sl, row_si, row_sl, Nat.reduceEqDiff, reduceIte] using hP.2.1, fun j hj => ?_, fun j hj => ?_⟩, by simpa only [rTa, gi_si, gl_si, gi_sl, gl_sl, row_si, row_sl, Nat.reduceEqDiff, reduceIte] using hTa, by simpa only [rLw, gi_si, gl_si, gi_sl, gl_sl, row_si, row_sl, Nat.reduceEqDiff, reduceIte] using hLw, by simpa only [rLd, gi_si, gl_si, gi_sl, gl_sl, row_si, row_sl, Nat.reduceEqDiff, reduceIte] using hLd, by simpa only [rCh, iCe, okv, gi_si, gl_si, gi_sl, gl_sl, row_si, row_sl, Nat.reduceEqDiff, reduceIte] using hCh, by simpa only [rBo, gi_si, gl_si, gi_sl, gl_sl, row_si, row_sl, Nat.reduceEqDiff, reduceIte] using hBo, by simpa only [rSh, rS1, gi_si, gl_si, gi_sl, gl_sl, row_si, row_sl, Nat.reduceEqDiff, reduceIte] using hSh⟩
  · obtain ⟨b1, b2, b3, b4, b5⟩ := hPr j hj
    simp only [gi_si, gl_si, gi_sl, gl_sl, row_si, row_sl, Nat.reduceEqDiff, reduceIte]
    by_cases e : j = n
    · (repeat (first | rw [if_pos (by omega)] | rw [if_neg (by omega)]))
      subst e
      exact ⟨b1, b2, b3, b4, kw⟩
    · (repeat (first | rw [if_pos (by omega)] | rw [if_neg (by omega)]))
      exact ⟨b1, b2, b3, b4, b5⟩
  · obtain ⟨b1, b2, b3⟩ := hP.2.2.1 j hj
    simp only [gi_si, gl_si, gi_sl, gl_sl, row_si, row_sl, Nat.reduceEqDiff, reduceIte]
    (repeat (first | rw [if_pos (by omega)] | rw [if_neg (by omega)]))
    exact ⟨b1, b2, b3⟩
  · obtain ⟨b1, b2, b3, b4, b5, b6⟩ := hP.2.2.2 j hj
    simp only [gi_si, gl_si, gi_sl, gl_sl, row_si, row_sl, Nat.reduceEqDiff, reduceIte]
    by_cases e : j = n
    · (repeat (first | rw [if_pos (by omega)] | rw [if_neg (by omega)]))
      exact ⟨b1, b2, b3, b4, b5, rfl⟩
    · (repeat (first | rw [if_pos (by omega)] | rw [if_neg (by omega)]))
      exact ⟨b1, b2, b3, b4, b5, b6⟩
theorem w7 {w : Nat} (h : w ≤ 6) : w = 0 ∨ w = 1 ∨ w = 2 ∨ w = 3 ∨ w = 4 ∨ w = 5 ∨ w = 6 := by omega
theorem RL_become {V T : St} {P Q F c a B w n : Nat} {x : Int32} (h : RLk V T P Q F c a B) (hw : w ≤ 6) (hk : okv T P Q w n x) : RLk (si V 45 (plc w n) x) (si T (rwN w) n x) P Q F c a B := by
  rcases w7 hw with rfl | rfl | rfl | rfl | rfl | rfl | rfl
  · have e : plc 0 n = n := by unfold plc; simp
    rw [e]; exact RL_become_0 h hk
  · exact RL_become_1 h hk
  · exact RL_become_2 h hk
  · exact RL_become_3 h hk
  · exact RL_become_4 h hk
  · exact RL_become_5 h hk
  · exact RL_become_6 h hk
theorem rwN_scr {w : Nat} (hw : w ≤ 6) : isI (rwN w) = true ∧ (∀ i, scr (rwN w) i = false) ∧ lenI (rwN w) = if w < 3 then 6 else 10 := by
  rcases w7 hw with rfl | rfl | rfl | rfl | rfl | rfl | rfl <;> exact ⟨rfl, fun _ => rfl, rfl⟩
theorem Sm_rowOf_eq (S : St) {w : Nat} (hw : w ≤ 6) : Sm_rowOf S (nI w) = some (rwN w) := by
  rcases w7 hw with rfl | rfl | rfl | rfl | rfl | rfl | rfl <;> rfl
theorem okv.n_lt {T : St} {P Q w n : Nat} {x : Int32} (h : okv T P Q w n x) (hN : iN T P Q) : n < if w < 3 then 6 else 10 := by
  obtain ⟨k0, k1, k2, k3, -⟩ := h
  have hP6 := hN.2.1
  have hQ10 := hN.2.2.2
  by_cases hw : w < 3
  · rw [if_pos hw]
    have : w = 0 ∨ w = 1 ∨ w = 2 := by omega
    rcases this with rfl | rfl | rfl
    · have := (k0 rfl).1; omega
    · have := (k1 rfl).1; omega
    · have := (k2 rfl).1; omega
  · rw [if_neg hw]; have := k3 (by omega); omega
theorem Sm_become_eq (S : St) {T : St} {P Q w n : Nat} {x y : Int32} (hN : iN T P Q) (hw : w ≤ 6) (hk : okv T P Q w n y) : Sm_become S (nI n) (nI w) x = some (si S (rwN w) n x) := by
  obtain ⟨r1, r2, r3⟩ := rwN_scr hw
  have hn := hk.n_lt hN
  have h10 : n < 10 := by split at hn <;> omega
  unfold Sm_become
  rw [Sm_rowOf_eq S hw, bd1_some, r1, ck_true, r3, inb_nI hn (by split <;> omega), ck_true, nm_eq, cl n (by omega)]
theorem plc_lt {T : St} {P Q w n : Nat} {x : Int32} (h : okv T P Q w n x) (hw : w ≤ 6) (hN : iN T P Q) : plc w n < 58 := by
  have := h.n_lt hN
  unfold plc
  by_cases h3 : w < 3
  · rw [if_pos h3] at this ⊢; omega
  · rw [if_neg h3] at this ⊢; omega
theorem rP.at {V T : St} {w n : Nat} (h : rP V T) (hw : w ≤ 6) (hn : n < if w < 3 then 6 else 10) : gi V 45 (plc w n) = gi T (rwN w) n := by
  have w7 := w7 hw
  by_cases h3 : w < 3
  · rw [if_pos h3] at hn
    obtain ⟨a1, a2, a3⟩ := h.2.2.1 n hn
    rcases w7 with rfl | rfl | rfl | rfl | rfl | rfl | rfl
    · have e : plc 0 n = n := by unfold plc; simp
      rw [e]; exact a1
    · exact a2
    · exact a3
    all_goals omega
  · rw [if_neg h3] at hn
    obtain ⟨a1, a2, a3, a4, a5, a6⟩ := h.2.2.2 n hn
    rcases w7 with rfl | rfl | rfl | rfl | rfl | rfl | rfl
    · omega
    · omega
    · omega
    · exact a3
    · exact a4
    · exact a5
    · exact a6
theorem RR_undo : LS_undo RR := by
  rintro S V hRR
  have hRR' := hRR
  obtain ⟨T, P, Q, F, c, a, B, hC, hR⟩ := hRR
  have hR' := hR
  obtain ⟨hN, hPe, hPr, hP, hTa, hLw, hLd, ⟨c1, c2, c3, c4, c5, c6, c7⟩, hBo, hSh⟩ := hR'
  unfold Ch_undo Mo_undo Cg_stepBack
  simp only [hC.1 8 0 rfl, c1, c5]
  by_cases h : nI c = 0
  · rw [if_pos h, if_pos h]; exact ⟨_, _, _, rfl, rfl, hRR'⟩
  · rw [if_neg h, if_neg h]
    obtain ⟨d, rfl⟩ : ∃ d, c = d + 1 := ⟨c - 1, by have : c ≠ 0 := (fun e => h (by rw [e]; rfl)); omega⟩
    obtain ⟨w, n, b1, b2, b3, b4, b5, b6, b7, b8⟩ := c7 d (by omega)
    simp only [nm_eq, nI_1m, gi_si, gl_si, gi_sl, gl_sl, row_si, row_sl, Nat.reduceEqDiff, reduceIte, inb_nI (j := d) (n := 40) (by omega) (by omega), ck_true, cl d (by omega), (hC.1 34 d rfl).trans b3, (hC.1 35 d rfl).trans b2, hC.1 36 d rfl, Sm_become_eq _ hN b1 b7, bd1_some, b4, b5, inb_nI (plc_lt b7 b1 hN) (by omega), cl (plc w n) (by have := plc_lt b7 b1 hN; omega)]
    have r1 : rwN w ≠ 8 := by rcases w7 b1 with rfl | rfl | rfl | rfl | rfl | rfl | rfl <;> decide
    rw [if_neg r1.symm]
    refine ⟨nI d, _, _, rfl, rfl, _, P, Q, F, d, a, B, (hC.si _ _ _).si _ _ _, RL_become (w := w) (n := n) ?_ b1 (by simpa only [okv, gi_si, gl_si, gi_sl, gl_sl, row_si, row_sl, Nat.reduceEqDiff, reduceIte] using b7)⟩
    refine ⟨by simpa only [iN, gi_si, gl_si, gi_sl, gl_sl, row_si, row_sl, Nat.reduceEqDiff, reduceIte] using hN, by simpa only [iPe, gi_si, gl_si, gi_sl, gl_sl, row_si, row_sl, Nat.reduceEqDiff, reduceIte] using hPe, by simpa only [iPr, gi_si, gl_si, gi_sl, gl_sl, row_si, row_sl, Nat.reduceEqDiff, reduceIte] using hPr, by simpa only [rP, gi_si, gl_si, gi_sl, gl_sl, row_si, row_sl, Nat.reduceEqDiff, reduceIte] using hP, by simpa only [rTa, gi_si, gl_si, gi_sl, gl_sl, row_si, row_sl, Nat.reduceEqDiff, reduceIte] using hTa, by simpa only [rLw, gi_si, gl_si, gi_sl, gl_sl, row_si, row_sl, Nat.reduceEqDiff, reduceIte] using hLw, by simpa only [rLd, gi_si, gl_si, gi_sl, gl_sl, row_si, row_sl, Nat.reduceEqDiff, reduceIte] using hLd, ⟨?_, ?_, by omega, c4, ?_, ?_, ?_⟩, by simpa only [rBo, gi_si, gl_si, gi_sl, gl_sl, row_si, row_sl, Nat.reduceEqDiff, reduceIte] using hBo, by simpa only [rSh, rS1, gi_si, gl_si, gi_sl, gl_sl, row_si, row_sl, Nat.reduceEqDiff, reduceIte] using hSh⟩
    · simp only [gi_si, gl_si, gi_sl, gl_sl, row_si, row_sl, Nat.reduceEqDiff, reduceIte]
    · simpa only [gi_si, gl_si, gi_sl, gl_sl, row_si, row_sl, Nat.reduceEqDiff, reduceIte] using c2
    · simp only [gi_si, gl_si, gi_sl, gl_sl, row_si, row_sl, Nat.reduceEqDiff, reduceIte]
    · simpa only [gi_si, gl_si, gi_sl, gl_sl, row_si, row_sl, Nat.reduceEqDiff, reduceIte] using c6
    · simpa only [iCe, okv, gi_si, gl_si, gi_sl, gl_sl, row_si, row_sl, Nat.reduceEqDiff, reduceIte] using c7
theorem RR_redo : LS_redo RR := by
  rintro S V hRR
  have hRR' := hRR
  obtain ⟨T, P, Q, F, c, a, B, hC, hR⟩ := hRR
  have hR' := hR
  obtain ⟨hN, hPe, hPr, hP, hTa, hLw, hLd, ⟨c1, c2, c3, c4, c5, c6, c7⟩, hBo, hSh⟩ := hR'
  unfold Ch_redo Mo_redo Cg_stepForward
  simp only [hC.1 8 0 rfl, hC.1 8 1 rfl, c1, c2, c5, c6]
  by_cases h : nI c = nI a
  · rw [if_pos h, if_pos h]; exact ⟨_, _, _, rfl, rfl, hRR'⟩
  · rw [if_neg h, if_neg h]
    have hca : c < a := by
      have : c ≠ a := fun e => h (by rw [e])
      omega
    obtain ⟨w, n, b1, b2, b3, b4, b5, b6, b7, b8⟩ := c7 c hca
    have r1 : 8 ≠ rwN w := by rcases w7 b1 with rfl | rfl | rfl | rfl | rfl | rfl | rfl <;> decide
    simp only [nm_eq, gi_si, gl_si, gi_sl, gl_sl, row_si, row_sl, Nat.reduceEqDiff, reduceIte, inb_nI (j := c) (n := 40) (by omega) (by omega), ck_true, cl c (by omega), (hC.1 34 c rfl).trans b3, (hC.1 35 c rfl).trans b2, hC.1 37 c rfl, Sm_become_eq _ hN b1 b8, bd1_some, b4, b6, inb_nI (plc_lt b8 b1 hN) (by omega), cl (plc w n) (by have := plc_lt b8 b1 hN; omega), if_neg r1, hC.1 8 0 rfl, hC.1 8 1 rfl, c1, c2, c5, c6, nI_1]
    have g := RL_become (w := w) (n := n) hR b1 b8
    refine ⟨_, _, _, rfl, rfl, si (si T (rwN w) n (gi T 37 c)) 8 0 (nI (c + 1)), P, Q, F, c + 1, a, B, (hC.si _ _ _).si _ _ _, ?_⟩
    obtain ⟨hN, hPe, hPr, hP, hTa, hLw, hLd, ⟨c1, c2, c3, c4, c5, c6, c7⟩, hBo, hSh⟩ := g
    generalize si T (rwN w) n (gi T 37 c) = T1 at *
    generalize si V 45 (plc w n) (gi T 37 c) = V1 at *
    refine ⟨by simpa only [iN, gi_si, gl_si, gi_sl, gl_sl, row_si, row_sl, Nat.reduceEqDiff, reduceIte] using hN, by simpa only [iPe, gi_si, gl_si, gi_sl, gl_sl, row_si, row_sl, Nat.reduceEqDiff, reduceIte] using hPe, by simpa only [iPr, gi_si, gl_si, gi_sl, gl_sl, row_si, row_sl, Nat.reduceEqDiff, reduceIte] using hPr, by simpa only [rP, gi_si, gl_si, gi_sl, gl_sl, row_si, row_sl, Nat.reduceEqDiff, reduceIte] using hP, by simpa only [rTa, gi_si, gl_si, gi_sl, gl_sl, row_si, row_sl, Nat.reduceEqDiff, reduceIte] using hTa, by simpa only [rLw, gi_si, gl_si, gi_sl, gl_sl, row_si, row_sl, Nat.reduceEqDiff, reduceIte] using hLw, by simpa only [rLd, gi_si, gl_si, gi_sl, gl_sl, row_si, row_sl, Nat.reduceEqDiff, reduceIte] using hLd, ⟨?_, ?_, by omega, c4, ?_, ?_, ?_⟩, by simpa only [rBo, gi_si, gl_si, gi_sl, gl_sl, row_si, row_sl, Nat.reduceEqDiff, reduceIte] using hBo, by simpa only [rSh, rS1, gi_si, gl_si, gi_sl, gl_sl, row_si, row_sl, Nat.reduceEqDiff, reduceIte] using hSh⟩
    · simp only [gi_si, gl_si, gi_sl, gl_sl, row_si, row_sl, Nat.reduceEqDiff, reduceIte]
    · simpa only [gi_si, gl_si, gi_sl, gl_sl, row_si, row_sl, Nat.reduceEqDiff, reduceIte] using c2
    · simp only [gi_si, gl_si, gi_sl, gl_sl, row_si, row_sl, Nat.reduceEqDiff, reduceIte]
    · simpa only [gi_si, gl_si, gi_sl, gl_sl, row_si, row_sl, Nat.reduceEqDiff, reduceIte] using c6
    · simpa only [iCe, okv, gi_si, gl_si, gi_sl, gl_sl, row_si, row_sl, Nat.reduceEqDiff, reduceIte] using c7
