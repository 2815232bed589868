theorem tI0 : Int64.toInt 0 = 0 := rfl
theorem tI1 : Int64.toInt 1 = 1 := rfl
theorem tI2 : Int64.toInt 2 = 2 := rfl
theorem tI3 : Int64.toInt 3 = 3 := rfl
theorem tI4 : Int64.toInt 4 = 4 := rfl
theorem tI5 : Int64.toInt 5 = 5 := rfl
theorem tI6 : Int64.toInt 6 = 6 := rfl
theorem tI7 : Int64.toInt 7 = 7 := rfl
theorem tI9 : Int64.toInt 9 = 9 := rfl
theorem tI10 : Int64.toInt 10 = 10 := rfl
theorem tI30 : Int64.toInt 30 = 30 := rfl
theorem tI60 : Int64.toInt 60 = 60 := rfl
theorem tI99 : Int64.toInt 99 = 99 := rfl
theorem tI255 : Int64.toInt 255 = 255 := rfl
theorem tIm1 : Int64.toInt (-1) = -1 := rfl
theorem ti0 : Int32.toInt 0 = 0 := rfl
theorem ti1 : Int32.toInt 1 = 1 := rfl
theorem ti2 : Int32.toInt 2 = 2 := rfl
theorem ti4 : Int32.toInt 4 = 4 := rfl
theorem ti5 : Int32.toInt 5 = 5 := rfl
theorem ti6 : Int32.toInt 6 = 6 := rfl
theorem ti7 : Int32.toInt 7 = 7 := rfl
theorem ti9 : Int32.toInt 9 = 9 := rfl
theorem ti10 : Int32.toInt 10 = 10 := rfl
theorem ti30 : Int32.toInt 30 = 30 := rfl
theorem ti60 : Int32.toInt 60 = 60 := rfl
theorem ti99 : Int32.toInt 99 = 99 := rfl
theorem ti255 : Int32.toInt 255 = 255 := rfl
theorem tim1 : Int32.toInt (-1) = -1 := rfl
theorem Core.pq {S T : St} {P Q : Nat} (hC : Core S T) (hN : iN T P Q) : gi S 1 9 = nI P ∧ gi S 1 10 = nI Q := ⟨(hC.1 1 9 rfl).trans hN.1, (hC.1 1 10 rfl).trans hN.2.2.1⟩
theorem rP.pq {V T : St} {P Q : Nat} (hP : rP V T) (hN : iN T P Q) : gi V 44 6 = nI P ∧ gi V 44 7 = nI Q := ⟨hP.1.trans hN.1, hP.2.1.trans hN.2.2.1⟩
theorem okv.mono {T T' : St} {P P' Q Q' w n : Nat} {x : Int32} (h : okv T P Q w n x) (hp : P ≤ P') (hq : Q ≤ Q') (ht : n < Q → gi T' 15 n = gi T 15 n) : okv T' P' Q' w n x := by
  obtain ⟨h0, h1, h2, h3, h4, h5, h6, h7⟩ := h
  refine ⟨fun e => ⟨by have := (h0 e).1; omega, (h0 e).2⟩, fun e => ⟨by have := (h1 e).1; omega, (h1 e).2⟩, fun e => ⟨by have := (h2 e).1; omega, (h2 e).2⟩, fun e => by have := h3 e; omega, fun e => by rw [ht (h3 (by omega))]; exact h4 e, h5, h6, fun e => ?_⟩
  rcases h7 e with h | ⟨k, h, h'⟩
  · exact .inl h
  · exact .inr ⟨k, by omega, h'⟩
theorem nI_1m (n : Nat) : nI (n + 1) - 1 = nI n := pk_sub (a := n + 1) (b := 1) (by omega)
theorem sixN : (6 : Int32) = nI 6 := rfl
theorem tenN : (10 : Int32) = nI 10 := rfl
theorem row_si (V : St) (v i : Nat) (x : Int32) (w : Nat) : (si V v i x).1 w = if w = v then upd (V.1 v) i x else V.1 w := rfl
theorem row_sl (V : St) (v i : Nat) (x : Int64) (w : Nat) : (sl V v i x).1 w = V.1 w := rfl
theorem RR_person : LS_person RR := by
  rintro S V p1 p2 hRR
  have hRR' := hRR
  obtain ⟨T, P, Q, F, c, a, B, hC, hN, hPe, hPr, hP, hTa, hLw, hLd, hCh, hBo, hSh⟩ := hRR
  obtain ⟨eP, eQ⟩ := hC.pq hN
  obtain ⟨fP, fQ⟩ := hP.pq hN
  have hP6 := hN.2.1
  unfold Ch_person Mo_person
  simp only [Ch_within_eq, Mo_within_eq, bd1_some, if_bI, Int32.toInt_toInt64, tI0, tI1, tI30, tI60, ti0, ti1, ti30, ti60, eP, fP]
  by_cases h1 : wi p1.toInt 0 30 = true
  · rw [if_pos h1, if_pos h1]
    by_cases h2 : wi p2.toInt 1 60 = true
    · rw [if_pos h2, if_pos h2]
      by_cases h3 : nI P = 6
      · rw [if_pos h3, if_pos h3]
        exact ⟨_, _, _, rfl, rfl, hRR'⟩
      · rw [if_neg h3, if_neg h3]
        have hP5 : P < 6 := by
          have : P ≠ 6 := fun e => h3 (by rw [e]; rfl)
          omega
        unfold Sm_addOne
        simp only [nm_eq, gi_si, Nat.reduceEqDiff, reduceIte, eP, fP, a6, a12, inb_nI (j := P) (n := 6) hP5 (by omega), inb_nI (j := P) (n := 58) (by omega) (by omega), inb_nI (j := 6 + P) (n := 58) (by omega) (by omega), inb_nI (j := 12 + P) (n := 58) (by omega) (by omega), ck_true, cl P (by omega), cl (6 + P) (by omega), cl (12 + P) (by omega), bd2_some, nI_1, nI_1m]
        refine ⟨nI P, _, _, rfl, rfl, si (si (si (si T 11 P p1) 12 P p2) 13 P 2) 1 9 (nI (P + 1)), P + 1, Q, F, c, a, B, ((((hC.si _ _ _).si _ _ _).si _ _ _).si _ _ _), ?_⟩
        rw [wi_t] at h1 h2
        have hN' := hN
        obtain ⟨n1, n2, n3, n4⟩ := hN
        refine ⟨⟨by simp [gi_si], by omega, by simpa [gi_si] using n3, n4⟩, fun j hj => ?_, fun j hj => ?_, ⟨?_, ?_, fun j hj => ?_, fun j hj => ?_⟩, by simpa only [rTa, gi_si, gl_si, gi_sl, gl_sl, row_si, row_sl, Nat.reduceEqDiff, reduceIte] using hTa, by simpa only [rLw, gi_si, gl_si, gi_sl, gl_sl, row_si, row_sl, Nat.reduceEqDiff, reduceIte] using hLw, by simpa only [rLd, gi_si, gl_si, gi_sl, gl_sl, row_si, row_sl, Nat.reduceEqDiff, reduceIte] using hLd, ⟨?_, ?_, hCh.2.2.1, hCh.2.2.2.1, ?_, ?_, fun j hj => ?_⟩, by simpa only [rBo, gi_si, gl_si, gi_sl, gl_sl, row_si, row_sl, Nat.reduceEqDiff, reduceIte] using hBo, by simpa only [rSh, rS1, gi_si, gl_si, gi_sl, gl_sl, row_si, row_sl, Nat.reduceEqDiff, reduceIte] using hSh⟩
        · simp only [gi_si, gl_si, gi_sl, gl_sl, row_si, row_sl, Nat.reduceEqDiff, reduceIte]
          by_cases e : j = P
          · rw [if_pos e, if_pos e, if_pos e]; exact ⟨h1, h2, by decide⟩
          · rw [if_neg e, if_neg e, if_neg e]; exact hPe j (by omega)
        · obtain ⟨⟨w, w1, w2⟩, b1, b2, b3, b4⟩ := hPr j hj
          simp only [gi_si, gl_si, gi_sl, gl_sl, row_si, row_sl, Nat.reduceEqDiff, reduceIte]
          refine ⟨⟨w, by omega, w2⟩, b1, b2, b3, ?_⟩
          rcases b4 with b4 | ⟨k, k1, k2⟩
          · exact .inl b4
          · exact .inr ⟨k, by omega, k2⟩
        · simp only [gi_si, gl_si, gi_sl, gl_sl, row_si, row_sl, Nat.reduceEqDiff, reduceIte]
        · simpa only [gi_si, gl_si, gi_sl, gl_sl, row_si, row_sl, Nat.reduceEqDiff, reduceIte] using hP.2.1
        · obtain ⟨b1, b2, b3⟩ := hP.2.2.1 j hj
          simp only [gi_si, gl_si, gi_sl, gl_sl, row_si, row_sl, Nat.reduceEqDiff, reduceIte]
          by_cases e : j = P
          · (repeat (first | rw [if_pos (by omega)] | rw [if_neg (by omega)]))
            exact ⟨rfl, rfl, rfl⟩
          · (repeat (first | rw [if_pos (by omega)] | rw [if_neg (by omega)]))
            exact ⟨b1, b2, b3⟩
        · obtain ⟨b1, b2, b3, b4, b5, b6⟩ := hP.2.2.2 j hj
          simp only [gi_si, gl_si, gi_sl, gl_sl, row_si, row_sl, Nat.reduceEqDiff, reduceIte]
          (repeat (first | rw [if_pos (by omega)] | rw [if_neg (by omega)]))
          exact ⟨b1, b2, b3, b4, b5, b6⟩
        · simpa only [gi_si, gl_si, gi_sl, gl_sl, row_si, row_sl, Nat.reduceEqDiff, reduceIte] using hCh.1
        · simpa only [gi_si, gl_si, gi_sl, gl_sl, row_si, row_sl, Nat.reduceEqDiff, reduceIte] using hCh.2.1
        · simpa only [gi_si, gl_si, gi_sl, gl_sl, row_si, row_sl, Nat.reduceEqDiff, reduceIte] using hCh.2.2.2.2.1
        · simpa only [gi_si, gl_si, gi_sl, gl_sl, row_si, row_sl, Nat.reduceEqDiff, reduceIte] using hCh.2.2.2.2.2.1
        · obtain ⟨w, n, b1, b2, b3, b4, b5, b6, b7, b8⟩ := hCh.2.2.2.2.2.2 j hj
          refine ⟨w, n, b1, ?_, ?_, ?_, ?_, ?_, ?_, ?_⟩
          · simpa only [gi_si, gl_si, gi_sl, gl_sl, row_si, row_sl, Nat.reduceEqDiff, reduceIte] using b2
          · simpa only [gi_si, gl_si, gi_sl, gl_sl, row_si, row_sl, Nat.reduceEqDiff, reduceIte] using b3
          · simpa only [gi_si, gl_si, gi_sl, gl_sl, row_si, row_sl, Nat.reduceEqDiff, reduceIte] using b4
          · simpa only [gi_si, gl_si, gi_sl, gl_sl, row_si, row_sl, Nat.reduceEqDiff, reduceIte] using b5
          · simpa only [gi_si, gl_si, gi_sl, gl_sl, row_si, row_sl, Nat.reduceEqDiff, reduceIte] using b6
          · simp only [gi_si, gl_si, gi_sl, gl_sl, row_si, row_sl, Nat.reduceEqDiff, reduceIte]; exact b7.mono (by omega) (by omega) (fun _ => by simp only [gi_si, gl_si, gi_sl, gl_sl, row_si, row_sl, Nat.reduceEqDiff, reduceIte])
          · simp only [gi_si, gl_si, gi_sl, gl_sl, row_si, row_sl, Nat.reduceEqDiff, reduceIte]; exact b8.mono (by omega) (by omega) (fun _ => by simp only [gi_si, gl_si, gi_sl, gl_sl, row_si, row_sl, Nat.reduceEqDiff, reduceIte])
    · rw [if_neg h2, if_neg h2]
      exact ⟨_, _, _, rfl, rfl, hRR'⟩
  · rw [if_neg h1, if_neg h1]
    exact ⟨_, _, _, rfl, rfl, hRR'⟩
