/-- what reading a text leaves alone -/
def PF (S S' : St) : Prop := (∀ v i, v ≠ 22 → (v = 2 → i < 7 ∨ 9 < i) → gi S' v i = gi S v i) ∧ ∀ v i, gl S' v i = gl S v i
theorem PF.refl (S : St) : PF S S := ⟨fun _ _ _ _ => rfl, fun _ _ => rfl⟩
theorem PF.trans {A B C : St} (h1 : PF A B) (h2 : PF B C) : PF A C := ⟨fun v i a b => (h2.1 v i a b).trans (h1.1 v i a b), fun v i => (h2.2 v i).trans (h1.2 v i)⟩
theorem PF.si2 (S : St) {i : Nat} (h : 7 ≤ i ∧ i ≤ 9) (x : Int32) : PF S (si S 2 i x) := ⟨fun v j a b => by
  rw [gi_si]
  by_cases e : v = 2
  · rw [if_pos e, if_neg (by have := b e; omega)]
  · rw [if_neg e], fun _ _ => rfl⟩
theorem PF.si22 (S : St) (i : Nat) (x : Int32) : PF S (si S 22 i x) := ⟨fun v j a b => by rw [gi_si, if_neg a], fun _ _ => rfl⟩
def Ok1 (S : St) (n i dr : Nat) : Prop := gi S 2 0 = nI n ∧ gi S 2 8 = nI i ∧ gi S 2 9 = -1 ∧ gi S 2 7 = nI dr
def Fl1 (S : St) (n f : Nat) : Prop := gi S 2 0 = nI n ∧ f ≤ n ∧ gi S 2 9 = nI f ∧ (∃ i, i ≤ n ∧ gi S 2 8 = nI i) ∧ ∃ d, d ≤ 121 ∧ gi S 2 7 = nI d
def Dr (S S' : St) (dr : Nat) (c : List Int32) : Prop := (∀ j, j < dr → gi S' 22 j = gi S 22 j) ∧ ∀ j, j < c.length → gi S' 22 (dr + j) = c.getD j 0
def Rs (S S' : St) (n dr : Nat) (R : Re) : Prop := PF S S' ∧ match R with
  | .inl f => Fl1 S' n f
  | .inr x => Ok1 S' n x.1 (dr + x.2.1.length) ∧ Dr S S' dr x.2.1
theorem getD_app (d : List Int32) : ∀ (c : List Int32) (j : Nat), (c ++ d).getD j 0 = if j < c.length then c.getD j 0 else d.getD (j - c.length) 0
  | [], j => by rw [if_neg (by simp)]; rfl
  | a :: c, 0 => by rw [if_pos (by simp)]; rfl
  | a :: c, j + 1 => by
    have ih := getD_app d c j
    show (c ++ d).getD j 0 = _
    rw [ih, List.length_cons, Nat.add_sub_add_right]
    by_cases h : j < c.length
    · rw [if_pos h, if_pos (by omega)]; rfl
    · rw [if_neg h, if_neg (by omega)]
theorem Dr.nil (S : St) (dr : Nat) : Dr S S dr [] := ⟨fun _ _ => rfl, fun j h => absurd h (Nat.not_lt_zero _)⟩
theorem Dr.app {A B C : St} {dr : Nat} {c d : List Int32} (h1 : Dr A B dr c) (h2 : Dr B C (dr + c.length) d) : Dr A C dr (c ++ d) := by
  refine ⟨fun j hj => (h2.1 j (by omega)).trans (h1.1 j hj), fun j hj => ?_⟩
  rw [List.length_append] at hj
  by_cases h : j < c.length
  · rw [h2.1 _ (by omega), h1.2 j h, getD_app, if_pos h]
  · have := h2.2 (j - c.length) (by omega)
    rw [show dr + c.length + (j - c.length) = dr + j from by omega] at this
    rw [this, getD_app, if_neg h]
theorem next_ok {S : St} {b : Nat → Int32} {n i dr : Nat} (h : Ok1 S n i dr) (hb : ∀ j, j < n → gi S 20 j = b j) (hi : i ≤ n) (hn : n ≤ 120) : La_next S = some (nx b n i) := by
  unfold La_next nx
  rw [h.2.2.1, if_pos rfl, h.1, h.2.1]
  by_cases hlt : i < n
  · rw [if_neg (by rw [le_nI _ _ (by omega) (by omega)]; omega), inb_nI (j := i) (n := 120) (by omega) (by omega), ck_true, cl i (by omega), if_pos hlt, hb i hlt]
  · rw [if_pos (by rw [le_nI _ _ (by omega) (by omega)]; omega), if_neg hlt]
theorem nI_nem1 (k : Nat) (h : k < 5000) : ¬ nI k = (-1 : Int32) := fun e => by
  have := congrArg Int32.toInt e; rw [ti k h, tim1] at this; omega
theorem next_fl {S : St} {n f : Nat} (h : Fl1 S n f) (hn : n ≤ 120) : La_next S = some (-1) := by
  unfold La_next
  have := h.2.1
  rw [h.2.2.1, if_neg (nI_nem1 f (by omega))]
theorem fail_ok {S : St} {n i dr : Nat} (h : Ok1 S n i dr) : La_fail S = some (si S 2 9 (nI i)) := by
  unfold La_fail
  rw [h.2.2.1, if_pos rfl, h.2.1, nm_eq]
theorem fail_fl {S : St} {n f : Nat} (h : Fl1 S n f) (hn : n ≤ 120) : La_fail S = some S := by
  unfold La_fail
  have := h.2.1
  rw [h.2.2.1, if_neg (nI_nem1 f (by omega))]
theorem write_lt {S : St} {d : Nat} (h : gi S 2 7 = nI d) (hd : d < 121) (c : Int32) : La_write S c = some (si (si S 22 d c) 2 7 (nI (d + 1))) := by
  unfold La_write
  rw [h, if_neg (by show ¬ nI 121 ≤ nI d; rw [le_nI _ _ (by omega) (by omega)]; omega), inb_nI (j := d) (n := 121) hd (by omega), ck_true, cl d (by omega), nm_eq, gi_si, if_neg (by decide), h, nI_1, nm_eq]
theorem write_fl {S : St} {n f : Nat} (h : Fl1 S n f) (c : Int32) : ∃ S', La_write S c = some S' ∧ PF S S' ∧ Fl1 S' n f := by
  obtain ⟨h1, h2, h3, ⟨i, h4, h5⟩, d, h6, h7⟩ := h
  by_cases hd : d < 121
  · refine ⟨_, write_lt h7 hd c, (PF.si22 S d c).trans (PF.si2 _ (by omega) _), ?_⟩
    unfold Fl1
    simp only [gi_si, gl_si, gi_sl, gl_sl, row_si, row_sl, Nat.reduceEqDiff, reduceIte]
    exact ⟨h1, h2, h3, ⟨i, h4, h5⟩, d + 1, by omega, rfl⟩
  · refine ⟨S, ?_, PF.refl S, h1, h2, h3, ⟨i, h4, h5⟩, d, h6, h7⟩
    unfold La_write
    rw [h7, if_pos (by show nI 121 ≤ nI d; rw [le_nI _ _ (by omega) (by omega)]; omega)]
theorem write_ok {S : St} {n i dr : Nat} (h : Ok1 S n i dr) (hd : dr < 121) (c : Int32) : ∃ S', La_write S c = some S' ∧ PF S S' ∧ Ok1 S' n i (dr + 1) ∧ Dr S S' dr [c] := by
  obtain ⟨h1, h2, h3, h4⟩ := h
  refine ⟨_, write_lt h4 hd c, (PF.si22 S dr c).trans (PF.si2 _ (by omega) _), ?_, fun j hj => ?_, fun j hj => ?_⟩
  · unfold Ok1
    simp only [gi_si, gl_si, gi_sl, gl_sl, row_si, row_sl, Nat.reduceEqDiff, reduceIte]
    exact ⟨h1, h2, h3, trivial⟩
  · simp only [gi_si, gl_si, gi_sl, gl_sl, row_si, row_sl, Nat.reduceEqDiff, reduceIte]
    rw [if_neg (by omega)]
  · have : j = 0 := by simp only [List.length_cons, List.length_nil] at hj; omega
    subst this
    simp only [gi_si, gl_si, gi_sl, gl_sl, row_si, row_sl, Nat.reduceEqDiff, reduceIte, Nat.add_zero]; rfl
theorem isDigit_eq (S : St) (c : Int32) : La_isDigit S c = some (bI (dgt c)) := by
  unfold La_isDigit dgt bI
  simp only [Int32.lt_iff_toInt_lt, Int32.le_iff_toInt_le]
  have e1 : (48 : Int32).toInt = 48 := rfl
  have e2 : (57 : Int32).toInt = 57 := rfl
  by_cases h1 : c.toInt < 48
  · have h3 : ¬ (48 : Int) ≤ c.toInt := by omega
    simp [e1, e2, h1, h3]
  · have h3 : (48 : Int) ≤ c.toInt := by omega
    by_cases h2 : 57 < c.toInt
    · have h4 : ¬ c.toInt ≤ 57 := by omega
      simp [e1, e2, h1, h2, h3, h4]
    · have h4 : c.toInt ≤ 57 := by omega
      simp [e1, e2, h1, h2, h3, h4]
theorem nmI_cases (c : Int32) : (c = 111 ∨ c = 108 ∨ c = 99 ∨ c = 114 ∨ c = 116 ∨ c = 112) ∨ (nmI c = 9 ∧ c ≠ 111 ∧ c ≠ 108 ∧ c ≠ 99 ∧ c ≠ 114 ∧ c ≠ 116 ∧ c ≠ 112) := by
  unfold nmI
  by_cases a1 : c = 111
  · exact .inl (.inl a1)
  by_cases a2 : c = 108
  · exact .inl (.inr (.inl a2))
  by_cases a3 : c = 99
  · exact .inl (.inr (.inr (.inl a3)))
  by_cases a4 : c = 114
  · exact .inl (.inr (.inr (.inr (.inl a4))))
  by_cases a5 : c = 116
  · exact .inl (.inr (.inr (.inr (.inr (.inl a5)))))
  by_cases a6 : c = 112
  · exact .inl (.inr (.inr (.inr (.inr (.inr a6)))))
  · rw [if_neg a1, if_neg a2, if_neg a3, if_neg a4, if_neg a5, if_neg a6]
    exact .inr ⟨rfl, a1, a2, a3, a4, a5, a6⟩
theorem nameOf_eq (S : St) (c : Int32) : La_nameOf S c = some (if nmI c < 6 then nI (nmI c) else -1) := by
  rcases nmI_cases c with (rfl | rfl | rfl | rfl | rfl | rfl) | ⟨h, a1, a2, a3, a4, a5, a6⟩
  · rfl
  · rfl
  · rfl
  · rfl
  · rfl
  · rfl
  · rw [h, if_neg (by decide)]
    unfold La_nameOf
    rw [if_neg a3, if_neg a2, if_neg a1, if_neg a6, if_neg a4, if_neg a5]
    simp only [ite_self]
theorem MonameOf_eq (S : St) (c : Int32) : Mo_nameOf S c = some (if nmI c < 6 then nI (nmI c) else -1) := nameOf_eq S c
theorem levelOf_eq (S : St) (c : Int32) : La_levelOf S c = some (if lv c < 5 then nI (lv c) else -1) := by
  unfold La_levelOf
  by_cases a1 : c = 37
  · subst a1; rfl
  by_cases a2 : c = 38
  · subst a2; rfl
  by_cases a3 : c = 42
  · subst a3; rfl
  by_cases a4 : c = 43
  · subst a4; rfl
  by_cases a5 : c = 45
  · subst a5; rfl
  by_cases a6 : c = 47
  · subst a6; rfl
  by_cases a7 : c = 60
  · subst a7; rfl
  by_cases a8 : c = 61
  · subst a8; rfl
  by_cases a9 : c = 62
  · subst a9; rfl
  by_cases a0 : c = 124
  · subst a0; rfl
  rw [if_neg a1, if_neg a2, if_neg a3, if_neg a4, if_neg a5, if_neg a6, if_neg a7, if_neg a8, if_neg a9, if_neg a0]
  have : lv c = 9 := by
    unfold lv
    rw [if_neg a0, if_neg a2, if_neg (by rintro (h | h | h) <;> contradiction), if_neg (by rintro (h | h) <;> contradiction), if_neg (by rintro (h | h | h) <;> contradiction)]
  rw [this]; rfl
theorem lev_eq {c : Int32} {l : Nat} (hl : l < 5) : ((if lv c < 5 then nI (lv c) else -1) = nI l) = (lv c = l) := by
  by_cases h : lv c < 5
  · rw [if_pos h, eq_nI _ _ (by omega) (by omega)]
  · rw [if_neg h]
    have h1 : ¬ (-1 : Int32) = nI l := fun e => nI_nem1 l (by omega) e.symm
    have h2 : ¬ lv c = l := by omega
    simp only [h1, h2]
theorem Ok1.step {S : St} {n i dr : Nat} (h : Ok1 S n i dr) : Ok1 (si S 2 8 (nI (i + 1))) n (i + 1) dr := by
  obtain ⟨h1, h2, h3, h4⟩ := h
  unfold Ok1
  simp only [gi_si, gl_si, gi_sl, gl_sl, row_si, row_sl, Nat.reduceEqDiff, reduceIte]
  exact ⟨h1, trivial, h3, h4⟩
theorem num_lp {b : Nat → Int32} {n N : Nat} (hn : n ≤ 120) : ∀ k, k ≤ 4 → ∀ (i dr : Nat) (v : Int32) (S : St), Ok1 S n i dr → (∀ j, j < n → gi S 20 j = b j) → i ≤ n → ∀ n1, k < n1 → ∃ S', lp (fun kk (x : St × Int32 × Int32) => La_readNumber_b4 N kk x.1 x.2.1 x.2.2) n1 (S, v, nI (4 - k)) = La_readNumber_b48 N S' (sNum b n k i v).2 ∧ PF S S' ∧ Ok1 S' n (sNum b n k i v).1 dr ∧ ∀ j, gi S' 22 j = gi S 22 j
  | 0, _, i, dr, v, S, h, hb, hi, n1, h1 => by
    obtain ⟨n1, rfl⟩ : ∃ k, n1 = k + 1 := ⟨n1 - 1, by omega⟩
    refine ⟨S, ?_, PF.refl S, h, fun _ => rfl⟩
    show La_readNumber_b4 N _ S v (nI 4) = _
    unfold La_readNumber_b4
    rw [if_pos (by decide)]; rfl
  | k + 1, hk, i, dr, v, S, h, hb, hi, n1, h1 => by
    obtain ⟨n1, rfl⟩ : ∃ k, n1 = k + 1 := ⟨n1 - 1, by omega⟩
    show ∃ S', La_readNumber_b4 N (lp (fun kk (x : St × Int32 × Int32) => La_readNumber_b4 N kk x.1 x.2.1 x.2.2) n1) S v (nI (4 - (k + 1))) = _ ∧ _
    have nxt := next_ok h hb hi hn
    unfold sNum
    by_cases hd : dgt (nx b n i) = true
    · rw [if_pos hd]
      have hlt := dgt_lt hd
      obtain ⟨S', s1, s2, s3, s4⟩ := num_lp (b := b) (N := N) hn k (by omega) (i + 1) dr (v * 10 + nx b n i - 48) (si S 2 8 (nI (i + 1))) h.step (fun j hj => (by rw [gi_si, if_neg (by decide)]; exact hb j hj : gi (si S 2 8 (nI (i + 1))) 20 j = b j)) (by omega) n1 (by omega)
      refine ⟨S', ?_, (PF.si2 S (by omega) _).trans s2, s3, fun j => by rw [s4 j, gi_si, if_neg (by decide)]⟩
      rw [← s1]
      generalize lp (fun kk (x : St × Int32 × Int32) => La_readNumber_b4 N kk x.1 x.2.1 x.2.2) n1 = K
      unfold La_readNumber_b4
      rw [if_neg (by show ¬ nI 4 ≤ nI (4 - (k + 1)); rw [le_nI _ _ (by omega) (by omega)]; omega), nxt, bd1_some, isDigit_eq, bd1_some, if_bI, if_pos hd, bd1_some, nm_eq, h.2.1, nI_1, nm_eq, nI_1, nm_eq, show 4 - (k + 1) + 1 = 4 - k from by omega]
    · rw [if_neg hd]
      refine ⟨S, ?_, PF.refl S, h, fun _ => rfl⟩
      generalize lp (fun kk (x : St × Int32 × Int32) => La_readNumber_b4 N kk x.1 x.2.1 x.2.2) n1 = K
      unfold La_readNumber_b4
      rw [if_neg (by show ¬ nI 4 ≤ nI (4 - (k + 1)); rw [le_nI _ _ (by omega) (by omega)]; omega), nxt, bd1_some, isDigit_eq, bd1_some, if_bI, if_neg hd]
theorem Dr.of22 {A B C : St} {dr : Nat} {c : List Int32} (h : ∀ j, gi B 22 j = gi A 22 j) (h2 : Dr B C dr c) : Dr A C dr c := ⟨fun j hj => (h2.1 j hj).trans (h j), h2.2⟩
theorem Fl1.of {S : St} {n i dr : Nat} (h : Ok1 S n i dr) (hi : i ≤ n) (hd : dr ≤ 121) : Fl1 (si S 2 9 (nI i)) n i := by
  obtain ⟨h1, h2, h3, h4⟩ := h
  unfold Fl1
  simp only [gi_si, gl_si, gi_sl, gl_sl, row_si, row_sl, Nat.reduceEqDiff, reduceIte]
  exact ⟨h1, hi, trivial, ⟨i, hi, h2⟩, dr, hd, h4⟩
/-- an operand that is a number, a name, or none -/
theorem atom_ok {b : Nat → Int32} {n N i dr : Nat} {S : St} (fl : St → Int32 → Int32 → Option St) (fo : St → Int32 → Int32 → Option St) (fp : St → Int32 → Option St) (fq : St → Int32 → Int32 → Option St) (hn : n ≤ 120) (h : Ok1 S n i dr) (hb : ∀ j, j < n → gi S 20 j = b j) (hi : i ≤ n) (hd : dr ≤ i) (hf : 5 < N) (x : Int32) (hx : (nx b n i ≠ 40 ∧ nx b n i ≠ 33 ∧ nx b n i ≠ 45) ∨ 6 ≤ x) : ∃ S', La_readOperand_B N fl fo fp fq S x = some S' ∧ Rs S S' n dr (sAtom b n i) := by
  unfold La_readOperand_B sAtom
  rw [next_ok h hb hi hn, bd1_some, isDigit_eq, bd1_some, if_bI]
  by_cases hdg : dgt (nx b n i) = true
  · rw [if_pos hdg, if_pos hdg]
    have hlt := dgt_lt hdg
    obtain ⟨S', s1, s2, s3, s4⟩ := num_lp (N := N) hn 4 (Nat.le_refl _) i dr 0 S h hb hi N (by omega)
    obtain ⟨S2, w1, w2, w3, w4⟩ := write_ok s3 (by omega) (256 + (sNum b n 4 i 0).2)
    have e : La_readNumber N S = some S2 := by
      unfold La_readNumber La_readNumber_L4
      have s1' : lp (fun kk (x : St × Int32 × Int32) => La_readNumber_b4 N kk x.1 x.2.1 x.2.2) N (S, 0, 0) = _ := s1
      rw [s1']
      unfold La_readNumber_b48
      rw [w1, bd1_some]
    rw [e, bd1_some]
    exact ⟨S2, rfl, s2.trans w2, w3, w4.of22 s4⟩
  · rw [if_neg hdg, if_neg hdg, nameOf_eq, bd1_some]
    by_cases hnm : nmI (nx b n i) < 6
    · have hlt := nmI_lt hnm
      rw [if_pos hnm, if_neg (nb0 _ (by omega)), if_pos hnm, h.2.1, nI_1, nm_eq, nameOf_eq, bd1_some, if_pos hnm]
      obtain ⟨S2, w1, w2, w3, w4⟩ := write_ok h.step (by omega) (nI (nmI (nx b n i)))
      rw [w1, bd1_some]
      exact ⟨S2, rfl, (PF.si2 S (by omega) _).trans w2, w3, w4.of22 (fun j => by rw [gi_si, if_neg (by decide)])⟩
    · rw [if_neg hnm, if_pos (by decide), if_neg hnm]
      have hfail : ∃ S', (bd1 (La_fail S) fun S4 => some S4) = some S' ∧ Rs S S' n dr (.inl i) := by
        rw [fail_ok h, bd1_some]
        exact ⟨_, rfl, PF.si2 S (by omega) _, Fl1.of h hi (by omega)⟩
      by_cases h1 : nx b n i = 40
      · rw [if_pos h1]
        unfold La_readOperand_b65
        rcases hx with hx | hx
        · exact absurd h1 hx.1
        · rw [if_pos hx]; exact hfail
      · rw [if_neg h1]
        by_cases h2 : nx b n i = 33
        · rw [if_pos h2]
          unfold La_readOperand_b65
          rcases hx with hx | hx
          · exact absurd h2 hx.2.1
          · rw [if_pos hx]; exact hfail
        · rw [if_neg h2]
          by_cases h3 : nx b n i = 45
          · rw [if_pos h3]
            unfold La_readOperand_b65
            rcases hx with hx | hx
            · exact absurd h3 hx.2.2
            · rw [if_pos hx]; exact hfail
          · rw [if_neg h3]; exact hfail
