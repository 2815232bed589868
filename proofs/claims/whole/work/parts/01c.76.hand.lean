theorem si_back (V : St) (v i : Nat) (x : Int32) : si (si V v i x) v i (gi V v i) = V := by
  unfold si gi
  refine Prod.ext ?_ rfl
  funext w
  dsimp only
  by_cases h : w = v
  · subst h
    rw [if_pos rfl, if_pos rfl]
    funext j
    unfold upd
    by_cases e : j = i
    · rw [if_pos e, e]
    · rw [if_neg e, if_neg e]
  · rw [if_neg h, if_neg h]
/-- one promise in another one's hand -/
def hT (T : St) (p to : Nat) : St := si T 14 p (nI to)
def mvd (T : St) (p : Nat) (d : Int32) : Int32 := if opn T p d = true then gi T 17 p else 0
theorem len_hand {T : St} {P Q p to w o : Nat} {d : Int32} (ht : to < 6) (hw : w < 6) (ho : o < 6) (hwp : gi T 14 p = nI w) (htw : to ≠ w) (hun : gi T 19 p = -1) : ∀ j, lenU (hT T p to) o d j = if p < j then (if o = to then lenU T o d j + mvd T p d else if o = w then lenU T o d j - mvd T p d else lenU T o d j) else lenU T o d j
  | 0 => by rw [if_neg (Nat.not_lt_zero _)]; rfl
  | j + 1 => by
    have ih := len_hand (P := P) (Q := Q) (d := d) ht hw ho hwp htw hun j
    have e1 : lenU (hT T p to) o d (j + 1) = lenU (hT T p to) o d j + (if con (hT T p to) j (nI o) && opn (hT T p to) j d then gi (hT T p to) 17 j else 0) := rfl
    have e2 : lenU T o d (j + 1) = lenU T o d j + (if con T j (nI o) && opn T j d then gi T 17 j else 0) := rfl
    have eo : opn (hT T p to) j d = opn T j d := by unfold opn hT; simp only [gi_si, gl_si, gi_sl, gl_sl, row_si, row_sl, Nat.reduceEqDiff, reduceIte]
    have e17 : gi (hT T p to) 17 j = gi T 17 j := by unfold hT; simp only [gi_si, gl_si, gi_sl, gl_sl, row_si, row_sl, Nat.reduceEqDiff, reduceIte]
    rw [e1, e2, ih, eo, e17]
    have cn : ¬ (-1 : Int32) = nI o := fun e => by
      have := congrArg Int32.toInt e; rw [ti o (by omega), tim1] at this; omega
    by_cases hj : j = p
    · subst hj
      have c1 : con (hT T j to) j (nI o) = decide (to = o) := by
        unfold con hT; simp only [gi_si, gl_si, gi_sl, gl_sl, row_si, row_sl, Nat.reduceEqDiff, reduceIte, hun, cn, decide_false, Bool.or_false, eq_nI to o (by omega) (by omega)]
      have c2 : con T j (nI o) = decide (w = o) := by
        unfold con; simp only [hwp, hun, cn, decide_false, Bool.or_false, eq_nI w o (by omega) (by omega)]
      rw [if_neg (Nat.lt_irrefl _), if_pos (by omega : j < j + 1), c1, c2]
      unfold mvd
      by_cases a1 : o = to
      · subst a1
        have a2 : ¬ w = o := fun e => htw e.symm
        simp only [a2, decide_true, decide_false, Bool.true_and, Bool.false_and, if_true, Bool.false_eq_true, if_false, Int32.add_zero]
      · have a3 : ¬ to = o := fun e => a1 e.symm
        by_cases a2 : o = w
        · subst a2
          simp only [a1, a3, decide_true, decide_false, Bool.true_and, Bool.false_and, if_true, Bool.false_eq_true, if_false, Int32.add_zero, Int32.add_sub_cancel]
        · have a4 : ¬ w = o := fun e => a2 e.symm
          simp only [a1, a2, a3, a4, decide_false, Bool.false_and, Bool.false_eq_true, if_false]
    · have c1 : con (hT T p to) j (nI o) = con T j (nI o) := by
        unfold con hT; simp only [gi_si, gl_si, gi_sl, gl_sl, row_si, row_sl, Nat.reduceEqDiff, reduceIte, hj]
      rw [c1]
      generalize (if con T j (nI o) && opn T j d then gi T 17 j else 0) = z
      by_cases h1 : p < j
      · rw [if_pos h1, if_pos (by omega : p < j + 1)]
        by_cases a1 : o = to
        · rw [if_pos a1, if_pos a1, Int32.add_assoc, Int32.add_comm (mvd T p d) z, ← Int32.add_assoc]
        · rw [if_neg a1, if_neg a1]
          by_cases a2 : o = w
          · rw [if_pos a2, if_pos a2, Int32.sub_eq_add_neg, Int32.sub_eq_add_neg, Int32.add_assoc, Int32.add_comm (- mvd T p d) z, ← Int32.add_assoc]
          · rw [if_neg a2, if_neg a2]
      · rw [if_neg h1, if_neg (by omega)]
theorem Sm_isTied_eq {S T : St} {P Q : Nat} (hC : Core S T) (hPr : iPr T P Q) (hP6 : P ≤ 6) {p : Nat} (hp : p < Q) (hQ : Q ≤ 10) : Sm_isTied S (nI p) = some (bI (!decide (gi T 19 p = -1))) := by
  unfold Sm_isTied
  rw [inb_nI (j := p) (n := 10) (by omega) (by omega), ck_true, cl p (by omega), hC.g 19 (fun _ => rfl)]
  by_cases h : gi T 19 p = -1
  · rw [if_pos h, h]; rfl
  · rw [if_neg h, decide_eq_false h]; rfl
theorem tied_neg {T : St} {P Q : Nat} (hPr : iPr T P Q) (hP6 : P ≤ 6) {p : Nat} (hp : p < Q) : (gi T 19 p < 0) = (gi T 19 p = -1) := by
  rcases (hPr p hp).2.2.2.2 with h | ⟨k, hk, h⟩
  · rw [h]; simp
  · rw [h]
    have h1 : ¬ nI k < (0 : Int32) := nb0 k (by omega)
    have h2 : ¬ nI k = (-1 : Int32) := fun e => by have := congrArg Int32.toInt e; rw [ti k (by omega), tim1] at this; omega
    simp only [h1, h2]
/-- how many ride if a promise is handed on -/
def hv (T : St) (P Q p to : Nat) (d : Int32) : Nat := cnt (fun o => rid (hT T p to) Q o d) P
theorem rid_hand {T : St} {P Q p to w o : Nat} {d : Int32} (hp : p < Q) (ht : to < 6) (hw : w < 6) (ho : o < 6) (hwp : gi T 14 p = nI w) (htw : to ≠ w) (hun : gi T 19 p = -1) : rid (hT T p to) Q o d = gor T o (if o = to then lenU T o d Q + mvd T p d else if o = w then lenU T o d Q - mvd T p d else lenU T o d Q) := by
  unfold rid
  rw [len_hand (P := P) (Q := Q) ht hw ho hwp htw hun Q, if_pos hp]
  unfold gor hT
  simp only [gi_si, gl_si, gi_sl, gl_sl, row_si, row_sl, Nat.reduceEqDiff, reduceIte]
theorem handed_S {S T : St} {P Q N p to : Nat} (hX : XP S T P Q) (hp : p < Q) (ht : to < P) (d : Int32) (hne : ¬ nI to = gi T 14 p) (hun : gi T 19 p = -1) (hf : 10 < N) : Dy_ridersIfHanded N S (nI p) (nI to) d = some (nI (hv T P Q p to d)) := by
  obtain ⟨hC, hN, hPe, hPr⟩ := hX
  have hP6 := hN.2.1
  have hQ10 := hN.2.2.2
  obtain ⟨w, hw, hwp⟩ := (hPr p hp).1
  have htw : to ≠ w := fun e => hne (by rw [e, hwp])
  have main : Dy_ridersIfHanded_L33 N S (nI p) (nI to) d (mvd T p d) (0, 0) = some (nI (hv T P Q p to d)) := by
    unfold Dy_ridersIfHanded_L33
    refine lp_run (fun j => (nI (cnt (fun o => rid (hT T p to) Q o d) j), nI j)) P (fun k => ?_) N 0 (by omega) (by omega) (fun j _ hj k => ?_)
    · dsimp only
      unfold Dy_ridersIfHanded_b33
      rw [hC.1 1 9 rfl, hN.1, if_pos (Int32.le_refl _)]; rfl
    · dsimp only
      unfold Dy_ridersIfHanded_b33 Dy_ridersIfHanded_b94
      simp only [Sm_goesRound_eq (o := j) hC (by omega), nm_eq, bd1_some, if_bI]
      rw [hC.1 1 9 rfl, hN.1, if_neg (by rw [le_nI _ _ (by omega) (by omega)]; omega), Sm_lengthOn_eq ⟨hC, hN, hPe, hPr⟩ hj d hf, bd1_some, inb_nI (j := p) (n := 10) (by omega) (by omega), ck_true, cl p (by omega), hC.g 14 (fun _ => rfl), hwp]
      have er := rid_hand (P := P) (d := d) (o := j) hp (by omega) (by omega) (by omega) hwp htw hun
      have ec : cnt (fun o => rid (hT T p to) Q o d) (j + 1) = cnt (fun o => rid (hT T p to) Q o d) j + (if rid (hT T p to) Q j d = true then 1 else 0) := rfl
      rw [ec, er]
      simp only [eq_nI j to (by omega) (by omega), eq_nI j w (by omega) (by omega), nI_1]
      by_cases a1 : j = to
      · rw [if_pos a1, if_pos a1]
        cases gor T j (lenU T j d Q + mvd T p d) <;> rfl
      · rw [if_neg a1, if_neg a1]
        by_cases a2 : j = w
        · rw [if_pos a2, if_pos a2]
          cases gor T j (lenU T j d Q - mvd T p d) <;> rfl
        · rw [if_neg a2, if_neg a2]
          cases gor T j (lenU T j d Q) <;> rfl
  unfold Dy_ridersIfHanded Dy_ridersIfHanded_b25
  rw [Sm_isOpen_eq hC (by omega), bd1_some, if_bI, inb_nI (j := p) (n := 10) (by omega) (by omega), ck_true, cl p (by omega), hC.g 17 (fun _ => rfl)]
  unfold mvd at main
  by_cases h : opn T p d = true
  · rw [if_pos h] at main ⊢; exact main
  · rw [if_neg h] at main ⊢; exact main
theorem handed_V {V T : St} {P Q N p to : Nat} (hM : MP V T P Q) (hp : p < Q) (ht : to < P) (d : Int32) (hf : 10 < N) : Mo_ridersBy N V (nI p) (nI to) d = some (nI (hv T P Q p to d), V) := by
  obtain ⟨hP, hN, hPe, hPr⟩ := hM
  have hP6 := hN.2.1
  have hQ10 := hN.2.2.2
  have hM2 : MP (si V 49 p (nI to)) (hT T p to) P Q := by
    unfold hT
    refine ⟨⟨?_, ?_, fun j hj => ?_, fun j hj => ?_⟩, by simpa only [iN, gi_si, gl_si, gi_sl, gl_sl, row_si, row_sl, Nat.reduceEqDiff, reduceIte] using hN, by simpa only [iPe, gi_si, gl_si, gi_sl, gl_sl, row_si, row_sl, Nat.reduceEqDiff, reduceIte] using hPe, fun j hj => ?_⟩
    · simpa only [gi_si, gl_si, gi_sl, gl_sl, row_si, row_sl, Nat.reduceEqDiff, reduceIte] using hP.1
    · simpa only [gi_si, gl_si, gi_sl, gl_sl, row_si, row_sl, Nat.reduceEqDiff, reduceIte] using hP.2.1
    · simpa only [gi_si, gl_si, gi_sl, gl_sl, row_si, row_sl, Nat.reduceEqDiff, reduceIte] using hP.2.2.1 j hj
    · obtain ⟨b1, b2⟩ := hP.2.2.2 j hj
      simp only [gi_si, gl_si, gi_sl, gl_sl, row_si, row_sl, Nat.reduceEqDiff, reduceIte]
      refine ⟨?_, b2⟩
      by_cases e : j = p
      · rw [if_pos e, if_pos e]
      · rw [if_neg e, if_neg e]; exact b1
    · obtain ⟨b1, b2⟩ := hPr j hj
      simp only [gi_si, gl_si, gi_sl, gl_sl, row_si, row_sl, Nat.reduceEqDiff, reduceIte]
      refine ⟨?_, b2⟩
      by_cases e : j = p
      · rw [if_pos e]; exact ⟨to, ht, rfl⟩
      · rw [if_neg e]; exact b1
  unfold Mo_ridersBy
  simp only [inb_nI (j := p) (n := 10) (by omega) (by omega), ck_true, cl p (show p < 5000 by omega), nm_eq, Mo_ridersOn_eq hM2 d hf, bd1_some, Mo_bitsOf_eq (N := N) _ (setU_lt10 (fun o => rid (hT T p to) Q o d) (j := P) (by omega)) hf, si_back]
  rw [pop_setU _ P (by omega)]; rfl
theorem RR_hand : LS_hand RR := by
  rintro S V p1 p2 hRR
  have hRR' := hRR
  obtain ⟨T, P, Q, F, c, a, B, hC, hR⟩ := hRR
  obtain ⟨hN, hPe, hPr, hP, -⟩ := hR
  have hX : XP S T P Q := ⟨hC, hN, hPe, hPr⟩
  have hM : MP V T P Q := ⟨hP, hN, hPe, hPr⟩
  have hP6 := hN.2.1
  have hQ10 := hN.2.2.2
  obtain ⟨q1, r1, a1, a2, a3, a4, a5⟩ := dm p1 100 100 rfl (by omega)
  unfold Ch_hand Mo_hand
  simp only [nm_eq, Sm_isOne_eq hC hN, Mo_isOne_eq hP hN, Sm_isPromise_eq hC hN, Mo_isPromise_eq hP hN, Ch_isDay_eq, Mo_isDay_eq, bd1_some, if_bI, Int32.toInt_toInt64, a1, a2, Int32.lt_iff_toInt_lt (x := p1), ti0]
  by_cases h0 : p1.toInt < 0
  · have := a5 h0
    rw [if_pos h0]
    by_cases h1 : wi q1 0 ((Q : Int) - 1) = true
    · have h1' := h1
      rw [wi_t] at h1'
      rw [if_pos h1, if_neg (by rw [wi_t]; omega)]
      exact ⟨_, _, rfl, rfl, hRR'⟩
    · rw [if_neg h1]; exact ⟨_, _, rfl, rfl, hRR'⟩
  rw [if_neg h0]
  by_cases h1 : wi q1 0 ((Q : Int) - 1) = true
  · rw [if_pos h1, if_pos h1]
    have h1' : wi (p1 / 100).toInt 0 ((Q : Int) - 1) = true := by rw [a1]; exact h1
    obtain ⟨p, hp, ep⟩ := wi_nI h1'
    by_cases h2 : wi r1 0 ((P : Int) - 1) = true
    · rw [if_pos h2, if_pos h2]
      have h2' : wi (p1 - p1 / 100 * 100).toInt 0 ((P : Int) - 1) = true := by rw [a2]; exact h2
      obtain ⟨to, ht, et⟩ := wi_nI h2'
      rw [et, ep, a48, inb_nI (j := p) (n := 10) (by omega) (by omega), inb_nI (j := 48 + p) (n := 58) (by omega) (by omega), ck_true, ck_true, ck_true, cl p (by omega), cl (48 + p) (by omega), hC.g 14 (fun _ => rfl), (hP.2.2.2 p (by omega)).1, (hP.2.2.2 p (by omega)).2.2.2.2.2]
      by_cases h3 : nI to = gi T 14 p
      · rw [if_pos h3, if_pos h3]; exact ⟨_, _, rfl, rfl, hRR'⟩
      · rw [if_neg h3, if_neg h3]
        by_cases h4 : wi p2.toInt 0 99 = true
        · rw [if_pos h4, if_pos h4, Sm_isTied_eq hC hPr hP6 hp hQ10, bd1_some, if_bI]
          by_cases h5 : gi T 19 p = -1
          · rw [if_neg (by rw [decide_eq_true h5]; decide), handed_S (N := fuel) hX hp ht p2 h3 h5 (by decide), bd1_some, if_pos (by rw [tied_neg hPr hP6 hp]; exact h5), handed_V (N := fuel) hM hp ht p2 (by decide), bd2_some]
            exact ⟨_, _, rfl, rfl, hRR'⟩
          · rw [if_pos (by rw [decide_eq_false h5]; decide), if_neg (by rw [tied_neg hPr hP6 hp]; exact h5)]
            exact ⟨_, _, rfl, rfl, hRR'⟩
        · rw [if_neg h4, if_neg h4]; exact ⟨_, _, rfl, rfl, hRR'⟩
    · rw [if_neg h2, if_neg h2]; exact ⟨_, _, rfl, rfl, hRR'⟩
  · rw [if_neg h1, if_neg h1]; exact ⟨_, _, rfl, rfl, hRR'⟩
