def zn (z : Int32) : Int32 := z * 1103515245 + 12345
def zd (z : Int32) : Int32 := ((zn z).toUInt32 >>> ((8 : Int32).toUInt32 &&& Int32.toUInt32 31)).toInt32 - ((zn z).toUInt32 >>> ((8 : Int32).toUInt32 &&& Int32.toUInt32 31)).toInt32 / 100 * 100
theorem shr8_nn (u : UInt32) : 0 ≤ ((u >>> ((8 : Int32).toUInt32 &&& Int32.toUInt32 31)).toInt32).toInt := by
  have e : ((8 : Int32).toUInt32 &&& Int32.toUInt32 31) = 8 := by decide
  rw [e]
  have h : (u >>> 8).toNat < 2 ^ 24 := by
    rw [UInt32.toNat_shiftRight]
    have h1 := u.toNat_lt
    have h2 : (8 : UInt32).toNat % 32 = 8 := by decide
    rw [h2, Nat.shiftRight_eq_div_pow]
    omega
  have h3 : ((u >>> 8).toInt32).toInt = ((u >>> 8).toNat : Int) := by
    show (u >>> 8).toBitVec.toInt = _
    rw [BitVec.toInt_eq_toNat_of_lt (by show 2 * (u >>> 8).toNat < 2 ^ 32; omega)]
    rfl
  omega
theorem zd_ok (z : Int32) : 0 ≤ (zd z).toInt ∧ (zd z).toInt ≤ 99 := by
  unfold zd
  have h := shr8_nn (zn z).toUInt32
  generalize ((zn z).toUInt32 >>> ((8 : Int32).toUInt32 &&& Int32.toUInt32 31)).toInt32 = x at *
  obtain ⟨q, r, a1, a2, a3, a4, a5⟩ := dm x 100 100 rfl (by omega)
  rw [a2]
  have := a4 h
  omega
/-- z after the first p promises of a life -/
def zz (z : Int32) : Nat → Int32
  | 0 => z
  | p + 1 => zn (zz z p)
/-- the day on which a promise is kept in a life that begins with z -/
def dk (T : St) (z : Int32) (p : Nat) : Int32 := if zd (zz z p) < gi T 15 p then -1 else zd (zz z p)
theorem dk_ok (T : St) (z : Int32) (p : Nat) : -1 ≤ (dk T z p).toInt ∧ (dk T z p).toInt ≤ 99 := by
  have := zd_ok (zz z p)
  unfold dk
  split
  · rw [tim1]; omega
  · omega
theorem draw_S {S T : St} {P Q N : Nat} (hC : Core S T) (hN : iN T P Q) (z : Int32) (hf : 10 < N) : ∃ S', Dy_drawLife N S z = some (zz z Q, S') ∧ Off 27 S S' ∧ ∀ p, p < Q → gi S' 27 p = dk T z p := by
  have hQ10 := hN.2.2.2
  unfold Dy_drawLife Dy_drawLife_L4
  have hs : ∀ j (x : St × Int32 × Int32), j < Q → (fun j (x : St × Int32 × Int32) => ∃ Sj, x = (Sj, zz z j, nI j) ∧ Off 27 S Sj ∧ ∀ p, p < j → gi Sj 27 p = dk T z p) j x → ∃ x', (∀ k, (fun k (x : St × Int32 × Int32) => Dy_drawLife_b4 N k x.1 x.2.1 x.2.2) k x = k x') ∧ (fun j (x : St × Int32 × Int32) => ∃ Sj, x = (Sj, zz z j, nI j) ∧ Off 27 S Sj ∧ ∀ p, p < j → gi Sj 27 p = dk T z p) (j + 1) x' := by
    rintro j x hj ⟨Sj, rfl, h1, h2⟩
    refine ⟨(si Sj 27 j (dk T z j), zz z (j + 1), nI (j + 1)), fun k => ?_, _, rfl, h1.trans (Off.si _ _ _ _), fun p hp => ?_⟩
    · dsimp only
      unfold Dy_drawLife_b4
      rw [h1.1 1 10 (by decide), hC.1 1 10 rfl, hN.2.2.1, if_neg (by rw [le_nI _ _ (by omega) (by omega)]; omega), inb_nI (j := j) (n := 10) (by omega) (by omega)]
      simp only [nm_eq, nI_1, ck_true, cl j (show j < 5000 by omega), h1.1 15 j (by decide), hC.g 15 (fun _ => rfl)]
      show (if zd (zz z j) < gi T 15 j then k (si Sj 27 j (-1), zn (zz z j), nI (j + 1)) else k (si Sj 27 j (zd (zz z j)), zn (zz z j), nI (j + 1))) = k (si Sj 27 j (dk T z j), zn (zz z j), nI (j + 1))
      unfold dk
      split <;> rfl
    · rw [gi_si, if_pos rfl]
      by_cases e : p = j
      · rw [if_pos e, e]
      · rw [if_neg e]; exact h2 p (by omega)
  obtain ⟨x, k, e, Sj, rfl, h1, h2⟩ := lp_go _ Q hs N 0 (S, z, 0) (by omega) (by omega) ⟨S, rfl, Off.refl _ _, fun p hp => absurd hp (Nat.not_lt_zero _)⟩
  refine ⟨Sj, ?_, h1, h2⟩
  rw [e]
  dsimp only
  unfold Dy_drawLife_b4
  rw [h1.1 1 10 (by decide), hC.1 1 10 rfl, hN.2.2.1, if_pos (Int32.le_refl _)]
/-- the state of a life -/
def lf (T : St) (z : Int32) : St := setRow T 18 (dk T z)
theorem lenU_row {T : St} {f g : Nat → Int32} {o : Nat} {d : Int32} : ∀ j, (∀ p, p < j → f p = g p) → lenU (setRow T 18 f) o d j = lenU (setRow T 18 g) o d j
  | 0, _ => rfl
  | j + 1, h => by
    have e1 : lenU (setRow T 18 f) o d (j + 1) = lenU (setRow T 18 f) o d j + (if con (setRow T 18 f) j (nI o) && opn (setRow T 18 f) j d then gi (setRow T 18 f) 17 j else 0) := rfl
    have e2 : lenU (setRow T 18 g) o d (j + 1) = lenU (setRow T 18 g) o d j + (if con (setRow T 18 g) j (nI o) && opn (setRow T 18 g) j d then gi (setRow T 18 g) 17 j else 0) := rfl
    rw [e1, e2, lenU_row j (fun p hp => h p (by omega))]
    have ec : con (setRow T 18 f) j (nI o) = con (setRow T 18 g) j (nI o) := by unfold con; simp only [gi_setRow, Nat.reduceEqDiff, reduceIte]
    have eo : opn (setRow T 18 f) j d = opn (setRow T 18 g) j d := by unfold opn; simp only [gi_setRow, Nat.reduceEqDiff, reduceIte, h j (by omega)]
    have el : gi (setRow T 18 f) 17 j = gi (setRow T 18 g) 17 j := by simp only [gi_setRow, Nat.reduceEqDiff, reduceIte]
    rw [ec, eo, el]
/-- rides of one in a life: on all days, or on a told one -/
def lr1 (T : St) (Q o : Nat) (day : Int32) (z : Int32) : Nat := if day = -1 then cnt (rd (lf T z) Q o) 100 else cnt (fun j => rd (lf T z) Q o (day.toNatClampNeg + j)) 1
theorem lr1_le (T : St) (Q o : Nat) (day z : Int32) : lr1 T Q o day z ≤ 100 := by
  unfold lr1
  split
  · exact cnt_le _ _
  · exact Nat.le_trans (cnt_le _ _) (by decide)
/-- the sum over the first i lives, and z behind them -/
def dr (T : St) (Q o : Nat) (day : Int32) (z : Int32) : Nat → Nat × Int32
  | 0 => (0, z)
  | i + 1 => ((dr T Q o day z i).1 + lr1 T Q o day (dr T Q o day z i).2, zz (dr T Q o day z i).2 Q)
theorem dr_le (T : St) (Q o : Nat) (day z : Int32) : ∀ i, (dr T Q o day z i).1 ≤ 100 * i
  | 0 => Nat.le_refl _
  | i + 1 => by
    have := dr_le T Q o day z i
    have := lr1_le T Q o day (dr T Q o day z i).2
    show (dr T Q o day z i).1 + lr1 T Q o day (dr T Q o day z i).2 ≤ 100 * (i + 1)
    omega
theorem lf_iN {T : St} {P Q : Nat} {z : Int32} (h : iN T P Q) : iN (lf T z) P Q := by
  simpa only [lf, iN, gi_setRow, Nat.reduceEqDiff, reduceIte] using h
theorem lf_iPe {T : St} {P : Nat} {z : Int32} (h : iPe T P) : iPe (lf T z) P := by
  simpa only [lf, iPe, gi_setRow, Nat.reduceEqDiff, reduceIte] using h
theorem lf_iPr {T : St} {P Q : Nat} {z : Int32} (h : iPr T P Q) : iPr (lf T z) P Q := fun j hj => by
  obtain ⟨b1, b2, b3, b4, b5⟩ := h j hj
  unfold lf
  simp only [gi_setRow, Nat.reduceEqDiff, reduceIte]
  exact ⟨b1, b2, b3, dk_ok T z j, b5⟩
theorem lf_gor (T : St) (z : Int32) (o : Nat) (x : Int32) : gor (lf T z) o x = gor T o x := by
  unfold gor lf; simp only [gi_setRow, Nat.reduceEqDiff, reduceIte]
theorem laid_eq {S T : St} {P Q o : Nat} {z : Int32} (hC : Core S T) (hN : iN T P Q) (ho : o < P) (hl : ∀ x, x < 100 → gi S 25 x = lenU (lf T z) o (nI x) Q) {x : Nat} (hx : x < 100) : Dy_ridesLaidOut S (nI o) (nI x) = some (bI (rd (lf T z) Q o x)) := by
  have hP6 := hN.2.1
  unfold Dy_ridesLaidOut rd rid
  rw [inb_nI (j := x) (n := 101) (by omega) (by omega), ck_true, cl x (by omega), hl x hx, Sm_goesRound_eq hC (by omega), bd1_some, isB_bI, ck_true, lf_gor]
theorem within_lf {S T : St} {P Q N : Nat} {z : Int32} (hC : Core S T) (hN : iN T P Q) {o : Nat} (ho : o < P) (hl : ∀ x, x < 100 → gi S 25 x = lenU (lf T z) o (nI x) Q) {a b : Nat} (hab : a ≤ b) (hb : b < 100) (hf : 101 < N) : Dy_ridesLaidOutWithin N S (nI o) (nI a) (nI b) = some (nI (cnt (fun j => rd (lf T z) Q o (a + j)) (b + 1 - a))) := by
  unfold Dy_ridesLaidOutWithin Dy_ridesLaidOutWithin_L6
  refine lp_run (fun j => (nI (cnt (fun j => rd (lf T z) Q o (a + j)) j), nI (a + j))) (b + 1 - a) (fun k => ?_) N 0 (by omega) (by omega) (fun j _ hj k => ?_)
  · unfold Dy_ridesLaidOutWithin_b6
    rw [if_pos (by rw [lt_nI _ _ (by omega) (by omega)]; omega)]
  · unfold Dy_ridesLaidOutWithin_b6
    dsimp only
    rw [if_neg (by rw [lt_nI _ _ (by omega) (by omega)]; omega), laid_eq hC hN ho hl (by omega), bd1_some]
    simp only [nm_eq, bI_0, nI_1, cnt, Nat.add_assoc]
    by_cases h : rd (lf T z) Q o (a + j) = true <;> simp [h]
theorem drawn_S {S T : St} {P Q N n o : Nat} (hX : XP S T P Q) (ho : o < P) (hn : n ≤ 30) {day : Int32} (hd : day = -1 ∨ ∃ x, x < 100 ∧ day = nI x) (z : Int32) (hf : 110 < N) : ∃ S', Dy_drawnRides N S z (nI n) (nI o) day = some (nI (dr T Q o day z n).1, S') ∧ Core S' T := by
  obtain ⟨hC, hN, hPe, hPr⟩ := hX
  have hQ10 := hN.2.2.2
  unfold Dy_drawnRides Dy_drawnRides_L9
  have hs : ∀ j (x : St × Int32 × Int32 × Int32), j < n → (fun j (x : St × Int32 × Int32 × Int32) => ∃ Sj, x = (Sj, (dr T Q o day z j).2, nI (dr T Q o day z j).1, nI j) ∧ Core Sj T) j x → ∃ x', (∀ k, (fun k (x : St × Int32 × Int32 × Int32) => Dy_drawnRides_b9 N k x.1 (nI n) (nI o) day x.2.1 x.2.2.1 x.2.2.2) k x = k x') ∧ (fun j (x : St × Int32 × Int32 × Int32) => ∃ Sj, x = (Sj, (dr T Q o day z j).2, nI (dr T Q o day z j).1, nI j) ∧ Core Sj T) (j + 1) x' := by
    rintro j x hj ⟨Sj, rfl, h1⟩
    dsimp only
    have ed : dr T Q o day z (j + 1) = ((dr T Q o day z j).1 + lr1 T Q o day (dr T Q o day z j).2, zz (dr T Q o day z j).2 Q) := rfl
    rw [ed]
    generalize dr T Q o day z j = y
    obtain ⟨sm, zj⟩ := y
    dsimp only
    obtain ⟨S1, s1, s2, s3⟩ := draw_S (N := N) h1 hN zj (by omega)
    have hC1 : Core S1 T := h1.off (fun _ => rfl) s2
    obtain ⟨S2, t1, t2, t3⟩ := Dy_layOut_eq (N := N) (S := S1) (T := T) ⟨hC1, hN, hPe, hPr⟩ ho (k := 27) (.inr rfl) (fun p hp => by rw [s3 p hp]; exact dk_ok T zj p) hf
    have hC2 : Core S2 T := hC1.off (fun _ => rfl) t2
    have hl : ∀ x, x < 100 → gi S2 25 x = lenU (lf T zj) o (nI x) Q := fun x hx => by
      rw [t3 x hx]
      exact lenU_row Q (fun p hp => s3 p hp)
    refine ⟨(S2, zz zj Q, nI (sm + lr1 T Q o day zj), nI (j + 1)), fun k => ?_, S2, rfl, hC2⟩
    unfold Dy_drawnRides_b9
    rw [if_neg (by rw [le_nI _ _ (by omega) (by omega)]; omega), s1, bd2_some, t1, bd1_some]
    unfold lr1
    rcases hd with rfl | ⟨x, hx, rfl⟩
    · have w := within_lf (N := N) (a := 0) (b := 99) hC2 hN ho hl (by omega) (by omega) (by omega)
      rw [if_pos rfl, if_pos rfl, show Dy_ridesLaidOutWithin N S2 (nI o) 0 99 = _ from w, bd1_some, nm_eq, nm_eq, nI_1, nI_add]
      simp only [Nat.zero_add]
    · have w := within_lf (N := N) (a := x) (b := x) hC2 hN ho hl (by omega) hx (by omega)
      have hne : ¬ nI x = (-1 : Int32) := fun e => by have := congrArg Int32.toInt e; rw [ti x (by omega), tim1] at this; omega
      rw [if_neg hne, if_neg hne, w, bd1_some, nm_eq, nm_eq, nI_1, nI_add, cl x (by omega), Nat.add_sub_cancel_left]
  obtain ⟨x, k, e, Sj, rfl, h1⟩ := lp_go _ n hs N 0 (S, z, 0, 0) (by omega) (by omega) ⟨S, rfl, hC⟩
  refine ⟨Sj, ?_, h1⟩
  rw [e]
  dsimp only
  unfold Dy_drawnRides_b9
  rw [if_pos (Int32.le_refl _)]
