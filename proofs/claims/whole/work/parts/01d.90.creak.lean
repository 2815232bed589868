/-- the law of the class, of the reference: none, or lines -/
def LcT (T : St) : Option (List Li) → Prop
  | none => gi T 2 6 = 0
  | some L => ∃ cd, TxC L cd ∧ 1 ≤ cd.length ∧ cd.length ≤ 121 ∧ gi T 2 6 = nI cd.length ∧ ∀ j, j < cd.length → gi T 21 j = cd.getD j 0
def LcV (V : St) : Option (List Li) → Prop
  | none => gi V 44 13 = -1
  | some L => ∃ (n : Nat) (b : Nat → Int32) (cd : List Int32), n ≤ 120 ∧ gi V 44 13 = nI n ∧ sText b n = .inr (cd, L) ∧ ∀ j, j < n → gi V 52 j = b j
theorem rLw.split {V T : St} (h : rLw V T) : ∃ o, LcT T o ∧ LcV V o := by
  rcases h with ⟨h1, h2⟩ | ⟨n, cd, L, h1, h2, h3, h4, h5, h6, h7, h8, h9⟩
  · exact ⟨none, h2, h1⟩
  · exact ⟨some L, ⟨cd, sText_c h5, h6, h7, h8, h9⟩, n, _, cd, h2, h3, h5, fun j hj => by
      show gi V 52 j = if j < n then V.1 52 j else 0
      rw [if_pos hj]; rfl⟩
theorem LcV.of {V V' : St} {o : Option (List Li)} (h : OfM V V') (hl : LcV V o) : LcV V' o := by
  cases o with
  | none => exact (h.1 44 13 rfl).trans hl
  | some L =>
    obtain ⟨n, b, cd, a1, a2, a3, a4⟩ := hl
    exact ⟨n, b, cd, a1, (h.1 44 13 rfl).trans a2, a3, fun j hj => (h.1 52 j rfl).trans (a4 j hj)⟩
def whN (T : St) (p : Nat) : Nat := (gi T 14 p).toNatClampNeg
theorem whN_ok {T : St} {P Q p : Nat} (hPr : iPr T P Q) (hP : P ≤ 6) (hp : p < Q) : gi T 14 p = nI (whN T p) ∧ whN T p < P := by
  obtain ⟨w, hw, e⟩ := (hPr p hp).1
  unfold whN
  rw [e, cl w (by omega)]
  exact ⟨rfl, hw⟩
/-- what a NAME tells of a promise on a day -/
def evn (T : St) (Q p : Nat) (d : Int32) (k : Nat) : Int32 := if k = 0 then d - gi T 16 p else if k = 1 then gi T 17 p else if k = 2 then lenU T (whN T p) d Q else if k = 3 then gi T 12 (whN T p) else if k = 4 then (if gi T 19 p = -1 then 0 else 1) else nI p
def clp (x : Int32) : Int32 := if x < 0 then 0 else if 99 < x then 99 else x
/-- how loud a promise creaks -/
def ckv (o : Option (List Li)) (T : St) (Q p : Nat) (d : Int32) : Int32 := if (opn T p d && decide (gi T 16 p < d)) = true then clp (match o with
  | none => d - gi T 16 p + gi T 17 p
  | some L => tvl (evn T Q p d) L) else 0
theorem ck_rng (o : Option (List Li)) (T : St) (Q p : Nat) (d : Int32) : 0 ≤ (ckv o T Q p d).toInt ∧ (ckv o T Q p d).toInt ≤ 99 := by
  unfold ckv clp
  split
  · generalize (match o with
      | none => d - gi T 16 p + gi T 17 p
      | some L => tvl (evn T Q p d) L) = x
    by_cases h : x < 0
    · rw [if_pos h]; decide
    · rw [if_neg h]
      by_cases h2 : 99 < x
      · rw [if_pos h2]; decide
      · rw [if_neg h2]
        rw [Int32.lt_iff_toInt_lt] at h h2
        rw [ti0] at h; rw [ti99] at h2
        omega
  · decide
theorem clp_S (N : Nat) (S : St) (x : Int32) : Cr_ofPromise_b116 N S x = some (clp x, S) := by
  unfold Cr_ofPromise_b116 Ma_min Ma_max clp
  by_cases h1 : x < 99
  · rw [if_pos h1, bd1_some]
    have n2 : ¬ 99 < x := by rw [Int32.lt_iff_toInt_lt] at h1 ⊢; omega
    by_cases h0 : 0 < x
    · have n0 : ¬ x < 0 := by rw [Int32.lt_iff_toInt_lt] at h0 ⊢; omega
      rw [if_pos h0, bd1_some, if_neg n0, if_neg n2]
    · rw [if_neg h0, bd1_some]
      by_cases n0 : x < 0
      · rw [if_pos n0]
      · have : x = 0 := Int32.toInt_inj.mp (by rw [Int32.lt_iff_toInt_lt, ti0] at h0 n0; rw [ti0]; omega)
        rw [if_neg n0, if_neg n2, this]
  · rw [if_neg h1, bd1_some, if_pos (by decide : (0 : Int32) < 99), bd1_some]
    have n0 : ¬ x < 0 := by rw [Int32.lt_iff_toInt_lt, ti99] at h1; rw [Int32.lt_iff_toInt_lt, ti0]; omega
    rw [if_neg n0]
    by_cases h2 : 99 < x
    · rw [if_pos h2]
    · have : x = 99 := Int32.toInt_inj.mp (by rw [Int32.lt_iff_toInt_lt, ti99] at h1 h2; rw [ti99]; omega)
      rw [if_neg h2, this]
theorem clp_V (N : Nat) (V : St) (x : Int32) : Mo_creakOf_b147 N V x = some (clp x, V) := by
  unfold Mo_creakOf_b147 clp
  by_cases h0 : x < 0
  · rw [if_pos h0, if_neg (by rw [le_not]; exact fun k => k h0)]
  · rw [if_neg h0, if_pos (by rw [le_not]; exact h0)]
    by_cases h2 : 99 < x
    · rw [if_pos h2, if_neg (by rw [le_not]; exact fun k => k h2)]
    · rw [if_neg h2, if_pos (by rw [le_not]; exact h2)]
theorem Core.off2 {S S' T : St} (hC : Core S T) (h : ∀ v i, v ≠ 23 → v ≠ 24 → gi S' v i = gi S v i) (hl : ∀ i, gl S' 43 i = gl S 43 i) : Core S' T := ⟨fun v i hv => by
  have h23 : v ≠ 23 := fun e => by subst e; exact absurd (show (true : Bool) = false from hv) (by decide)
  have h24 : v ≠ 24 := fun e => by subst e; exact absurd (show (true : Bool) = false from hv) (by decide)
  rw [h v i h23 h24]; exact hC.1 v i hv, fun i => (hl i).trans (hC.2 i)⟩
theorem creak_S {S T : St} {P Q N : Nat} {o : Option (List Li)} (hX : XP S T P Q) (hL : LcT T o) {p : Nat} (hp : p < Q) (d : Int32) (hN : 122 < N) : ∃ S', Cr_ofPromise N S (nI p) d = some (ckv o T Q p d, S') ∧ Core S' T ∧ (∀ v i, v ≠ 23 → v ≠ 24 → gi S' v i = gi S v i) := by
  have hX' := hX
  obtain ⟨hC, hNn, hPe, hPr⟩ := hX'
  have hP6 := hNn.2.1
  have hQ10 := hNn.2.2.2
  obtain ⟨ew, hw⟩ := whN_ok hPr hP6 hp
  unfold Cr_ofPromise Sm_isOverDue ckv
  rw [Sm_isOpen_eq hC (by omega), bd1_some, if_bI, inb_nI (j := p) (n := 10) (by omega) (by omega)]
  simp only [ck_true, cl p (show p < 5000 by omega), hC.g 16 (fun _ => rfl)]
  by_cases ho : opn T p d = true
  · rw [if_pos ho, ho, Bool.true_and]
    by_cases hd : gi T 16 p < d
    · rw [if_neg (by rw [le_not]; exact fun k => k hd), bd1_some, if_neg (by decide), decide_eq_true hd, if_pos rfl]
      simp only [nm_eq, hC.g 16 (fun _ => rfl), hC.g 17 (fun _ => rfl), hC.g 14 (fun _ => rfl)]
      unfold La_hasText
      rw [hC.1 2 6 rfl]
      cases o with
      | none =>
        have hL : gi T 2 6 = 0 := hL
        rw [hL, if_pos (by decide), bd1_some, if_pos rfl, clp_S]
        exact ⟨S, rfl, hC, fun _ _ _ _ => rfl⟩
      | some L =>
        obtain ⟨cd, c1, c2, c3, c4, c5⟩ := hL
        rw [c4, if_neg (by show ¬ nI cd.length ≤ nI 0; rw [le_nI _ _ (by omega) (by omega)]; omega), bd1_some, if_neg (by decide), ew, Sm_lengthOn_eq hX hw d (by omega), bd1_some, inb_nI (j := whN T p) (n := 6) (by omega) (by omega), ck_true, cl (whN T p) (by omega), hC.g 12 (fun _ => rfl), Sm_isTied_eq hC hPr hP6 hp hQ10, bd1_some]
        have main : ∀ x4 : Int32, x4 = (if gi T 19 p = -1 then 0 else 1) → ∃ S', (bd2 (La_valueFor N S (d - gi T 16 p) (gi T 17 p) (lenU T (whN T p) d Q) (gi T 12 (whN T p)) x4 (nI p)) fun r9 S8 => Cr_ofPromise_b116 N S8 r9) = some (clp (tvl (evn T Q p d) L), S') ∧ Core S' T ∧ ∀ v i, v ≠ 23 → v ≠ 24 → gi S' v i = gi S v i := by
          intro x4 hx4
          unfold La_valueFor La_tell La_valueFor_L19
          simp only [nm_eq, bd1_some]
          obtain ⟨S6, hS6⟩ : ∃ S6, S6 = si (si (si (si (si (si S 24 (0 : Int32).toNatClampNeg (d - gi T 16 p)) 24 (1 : Int32).toNatClampNeg (gi T 17 p)) 24 (2 : Int32).toNatClampNeg (lenU T (whN T p) d Q)) 24 (3 : Int32).toNatClampNeg (gi T 12 (whN T p))) 24 (4 : Int32).toNatClampNeg x4) 24 (5 : Int32).toNatClampNeg (nI p) := ⟨_, rfl⟩
          rw [← hS6]
          have e0 : (0 : Int32).toNatClampNeg = 0 := rfl
          have e1 : (1 : Int32).toNatClampNeg = 1 := rfl
          have e2 : (2 : Int32).toNatClampNeg = 2 := rfl
          have e3 : (3 : Int32).toNatClampNeg = 3 := rfl
          have e4 : (4 : Int32).toNatClampNeg = 4 := rfl
          have e5 : (5 : Int32).toNatClampNeg = 5 := rfl
          rw [e0, e1, e2, e3, e4, e5] at hS6
          have g6 : ∀ v i, v ≠ 24 → gi S6 v i = gi S v i := fun v i hv => by rw [hS6]; simp only [gi_si, if_neg hv]
          have t6 : ∀ k, k < 6 → gi S6 24 k = evn T Q p d k := fun k hk => by
            rw [hS6]
            unfold evn
            have : k = 0 ∨ k = 1 ∨ k = 2 ∨ k = 3 ∨ k = 4 ∨ k = 5 := by omega
            rcases this with rfl | rfl | rfl | rfl | rfl | rfl
            · simp only [gi_si, gl_si, gi_sl, gl_sl, row_si, row_sl, Nat.reduceEqDiff, reduceIte]
            · simp only [gi_si, gl_si, gi_sl, gl_sl, row_si, row_sl, Nat.reduceEqDiff, reduceIte]
            · simp only [gi_si, gl_si, gi_sl, gl_sl, row_si, row_sl, Nat.reduceEqDiff, reduceIte]
            · simp only [gi_si, gl_si, gi_sl, gl_sl, row_si, row_sl, Nat.reduceEqDiff, reduceIte]
            · simp only [gi_si, gl_si, gi_sl, gl_sl, row_si, row_sl, Nat.reduceEqDiff, reduceIte]; exact hx4
            · simp only [gi_si, gl_si, gi_sl, gl_sl, row_si, row_sl, Nat.reduceEqDiff, reduceIte]
          obtain ⟨S', v1, v2⟩ := value_lp (N := N) (e := evn T Q p d) c3 (by omega) L cd 0 S6 c1 (fun j hj => by rw [g6 21 _ (by decide), Nat.zero_add, hC.1 21 j rfl]; exact c5 j hj) (by rw [g6 2 6 (by decide), hC.1 2 6 rfl]; exact c4) (by omega) t6 N (by omega)
          have v1' : lp (fun k (x : St × Int32 × Int32) => La_valueFor_b19 N k x.1 x.2.1 x.2.2) N (S6, 0, 0) = some (tvl (evn T Q p d) L, S') := v1
          have gS : ∀ v i, v ≠ 23 → v ≠ 24 → gi S' v i = gi S v i := fun v i a b => (v2.1 v i a).trans (g6 v i b)
          rw [v1', bd2_some, clp_S]
          exact ⟨S', rfl, hC.off2 gS (fun i => by rw [v2.2, hS6]; rfl), gS⟩
        by_cases ht : gi T 19 p = -1
        · rw [if_pos (by rw [decide_eq_true ht]; rfl)]
          exact main 0 (by rw [if_pos ht])
        · rw [if_neg (by rw [decide_eq_false ht]; decide)]
          exact main 1 (by rw [if_neg ht])
    · rw [if_pos (by rw [le_not]; exact hd), bd1_some, if_pos rfl, decide_eq_false hd, if_neg (by decide)]
      exact ⟨S, rfl, hC, fun _ _ _ _ => rfl⟩
  · have ho' : opn T p d = false := by simpa using ho
    rw [if_neg ho, bd1_some, if_pos rfl, ho', Bool.false_and, if_neg (by decide)]
    exact ⟨S, rfl, hC, fun _ _ _ _ => rfl⟩
theorem MP.of {V V' T : St} {P Q : Nat} (h : OfM V V') (hM : MP V T P Q) : MP V' T P Q := ⟨h.rP hM.1, hM.2⟩
theorem over_le {T : St} {P Q p : Nat} (hPr : iPr T P Q) (hp : p < Q) {x : Nat} (hx : x < 100) : (nI x - gi T 16 p ≤ 0) = ¬ (gi T 16 p < nI x) := by
  obtain ⟨-, ⟨h1, h2, h3⟩, -⟩ := hPr p hp
  have e : (nI x - gi T 16 p).toInt = (x : Int) - (gi T 16 p).toInt := by
    rw [Int32.toInt_sub, ti x (by omega), Int.bmod_eq_of_le (by omega) (by omega)]
  rw [Int32.le_iff_toInt_le, Int32.lt_iff_toInt_lt, e, ti0, ti x (by omega)]
  exact propext ⟨fun h => by omega, fun h => by omega⟩
theorem creak_V {V T : St} {P Q N : Nat} {o : Option (List Li)} (hM : MP V T P Q) (hL : LcV V o) {p : Nat} (hp : p < Q) {x : Nat} (hx : x < 100) (hN : 122 < N) : ∃ V', Mo_creakOf N V (nI p) (nI x) = some (ckv o T Q p (nI x), V') ∧ OfM V V' := by
  have hM' := hM
  obtain ⟨hP, hNn, hPe, hPr⟩ := hM'
  have hP6 := hNn.2.1
  have hQ10 := hNn.2.2.2
  obtain ⟨ew, hw⟩ := whN_ok hPr hP6 hp
  obtain ⟨b1, b2, b3, b4, b5, b6⟩ := hP.2.2.2 p (by omega)
  obtain ⟨c1, c2, c3⟩ := hP.2.2.1 (whN T p) (by omega)
  unfold Mo_creakOf ckv
  rw [a18, a28, a48, inb_nI (j := 18 + p) (n := 58) (by omega) (by omega), inb_nI (j := 28 + p) (n := 58) (by omega) (by omega), inb_nI (j := 48 + p) (n := 58) (by omega) (by omega), inb_nI (j := p) (n := 10) (by omega) (by omega)]
  simp only [ck_true, cl (18 + p) (show 18 + p < 5000 by omega), cl (28 + p) (show 28 + p < 5000 by omega), cl (48 + p) (show 48 + p < 5000 by omega), cl p (show p < 5000 by omega), b3, b4, nm_eq, over_le hPr hp hx, Mo_isOpen_eq hM hp, bd1_some, if_bI]
  by_cases hd : gi T 16 p < nI x
  · rw [if_neg (fun k => k hd), decide_eq_true hd, Bool.and_true]
    by_cases ho : opn T p (nI x) = true
    · rw [if_pos ho, if_pos ho]
      cases o with
      | none =>
        have hL : gi V 44 13 = -1 := hL
        rw [hL, if_pos (by decide), clp_V]
        exact ⟨V, rfl, OfM.refl V⟩
      | some L =>
        obtain ⟨n, b, cd, l1, l2, l3, l4⟩ := hL
        rw [l2, if_neg (nb0 n (by omega))]
        have e0 : (0 : Int32).toNatClampNeg = 0 := rfl
        have e1 : (1 : Int32).toNatClampNeg = 1 := rfl
        have e2 : (2 : Int32).toNatClampNeg = 2 := rfl
        have e3 : (3 : Int32).toNatClampNeg = 3 := rfl
        have e4 : (4 : Int32).toNatClampNeg = 4 := rfl
        have e5 : (5 : Int32).toNatClampNeg = 5 := rfl
        simp only [gi_si, gl_si, gi_sl, gl_sl, row_si, row_sl, Nat.reduceEqDiff, reduceIte, b1, ew, a6, inb_nI (j := 6 + whN T p) (n := 58) (by omega) (by omega), ck_true, cl (6 + whN T p) (show 6 + whN T p < 5000 by omega), b4, b6]
        have hM5 : MP (si (si V 53 (0 : Int32).toNatClampNeg (nI x - gi T 16 p)) 53 (1 : Int32).toNatClampNeg (gi T 17 p)) T P Q := hM.of ⟨fun v i hv => by
          have : v ≠ 53 := fun e => by subst e; exact absurd (show (true : Bool) = false from hv) (by decide)
          simp only [gi_si, if_neg this], fun i => rfl⟩
        rw [Mo_chainOf_eq hM5 hw _ (by omega), bd1_some]
        simp only [gi_si, gl_si, gi_sl, gl_sl, row_si, row_sl, Nat.reduceEqDiff, reduceIte, c2]
        have main : ∀ x4 : Int32, x4 = (if gi T 19 p = -1 then 0 else 1) → ∃ V', Mo_creakOf_b128 N (si (si (si (si V 53 (0 : Int32).toNatClampNeg (nI x - gi T 16 p)) 53 (1 : Int32).toNatClampNeg (gi T 17 p)) 53 (2 : Int32).toNatClampNeg (lenU T (whN T p) (nI x) Q)) 53 (3 : Int32).toNatClampNeg (gi T 12 (whN T p))) (nI p) x4 4 = some (clp (tvl (evn T Q p (nI x)) L), V') ∧ OfM V V' := by
          intro x4 hx4
          unfold Mo_creakOf_b128
          simp only [show inb 4 6 = true from by decide, ck_true, nm_eq]
          obtain ⟨V6, hV6⟩ : ∃ V6, V6 = si (si (si (si (si (si V 53 (0 : Int32).toNatClampNeg (nI x - gi T 16 p)) 53 (1 : Int32).toNatClampNeg (gi T 17 p)) 53 (2 : Int32).toNatClampNeg (lenU T (whN T p) (nI x) Q)) 53 (3 : Int32).toNatClampNeg (gi T 12 (whN T p))) 53 (4 : Int32).toNatClampNeg x4) 53 (5 : Int32).toNatClampNeg (nI p) := ⟨_, rfl⟩
          rw [← hV6]
          rw [e0, e1, e2, e3, e4, e5] at hV6
          have g6 : ∀ v i, v ≠ 53 → gi V6 v i = gi V v i := fun v i hv => by rw [hV6]; simp only [gi_si, if_neg hv]
          have t6 : ∀ k, k < 6 → gi V6 53 k = evn T Q p (nI x) k := fun k hk => by
            rw [hV6]
            unfold evn
            have : k = 0 ∨ k = 1 ∨ k = 2 ∨ k = 3 ∨ k = 4 ∨ k = 5 := by omega
            rcases this with rfl | rfl | rfl | rfl | rfl | rfl
            · simp only [gi_si, gl_si, gi_sl, gl_sl, row_si, row_sl, Nat.reduceEqDiff, reduceIte]
            · simp only [gi_si, gl_si, gi_sl, gl_sl, row_si, row_sl, Nat.reduceEqDiff, reduceIte]
            · simp only [gi_si, gl_si, gi_sl, gl_sl, row_si, row_sl, Nat.reduceEqDiff, reduceIte]
            · simp only [gi_si, gl_si, gi_sl, gl_sl, row_si, row_sl, Nat.reduceEqDiff, reduceIte]
            · simp only [gi_si, gl_si, gi_sl, gl_sl, row_si, row_sl, Nat.reduceEqDiff, reduceIte]; exact hx4
            · simp only [gi_si, gl_si, gi_sl, gl_sl, row_si, row_sl, Nat.reduceEqDiff, reduceIte]
          obtain ⟨v, V', w1, w2, w3, w4⟩ := workOut_ok (b := b) (n := n) (N := N) (e := evn T Q p (nI x)) (V := V6) hN (.inr ⟨rfl, rfl⟩) l1 (fun j hj => by rw [g6 52 j (by decide)]; exact l4 j hj) t6
          rw [l3] at w4
          dsimp only at w4
          rw [g6 44 13 (by decide), l2, w1, bd2_some, clp_V, w4.2]
          refine ⟨V', rfl, fun v i hv => ?_, fun i => by rw [w3, hV6]; rfl⟩
          have n53 : v ≠ 53 := fun e => by subst e; exact absurd (show (true : Bool) = false from hv) (by decide)
          rw [w2 v i (fun e => by
            subst e
            unfold scm at hv
            simp at hv
            omega), g6 v i n53]
        have tn := tied_neg hPr hP6 hp
        by_cases ht : gi T 19 p = -1
        · rw [if_neg (by rw [ht]; decide)]
          exact main 0 (by rw [if_pos ht])
        · rw [if_pos (by rw [le_not, tn]; exact ht)]
          exact main 1 (by rw [if_neg ht])
    · rw [if_neg ho, if_neg ho]
      exact ⟨V, rfl, OfM.refl V⟩
  · rw [if_pos hd, decide_eq_false hd, Bool.and_false, if_neg (by decide)]
    exact ⟨V, rfl, OfM.refl V⟩
theorem RR_creak : LS_creak RR := by
  rintro S V p1 p2 hRR
  have hRR' := hRR
  obtain ⟨T, P, Q, F, c, a, B, hC, hR⟩ := hRR
  have hR' := hR
  obtain ⟨hN, hPe, hPr, hP, hTa, hLw, -⟩ := hR'
  obtain ⟨o, o1, o2⟩ := hLw.split
  unfold Ch_creak Mo_creak
  simp only [Sm_isPromise_eq hC hN, Mo_isPromise_eq hP hN, Ch_isDay_eq, Mo_isDay_eq, bd1_some, if_bI, Int32.toInt_toInt64]
  by_cases h1 : wi p1.toInt 0 ((Q : Int) - 1) = true
  · rw [if_pos h1, if_pos h1]
    obtain ⟨p, hp, rfl⟩ := wi_nI h1
    by_cases h2 : wi p2.toInt 0 99 = true
    · rw [if_pos h2, if_pos h2]
      obtain ⟨x, hx, rfl⟩ := wi_nI99 h2
      obtain ⟨S', s1, s2, -⟩ := creak_S (N := fuel) ⟨hC, hN, hPe, hPr⟩ o1 hp (nI x) (by decide)
      obtain ⟨V', v1, v2⟩ := creak_V (N := fuel) ⟨hP, hN, hPe, hPr⟩ o2 hp hx (by decide)
      rw [s1, v1, bd2_some, bd2_some]
      exact ⟨_, _, _, rfl, rfl, T, P, Q, F, c, a, B, s2, v2.RLk hR⟩
    · rw [if_neg h2, if_neg h2]; exact ⟨_, _, _, rfl, rfl, hRR'⟩
  · rw [if_neg h1, if_neg h1]; exact ⟨_, _, _, rfl, rfl, hRR'⟩
