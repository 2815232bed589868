/-- where a reading ends, and how many signs it gives -/
def Gd (n : Nat) (o : Nat → Re) : Prop := ∀ i, i ≤ n → match o i with
  | .inl f => i ≤ f ∧ f ≤ n
  | .inr x => i < x.1 ∧ x.1 ≤ n ∧ i + x.2.1.length ≤ x.1 ∧ 1 ≤ x.2.1.length
theorem nx_lt {b : Nat → Int32} {n i : Nat} (h : nx b n i ≠ -1) : i < n := by
  unfold nx at h
  by_cases hi : i < n
  · exact hi
  · rw [if_neg hi] at h; exact absurd rfl h
theorem dgt_lt {b : Nat → Int32} {n i : Nat} (h : dgt (nx b n i) = true) : i < n := nx_lt (fun e => by rw [e] at h; revert h; decide)
theorem nmI_lt {b : Nat → Int32} {n i : Nat} (h : nmI (nx b n i) < 6) : i < n := nx_lt (fun e => by rw [e] at h; revert h; decide)
theorem lvl_lt {b : Nat → Int32} {n i l : Nat} (h : lv (nx b n i) = l) (hl : l < 5) : i < n := nx_lt (fun e => by rw [e, show lv (-1) = 9 from by decide] at h; omega)
theorem sNum_ge (b : Nat → Int32) (n : Nat) : ∀ k i v, i ≤ n → i ≤ (sNum b n k i v).1 ∧ (sNum b n k i v).1 ≤ n
  | 0, i, v, h => ⟨Nat.le_refl _, h⟩
  | k + 1, i, v, h => by
    unfold sNum
    by_cases hd : dgt (nx b n i) = true
    · rw [if_pos hd]
      have := dgt_lt hd
      have := sNum_ge b n k (i + 1) (v * 10 + nx b n i - 48) (by omega)
      omega
    · rw [if_neg hd]; exact ⟨Nat.le_refl _, h⟩
theorem sAtom_gd (b : Nat → Int32) (n : Nat) : Gd n (sAtom b n) := by
  intro i hi
  unfold sAtom
  by_cases hd : dgt (nx b n i) = true
  · rw [if_pos hd]
    dsimp only
    have h1 := dgt_lt hd
    have e : sNum b n 4 i 0 = sNum b n 3 (i + 1) (0 * 10 + nx b n i - 48) := by
      show (if dgt (nx b n i) = true then _ else _) = _
      rw [if_pos hd]
    have := sNum_ge b n 3 (i + 1) (0 * 10 + nx b n i - 48) (by omega)
    rw [e]
    refine ⟨by omega, by omega, ?_, ?_⟩
    · simp only [List.length_cons, List.length_nil]; omega
    · simp only [List.length_cons, List.length_nil]; omega
  · rw [if_neg hd]
    by_cases hn : nmI (nx b n i) < 6
    · rw [if_pos hn]
      dsimp only
      have := nmI_lt hn
      simp only [List.length_cons, List.length_nil]
      omega
    · rw [if_neg hn]; exact ⟨Nat.le_refl _, hi⟩
theorem sLoop_gd {b : Nat → Int32} {n : Nat} {sub : Nat → Re} (hs : Gd n sub) {l : Nat} (hl : l < 5) {i : Nat} : ∀ k (x : Nat × List Int32 × Va), i < x.1 → x.1 ≤ n → i + x.2.1.length ≤ x.1 → 1 ≤ x.2.1.length → match sLoop b n sub l k x with
    | .inl f => i ≤ f ∧ f ≤ n
    | .inr x => i < x.1 ∧ x.1 ≤ n ∧ i + x.2.1.length ≤ x.1 ∧ 1 ≤ x.2.1.length
  | 0, x, h1, h2, h3, h4 => ⟨h1, h2, h3, h4⟩
  | k + 1, x, h1, h2, h3, h4 => by
    unfold sLoop
    by_cases he : lv (nx b n x.1) = l
    · rw [if_pos he]
      have hx := lvl_lt he hl
      have hg := hs (x.1 + 1) (by omega)
      cases hy : sub (x.1 + 1) with
      | inl f => rw [hy] at hg; dsimp only at hg ⊢; omega
      | inr y =>
        rw [hy] at hg
        dsimp only at hg ⊢
        refine sLoop_gd hs hl k _ ?_ ?_ ?_ ?_
        · dsimp only; omega
        · dsimp only; omega
        · simp only [List.length_append, List.length_cons, List.length_nil]; omega
        · simp only [List.length_append, List.length_cons, List.length_nil]; omega
    · rw [if_neg he]; exact ⟨h1, h2, h3, h4⟩
theorem sLv_gd {b : Nat → Int32} {n : Nat} {sub : Nat → Re} (hs : Gd n sub) {l : Nat} (hl : l < 5) (k : Nat) : Gd n (sLv b n sub l k) := by
  intro i hi
  have hg := hs i hi
  unfold sLv
  cases hy : sub i with
  | inl f => rw [hy] at hg; exact hg
  | inr x =>
    rw [hy] at hg
    dsimp only at hg ⊢
    exact sLoop_gd hs hl k x hg.1 hg.2.1 hg.2.2.1 hg.2.2.2
theorem sL_gd {b : Nat → Int32} {n : Nat} {o : Nat → Re} (ho : Gd n o) : ∀ m, Gd n (sL b n o m)
  | 0 => ho
  | m + 1 => sLv_gd (sL_gd ho m) (by omega) _
theorem sOp_gd (b : Nat → Int32) (n : Nat) : ∀ r, Gd n (sOp b n r)
  | 0 => sAtom_gd b n
  | r + 1 => by
    intro i hi
    unfold sOp
    have ih := sOp_gd b n r
    by_cases h1 : nx b n i = 40
    · rw [if_pos h1]
      have hx : i < n := nx_lt (by rw [h1]; decide)
      have hg := sL_gd (b := b) ih 5 (i + 1) (by omega)
      cases hy : sL b n (sOp b n r) 5 (i + 1) with
      | inl f => rw [hy] at hg; dsimp only at hg ⊢; omega
      | inr y =>
        rw [hy] at hg
        dsimp only at hg ⊢
        by_cases h2 : nx b n y.1 = 41
        · rw [if_pos h2]
          have hx2 : y.1 < n := nx_lt (by rw [h2]; decide)
          dsimp only; omega
        · rw [if_neg h2]; dsimp only; omega
    · rw [if_neg h1]
      by_cases h2 : nx b n i = 33 ∨ nx b n i = 45
      · rw [if_pos h2]
        have hx : i < n := nx_lt (by rcases h2 with h2 | h2 <;> (rw [h2]; decide))
        have hg := ih (i + 1) (by omega)
        cases hy : sOp b n r (i + 1) with
        | inl f => rw [hy] at hg; dsimp only at hg ⊢; omega
        | inr y =>
          rw [hy] at hg
          dsimp only at hg ⊢
          simp only [List.length_append, List.length_cons, List.length_nil]
          omega
      · rw [if_neg h2]; exact sAtom_gd b n i hi
/-- a sign's operands, its value -/
def osg (c : Int32) : Nat := if c = 33 ∨ c = 126 then 1 else if lv c < 5 then 2 else 0
def rsg (c : Int32) (e : Nat → Int32) (x y : Int32) : Int32 := if 256 ≤ c then c - 256 else if 0 ≤ c ∧ c < 6 then e c.toNatClampNeg else if c = 33 then (if x = 0 then 1 else 0) else if c = 126 then - x else if lv c < 5 then op2 c x y else 0
def stc (e : Nat → Int32) (c : Int32) (x : (Nat → Int32) × Nat) : (Nat → Int32) × Nat := (upd x.1 (x.2 - osg c) (rsg c e (x.1 (x.2 - osg c)) (x.1 (x.2 - osg c + 1))), x.2 - osg c + 1)
def rnc (e : Nat → Int32) : List Int32 → (Nat → Int32) × Nat → (Nat → Int32) × Nat
  | [], x => x
  | c :: r, x => rnc e r (stc e c x)
theorem rnc_app (e : Nat → Int32) : ∀ c d x, rnc e (c ++ d) x = rnc e d (rnc e c x)
  | [], d, x => rfl
  | c :: r, d, x => rnc_app e r d (stc e c x)
/-- signs that leave one value more; none ends a line -/
def Rn (c : List Int32) (v : Va) : Prop := (∀ s ∈ c, s ≠ 59 ∧ s ≠ 63) ∧ ∀ e st top, ∃ st', rnc e c (st, top) = (st', top + 1) ∧ st' top = v e ∧ ∀ j, j < top → st' j = st j
def Gv (R : Re) : Prop := match R with
  | .inl _ => True
  | .inr x => Rn x.2.1 x.2.2
theorem upd_at (f : Nat → Int32) (i : Nat) (x : Int32) (j : Nat) : upd f i x j = if j = i then x else f j := rfl
theorem Rn_lit {c : Int32} {v : Va} (h0 : osg c = 0) (hne : c ≠ 59 ∧ c ≠ 63) (hv : ∀ e x y, rsg c e x y = v e) : Rn [c] v := by
  refine ⟨fun s hs => by rw [List.mem_singleton] at hs; rw [hs]; exact hne, fun e st top => ⟨upd st top (v e), ?_, ?_, ?_⟩⟩
  · show stc e c (st, top) = _
    unfold stc
    dsimp only
    rw [h0, Nat.sub_zero, hv]
  · rw [upd_at, if_pos rfl]
  · intro j hj; rw [upd_at, if_neg (by omega)]
theorem Rn_bin {c1 c2 : List Int32} {v1 v2 : Va} {s : Int32} (h1 : Rn c1 v1) (h2 : Rn c2 v2) (hs : lv s < 5) (ho : osg s = 2) (hr : ∀ e x y, rsg s e x y = op2 s x y) (hne : s ≠ 59 ∧ s ≠ 63) : Rn (c1 ++ c2 ++ [s]) (fun e => op2 s (v1 e) (v2 e)) := by
  refine ⟨fun x hx => ?_, fun e st top => ?_⟩
  · simp only [List.mem_append, List.mem_singleton] at hx
    rcases hx with (hx | hx) | hx
    · exact h1.1 x hx
    · exact h2.1 x hx
    · rw [hx]; exact hne
  · obtain ⟨s1, a1, a2, a3⟩ := h1.2 e st top
    obtain ⟨s2, b1, b2, b3⟩ := h2.2 e s1 (top + 1)
    refine ⟨upd s2 top (op2 s (v1 e) (v2 e)), ?_, ?_, fun j hj => ?_⟩
    · rw [rnc_app, rnc_app, a1, b1]
      show stc e s (s2, top + 1 + 1) = _
      unfold stc
      dsimp only
      rw [ho, show top + 1 + 1 - 2 = top from by omega, hr, b2, b3 top (by omega), a2]
    · rw [upd_at, if_pos rfl]
    · rw [upd_at, if_neg (by omega), b3 j (by omega), a3 j hj]
theorem Rn_un {c1 : List Int32} {v1 : Va} {s : Int32} {f : Int32 → Int32} (h1 : Rn c1 v1) (ho : osg s = 1) (hr : ∀ e x y, rsg s e x y = f x) (hne : s ≠ 59 ∧ s ≠ 63) : Rn (c1 ++ [s]) (fun e => f (v1 e)) := by
  refine ⟨fun x hx => ?_, fun e st top => ?_⟩
  · simp only [List.mem_append, List.mem_singleton] at hx
    rcases hx with hx | hx
    · exact h1.1 x hx
    · rw [hx]; exact hne
  · obtain ⟨s1, a1, a2, a3⟩ := h1.2 e st top
    refine ⟨upd s1 top (f (v1 e)), ?_, ?_, fun j hj => ?_⟩
    · rw [rnc_app, a1]
      show stc e s (s1, top + 1) = _
      unfold stc
      dsimp only
      rw [ho, Nat.add_sub_cancel, hr, a2]
    · rw [upd_at, if_pos rfl]
    · rw [upd_at, if_neg (by omega), a3 j hj]
theorem dgt_rng {c : Int32} (h : dgt c = true) : 48 ≤ c.toInt ∧ c.toInt ≤ 57 := by
  unfold dgt at h
  rw [Bool.and_eq_true, decide_eq_true_eq, decide_eq_true_eq, Int32.le_iff_toInt_le, Int32.le_iff_toInt_le] at h
  exact h
theorem num_step {v c : Int32} (m : Int) (hm : m ≤ 1000) (hv : 0 ≤ v.toInt ∧ v.toInt < m) (hc : 48 ≤ c.toInt ∧ c.toInt ≤ 57) : (v * 10 + c - 48).toInt = v.toInt * 10 + c.toInt - 48 := by
  rw [Int32.toInt_sub, Int32.toInt_add, Int32.toInt_mul, show (10 : Int32).toInt = 10 from rfl, show (48 : Int32).toInt = 48 from rfl]
  rw [Int.bmod_eq_of_le (n := v.toInt * 10) (by omega) (by omega), Int.bmod_eq_of_le (n := v.toInt * 10 + c.toInt) (by omega) (by omega), Int.bmod_eq_of_le (by omega) (by omega)]
def pwt : Nat → Nat
  | 0 => 1
  | k + 1 => 10 * pwt k
theorem pwt_pos : ∀ k, 1 ≤ pwt k
  | 0 => Nat.le_refl _
  | k + 1 => by have := pwt_pos k; unfold pwt; omega
theorem sNum_rng (b : Nat → Int32) (n i : Nat) : 0 ≤ (sNum b n 4 i 0).2.toInt ∧ (sNum b n 4 i 0).2.toInt ≤ 9999 := by
  have key : ∀ (k m i : Nat) (v : Int32), 0 ≤ v.toInt → v.toInt < m → m * pwt k ≤ 10000 → 0 ≤ (sNum b n k i v).2.toInt ∧ (sNum b n k i v).2.toInt < ((m * pwt k : Nat) : Int) := by
    intro k
    induction k with
    | zero => intro m i v h1 h2 h3; rw [show m * pwt 0 = m from Nat.mul_one m]; exact ⟨h1, h2⟩
    | succ k ih =>
      intro m i v h1 h2 h3
      have e : m * pwt (k + 1) = (m * 10) * pwt k := (Nat.mul_assoc m 10 (pwt k)).symm
      rw [e] at h3 ⊢
      have hm : m * 10 * 1 ≤ m * 10 * pwt k := Nat.mul_le_mul (Nat.le_refl _) (pwt_pos k)
      unfold sNum
      by_cases hd : dgt (nx b n i) = true
      · rw [if_pos hd]
        have hc := dgt_rng hd
        have hst := num_step (v := v) (c := nx b n i) m (by omega) ⟨h1, h2⟩ hc
        exact ih (m * 10) (i + 1) (v * 10 + nx b n i - 48) (by omega) (by omega) h3
      · rw [if_neg hd]
        dsimp only
        refine ⟨h1, ?_⟩
        omega
  have := key 4 1 i 0 (by decide) (by decide) (by decide)
  have e : 1 * pwt 4 = 10000 := by decide
  rw [e] at this
  omega
theorem add256 {v : Int32} (h : 0 ≤ v.toInt ∧ v.toInt ≤ 9999) : (256 + v).toInt = 256 + v.toInt := by
  rw [Int32.toInt_add, show (256 : Int32).toInt = 256 from rfl, Int.bmod_eq_of_le (by omega) (by omega)]
theorem lit_num {v : Int32} (h : 0 ≤ v.toInt ∧ v.toInt ≤ 9999) : Rn [256 + v] (fun _ => v) := by
  have e := add256 h
  have ne : ∀ k : Int32, k.toInt < 256 → 256 + v ≠ k := fun k hk heq => by
    have := congrArg Int32.toInt heq; omega
  have hge : (256 : Int32) ≤ 256 + v := by rw [Int32.le_iff_toInt_le, e, show (256 : Int32).toInt = 256 from rfl]; omega
  refine Rn_lit ?_ ⟨ne 59 (by decide), ne 63 (by decide)⟩ (fun e x y => ?_)
  · unfold osg lv
    simp only [ne 33 (by decide), ne 126 (by decide), ne 124 (by decide), ne 38 (by decide), ne 60 (by decide), ne 61 (by decide), ne 62 (by decide), ne 43 (by decide), ne 45 (by decide), ne 42 (by decide), ne 47 (by decide), ne 37 (by decide), or_self, if_false]
    decide
  · unfold rsg
    rw [if_pos hge, Int32.add_comm, Int32.add_sub_cancel]
theorem lit_name : ∀ k, k < 6 → osg (nI k) = 0 ∧ nI k ≠ 59 ∧ nI k ≠ 63 ∧ ¬ (256 : Int32) ≤ nI k ∧ (0 : Int32) ≤ nI k ∧ nI k < 6 ∧ (nI k).toNatClampNeg = k := by decide +kernel
theorem op_sign {s : Int32} {l : Nat} (h : lv s = l) (hl : l < 5) : osg s = 2 ∧ (∀ e x y, rsg s e x y = op2 s x y) ∧ s ≠ 59 ∧ s ≠ 63 := by
  have hs : s = 124 ∨ s = 38 ∨ s = 60 ∨ s = 61 ∨ s = 62 ∨ s = 43 ∨ s = 45 ∨ s = 42 ∨ s = 47 ∨ s = 37 := by
    unfold lv at h
    by_cases a1 : s = 124
    · simp [a1]
    by_cases a2 : s = 38
    · simp [a2]
    by_cases a3 : s = 60 ∨ s = 61 ∨ s = 62
    · rcases a3 with a | a | a <;> simp [a]
    by_cases a4 : s = 43 ∨ s = 45
    · rcases a4 with a | a <;> simp [a]
    by_cases a5 : s = 42 ∨ s = 47 ∨ s = 37
    · rcases a5 with a | a | a <;> simp [a]
    · rw [if_neg a1, if_neg a2, if_neg a3, if_neg a4, if_neg a5] at h; omega
  rcases hs with rfl | rfl | rfl | rfl | rfl | rfl | rfl | rfl | rfl | rfl <;> exact ⟨by decide, fun _ _ _ => rfl, by decide, by decide⟩
theorem sAtom_gv (b : Nat → Int32) (n i : Nat) : Gv (sAtom b n i) := by
  unfold sAtom
  by_cases hd : dgt (nx b n i) = true
  · rw [if_pos hd]; exact lit_num (sNum_rng b n i)
  · rw [if_neg hd]
    by_cases hn : nmI (nx b n i) < 6
    · rw [if_pos hn]
      obtain ⟨a1, a2, a3, a4, a5, a6, a7⟩ := lit_name _ hn
      refine Rn_lit a1 ⟨a2, a3⟩ (fun e x y => ?_)
      unfold rsg
      rw [if_neg a4, if_pos ⟨a5, a6⟩, a7]
    · rw [if_neg hn]; trivial
theorem sLoop_gv {b : Nat → Int32} {n : Nat} {sub : Nat → Re} (hs : ∀ i, Gv (sub i)) {l : Nat} (hl : l < 5) : ∀ k (x : Nat × List Int32 × Va), Rn x.2.1 x.2.2 → Gv (sLoop b n sub l k x)
  | 0, x, h => h
  | k + 1, x, h => by
    unfold sLoop
    by_cases he : lv (nx b n x.1) = l
    · rw [if_pos he]
      have hg := hs (x.1 + 1)
      cases hy : sub (x.1 + 1) with
      | inl f => trivial
      | inr y =>
        rw [hy] at hg
        obtain ⟨o1, o2, o3⟩ := op_sign he hl
        exact sLoop_gv hs hl k _ (Rn_bin h hg (by omega) o1 o2 o3)
    · rw [if_neg he]; exact h
theorem sL_gv {b : Nat → Int32} {n : Nat} {o : Nat → Re} (ho : ∀ i, Gv (o i)) : ∀ m i, Gv (sL b n o m i)
  | 0, i => ho i
  | m + 1, i => by
    show Gv (sLv b n (sL b n o m) (4 - m) _ i)
    unfold sLv
    have hg := sL_gv (b := b) (n := n) ho m i
    cases hy : sL b n o m i with
    | inl f => trivial
    | inr x => rw [hy] at hg; exact sLoop_gv (sL_gv ho m) (by omega) _ x hg
theorem sOp_gv (b : Nat → Int32) (n : Nat) : ∀ r i, Gv (sOp b n r i)
  | 0, i => sAtom_gv b n i
  | r + 1, i => by
    unfold sOp
    have ih := sOp_gv b n r
    by_cases h1 : nx b n i = 40
    · rw [if_pos h1]
      have hg := sL_gv (b := b) (n := n) ih 5 (i + 1)
      cases hy : sL b n (sOp b n r) 5 (i + 1) with
      | inl f => trivial
      | inr y =>
        rw [hy] at hg
        dsimp only
        by_cases h2 : nx b n y.1 = 41
        · rw [if_pos h2]; exact hg
        · rw [if_neg h2]; trivial
    · rw [if_neg h1]
      by_cases h2 : nx b n i = 33 ∨ nx b n i = 45
      · rw [if_pos h2]
        have hg := ih (i + 1)
        cases hy : sOp b n r (i + 1) with
        | inl f => trivial
        | inr y =>
          rw [hy] at hg
          rcases h2 with h2 | h2
          · rw [h2]
            exact Rn_un (f := fun x => if x = 0 then 1 else 0) hg (by decide) (fun _ _ _ => rfl) (by decide)
          · rw [h2]
            exact Rn_un (f := fun x => - x) hg (by decide) (fun _ _ _ => rfl) (by decide)
      · rw [if_neg h2]; exact sAtom_gv b n i
theorem sE_gd (b : Nat → Int32) (n : Nat) : Gd n (sE b n) := sL_gd (sOp_gd b n 6) 5
theorem sE_gv (b : Nat → Int32) (n i : Nat) : Gv (sE b n i) := sL_gv (sOp_gv b n 6) 5 i
