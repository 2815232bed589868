theorem nz_ck {w : Int32} (h : ¬ w = 0) {α : Type} (y : Option α) : ck (nz w) y = y := by
  unfold nz; rw [decide_eq_true h]; rfl
theorem le_not (x y : Int32) : (y ≤ x) = ¬ (x < y) := by
  rw [Int32.le_iff_toInt_le, Int32.lt_iff_toInt_lt]
  exact propext ⟨fun h => by omega, fun h => by omega⟩
theorem b33_eq (S : St) (c x y : Int32) : La_result_b33 S c x y = some (if c = 33 then (if x = 0 then 1 else 0) else if c = 126 then - x else if lv c < 5 then op2 c x y else 0) := by
  unfold La_result_b33
  by_cases a1 : c = 33
  · subst a1; rw [if_pos rfl, if_pos rfl]; split <;> rfl
  rw [if_neg a1, if_neg a1]
  by_cases a2 : c = 37
  · subst a2
    rw [if_pos rfl, if_neg (by decide : ¬ (37 : Int32) = 126), if_pos (by decide : lv 37 < 5)]
    show _ = some (if y = 0 then 0 else x - x / y * y)
    by_cases h : y = 0
    · rw [if_pos h, if_pos h]
    · rw [if_neg h, if_neg h, nz_ck h]
  rw [if_neg a2]
  by_cases a3 : c = 38
  · subst a3
    rw [if_pos rfl, if_neg (by decide : ¬ (38 : Int32) = 126), if_pos (by decide : lv 38 < 5)]
    show _ = some (if x = 0 ∨ y = 0 then 0 else 1)
    by_cases h : x = 0 <;> by_cases h2 : y = 0 <;> simp [h, h2]
  rw [if_neg a3]
  by_cases a4 : c = 42
  · subst a4; rw [if_pos rfl]; rfl
  rw [if_neg a4]
  by_cases a5 : c = 43
  · subst a5; rw [if_pos rfl]; rfl
  rw [if_neg a5]
  by_cases a6 : c = 45
  · subst a6; rw [if_pos rfl]; rfl
  rw [if_neg a6]
  by_cases a7 : c = 47
  · subst a7
    rw [if_pos rfl, if_neg (by decide : ¬ (47 : Int32) = 126), if_pos (by decide : lv 47 < 5)]
    show _ = some (if y = 0 then 0 else x / y)
    by_cases h : y = 0
    · rw [if_pos h, if_pos h]
    · rw [if_neg h, if_neg h, nz_ck h]
  rw [if_neg a7]
  by_cases a8 : c = 60
  · subst a8
    rw [if_pos rfl, if_neg (by decide : ¬ (60 : Int32) = 126), if_pos (by decide : lv 60 < 5)]
    show _ = some (if x < y then 1 else 0)
    by_cases h : x < y
    · rw [if_pos h, if_neg (by rw [le_not]; exact fun k => k h)]
    · rw [if_neg h, if_pos (by rw [le_not]; exact h)]
  rw [if_neg a8]
  by_cases a9 : c = 61
  · subst a9
    rw [if_pos rfl, if_neg (by decide : ¬ (61 : Int32) = 126), if_pos (by decide : lv 61 < 5)]
    show _ = some (if x = y then 1 else 0)
    split <;> rfl
  rw [if_neg a9]
  by_cases b1 : c = 62
  · subst b1
    rw [if_pos rfl, if_neg (by decide : ¬ (62 : Int32) = 126), if_pos (by decide : lv 62 < 5)]
    show _ = some (if y < x then 1 else 0)
    by_cases h : y < x
    · rw [if_pos h, if_neg (by rw [le_not]; exact fun k => k h)]
    · rw [if_neg h, if_pos (by rw [le_not]; exact h)]
  rw [if_neg b1]
  by_cases b2 : c = 124
  · subst b2
    rw [if_pos rfl, if_neg (by decide : ¬ (124 : Int32) = 126), if_pos (by decide : lv 124 < 5)]
    show _ = some (if x = 0 ∧ y = 0 then 0 else 1)
    by_cases h : x = 0 <;> by_cases h2 : y = 0 <;> simp [h, h2]
  rw [if_neg b2]
  by_cases b3 : c = 126
  · rw [if_pos b3, if_pos b3]
  rw [if_neg b3, if_neg b3]
  have : lv c = 9 := by
    unfold lv
    rw [if_neg b2, if_neg a3, if_neg (by rintro (h | h | h) <;> contradiction), if_neg (by rintro (h | h) <;> contradiction), if_neg (by rintro (h | h | h) <;> contradiction)]
  rw [this]; rfl
theorem result_eq {S : St} {e : Nat → Int32} (he : ∀ k, k < 6 → gi S 24 k = e k) (c x y : Int32) : La_result S c x y = some (rsg c e x y) := by
  unfold La_result rsg
  by_cases h1 : c < 256
  · have n1 : ¬ (256 : Int32) ≤ c := by rw [le_not]; exact fun k => k h1
    rw [if_pos h1, if_neg n1, b33_eq]
    by_cases h2 : c < 0
    · have n2 : ¬ (0 ≤ c ∧ c < 6) := fun k => by have := k.1; rw [le_not] at this; exact this h2
      rw [if_pos h2, if_neg n2]
    · rw [if_neg h2]
      by_cases h3 : (6 : Int32) ≤ c
      · have n3 : ¬ (0 ≤ c ∧ c < 6) := fun k => by rw [le_not] at h3; exact h3 k.2
        rw [if_pos h3, if_neg n3]
      · have h3' : c < 6 := by rw [le_not] at h3; exact Decidable.not_not.mp h3
        have h0 : (0 : Int32) ≤ c := by rw [le_not]; exact h2
        rw [if_neg h3, if_pos ⟨h0, h3'⟩]
        obtain ⟨k, hk, rfl⟩ := nI_of h2
        have k6 : k < 6 := by
          rw [Int32.lt_iff_toInt_lt, nI_toInt hk] at h3'
          have : (6 : Int32).toInt = 6 := rfl
          omega
        rw [inb_nI (j := k) (n := 6) k6 (by omega), ck_true, cl k (by omega), he k k6]
  · have n1 : (256 : Int32) ≤ c := by rw [le_not]; exact h1
    rw [if_neg h1, if_pos n1]
theorem operands_eq (S : St) (c : Int32) : La_operandsOf S c = some (nI (osg c)) := by
  unfold La_operandsOf osg
  by_cases a1 : c = 33
  · rw [if_pos a1, if_pos (.inl a1)]; rfl
  rw [if_neg a1]
  by_cases a2 : c = 126
  · rw [if_pos a2, if_pos (.inr a2)]; rfl
  rw [if_neg a2, if_neg (by rintro (h | h) <;> contradiction), levelOf_eq, bd1_some]
  by_cases h : lv c < 5
  · rw [if_pos h, if_pos h, if_neg (nb0 _ (by omega))]; rfl
  · rw [if_neg h, if_neg h, if_pos (by decide)]; rfl
theorem osg_le (c : Int32) : osg c ≤ 2 := by
  unfold osg
  split
  · decide
  · split <;> decide
theorem max_sub (S : St) {a o : Nat} (ha : a < 1000) (ho : o ≤ 2) : Ma_max S 0 (nI a - nI o) = some (nI (a - o)) := by
  unfold Ma_max
  have e : (nI a - nI o).toInt = (a : Int) - o := pk_sub_toInt (by omega) (by omega)
  by_cases h : (0 : Int) < (a : Int) - o
  · rw [if_pos (by rw [Int32.lt_iff_toInt_lt, e, ti0]; exact h), pk_sub (by omega)]
  · rw [if_neg (by rw [Int32.lt_iff_toInt_lt, e, ti0]; exact h), show a - o = 0 from by omega]; rfl
/-- signs run on the class's stack -/
theorem run_blk {N Lt : Nat} {e : Nat → Int32} (hL : Lt ≤ 121) : ∀ (c : List Int32) (at_ top : Nat) (S : St), (∀ s ∈ c, s ≠ 59 ∧ s ≠ 63) → (∀ j, j < c.length → gi S 21 (at_ + j) = c.getD j 0) → gi S 2 6 = nI Lt → at_ + c.length ≤ Lt → (∀ k, k < 6 → gi S 24 k = e k) → top + c.length ≤ 120 → ∃ S', (∀ n1, lp (fun k (x : St × Int32 × Int32) => La_valueFor_b19 N k x.1 x.2.1 x.2.2) (n1 + c.length) (S, nI top, nI at_) = lp (fun k (x : St × Int32 × Int32) => La_valueFor_b19 N k x.1 x.2.1 x.2.2) n1 (S', nI (rnc e c (S.1 23, top)).2, nI (at_ + c.length))) ∧ Off 23 S S' ∧ S'.1 23 = (rnc e c (S.1 23, top)).1
  | [], at_, top, S, _, _, _, _, _, _ => ⟨S, fun n1 => rfl, Off.refl _ _, rfl⟩
  | s :: c, at_, top, S, h1, h2, h3, h4, h5, h6 => by
    have hlen : (s :: c).length = c.length + 1 := rfl
    rw [hlen] at h4 h6
    have hs := h1 s List.mem_cons_self
    have es : gi S 21 at_ = s := by have := h2 0 (by rw [hlen]; omega); rw [Nat.add_zero] at this; exact this
    have ho := osg_le s
    obtain ⟨S1, hS1⟩ : ∃ S1, S1 = si S 23 (top - osg s) (rsg s e (gi S 23 (top - osg s)) (gi S 23 (top - osg s + 1))) := ⟨_, rfl⟩
    have hrow : S1.1 23 = (stc e s (S.1 23, top)).1 := by rw [hS1]; rfl
    have htop : (stc e s (S.1 23, top)).2 = top - osg s + 1 := rfl
    have o1 : Off 23 S S1 := by rw [hS1]; exact Off.si _ _ _ _
    have step : ∀ k, La_valueFor_b19 N k S (nI top) (nI at_) = k (S1, nI (top - osg s + 1), nI (at_ + 1)) := fun k => by
      unfold La_valueFor_b19
      rw [h3, if_neg (by rw [le_nI _ _ (by omega) (by omega)]; omega), inb_nI (j := at_) (n := 121) (by omega) (by omega), ck_true, cl at_ (by omega), es, nm_eq, if_neg hs.1, if_neg hs.2, operands_eq, bd1_some, max_sub S (by omega) ho, bd1_some, nI_1, inb_nI (j := top - osg s) (n := 122) (by omega) (by omega), inb_nI (j := top - osg s + 1) (n := 122) (by omega) (by omega), ck_true, ck_true, cl (top - osg s) (by omega), cl (top - osg s + 1) (by omega), result_eq h5, bd1_some, ck_true, nm_eq, ← hS1]
      unfold Ma_min
      rw [if_neg (by show ¬ nI 120 < nI (top - osg s + 1); rw [lt_nI _ _ (by omega) (by omega)]; omega), bd1_some, nI_1, nm_eq]
    obtain ⟨S', a1, a2, a3⟩ := run_blk (N := N) (e := e) hL c (at_ + 1) (top - osg s + 1) S1 (fun x hx => h1 x (List.mem_cons_of_mem _ hx)) (fun j hj => by
      rw [o1.1 21 _ (by decide), show at_ + 1 + j = at_ + (j + 1) from by omega, h2 (j + 1) (by rw [hlen]; omega)]; rfl) ((o1.1 2 6 (by decide)).trans h3) (by omega) (fun k hk => (o1.1 24 k (by decide)).trans (h5 k hk)) (by omega)
    have hx : (S1.1 23, top - osg s + 1) = stc e s (S.1 23, top) := Prod.ext hrow rfl
    rw [hx] at a1 a3
    refine ⟨S', fun n1 => ?_, o1.trans a2, a3⟩
    show La_valueFor_b19 N (lp (fun k (x : St × Int32 × Int32) => La_valueFor_b19 N k x.1 x.2.1 x.2.2) (n1 + c.length)) S (nI top) (nI at_) = _
    rw [step, a1, hlen, show at_ + 1 + c.length = at_ + (c.length + 1) from by omega]
    rfl
/-- a line's signs -/
def LnC (l : Li) (c : List Int32) : Prop := match l.1 with
  | none => ∃ c1, c = c1 ++ [59] ∧ Rn c1 l.2
  | some q => ∃ c1 c2, c = c1 ++ [63] ++ c2 ++ [59] ∧ Rn c1 q ∧ Rn c2 l.2
def TxC : List Li → List Int32 → Prop
  | [], cd => cd = []
  | l :: r, cd => ∃ c rest, cd = c ++ rest ∧ LnC l c ∧ TxC r rest
theorem TxC_snoc {l : Li} {c : List Int32} (hc : LnC l c) : ∀ L cd, TxC L cd → TxC (L ++ [l]) (cd ++ c)
  | [], cd, h => by
    have : cd = [] := h
    subst this
    exact ⟨c, [], (List.append_nil c).symm, hc, rfl⟩
  | m :: r, cd, h => by
    obtain ⟨d, rest, rfl, h1, h2⟩ := h
    exact ⟨d, rest ++ c, List.append_assoc _ _ _, h1, TxC_snoc hc r rest h2⟩
theorem sLine_c {b : Nat → Int32} {n i : Nat} {y : Nat × List Int32 × Li} (h : sLine b n i = .inr y) : LnC y.2.2 y.2.1 := by
  unfold sLine at h
  have g1 := sE_gv b n i
  cases hx : sE b n i with
  | inl f => rw [hx] at h; cases h
  | inr x =>
    rw [hx] at h g1
    dsimp only at h
    by_cases hq : nx b n x.1 = 63
    · rw [if_pos hq] at h
      have g2 := sE_gv b n (x.1 + 1)
      cases hz : sE b n (x.1 + 1) with
      | inl f => rw [hz] at h; cases h
      | inr z =>
        rw [hz] at h g2
        cases h
        exact ⟨x.2.1, z.2.1, rfl, g1, g2⟩
    · rw [if_neg hq] at h
      cases h
      exact ⟨x.2.1, rfl, g1⟩
theorem sLines_c {b : Nat → Int32} {n : Nat} : ∀ k (x z : Nat × List Int32 × List Li), TxC x.2.2 x.2.1 → sLines b n k x = .inr z → TxC z.2.2 z.2.1
  | 0, x, z, h, e => by cases e; exact h
  | k + 1, x, z, h, e => by
    unfold sLines at e
    by_cases hq : nx b n x.1 = 59
    · rw [if_pos hq] at e
      cases hy : sLine b n (x.1 + 1) with
      | inl f => rw [hy] at e; cases e
      | inr y =>
        rw [hy] at e
        exact sLines_c k _ z (TxC_snoc (sLine_c hy) _ _ h) e
    · rw [if_neg hq] at e; cases e; exact h
theorem sText_c {b : Nat → Int32} {n : Nat} {z : List Int32 × List Li} (h : sText b n = .inr z) : TxC z.2 z.1 := by
  unfold sText at h
  cases hy : sLine b n 0 with
  | inl f => rw [hy] at h; cases h
  | inr y =>
    rw [hy] at h
    dsimp only at h
    cases hw : sLines b n 120 (y.1, y.2.1, [y.2.2]) with
    | inl f => rw [hw] at h; cases h
    | inr w =>
      rw [hw] at h
      dsimp only at h
      by_cases hlt : w.1 < n
      · rw [if_pos hlt] at h; cases h
      · rw [if_neg hlt] at h
        cases h
        exact sLines_c 120 _ w (TxC_snoc (sLine_c hy) [] [] rfl) hw
theorem lineEnd {N Lt : Nat} {S : St} (hL : Lt ≤ 121) (h3 : gi S 2 6 = nI Lt) : ∀ (d : List Int32) (at_ : Nat), (∀ s ∈ d, s ≠ 59) → (∀ j, j < d.length → gi S 21 (at_ + j) = d.getD j 0) → gi S 21 (at_ + d.length) = 59 → at_ + d.length < Lt → ∀ n1, d.length < n1 → lp (fun k (x : Int32) => La_lineEndFrom_b2 N k S x) n1 (nI at_) = some (nI (at_ + d.length))
  | [], at_, _, _, h, hlt, n1, h1 => by
    obtain ⟨n1, rfl⟩ : ∃ k, n1 = k + 1 := ⟨n1 - 1, by simp only [List.length_nil] at h1; omega⟩
    show La_lineEndFrom_b2 N (lp (fun k (x : Int32) => La_lineEndFrom_b2 N k S x) n1) S (nI at_) = _
    generalize lp (fun k (x : Int32) => La_lineEndFrom_b2 N k S x) n1 = K
    simp only [List.length_nil, Nat.add_zero] at h hlt ⊢
    unfold La_lineEndFrom_b2
    rw [h3, if_neg (by rw [le_nI _ _ (by omega) (by omega)]; omega), inb_nI (j := at_) (n := 121) (by omega) (by omega), ck_true, cl at_ (by omega), h, if_pos rfl]
  | s :: d, at_, hs, hd, h, hlt, n1, h1 => by
    have hlen : (s :: d).length = d.length + 1 := rfl
    rw [hlen] at h1 hlt h ⊢
    obtain ⟨n1, rfl⟩ : ∃ k, n1 = k + 1 := ⟨n1 - 1, by omega⟩
    have es : gi S 21 at_ = s := by have := hd 0 (by rw [hlen]; omega); rw [Nat.add_zero] at this; exact this
    have ih := lineEnd (N := N) hL h3 d (at_ + 1) (fun x hx => hs x (List.mem_cons_of_mem _ hx)) (fun j hj => by
      rw [show at_ + 1 + j = at_ + (j + 1) from by omega, hd (j + 1) (by rw [hlen]; omega)]; rfl) (by rw [show at_ + 1 + d.length = at_ + (d.length + 1) from by omega]; exact h) (by omega) n1 (by omega)
    show La_lineEndFrom_b2 N (lp (fun k (x : Int32) => La_lineEndFrom_b2 N k S x) n1) S (nI at_) = _
    rw [show at_ + (d.length + 1) = at_ + 1 + d.length from by omega, ← ih]
    generalize lp (fun k (x : Int32) => La_lineEndFrom_b2 N k S x) n1 = K
    unfold La_lineEndFrom_b2
    rw [h3, if_neg (by rw [le_nI _ _ (by omega) (by omega)]; omega), inb_nI (j := at_) (n := 121) (by omega) (by omega), ck_true, cl at_ (by omega), es, if_neg (hs s List.mem_cons_self), nI_1, nm_eq]
theorem getD_sub {cd c rest : List Int32} {S : St} {at_ : Nat} (h : ∀ j, j < (c ++ rest).length → gi S 21 (at_ + j) = (c ++ rest).getD j 0) : (∀ j, j < c.length → gi S 21 (at_ + j) = c.getD j 0) ∧ ∀ j, j < rest.length → gi S 21 (at_ + c.length + j) = rest.getD j 0 := by
  refine ⟨fun j hj => ?_, fun j hj => ?_⟩
  · rw [h j (by rw [List.length_append]; omega), getD_app, if_pos hj]
  · rw [Nat.add_assoc, h (c.length + j) (by rw [List.length_append]; omega), getD_app, if_neg (by omega), Nat.add_sub_cancel_left]
/-- the class works a text's signs out -/
theorem value_lp {N Lt : Nat} {e : Nat → Int32} (hL : Lt ≤ 121) (hN : 121 < N) : ∀ (L : List Li) (cd : List Int32) (at_ : Nat) (S : St), TxC L cd → (∀ j, j < cd.length → gi S 21 (at_ + j) = cd.getD j 0) → gi S 2 6 = nI Lt → at_ + cd.length = Lt → (∀ k, k < 6 → gi S 24 k = e k) → ∀ n1, cd.length < n1 → ∃ S', lp (fun k (x : St × Int32 × Int32) => La_valueFor_b19 N k x.1 x.2.1 x.2.2) n1 (S, 0, nI at_) = some (tvl e L, S') ∧ Off 23 S S'
  | [], cd, at_, S, h1, h2, h3, h4, h5, n1, h6 => by
    have : cd = [] := h1
    subst this
    obtain ⟨n1, rfl⟩ : ∃ k, n1 = k + 1 := ⟨n1 - 1, by omega⟩
    refine ⟨S, ?_, Off.refl _ _⟩
    show La_valueFor_b19 N (lp (fun k (x : St × Int32 × Int32) => La_valueFor_b19 N k x.1 x.2.1 x.2.2) n1) S 0 (nI at_) = _
    generalize lp (fun k (x : St × Int32 × Int32) => La_valueFor_b19 N k x.1 x.2.1 x.2.2) n1 = K
    simp only [List.length_nil] at h4
    unfold La_valueFor_b19
    rw [h3, if_pos (by rw [le_nI _ _ (by omega) (by omega)]; omega)]; rfl
  | l :: r, cd, at_, S, h1, h2, h3, h4, h5, n1, h6 => by
    obtain ⟨c, rest, rfl, hc, hr⟩ := h1
    obtain ⟨k1, k2⟩ := getD_sub (cd := c) h2
    rw [List.length_append] at h4 h6
    -- the end of a line
    have fin : ∀ (St' : St) (top p : Nat), Off 23 S St' → gi St' 21 p = 59 → p < Lt → ∀ n2, lp (fun k (x : St × Int32 × Int32) => La_valueFor_b19 N k x.1 x.2.1 x.2.2) (n2 + 1) (St', nI top, nI p) = some (gi St' 23 0, St') := fun St' top p o1 hp hlt n2 => by
      show La_valueFor_b19 N (lp (fun k (x : St × Int32 × Int32) => La_valueFor_b19 N k x.1 x.2.1 x.2.2) n2) St' (nI top) (nI p) = _
      generalize lp (fun k (x : St × Int32 × Int32) => La_valueFor_b19 N k x.1 x.2.1 x.2.2) n2 = K
      unfold La_valueFor_b19
      rw [o1.1 2 6 (by decide), h3, if_neg (by rw [le_nI _ _ (by omega) (by omega)]; omega), inb_nI (j := p) (n := 121) (by omega) (by omega), ck_true, cl p (by omega), hp, nm_eq, if_pos rfl]
      rfl
    obtain ⟨q, v⟩ := l
    cases q with
    | none =>
      obtain ⟨c1, rfl, hR⟩ := hc
      simp only [List.length_append, List.length_cons, List.length_nil] at h4 h6 k1
      have k3 : ∀ j, j < c1.length → gi S 21 (at_ + j) = c1.getD j 0 := fun j hj => by rw [k1 j (by omega), getD_app, if_pos hj]
      have k4 : gi S 21 (at_ + c1.length) = 59 := by rw [k1 _ (by omega), getD_app, if_neg (by omega), Nat.sub_self]; rfl
      obtain ⟨S1, a1, a2, a3⟩ := run_blk (N := N) (e := e) hL c1 at_ 0 S hR.1 k3 h3 (by omega) h5 (by omega)
      obtain ⟨st', b1, b2, b3⟩ := hR.2 e (S.1 23) 0
      rw [b1] at a1 a3
      obtain ⟨n2, rfl⟩ : ∃ k, n1 = (k + 1) + c1.length := ⟨n1 - 1 - c1.length, by omega⟩
      have e1 := a1 (n2 + 1)
      refine ⟨S1, ?_, a2⟩
      have e2 : lp (fun k (x : St × Int32 × Int32) => La_valueFor_b19 N k x.1 x.2.1 x.2.2) (n2 + 1 + c1.length) (S, 0, nI at_) = _ := e1
      rw [e2, fin S1 _ _ a2 ((a2.1 21 _ (by decide)).trans k4) (by omega)]
      have : gi S1 23 0 = v e := by show S1.1 23 0 = v e; rw [a3]; exact b2
      rw [this]; rfl
    | some q =>
      obtain ⟨c1, c2, rfl, hR, hR2⟩ := hc
      simp only [List.length_append, List.length_cons, List.length_nil] at h4 h6 k1 k2
      have k3 : ∀ j, j < c1.length → gi S 21 (at_ + j) = c1.getD j 0 := fun j hj => by
        rw [k1 j (by omega), getD_app, if_pos (by simp only [List.length_append, List.length_cons, List.length_nil]; omega), getD_app, if_pos (by simp only [List.length_append, List.length_cons, List.length_nil]; omega), getD_app, if_pos hj]
      have k4 : gi S 21 (at_ + c1.length) = 63 := by
        rw [k1 _ (by omega), getD_app, if_pos (by simp only [List.length_append, List.length_cons, List.length_nil]; omega), getD_app, if_pos (by simp only [List.length_append, List.length_cons, List.length_nil]; omega), getD_app, if_neg (by omega), Nat.sub_self]; rfl
      have k5 : ∀ j, j < c2.length → gi S 21 (at_ + c1.length + 1 + j) = c2.getD j 0 := fun j hj => by
        rw [show at_ + c1.length + 1 + j = at_ + (c1.length + 1 + j) from by omega, k1 _ (by omega), getD_app, if_pos (by simp only [List.length_append, List.length_cons, List.length_nil]; omega), getD_app, if_neg (by simp only [List.length_append, List.length_cons, List.length_nil]; omega)]
        simp only [List.length_append, List.length_cons, List.length_nil]
        rw [show c1.length + 1 + j - (c1.length + (0 + 1)) = j from by omega]
      have k6 : gi S 21 (at_ + c1.length + 1 + c2.length) = 59 := by
        rw [show at_ + c1.length + 1 + c2.length = at_ + (c1.length + 1 + c2.length) from by omega, k1 _ (by omega), getD_app, if_neg (by simp only [List.length_append, List.length_cons, List.length_nil]; omega)]
        simp only [List.length_append, List.length_cons, List.length_nil]
        rw [show c1.length + 1 + c2.length - (c1.length + (0 + 1) + c2.length) = 0 from by omega]; rfl
      obtain ⟨S1, a1, a2, a3⟩ := run_blk (N := N) (e := e) hL c1 at_ 0 S hR.1 k3 h3 (by omega) h5 (by omega)
      obtain ⟨st', b1, b2, b3⟩ := hR.2 e (S.1 23) 0
      rw [b1] at a1 a3
      have v0 : gi S1 23 0 = q e := by show S1.1 23 0 = q e; rw [a3]; exact b2
      have h31 : gi S1 2 6 = nI Lt := (a2.1 2 6 (by decide)).trans h3
      have c63 : ∀ n2, lp (fun k (x : St × Int32 × Int32) => La_valueFor_b19 N k x.1 x.2.1 x.2.2) (n2 + 1 + c1.length) (S, 0, nI at_) = lp (fun k (x : St × Int32 × Int32) => La_valueFor_b19 N k x.1 x.2.1 x.2.2) n2 (S1, 0, if q e = 0 then nI (at_ + c1.length + 1 + c2.length + 1) else nI (at_ + c1.length + 1)) := fun n2 => by
        have e2 : lp (fun k (x : St × Int32 × Int32) => La_valueFor_b19 N k x.1 x.2.1 x.2.2) (n2 + 1 + c1.length) (S, 0, nI at_) = _ := a1 (n2 + 1)
        rw [e2]
        show La_valueFor_b19 N (lp (fun k (x : St × Int32 × Int32) => La_valueFor_b19 N k x.1 x.2.1 x.2.2) n2) S1 (nI (0 + 1)) (nI (at_ + c1.length)) = _
        generalize lp (fun k (x : St × Int32 × Int32) => La_valueFor_b19 N k x.1 x.2.1 x.2.2) n2 = K
        unfold La_valueFor_b19 La_valueFor_b78
        rw [h31, if_neg (by rw [le_nI _ _ (by omega) (by omega)]; omega), inb_nI (j := at_ + c1.length) (n := 121) (by omega) (by omega), ck_true, cl (at_ + c1.length) (by omega), a2.1 21 _ (by decide), k4, nm_eq, if_neg (by decide), if_pos rfl, show (0 : Int32).toNatClampNeg = 0 from rfl, v0]
        by_cases hq : q e = 0
        · rw [if_pos hq, if_pos hq]
          have le := lineEnd (N := N) (S := S1) hL h31 (63 :: c2) (at_ + c1.length) (fun s hs => by
            rcases List.mem_cons.mp hs with h | h
            · rw [h]; decide
            · exact (hR2.1 s h).1) (fun j hj => by
            rw [a2.1 21 _ (by decide)]
            cases j with
            | zero => rw [Nat.add_zero, k4]; rfl
            | succ j => rw [show at_ + c1.length + (j + 1) = at_ + c1.length + 1 + j from by omega, k5 j (by simp only [List.length_cons] at hj; omega)]; rfl) (by
            rw [a2.1 21 _ (by decide), List.length_cons, show at_ + c1.length + (c2.length + 1) = at_ + c1.length + 1 + c2.length from by omega]; exact k6) (by rw [List.length_cons]; omega) N (by rw [List.length_cons]; omega)
          unfold La_lineEndFrom La_lineEndFrom_L2
          rw [le, bd1_some, nI_1, nm_eq, List.length_cons, show at_ + c1.length + (c2.length + 1) + 1 = at_ + c1.length + 1 + c2.length + 1 from by omega]
        · rw [if_neg hq, if_neg hq, nI_1, nm_eq]
      obtain ⟨n2, rfl⟩ : ∃ k, n1 = (k + 1) + c1.length := ⟨n1 - 1 - c1.length, by omega⟩
      rw [c63 n2]
      by_cases hq : q e = 0
      · rw [if_pos hq]
        have lenT : (c1 ++ [63] ++ c2 ++ [59]).length = c1.length + 1 + c2.length + 1 := by simp only [List.length_append, List.length_cons, List.length_nil]
        obtain ⟨S2, t1, t2⟩ := value_lp (e := e) hL hN r rest (at_ + c1.length + 1 + c2.length + 1) S1 hr (fun j hj => by
          rw [a2.1 21 _ (by decide)]
          have := k2 j hj
          rw [← this]
          exact congrArg (gi S 21) (by omega)) h31 (by omega) (fun k hk => (a2.1 24 k (by decide)).trans (h5 k hk)) n2 (by omega)
        refine ⟨S2, ?_, a2.trans t2⟩
        rw [t1]
        show _ = some (if q e = 0 then tvl e r else v e, S2)
        rw [if_pos hq]
      · rw [if_neg hq]
        obtain ⟨S2, d1, d2, d3⟩ := run_blk (N := N) (e := e) hL c2 (at_ + c1.length + 1) 0 S1 hR2.1 (fun j hj => (a2.1 21 _ (by decide)).trans (k5 j hj)) h31 (by omega) (fun k hk => (a2.1 24 k (by decide)).trans (h5 k hk)) (by omega)
        obtain ⟨st2, f1, f2, f3⟩ := hR2.2 e (S1.1 23) 0
        rw [f1] at d1 d3
        obtain ⟨n3, rfl⟩ : ∃ k, n2 = (k + 1) + c2.length := ⟨n2 - 1 - c2.length, by omega⟩
        have e3 : lp (fun k (x : St × Int32 × Int32) => La_valueFor_b19 N k x.1 x.2.1 x.2.2) (n3 + 1 + c2.length) (S1, 0, nI (at_ + c1.length + 1)) = _ := d1 (n3 + 1)
        have o2 := a2.trans d2
        refine ⟨S2, ?_, o2⟩
        rw [e3, fin S2 _ _ o2 ((o2.1 21 _ (by decide)).trans k6) (by omega)]
        have : gi S2 23 0 = v e := by show S2.1 23 0 = v e; rw [d3]; exact f2
        rw [this]
        show _ = some (if q e = 0 then tvl e r else v e, S2)
        rw [if_neg hq]
