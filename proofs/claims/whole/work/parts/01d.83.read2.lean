theorem op_fl {n f N : Nat} (hn : n ≤ 120) {S : St} (h : Fl1 S n f) (x : Int32) : ∀ D, 1 ≤ D → (grp_La_readLevel N D).2.2.1 S x = some S := by
  intro D hD
  obtain ⟨D, rfl⟩ : ∃ k, D = k + 1 := ⟨D - 1, by omega⟩
  show La_readOperand_B N (grp_La_readLevel N D).1 (grp_La_readLevel N D).2.1 (grp_La_readLevel N D).2.2.1 (grp_La_readLevel N D).2.2.2 S x = _
  unfold La_readOperand_B
  rw [next_fl h hn, bd1_some, isDigit_eq, bd1_some, if_bI, if_neg (by decide), show La_nameOf S (-1) = some (-1) from rfl, bd1_some, if_pos (by decide), if_neg (by decide), if_neg (by decide), if_neg (by decide), fail_fl h hn, bd1_some]
theorem L23_fl {n f N : Nat} (hn : n ≤ 120) (hN : 1 ≤ N) {S : St} (h : Fl1 S n f) (fl : St → Int32 → Int32 → Option St) (fo : St → Int32 → Int32 → Option St) (fp : St → Int32 → Option St) (fq : St → Int32 → Int32 → Option St) {l : Nat} (hl : l < 5) (x l3 : Int32) (h3 : ¬ l3 ≤ 0) : La_readLevel_L23 N fl fo fp fq (nI l) x l3 (S, 0) = some S := by
  obtain ⟨N, rfl⟩ : ∃ k, N = k + 1 := ⟨N - 1, by omega⟩
  show La_readLevel_b23 (N + 1) fl fo fp fq (lp (fun k x' => La_readLevel_b23 (N + 1) fl fo fp fq k x'.1 (nI l) x l3 x'.2) N) S (nI l) x l3 0 = _
  generalize lp (fun k (x' : St × Int32) => La_readLevel_b23 (N + 1) fl fo fp fq k x'.1 (nI l) x l3 x'.2) N = K
  unfold La_readLevel_b23
  rw [if_neg h3, next_fl h hn, bd1_some, show La_levelOf S (-1) = some (-1) from rfl, bd1_some, if_neg (fun e => nI_nem1 l (by omega) e.symm)]
theorem part_fl {n f N : Nat} (hn : n ≤ 120) (hN : 1 ≤ N) {S : St} (h : Fl1 S n f) (x : Int32) : ∀ m, m ≤ 5 → ∀ D, 2 * m + 2 ≤ D → (grp_La_readLevel N D).2.2.2 S (nI (5 - m)) x = some S
  | 0, _, D, hD => by
    obtain ⟨D, rfl⟩ : ∃ k, D = k + 1 := ⟨D - 1, by omega⟩
    show La_readPart_B N (grp_La_readLevel N D).1 (grp_La_readLevel N D).2.1 (grp_La_readLevel N D).2.2.1 (grp_La_readLevel N D).2.2.2 S (nI 5) x = _
    unfold La_readPart_B
    rw [if_neg (by decide), op_fl hn h x D (by omega), bd1_some]
  | m + 1, hm, D, hD => by
    obtain ⟨D, rfl⟩ : ∃ k, D = k + 1 + 1 := ⟨D - 2, by omega⟩
    have ih := part_fl (N := N) hn hN h x m (by omega) D (by omega)
    have lev : (grp_La_readLevel N (D + 1)).1 S (nI (5 - (m + 1))) x = some S := by
      show La_readLevel_B N (grp_La_readLevel N D).1 (grp_La_readLevel N D).2.1 (grp_La_readLevel N D).2.2.1 (grp_La_readLevel N D).2.2.2 S (nI (5 - (m + 1))) x = _
      unfold La_readLevel_B
      rw [nI_1, show 5 - (m + 1) + 1 = 5 - m from by omega, ih, bd1_some, L23_fl hn hN h _ _ _ _ (by omega) x 1 (by decide), L23_fl hn hN h _ _ _ _ (by omega) x 120 (by decide)]
      split <;> rfl
    show La_readPart_B N (grp_La_readLevel N (D + 1)).1 (grp_La_readLevel N (D + 1)).2.1 (grp_La_readLevel N (D + 1)).2.2.1 (grp_La_readLevel N (D + 1)).2.2.2 S (nI (5 - (m + 1))) x = _
    generalize grp_La_readLevel N (D + 1) = g at lev
    unfold La_readPart_B
    rw [if_pos (by show nI (5 - (m + 1)) < nI 5; rw [lt_nI _ _ (by omega) (by omega)]; omega), lev, bd1_some]
theorem lev_fl {n f N : Nat} (hn : n ≤ 120) (hN : 1 ≤ N) {S : St} (h : Fl1 S n f) (x : Int32) : ∀ D, 11 ≤ D → (grp_La_readLevel N D).1 S 0 x = some S := by
  intro D hD
  obtain ⟨D, rfl⟩ : ∃ k, D = k + 1 := ⟨D - 1, by omega⟩
  have ih := part_fl (N := N) hn hN h x 4 (by omega) D (by omega)
  show La_readLevel_B N (grp_La_readLevel N D).1 (grp_La_readLevel N D).2.1 (grp_La_readLevel N D).2.2.1 (grp_La_readLevel N D).2.2.2 S (nI 0) x = _
  unfold La_readLevel_B
  rw [nI_1, show nI (0 + 1) = nI (5 - 4) from rfl, ih, bd1_some, L23_fl hn hN h _ _ _ _ (by omega) x 1 (by decide), L23_fl hn hN h _ _ _ _ (by omega) x 120 (by decide)]
  split <;> rfl
theorem loop_ok {b : Nat → Int32} {n N l : Nat} {op : Int32} (hn : n ≤ 120) (fl : St → Int32 → Int32 → Option St) (fo : St → Int32 → Int32 → Option St) (fp : St → Int32 → Option St) (fq : St → Int32 → Int32 → Option St) {sub : Nat → Re} (hl : l < 5) (hg : Gd n sub)
    (hsub : ∀ S i dr, Ok1 S n i dr → (∀ j, j < n → gi S 20 j = b j) → i ≤ n → dr ≤ i → ∃ S', fq S (nI (l + 1)) op = some S' ∧ Rs S S' n dr (sub i)) {S0 : St} {dr : Nat} (hb : ∀ j, j < n → gi S0 20 j = b j) (M : Nat) (hM : M ≤ 120) :
    ∀ k (x : Nat × List Int32 × Va) (Sc : St), k ≤ M → PF S0 Sc → Ok1 Sc n x.1 (dr + x.2.1.length) → Dr S0 Sc dr x.2.1 → x.1 ≤ n → dr + x.2.1.length ≤ x.1 → ∀ n1, k < n1 → ∃ S', lp (fun kk (y : St × Int32) => La_readLevel_b23 N fl fo fp fq kk y.1 (nI l) op (nI M) y.2) n1 (Sc, nI (M - k)) = some S' ∧ Rs S0 S' n dr (sLoop b n sub l k x)
  | 0, x, Sc, _, h1, h2, h3, h4, h5, n1, h6 => by
    obtain ⟨n1, rfl⟩ : ∃ k, n1 = k + 1 := ⟨n1 - 1, by omega⟩
    refine ⟨Sc, ?_, h1, h2, h3⟩
    show La_readLevel_b23 N fl fo fp fq _ Sc (nI l) op (nI M) (nI (M - 0)) = _
    rw [Nat.sub_zero]
    unfold La_readLevel_b23
    rw [if_pos (Int32.le_refl _)]
  | k + 1, x, Sc, hk, h1, h2, h3, h4, h5, n1, h6 => by
    obtain ⟨n1, rfl⟩ : ∃ k, n1 = k + 1 := ⟨n1 - 1, by omega⟩
    have hb' : ∀ j, j < n → gi Sc 20 j = b j := fun j hj => (h1.1 20 j (by decide) (fun e => absurd e (by decide))).trans (hb j hj)
    show ∃ S', La_readLevel_b23 N fl fo fp fq (lp (fun kk (y : St × Int32) => La_readLevel_b23 N fl fo fp fq kk y.1 (nI l) op (nI M) y.2) n1) Sc (nI l) op (nI M) (nI (M - (k + 1))) = some S' ∧ _
    have ih := loop_ok (N := N) (dr := dr) hn fl fo fp fq hl hg hsub hb M hM k
    have flt : ∀ (Sf : St) (f : Nat), PF S0 Sf → Fl1 Sf n f → lp (fun kk (y : St × Int32) => La_readLevel_b23 N fl fo fp fq kk y.1 (nI l) op (nI M) y.2) n1 (Sf, nI (M - k)) = some Sf := fun Sf f g1 g2 => by
      obtain ⟨n2, rfl⟩ : ∃ k, n1 = k + 1 := ⟨n1 - 1, by omega⟩
      show La_readLevel_b23 N fl fo fp fq (lp (fun kk (y : St × Int32) => La_readLevel_b23 N fl fo fp fq kk y.1 (nI l) op (nI M) y.2) n2) Sf (nI l) op (nI M) (nI (M - k)) = _
      generalize lp (fun kk (y : St × Int32) => La_readLevel_b23 N fl fo fp fq kk y.1 (nI l) op (nI M) y.2) n2 = K
      unfold La_readLevel_b23
      split
      · rfl
      · rw [next_fl g2 hn, bd1_some, show La_levelOf Sf (-1) = some (-1) from rfl, bd1_some, if_neg (fun e => nI_nem1 l (by omega) e.symm)]
    unfold sLoop
    generalize hK : lp (fun kk (y : St × Int32) => La_readLevel_b23 N fl fo fp fq kk y.1 (nI l) op (nI M) y.2) n1 = K at ih flt ⊢
    unfold La_readLevel_b23
    rw [if_neg (by rw [le_nI _ _ (by omega) (by omega)]; omega), next_ok h2 hb' h4 hn, bd1_some, levelOf_eq, bd1_some]
    by_cases he : lv (nx b n x.1) = l
    · have hx := lvl_lt he hl
      have hgx := hg (x.1 + 1) (by omega)
      obtain ⟨S5, s1, s2, s3⟩ := hsub (si Sc 2 8 (nI (x.1 + 1))) (x.1 + 1) (dr + x.2.1.length) h2.step (fun j hj => (by rw [gi_si, if_neg (by decide)]; exact hb' j hj : gi (si Sc 2 8 (nI (x.1 + 1))) 20 j = b j)) (by omega) (by omega)
      have p4 : PF S0 S5 := (h1.trans (PF.si2 Sc (by omega) _)).trans s2
      rw [if_pos ((lev_eq hl).mpr he), bd1_some, h2.2.1, nI_1, nm_eq, nI_1, s1, bd1_some, if_pos he]
      cases hy : sub (x.1 + 1) with
      | inl f =>
        rw [hy] at s3
        dsimp only at s3 ⊢
        obtain ⟨S6, w1, w2, w3⟩ := write_fl s3 (nx b n x.1)
        rw [w1, bd1_some, nI_1, nm_eq, show M - (k + 1) + 1 = M - k from by omega, flt S6 f (p4.trans w2) w3]
        exact ⟨S6, rfl, p4.trans w2, w3⟩
      | inr y =>
        rw [hy] at s3 hgx
        dsimp only at s3 hgx ⊢
        obtain ⟨s3, s4⟩ := s3
        obtain ⟨S6, w1, w2, w3, w4⟩ := write_ok s3 (by omega) (nx b n x.1)
        rw [w1, bd1_some, nI_1, nm_eq, show M - (k + 1) + 1 = M - k from by omega]
        have len : (x.2.1 ++ y.2.1 ++ [nx b n x.1]).length = x.2.1.length + y.2.1.length + 1 := by
          simp only [List.length_append, List.length_cons, List.length_nil]
        have d1 : Dr S0 S5 dr (x.2.1 ++ y.2.1) := h3.app (s4.of22 (fun j => by rw [gi_si, if_neg (by decide)]))
        have d2 : Dr S0 S6 dr (x.2.1 ++ y.2.1 ++ [nx b n x.1]) := d1.app (by rw [List.length_append, ← Nat.add_assoc]; exact w4)
        have o6 : Ok1 S6 n y.1 (dr + (x.2.1 ++ y.2.1 ++ [nx b n x.1]).length) := by
          rw [len, show dr + (x.2.1.length + y.2.1.length + 1) = dr + x.2.1.length + y.2.1.length + 1 from by omega]
          exact w3
        rw [← hK]
        exact ih (y.1, x.2.1 ++ y.2.1 ++ [nx b n x.1], fun e => op2 (nx b n x.1) (x.2.2 e) (y.2.2 e)) S6 (by omega) (p4.trans w2) o6 d2 (by dsimp only; omega) (by dsimp only; rw [len]; omega) n1 (by omega)
    · rw [if_neg (fun e => he ((lev_eq hl).mp e)), if_neg he]
      exact ⟨Sc, rfl, h1, h2, h3⟩
theorem lev1_ok {b : Nat → Int32} {n N r m D : Nat} (hn : n ≤ 120) (hN : 120 < N) (hm : m + 1 ≤ 5)
    (ih : ∀ S i dr, Ok1 S n i dr → (∀ j, j < n → gi S 20 j = b j) → i ≤ n → dr ≤ i → ∃ S', (grp_La_readLevel N D).2.2.2 S (nI (5 - m)) (nI (6 - r)) = some S' ∧ Rs S S' n dr (sL b n (sOp b n r) m i)) :
    ∀ S i dr, Ok1 S n i dr → (∀ j, j < n → gi S 20 j = b j) → i ≤ n → dr ≤ i → ∃ S', (grp_La_readLevel N (D + 1)).1 S (nI (5 - (m + 1))) (nI (6 - r)) = some S' ∧ Rs S S' n dr (sL b n (sOp b n r) (m + 1) i) := by
    intro S i dr h hb hi hdr
    obtain ⟨S1, s1, s2, s3⟩ := ih S i dr h hb hi hdr
    have hg : Gd n (sL b n (sOp b n r) m) := sL_gd (sOp_gd b n r) m
    show ∃ S', La_readLevel_B N _ _ _ _ S (nI (5 - (m + 1))) (nI (6 - r)) = some S' ∧ Rs S S' n dr (sLv b n (sL b n (sOp b n r) m) (4 - m) (if m = 2 then 1 else 120) i)
    unfold La_readLevel_B sLv
    rw [nI_1, show 5 - (m + 1) + 1 = 5 - m from by omega, s1, bd1_some, show 5 - (m + 1) = 4 - m from by omega]
    have hlv : (nI (4 - m) = 2) = (m = 2) := by
      show (nI (4 - m) = nI 2) = _
      rw [eq_nI _ _ (by omega) (by omega)]
      exact propext ⟨fun h => by omega, fun h => by omega⟩
    simp only [hlv]
    have hgi := hg i hi
    cases hx : sL b n (sOp b n r) m i with
    | inl f =>
      rw [hx] at s3
      dsimp only at s3 ⊢
      rw [L23_fl hn (by omega) s3 _ _ _ _ (by omega) (nI (6 - r)) 1 (by decide), L23_fl hn (by omega) s3 _ _ _ _ (by omega) (nI (6 - r)) 120 (by decide)]
      exact ⟨S1, by split <;> rfl, s2, s3⟩
    | inr x =>
      rw [hx] at s3 hgi
      dsimp only at s3 hgi ⊢
      have lk := fun M hM => loop_ok (N := N) (l := 4 - m) (op := nI (6 - r)) hn (grp_La_readLevel N D).1 (grp_La_readLevel N D).2.1 (grp_La_readLevel N D).2.2.1 (grp_La_readLevel N D).2.2.2 (by omega) hg (fun S i dr a1 a2 a3 a4 => by
        rw [show 4 - m + 1 = 5 - m from by omega]; exact ih S i dr a1 a2 a3 a4) hb M hM M x S1 (Nat.le_refl _) s2 s3.1 s3.2 hgi.2.1 (by omega) N
      unfold La_readLevel_L23
      by_cases hm2 : m = 2
      · rw [if_pos hm2, if_pos hm2]
        exact lk 1 (by omega) (by omega)
      · rw [if_neg hm2, if_neg hm2]
        exact lk 120 (by omega) hN
theorem part_ok {b : Nat → Int32} {n N r d0 : Nat} (hn : n ≤ 120) (hN : 120 < N) (hd0 : 1 ≤ d0)
    (hop : ∀ D, d0 ≤ D → ∀ S i dr, Ok1 S n i dr → (∀ j, j < n → gi S 20 j = b j) → i ≤ n → dr ≤ i → ∃ S', (grp_La_readLevel N D).2.2.1 S (nI (6 - r)) = some S' ∧ Rs S S' n dr (sOp b n r i)) :
    ∀ m, m ≤ 5 → ∀ D, d0 + 2 * m + 1 ≤ D → ∀ S i dr, Ok1 S n i dr → (∀ j, j < n → gi S 20 j = b j) → i ≤ n → dr ≤ i → ∃ S', (grp_La_readLevel N D).2.2.2 S (nI (5 - m)) (nI (6 - r)) = some S' ∧ Rs S S' n dr (sL b n (sOp b n r) m i)
  | 0, _, D, hD, S, i, dr, h, hb, hi, hdr => by
    obtain ⟨D, rfl⟩ : ∃ k, D = k + 1 := ⟨D - 1, by omega⟩
    obtain ⟨S', s1, s2⟩ := hop D (by omega) S i dr h hb hi hdr
    refine ⟨S', ?_, s2⟩
    show La_readPart_B N (grp_La_readLevel N D).1 (grp_La_readLevel N D).2.1 (grp_La_readLevel N D).2.2.1 (grp_La_readLevel N D).2.2.2 S (nI 5) (nI (6 - r)) = _
    unfold La_readPart_B
    rw [if_neg (by decide), s1, bd1_some]
  | m + 1, hm, D, hD, S, i, dr, h, hb, hi, hdr => by
    obtain ⟨D, rfl⟩ : ∃ k, D = k + 1 + 1 := ⟨D - 2, by omega⟩
    have ih := part_ok hn hN hd0 hop m (by omega) D (by omega)
    obtain ⟨S', s1, s2⟩ := lev1_ok (m := m) hn hN hm ih S i dr h hb hi hdr
    refine ⟨S', ?_, s2⟩
    show La_readPart_B N (grp_La_readLevel N (D + 1)).1 (grp_La_readLevel N (D + 1)).2.1 (grp_La_readLevel N (D + 1)).2.2.1 (grp_La_readLevel N (D + 1)).2.2.2 S (nI (5 - (m + 1))) (nI (6 - r)) = _
    generalize grp_La_readLevel N (D + 1) = g at s1
    unfold La_readPart_B
    rw [if_pos (by show nI (5 - (m + 1)) < nI 5; rw [lt_nI _ _ (by omega) (by omega)]; omega), s1, bd1_some]
theorem lev_ok {b : Nat → Int32} {n N r d0 : Nat} (hn : n ≤ 120) (hN : 120 < N) (hd0 : 1 ≤ d0)
    (hop : ∀ D, d0 ≤ D → ∀ S i dr, Ok1 S n i dr → (∀ j, j < n → gi S 20 j = b j) → i ≤ n → dr ≤ i → ∃ S', (grp_La_readLevel N D).2.2.1 S (nI (6 - r)) = some S' ∧ Rs S S' n dr (sOp b n r i)) :
    ∀ D, d0 + 10 ≤ D → ∀ S i dr, Ok1 S n i dr → (∀ j, j < n → gi S 20 j = b j) → i ≤ n → dr ≤ i → ∃ S', (grp_La_readLevel N D).1 S 0 (nI (6 - r)) = some S' ∧ Rs S S' n dr (sL b n (sOp b n r) 5 i) := by
  intro D hD
  obtain ⟨D, rfl⟩ : ∃ k, D = k + 1 := ⟨D - 1, by omega⟩
  exact lev1_ok (m := 4) hn hN (by omega) (part_ok hn hN hd0 hop 4 (by omega) D (by omega))
theorem oper_ok {b : Nat → Int32} {n N : Nat} (hn : n ≤ 120) (hN : 120 < N) : ∀ r, r ≤ 6 → ∀ D, 12 * r + 1 ≤ D → ∀ S i dr, Ok1 S n i dr → (∀ j, j < n → gi S 20 j = b j) → i ≤ n → dr ≤ i → ∃ S', (grp_La_readLevel N D).2.2.1 S (nI (6 - r)) = some S' ∧ Rs S S' n dr (sOp b n r i)
  | 0, _, D, hD, S, i, dr, h, hb, hi, hdr => by
    obtain ⟨D, rfl⟩ : ∃ k, D = k + 1 := ⟨D - 1, by omega⟩
    exact atom_ok _ _ _ _ hn h hb hi hdr (by omega) _ (.inr (by decide))
  | r + 1, hr, D, hD, S, i, dr, h, hb, hi, hdr => by
    obtain ⟨D, rfl⟩ : ∃ k, D = k + 1 + 1 := ⟨D - 2, by omega⟩
    have ih := oper_ok (b := b) hn hN r (by omega)
    have il := lev_ok (r := r) (d0 := 12 * r + 1) hn hN (by omega) ih D (by omega)
    have io := ih D (by omega)
    have hgo := sOp_gd b n r
    have hgl : Gd n (sL b n (sOp b n r) 5) := sL_gd hgo 5
    show ∃ S', La_readOperand_B N (grp_La_readLevel N (D + 1)).1 (La_readOpened_B N (grp_La_readLevel N D).1 (grp_La_readLevel N D).2.1 (grp_La_readLevel N D).2.2.1 (grp_La_readLevel N D).2.2.2) (grp_La_readLevel N (D + 1)).2.2.1 (grp_La_readLevel N (D + 1)).2.2.2 S (nI (6 - (r + 1))) = some S' ∧ _
    unfold sOp
    have nxt := next_ok h hb hi hn
    have n6 : ¬ (6 : Int32) ≤ nI (6 - (r + 1)) := by show ¬ nI 6 ≤ nI (6 - (r + 1)); rw [le_nI _ _ (by omega) (by omega)]; omega
    have e6 : nI (6 - (r + 1)) + 1 = nI (6 - r) := by rw [nI_1, show 6 - (r + 1) + 1 = 6 - r from by omega]
    have hb2 : ∀ j, j < n → gi (si S 2 8 (nI (i + 1))) 20 j = b j := fun j hj => by rw [gi_si, if_neg (by decide)]; exact hb j hj
    have d40 : dgt 40 = false := by decide
    have d33 : dgt 33 = false := by decide
    have d45 : dgt 45 = false := by decide
    by_cases h1 : nx b n i = 40
    · rw [if_pos h1]
      have hlt : i < n := nx_lt (by rw [h1]; decide)
      unfold La_readOperand_B La_readOperand_b65
      rw [nxt, h1, bd1_some, isDigit_eq, bd1_some, if_bI, d40, if_neg (by decide), nameOf_eq, bd1_some, if_neg (by decide : ¬ nmI 40 < 6), if_pos (by decide), if_pos rfl, if_neg n6, h.2.1, nI_1, nm_eq, e6]
      obtain ⟨S4, s1, s2, s3⟩ := il (si S 2 8 (nI (i + 1))) (i + 1) dr h.step hb2 (by omega) (by omega)
      have p4 : PF S S4 := (PF.si2 S (by omega) _).trans s2
      have hgi := hgl (i + 1) (by omega)
      unfold La_readOpened_B
      rw [if_pos rfl, show (grp_La_readLevel N D).1 (si S 2 8 (nI (i + 1))) 0 (nI (6 - r)) = some S4 from s1, bd1_some]
      cases hy : sL b n (sOp b n r) 5 (i + 1) with
      | inl f =>
        rw [hy] at s3
        dsimp only at s3 ⊢
        rw [next_fl s3 hn, bd1_some, if_neg (by decide), fail_fl s3 hn, bd1_some, bd1_some]
        exact ⟨S4, rfl, p4, s3⟩
      | inr y =>
        rw [hy] at s3 hgi
        dsimp only at s3 hgi ⊢
        obtain ⟨s3, s4⟩ := s3
        have hb4 : ∀ j, j < n → gi S4 20 j = b j := fun j hj => (p4.1 20 j (by decide) (fun e => absurd e (by decide))).trans (hb j hj)
        have d4 : Dr S S4 dr y.2.1 := s4.of22 (fun j => by rw [gi_si, if_neg (by decide)])
        rw [next_ok s3 hb4 (by omega) hn, bd1_some]
        by_cases h2 : nx b n y.1 = 41
        · rw [if_pos h2, if_pos h2, s3.2.1, nI_1, nm_eq, bd1_some]
          exact ⟨_, rfl, p4.trans (PF.si2 S4 (by omega) _), s3.step, ⟨fun j hj => by rw [gi_si, if_neg (by decide)]; exact d4.1 j hj, fun j hj => by rw [gi_si, if_neg (by decide)]; exact d4.2 j hj⟩⟩
        · rw [if_neg h2, if_neg h2, fail_ok s3, bd1_some, bd1_some]
          exact ⟨_, rfl, p4.trans (PF.si2 S4 (by omega) _), Fl1.of s3 (by omega) (by omega)⟩
    · rw [if_neg h1]
      by_cases h2 : nx b n i = 33 ∨ nx b n i = 45
      · rw [if_pos h2]
        have hlt : i < n := nx_lt (by rcases h2 with h2 | h2 <;> (rw [h2]; decide))
        obtain ⟨S4, s1, s2, s3⟩ := io (si S 2 8 (nI (i + 1))) (i + 1) dr h.step hb2 (by omega) (by omega)
        have p4 : PF S S4 := (PF.si2 S (by omega) _).trans s2
        have hgi := hgo (i + 1) (by omega)
        have main : ∀ c w : Int32, c = nx b n i → (c = 33 ∧ w = 33 ∨ c = 45 ∧ w = 126) → ∃ S', La_readOperand_B N (grp_La_readLevel N (D + 1)).1 (La_readOpened_B N (grp_La_readLevel N D).1 (grp_La_readLevel N D).2.1 (grp_La_readLevel N D).2.2.1 (grp_La_readLevel N D).2.2.2) (grp_La_readLevel N (D + 1)).2.2.1 (grp_La_readLevel N (D + 1)).2.2.2 S (nI (6 - (r + 1))) = some S' ∧ Rs S S' n dr (match sOp b n r (i + 1) with
            | .inl f => .inl f
            | .inr x => .inr (x.1, x.2.1 ++ [w], fun e => if c = 45 then - x.2.2 e else if x.2.2 e = 0 then 1 else 0)) := by
          intro c w hc hcw
          have op1 : La_readOpened_B N (grp_La_readLevel N D).1 (grp_La_readLevel N D).2.1 (grp_La_readLevel N D).2.2.1 (grp_La_readLevel N D).2.2.2 (si S 2 8 (nI (i + 1))) c (nI (6 - r)) = (bd1 (La_write S4 w) fun S3 => some S3) := by
            unfold La_readOpened_B
            rcases hcw with ⟨rfl, rfl⟩ | ⟨rfl, rfl⟩
            · rw [if_neg (by decide), s1, bd1_some, if_neg (by decide)]
            · rw [if_neg (by decide), s1, bd1_some, if_pos rfl]
          have op2 : La_readOperand_B N (grp_La_readLevel N (D + 1)).1 (La_readOpened_B N (grp_La_readLevel N D).1 (grp_La_readLevel N D).2.1 (grp_La_readLevel N D).2.2.1 (grp_La_readLevel N D).2.2.2) (grp_La_readLevel N (D + 1)).2.2.1 (grp_La_readLevel N (D + 1)).2.2.2 S (nI (6 - (r + 1))) = (bd1 (bd1 (La_write S4 w) fun S3 => some S3) fun S3 => some S3) := by
            unfold La_readOperand_B La_readOperand_b65
            rw [nxt, ← hc, bd1_some, isDigit_eq, bd1_some, if_bI]
            rcases hcw with ⟨rfl, rfl⟩ | ⟨rfl, rfl⟩
            · rw [d33, if_neg (by decide), nameOf_eq, bd1_some, if_neg (by decide : ¬ nmI 33 < 6), if_pos (by decide), if_neg (by decide), if_pos rfl, if_neg n6, h.2.1, nI_1, nm_eq, e6, op1]
            · rw [d45, if_neg (by decide), nameOf_eq, bd1_some, if_neg (by decide : ¬ nmI 45 < 6), if_pos (by decide), if_neg (by decide), if_neg (by decide), if_pos rfl, if_neg n6, h.2.1, nI_1, nm_eq, e6, op1]
          rw [op2]
          cases hy : sOp b n r (i + 1) with
          | inl f =>
            rw [hy] at s3
            dsimp only at s3 ⊢
            obtain ⟨S6, w1, w2, w3⟩ := write_fl s3 w
            rw [w1, bd1_some, bd1_some]
            exact ⟨S6, rfl, p4.trans w2, w3⟩
          | inr y =>
            rw [hy] at s3 hgi
            dsimp only at s3 hgi ⊢
            obtain ⟨s3, s4⟩ := s3
            obtain ⟨S6, w1, w2, w3, w4⟩ := write_ok s3 (by omega) w
            rw [w1, bd1_some, bd1_some]
            have d4 : Dr S S4 dr y.2.1 := s4.of22 (fun j => by rw [gi_si, if_neg (by decide)])
            refine ⟨S6, rfl, p4.trans w2, ?_, d4.app w4⟩
            dsimp only
            rw [List.length_append, show dr + (y.2.1.length + [w].length) = dr + y.2.1.length + 1 from by simp only [List.length_cons, List.length_nil]; omega]
            exact w3
        rcases h2 with h2 | h2
        · obtain ⟨S', m1, m2⟩ := main 33 33 h2.symm (.inl ⟨rfl, rfl⟩)
          refine ⟨S', m1, ?_⟩
          rw [h2]
          exact m2
        · obtain ⟨S', m1, m2⟩ := main 45 126 h2.symm (.inr ⟨rfl, rfl⟩)
          refine ⟨S', m1, ?_⟩
          rw [h2]
          exact m2
      · rw [if_neg h2]
        exact atom_ok _ _ _ _ hn h hb hi hdr (by omega) _ (.inl ⟨h1, fun e => h2 (.inl e), fun e => h2 (.inr e)⟩)
theorem expr_ok {b : Nat → Int32} {n N : Nat} (hn : n ≤ 120) (hN : 120 < N) {S : St} {i dr : Nat} (h : Ok1 S n i dr) (hb : ∀ j, j < n → gi S 20 j = b j) (hi : i ≤ n) (hdr : dr ≤ i) : ∃ S', La_readLevel N N S 0 0 = some S' ∧ Rs S S' n dr (sE b n i) := lev_ok (r := 6) (d0 := 12 * 6 + 1) hn hN (by omega) (oper_ok hn hN 6 (Nat.le_refl _)) N (by omega) S i dr h hb hi hdr
theorem expr_fl {n f N : Nat} (hn : n ≤ 120) (hN : 120 < N) {S : St} (h : Fl1 S n f) : La_readLevel N N S 0 0 = some S := lev_fl hn (by omega) h 0 N (by omega)
