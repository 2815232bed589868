section
variable {bs : Int32} {cb n : Nat} {b : Nat → Int32}
theorem sums_lp {N r : Nat} {e : Nat → Int32} (hB : Bs bs cb) (hn : n ≤ 120) (f_both f_compared f_either f_one f_product f_sums : St → Option (Int32 × St)) {sub : Nat → Re} (hg : Gd n sub) (hw : Wk f_product bs cb n r b e sub) : ∀ k (x : Nat × List Int32 × Va) (V : St), OkM V bs n x.1 r → (∀ j, j < n → gi V cb j = b j) → (∀ k, k < 6 → gi V 53 k = e k) → x.1 ≤ n → n ≤ x.1 + k → ∀ n1, k + 1 < n1 → ∃ v V', lp (fun kk (y : St × Int32) => Mo_sums_b5 N f_both f_compared f_either f_one f_product f_sums kk y.1 y.2) n1 (V, x.2.2 e) = some (v, V') ∧ Rm V V' bs n r e v (sLoop b n sub 3 k x)
  | 0, x, V, h, hb, he, hi, hk, n1, h1 => by
    obtain ⟨n1, rfl⟩ : ∃ k, n1 = k + 1 := ⟨n1 - 1, by omega⟩
    refine ⟨x.2.2 e, V, ?_, PM.refl V, h, rfl⟩
    show Mo_sums_b5 N f_both f_compared f_either f_one f_product f_sums (lp (fun kk (y : St × Int32) => Mo_sums_b5 N f_both f_compared f_either f_one f_product f_sums kk y.1 y.2) n1) V (x.2.2 e) = _
    generalize lp (fun kk (y : St × Int32) => Mo_sums_b5 N f_both f_compared f_either f_one f_product f_sums kk y.1 y.2) n1 = K
    have e0 : ny b n x.1 = 0 := by unfold ny; rw [if_neg (by omega)]
    unfold Mo_sums_b5
    rw [h.2.2.2.1, if_neg (by decide), byte_ok hB h hb hi hn, bd1_some, bd1_some, e0, if_neg (by decide), if_neg (by decide)]
  | k + 1, x, V, h, hb, he, hi, hk, n1, h1 => by
    obtain ⟨n1, rfl⟩ : ∃ k, n1 = k + 1 := ⟨n1 - 1, by omega⟩
    have ih := sums_lp (N := N) hB hn f_both f_compared f_either f_one f_product f_sums hg hw k
    show ∃ v V', Mo_sums_b5 N f_both f_compared f_either f_one f_product f_sums (lp (fun kk (y : St × Int32) => Mo_sums_b5 N f_both f_compared f_either f_one f_product f_sums kk y.1 y.2) n1) V (x.2.2 e) = some (v, V') ∧ _
    have flt : ∀ (Vf : St) (f : Nat) (v : Int32), FlM Vf bs n f → lp (fun kk (y : St × Int32) => Mo_sums_b5 N f_both f_compared f_either f_one f_product f_sums kk y.1 y.2) n1 (Vf, v) = some (v, Vf) := fun Vf f v g2 => by
      obtain ⟨n2, rfl⟩ : ∃ k, n1 = k + 1 := ⟨n1 - 1, by omega⟩
      show Mo_sums_b5 N f_both f_compared f_either f_one f_product f_sums (lp (fun kk (y : St × Int32) => Mo_sums_b5 N f_both f_compared f_either f_one f_product f_sums kk y.1 y.2) n2) Vf v = _
      generalize lp (fun kk (y : St × Int32) => Mo_sums_b5 N f_both f_compared f_either f_one f_product f_sums kk y.1 y.2) n2 = K
      have := g2.2.2.2.2
      unfold Mo_sums_b5
      rw [g2.2.2.2.1, if_pos (nn17 (by omega))]
    unfold sLoop
    generalize hK : lp (fun kk (y : St × Int32) => Mo_sums_b5 N f_both f_compared f_either f_one f_product f_sums kk y.1 y.2) n1 = K at flt ⊢
    unfold Mo_sums_b5 Mo_sums_b30 Mo_sums_b44
    simp only [h.2.2.2.1, show ¬ (0 : Int32) ≤ -1 from by decide, if_false, byte_ok hB h hb hi hn, bd1_some, ny_eq (b := b) (n := n) (i := x.1) (k := 43) (by decide) (by decide), ny_eq (b := b) (n := n) (i := x.1) (k := 45) (by decide) (by decide), lv3, h.2.1, nI_1, nm_eq]
    by_cases hq : nx b n x.1 = 43 ∨ nx b n x.1 = 45
    · have hlt : x.1 < n := nx_lt (by rcases hq with hq | hq <;> (rw [hq]; decide))
      have hgx := hg (x.1 + 1) (by omega)
      have p1 : PM V (si V 44 15 (nI (x.1 + 1))) := PM.si V (.inl rfl) _
      obtain ⟨w, V3, s1, s2, s3⟩ := hw _ (x.1 + 1) h.step (p1.bb hB hb) (p1.ee he) (by omega)
      have p3 := p1.trans s2
      rw [if_pos hq]
      simp only [s1, bd2_some, dd6, if_false, if_true]
      have ev : (if nx b n x.1 = 43 then K (V3, x.2.2 e + w) else if nx b n x.1 = 45 then (if nx b n x.1 = 43 then K (V3, x.2.2 e + w) else K (V3, x.2.2 e - w)) else some (x.2.2 e, V)) = K (V3, op2 (nx b n x.1) (x.2.2 e) w) := by
        rcases hq with hq | hq
        · rw [hq]; rfl
        · rw [hq]; rfl
      have ev2 : (if nx b n x.1 = 43 then (if nx b n x.1 = 43 then K (V3, x.2.2 e + w) else K (V3, x.2.2 e - w)) else if nx b n x.1 = 45 then (if nx b n x.1 = 43 then K (V3, x.2.2 e + w) else K (V3, x.2.2 e - w)) else some (x.2.2 e, V)) = K (V3, op2 (nx b n x.1) (x.2.2 e) w) := by
        rcases hq with hq | hq
        · rw [hq]; rfl
        · rw [hq]; rfl
      first | rw [ev2] | rw [ev]
      cases hy : sub (x.1 + 1) with
      | inl f =>
        rw [hy] at s3
        dsimp only at s3 ⊢
        exact ⟨_, V3, flt V3 f _ s3, p3, s3⟩
      | inr y =>
        rw [hy] at s3 hgx
        dsimp only at s3 hgx ⊢
        obtain ⟨s3, s4⟩ := s3
        rw [s4, ← hK]
        obtain ⟨v, V', t1, t2, t3⟩ := ih (y.1, x.2.1 ++ y.2.1 ++ [nx b n x.1], fun e => op2 (nx b n x.1) (x.2.2 e) (y.2.2 e)) V3 s3 (p3.bb hB hb) (p3.ee he) hgx.2.1 (by dsimp only; omega) n1 (by omega)
        exact ⟨v, V', t1, p3.trans t2, t3⟩
    · have q1 : ¬ nx b n x.1 = 43 := fun e => hq (.inl e)
      have q2 : ¬ nx b n x.1 = 45 := fun e => hq (.inr e)
      rw [if_neg q1, if_neg q2, if_neg hq]
      exact ⟨_, V, rfl, PM.refl V, h, rfl⟩
theorem product_lp {N r : Nat} {e : Nat → Int32} (hB : Bs bs cb) (hn : n ≤ 120) (f_both f_compared f_either f_one f_product f_sums : St → Option (Int32 × St)) {sub : Nat → Re} (hg : Gd n sub) (hw : Wk f_one bs cb n r b e sub) : ∀ k (x : Nat × List Int32 × Va) (V : St), OkM V bs n x.1 r → (∀ j, j < n → gi V cb j = b j) → (∀ k, k < 6 → gi V 53 k = e k) → x.1 ≤ n → n ≤ x.1 + k → ∀ n1, k + 1 < n1 → ∃ v V', lp (fun kk (y : St × Int32 × Int32) => Mo_product_b10 N f_both f_compared f_either f_one f_product f_sums kk y.1 y.2.1 y.2.2) n1 (V, x.2.2 e, ny b n x.1) = some (v, V') ∧ Rm V V' bs n r e v (sLoop b n sub 4 k x)
  | 0, x, V, h, hb, he, hi, hk, n1, h1 => by
    obtain ⟨n1, rfl⟩ : ∃ k, n1 = k + 1 := ⟨n1 - 1, by omega⟩
    refine ⟨x.2.2 e, V, ?_, PM.refl V, h, rfl⟩
    show Mo_product_b10 N f_both f_compared f_either f_one f_product f_sums (lp (fun kk (y : St × Int32 × Int32) => Mo_product_b10 N f_both f_compared f_either f_one f_product f_sums kk y.1 y.2.1 y.2.2) n1) V (x.2.2 e) (ny b n x.1) = _
    generalize lp (fun kk (y : St × Int32 × Int32) => Mo_product_b10 N f_both f_compared f_either f_one f_product f_sums kk y.1 y.2.1 y.2.2) n1 = K
    have e0 : ny b n x.1 = 0 := by unfold ny; rw [if_neg (by omega)]
    unfold Mo_product_b10
    rw [h.2.2.2.1, if_neg (by decide), e0, if_neg (by decide), if_neg (by decide), if_neg (by decide)]
  | k + 1, x, V, h, hb, he, hi, hk, n1, h1 => by
    obtain ⟨n1, rfl⟩ : ∃ k, n1 = k + 1 := ⟨n1 - 1, by omega⟩
    have ih := product_lp (N := N) hB hn f_both f_compared f_either f_one f_product f_sums hg hw k
    show ∃ v V', Mo_product_b10 N f_both f_compared f_either f_one f_product f_sums (lp (fun kk (y : St × Int32 × Int32) => Mo_product_b10 N f_both f_compared f_either f_one f_product f_sums kk y.1 y.2.1 y.2.2) n1) V (x.2.2 e) (ny b n x.1) = some (v, V') ∧ _
    have flt : ∀ (Vf : St) (f : Nat) (v c : Int32), FlM Vf bs n f → lp (fun kk (y : St × Int32 × Int32) => Mo_product_b10 N f_both f_compared f_either f_one f_product f_sums kk y.1 y.2.1 y.2.2) n1 (Vf, v, c) = some (v, Vf) := fun Vf f v c g2 => by
      obtain ⟨n2, rfl⟩ : ∃ k, n1 = k + 1 := ⟨n1 - 1, by omega⟩
      show Mo_product_b10 N f_both f_compared f_either f_one f_product f_sums (lp (fun kk (y : St × Int32 × Int32) => Mo_product_b10 N f_both f_compared f_either f_one f_product f_sums kk y.1 y.2.1 y.2.2) n2) Vf v c = _
      generalize lp (fun kk (y : St × Int32 × Int32) => Mo_product_b10 N f_both f_compared f_either f_one f_product f_sums kk y.1 y.2.1 y.2.2) n2 = K
      have := g2.2.2.2.2
      unfold Mo_product_b10
      rw [g2.2.2.2.1, if_pos (nn17 (by omega))]
    unfold sLoop
    generalize hK : lp (fun kk (y : St × Int32 × Int32) => Mo_product_b10 N f_both f_compared f_either f_one f_product f_sums kk y.1 y.2.1 y.2.2) n1 = K at flt ⊢
    unfold Mo_product_b10 Mo_product_b35 Mo_product_b85
    simp only [h.2.2.2.1, show ¬ (0 : Int32) ≤ -1 from by decide, if_false, ny_eq (b := b) (n := n) (i := x.1) (k := 42) (by decide) (by decide), ny_eq (b := b) (n := n) (i := x.1) (k := 47) (by decide) (by decide), ny_eq (b := b) (n := n) (i := x.1) (k := 37) (by decide) (by decide), lv4, h.2.1, nI_1, nm_eq]
    by_cases hq : nx b n x.1 = 42 ∨ nx b n x.1 = 47 ∨ nx b n x.1 = 37
    · have hlt : x.1 < n := nx_lt (by rcases hq with hq | hq | hq <;> (rw [hq]; decide))
      have hgx := hg (x.1 + 1) (by omega)
      have p1 : PM V (si V 44 15 (nI (x.1 + 1))) := PM.si V (.inl rfl) _
      obtain ⟨w, V3, s1, s2, s3⟩ := hw _ (x.1 + 1) h.step (p1.bb hB hb) (p1.ee he) (by omega)
      have p3 := p1.trans s2
      rw [if_pos hq]
      obtain ⟨c', hc'⟩ : ∃ c, Mo_byteAt V3 = some c := by
        cases hy : sub (x.1 + 1) with
        | inl f => rw [hy] at s3; exact byte_fl hB s3 hn
        | inr y => rw [hy] at s3 hgx; exact ⟨_, byte_ok hB s3.1 (p3.bb hB hb) hgx.2.1 hn⟩
      simp only [s1, bd2_some, hc', bd1_some]
      have ck_nz : ∀ (w : Int32) (y : Option (Int32 × St)), ¬ w = 0 → ck (nz w) y = y := fun w y hw => by
        unfold nz; rw [decide_eq_true hw]; rfl
      have ev : (if nx b n x.1 = 42 then (if nx b n x.1 = 42 then K (V3, x.2.2 e * w, c') else if w = 0 then K (V3, 0, c') else if nx b n x.1 = 47 then ck (nz w) (K (V3, x.2.2 e / w, c')) else ck (nz w) (K (V3, x.2.2 e - x.2.2 e / w * w, c'))) else if nx b n x.1 = 47 then (if nx b n x.1 = 42 then K (V3, x.2.2 e * w, c') else if w = 0 then K (V3, 0, c') else if nx b n x.1 = 47 then ck (nz w) (K (V3, x.2.2 e / w, c')) else ck (nz w) (K (V3, x.2.2 e - x.2.2 e / w * w, c'))) else if nx b n x.1 = 37 then (if nx b n x.1 = 42 then K (V3, x.2.2 e * w, c') else if w = 0 then K (V3, 0, c') else if nx b n x.1 = 47 then ck (nz w) (K (V3, x.2.2 e / w, c')) else ck (nz w) (K (V3, x.2.2 e - x.2.2 e / w * w, c'))) else some (x.2.2 e, V)) = K (V3, op2 (nx b n x.1) (x.2.2 e) w, c') := by
        rcases hq with hq | hq | hq
        · rw [hq]; rfl
        · rw [hq, if_neg (by decide), if_pos rfl, if_neg (by decide), if_pos rfl]
          show _ = K (V3, (if w = 0 then 0 else x.2.2 e / w), c')
          by_cases hw0 : w = 0
          · rw [if_pos hw0, if_pos hw0]
          · rw [if_neg hw0, if_neg hw0, ck_nz w _ hw0]
        · rw [hq, if_neg (by decide), if_neg (by decide), if_pos rfl, if_neg (by decide)]
          show _ = K (V3, (if w = 0 then 0 else x.2.2 e - x.2.2 e / w * w), c')
          by_cases hw0 : w = 0
          · rw [if_pos hw0, if_pos hw0]
          · rw [if_neg hw0, if_neg (by decide : ¬ (37 : Int32) = 47), if_neg hw0, ck_nz w _ hw0]
      rw [ev]
      cases hy : sub (x.1 + 1) with
      | inl f =>
        rw [hy] at s3
        dsimp only at s3 ⊢
        exact ⟨_, V3, flt V3 f _ _ s3, p3, s3⟩
      | inr y =>
        rw [hy] at s3 hgx
        dsimp only at s3 hgx ⊢
        obtain ⟨s3, s4⟩ := s3
        have hc2 : c' = ny b n y.1 := by
          rw [byte_ok hB s3 (p3.bb hB hb) hgx.2.1 hn] at hc'
          exact (Option.some.inj hc').symm
        rw [s4, hc2, ← hK]
        obtain ⟨v, V', t1, t2, t3⟩ := ih (y.1, x.2.1 ++ y.2.1 ++ [nx b n x.1], fun e => op2 (nx b n x.1) (x.2.2 e) (y.2.2 e)) V3 s3 (p3.bb hB hb) (p3.ee he) hgx.2.1 (by dsimp only; omega) n1 (by omega)
        exact ⟨v, V', t1, p3.trans t2, t3⟩
    · have q1 : ¬ nx b n x.1 = 42 := fun e => hq (.inl e)
      have q2 : ¬ nx b n x.1 = 47 := fun e => hq (.inr (.inl e))
      have q3 : ¬ nx b n x.1 = 37 := fun e => hq (.inr (.inr e))
      rw [if_neg q1, if_neg q2, if_neg q3, if_neg hq]
      exact ⟨_, V, rfl, PM.refl V, h, rfl⟩
theorem either_lv {N r : Nat} {e : Nat → Int32} (hN : 122 < N) (hB : Bs bs cb) (hn : n ≤ 120) (f_both f_compared f_either f_one f_product f_sums : St → Option (Int32 × St)) {sub : Nat → Re} (hg : Gd n sub) (hw : Wk f_both bs cb n r b e sub) : Wk (Mo_either_B N f_both f_compared f_either f_one f_product f_sums) bs cb n r b e (sLv b n sub 0 120) := by
  intro V i h hb he hi
  obtain ⟨v1, V1, s1, s2, s3⟩ := hw V i h hb he hi
  have hgi := hg i hi
  unfold Mo_either_B sLv Mo_either_L5
  rw [s1, bd2_some]
  cases hy : sub i with
  | inl f =>
    rw [hy] at s3
    dsimp only at s3 ⊢
    refine ⟨v1, V1, ?_, s2, s3⟩
    obtain ⟨N2, rfl⟩ : ∃ k, N = k + 1 := ⟨N - 1, by omega⟩
    show Mo_either_b5 (N2 + 1) f_both f_compared f_either f_one f_product f_sums (lp (fun k x => Mo_either_b5 (N2 + 1) f_both f_compared f_either f_one f_product f_sums k x.1 x.2) N2) V1 v1 = _
    generalize lp (fun k (x : St × Int32) => Mo_either_b5 (N2 + 1) f_both f_compared f_either f_one f_product f_sums k x.1 x.2) N2 = K
    have := s3.2.2.2.2
    unfold Mo_either_b5
    rw [takes_fl s3 hn, bd2_some, if_pos rfl]
  | inr x =>
    rw [hy] at s3 hgi
    dsimp only at s3 hgi ⊢
    obtain ⟨s3, s4⟩ := s3
    rw [s4]
    obtain ⟨v, V', t1, t2, t3⟩ := either_lp (N := N) hB hn f_both f_compared f_either f_one f_product f_sums hg hw 120 x V1 s3 (s2.bb hB hb) (s2.ee he) hgi.2.1 (by omega) N (by omega)
    exact ⟨v, V', t1, s2.trans t2, t3⟩
theorem both_lv {N r : Nat} {e : Nat → Int32} (hN : 122 < N) (hB : Bs bs cb) (hn : n ≤ 120) (f_both f_compared f_either f_one f_product f_sums : St → Option (Int32 × St)) {sub : Nat → Re} (hg : Gd n sub) (hw : Wk f_compared bs cb n r b e sub) : Wk (Mo_both_B N f_both f_compared f_either f_one f_product f_sums) bs cb n r b e (sLv b n sub 1 120) := by
  intro V i h hb he hi
  obtain ⟨v1, V1, s1, s2, s3⟩ := hw V i h hb he hi
  have hgi := hg i hi
  unfold Mo_both_B sLv Mo_both_L5
  rw [s1, bd2_some]
  cases hy : sub i with
  | inl f =>
    rw [hy] at s3
    dsimp only at s3 ⊢
    refine ⟨v1, V1, ?_, s2, s3⟩
    obtain ⟨N2, rfl⟩ : ∃ k, N = k + 1 := ⟨N - 1, by omega⟩
    show Mo_both_b5 (N2 + 1) f_both f_compared f_either f_one f_product f_sums (lp (fun k x => Mo_both_b5 (N2 + 1) f_both f_compared f_either f_one f_product f_sums k x.1 x.2) N2) V1 v1 = _
    generalize lp (fun k (x : St × Int32) => Mo_both_b5 (N2 + 1) f_both f_compared f_either f_one f_product f_sums k x.1 x.2) N2 = K
    have := s3.2.2.2.2
    unfold Mo_both_b5
    rw [takes_fl s3 hn, bd2_some, if_pos rfl]
  | inr x =>
    rw [hy] at s3 hgi
    dsimp only at s3 hgi ⊢
    obtain ⟨s3, s4⟩ := s3
    rw [s4]
    obtain ⟨v, V', t1, t2, t3⟩ := both_lp (N := N) hB hn f_both f_compared f_either f_one f_product f_sums hg hw 120 x V1 s3 (s2.bb hB hb) (s2.ee he) hgi.2.1 (by omega) N (by omega)
    exact ⟨v, V', t1, s2.trans t2, t3⟩
theorem sums_lv {N r : Nat} {e : Nat → Int32} (hN : 122 < N) (hB : Bs bs cb) (hn : n ≤ 120) (f_both f_compared f_either f_one f_product f_sums : St → Option (Int32 × St)) {sub : Nat → Re} (hg : Gd n sub) (hw : Wk f_product bs cb n r b e sub) : Wk (Mo_sums_B N f_both f_compared f_either f_one f_product f_sums) bs cb n r b e (sLv b n sub 3 120) := by
  intro V i h hb he hi
  obtain ⟨v1, V1, s1, s2, s3⟩ := hw V i h hb he hi
  have hgi := hg i hi
  unfold Mo_sums_B sLv Mo_sums_L5
  rw [s1, bd2_some]
  cases hy : sub i with
  | inl f =>
    rw [hy] at s3
    dsimp only at s3 ⊢
    refine ⟨v1, V1, ?_, s2, s3⟩
    obtain ⟨N2, rfl⟩ : ∃ k, N = k + 1 := ⟨N - 1, by omega⟩
    show Mo_sums_b5 (N2 + 1) f_both f_compared f_either f_one f_product f_sums (lp (fun k x => Mo_sums_b5 (N2 + 1) f_both f_compared f_either f_one f_product f_sums k x.1 x.2) N2) V1 v1 = _
    generalize lp (fun k (x : St × Int32) => Mo_sums_b5 (N2 + 1) f_both f_compared f_either f_one f_product f_sums k x.1 x.2) N2 = K
    have := s3.2.2.2.2
    unfold Mo_sums_b5
    rw [s3.2.2.2.1, if_pos (nn17 (by omega))]
  | inr x =>
    rw [hy] at s3 hgi
    dsimp only at s3 hgi ⊢
    obtain ⟨s3, s4⟩ := s3
    rw [s4]
    obtain ⟨v, V', t1, t2, t3⟩ := sums_lp (N := N) hB hn f_both f_compared f_either f_one f_product f_sums hg hw 120 x V1 s3 (s2.bb hB hb) (s2.ee he) hgi.2.1 (by omega) N (by omega)
    exact ⟨v, V', t1, s2.trans t2, t3⟩
theorem product_lv {N r : Nat} {e : Nat → Int32} (hN : 122 < N) (hB : Bs bs cb) (hn : n ≤ 120) (f_both f_compared f_either f_one f_product f_sums : St → Option (Int32 × St)) {sub : Nat → Re} (hg : Gd n sub) (hw : Wk f_one bs cb n r b e sub) : Wk (Mo_product_B N f_both f_compared f_either f_one f_product f_sums) bs cb n r b e (sLv b n sub 4 120) := by
  intro V i h hb he hi
  obtain ⟨v1, V1, s1, s2, s3⟩ := hw V i h hb he hi
  have hgi := hg i hi
  unfold Mo_product_B sLv Mo_product_L10
  rw [s1, bd2_some]
  cases hy : sub i with
  | inl f =>
    rw [hy] at s3
    dsimp only at s3 ⊢
    refine ⟨v1, V1, ?_, s2, s3⟩
    obtain ⟨c, hc⟩ := byte_fl hB s3 hn
    rw [hc, bd1_some]
    obtain ⟨N2, rfl⟩ : ∃ k, N = k + 1 := ⟨N - 1, by omega⟩
    show Mo_product_b10 (N2 + 1) f_both f_compared f_either f_one f_product f_sums (lp (fun k x => Mo_product_b10 (N2 + 1) f_both f_compared f_either f_one f_product f_sums k x.1 x.2.1 x.2.2) N2) V1 v1 c = _
    generalize lp (fun k (x : St × Int32 × Int32) => Mo_product_b10 (N2 + 1) f_both f_compared f_either f_one f_product f_sums k x.1 x.2.1 x.2.2) N2 = K
    have := s3.2.2.2.2
    unfold Mo_product_b10
    rw [s3.2.2.2.1, if_pos (nn17 (by omega))]
  | inr x =>
    rw [hy] at s3 hgi
    dsimp only at s3 hgi ⊢
    obtain ⟨s3, s4⟩ := s3
    rw [s4, byte_ok hB s3 (s2.bb hB hb) hgi.2.1 hn, bd1_some]
    obtain ⟨v, V', t1, t2, t3⟩ := product_lp (N := N) hB hn f_both f_compared f_either f_one f_product f_sums hg hw 120 x V1 s3 (s2.bb hB hb) (s2.ee he) hgi.2.1 (by omega) N (by omega)
    exact ⟨v, V', t1, s2.trans t2, t3⟩
theorem compared_lv {N r : Nat} {e : Nat → Int32} (hB : Bs bs cb) (hn : n ≤ 120) (f_both f_compared f_either f_one f_product f_sums : St → Option (Int32 × St)) {sub : Nat → Re} (hg : Gd n sub) (hw : Wk f_sums bs cb n r b e sub) : Wk (Mo_compared_B N f_both f_compared f_either f_one f_product f_sums) bs cb n r b e (sLv b n sub 2 1) := by
  intro V i h hb he hi
  obtain ⟨v1, V1, s1, s2, s3⟩ := hw V i h hb he hi
  have hgi := hg i hi
  unfold Mo_compared_B sLv Mo_compared_b37
  rw [s1, bd2_some]
  cases hy : sub i with
  | inl f =>
    rw [hy] at s3
    dsimp only at s3 ⊢
    obtain ⟨c, hc⟩ := byte_fl hB s3 hn
    have := s3.2.2.2.2
    rw [hc, bd1_some, s3.2.2.2.1, if_pos (nn17 (by omega))]
    exact ⟨v1, V1, rfl, s2, s3⟩
  | inr x =>
    rw [hy] at s3 hgi
    dsimp only at s3 hgi ⊢
    obtain ⟨s3, s4⟩ := s3
    have hb1 := s2.bb hB hb
    rw [byte_ok hB s3 hb1 hgi.2.1 hn, bd1_some, s3.2.2.2.1, if_neg (by decide)]
    simp only [ny_eq (b := b) (n := n) (i := x.1) (k := 60) (by decide) (by decide), ny_eq (b := b) (n := n) (i := x.1) (k := 61) (by decide) (by decide), ny_eq (b := b) (n := n) (i := x.1) (k := 62) (by decide) (by decide), s3.2.1, nI_1, nm_eq]
    unfold sLoop
    simp only [lv2]
    by_cases hq : nx b n x.1 = 60 ∨ nx b n x.1 = 61 ∨ nx b n x.1 = 62
    · have hlt : x.1 < n := nx_lt (by rcases hq with hq | hq | hq <;> (rw [hq]; decide))
      have p1 : PM V1 (si V1 44 15 (nI (x.1 + 1))) := PM.si V1 (.inl rfl) _
      obtain ⟨w, V3, t1, t2, t3⟩ := hw _ (x.1 + 1) s3.step (p1.bb hB hb1) (p1.ee (s2.ee he)) (by omega)
      have p3 := (s2.trans p1).trans t2
      rw [if_pos hq, t1]
      simp only [bd2_some]
      have ev : ∀ z : Int32, z = op2 (nx b n x.1) v1 w → ∃ v V', some (z, V3) = some (v, V') ∧ Rm V V' bs n r e v (match sub (x.1 + 1) with
          | .inl f => .inl f
          | .inr y => sLoop b n sub 2 0 (y.1, x.2.1 ++ y.2.1 ++ [nx b n x.1], fun e => op2 (nx b n x.1) (x.2.2 e) (y.2.2 e))) := by
        intro z hz
        refine ⟨z, V3, rfl, p3, ?_⟩
        cases hw2 : sub (x.1 + 1) with
        | inl f => rw [hw2] at t3; exact t3
        | inr y =>
          rw [hw2] at t3
          dsimp only at t3 ⊢
          unfold sLoop
          exact ⟨t3.1, by rw [hz, s4, t3.2]⟩
      rcases hq with hq | hq | hq
      · rw [hq] at ev ⊢
        rw [if_pos rfl, if_pos rfl]
        by_cases hc : w ≤ v1
        · rw [if_pos hc]
          refine ev 0 ?_
          show 0 = if v1 < w then 1 else 0
          rw [if_neg (by rw [Int32.lt_iff_toInt_lt]; rw [Int32.le_iff_toInt_le] at hc; omega)]
        · rw [if_neg hc]
          refine ev 1 ?_
          show 1 = if v1 < w then 1 else 0
          rw [if_pos (by rw [Int32.lt_iff_toInt_lt]; rw [Int32.le_iff_toInt_le] at hc; omega)]
      · rw [hq] at ev ⊢
        rw [if_neg (by decide), if_pos rfl, if_neg (by decide), if_pos rfl]
        by_cases hc : v1 = w
        · rw [if_pos hc]
          refine ev 1 ?_
          show 1 = if v1 = w then 1 else 0
          rw [if_pos hc]
        · rw [if_neg hc]
          refine ev 0 ?_
          show 0 = if v1 = w then 1 else 0
          rw [if_neg hc]
      · rw [hq] at ev ⊢
        rw [if_neg (by decide), if_neg (by decide), if_pos rfl, if_neg (by decide), if_neg (by decide)]
        by_cases hc : v1 ≤ w
        · rw [if_pos hc]
          refine ev 0 ?_
          show 0 = if w < v1 then 1 else 0
          rw [if_neg (by rw [Int32.lt_iff_toInt_lt]; rw [Int32.le_iff_toInt_le] at hc; omega)]
        · rw [if_neg hc]
          refine ev 1 ?_
          show 1 = if w < v1 then 1 else 0
          rw [if_pos (by rw [Int32.lt_iff_toInt_lt]; rw [Int32.le_iff_toInt_le] at hc; omega)]
    · have q1 : ¬ nx b n x.1 = 60 := fun e => hq (.inl e)
      have q2 : ¬ nx b n x.1 = 61 := fun e => hq (.inr (.inl e))
      have q3 : ¬ nx b n x.1 = 62 := fun e => hq (.inr (.inr e))
      rw [if_neg q1, if_neg q2, if_neg q3, if_neg hq]
      exact ⟨_, V1, rfl, s2, s3, s4⟩
end
