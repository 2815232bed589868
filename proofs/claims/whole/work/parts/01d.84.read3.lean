theorem sLine_gd (b : Nat → Int32) (n : Nat) {i : Nat} (hi : i ≤ n) : match sLine b n i with
    | .inl f => f ≤ n
    | .inr x => i < x.1 ∧ x.1 ≤ n ∧ i + x.2.1.length ≤ x.1 + 1 ∧ 2 ≤ x.2.1.length := by
  unfold sLine
  have hg := sE_gd b n i hi
  cases hx : sE b n i with
  | inl f => rw [hx] at hg; exact hg.2
  | inr x =>
    rw [hx] at hg
    dsimp only at hg ⊢
    by_cases hq : nx b n x.1 = 63
    · rw [if_pos hq]
      have hlt : x.1 < n := nx_lt (by rw [hq]; decide)
      have hg2 := sE_gd b n (x.1 + 1) (by omega)
      cases hy : sE b n (x.1 + 1) with
      | inl f => rw [hy] at hg2; exact hg2.2
      | inr y =>
        rw [hy] at hg2
        dsimp only at hg2 ⊢
        simp only [List.length_append, List.length_cons, List.length_nil]
        omega
    · rw [if_neg hq]
      dsimp only
      simp only [List.length_append, List.length_cons, List.length_nil]
      omega
def Rl (S S' : St) (n dr : Nat) (R : Nat ⊕ (Nat × List Int32 × Li)) : Prop := PF S S' ∧ match R with
  | .inl f => Fl1 S' n f
  | .inr x => Ok1 S' n x.1 (dr + x.2.1.length) ∧ Dr S S' dr x.2.1
theorem line_fl {n f N : Nat} (hn : n ≤ 120) (hN : 120 < N) {S : St} (h : Fl1 S n f) : ∃ S', La_readLine N S = some S' ∧ PF S S' ∧ Fl1 S' n f := by
  unfold La_readLine
  rw [expr_fl hn hN h, bd1_some, next_fl h hn, bd1_some, if_neg (by decide)]
  obtain ⟨S', w1, w2, w3⟩ := write_fl h 59
  rw [w1, bd1_some]
  exact ⟨S', rfl, w2, w3⟩
theorem PF.b {S S' : St} (h : PF S S') {b : Nat → Int32} {n : Nat} (hb : ∀ j, j < n → gi S 20 j = b j) : ∀ j, j < n → gi S' 20 j = b j := fun j hj => (h.1 20 j (by decide) (fun e => absurd e (by decide))).trans (hb j hj)
theorem line_ok {b : Nat → Int32} {n N : Nat} (hn : n ≤ 120) (hN : 120 < N) {S : St} {i dr : Nat} (h : Ok1 S n i dr) (hb : ∀ j, j < n → gi S 20 j = b j) (hi : i ≤ n) (hdr : dr ≤ i) : ∃ S', La_readLine N S = some S' ∧ Rl S S' n dr (sLine b n i) := by
  unfold La_readLine sLine
  obtain ⟨S1, s1, s2, s3⟩ := expr_ok hn hN h hb hi hdr
  have hg := sE_gd b n i hi
  rw [s1, bd1_some]
  cases hx : sE b n i with
  | inl f =>
    rw [hx] at s3
    dsimp only at s3 ⊢
    rw [next_fl s3 hn, bd1_some, if_neg (by decide)]
    obtain ⟨S', w1, w2, w3⟩ := write_fl s3 59
    rw [w1, bd1_some]
    exact ⟨S', rfl, s2.trans w2, w3⟩
  | inr x =>
    rw [hx] at s3 hg
    dsimp only at s3 hg ⊢
    obtain ⟨s3, s4⟩ := s3
    have hb1 := s2.b hb
    rw [next_ok s3 hb1 (by omega) hn, bd1_some]
    by_cases hq : nx b n x.1 = 63
    · rw [if_pos hq, if_pos hq, s3.2.1, nI_1, nm_eq]
      have hlt : x.1 < n := nx_lt (by rw [hq]; decide)
      obtain ⟨S5, w1, w2, w3, w4⟩ := write_ok s3.step (by omega) 63
      have p5 : PF S S5 := (s2.trans (PF.si2 S1 (by omega) _)).trans w2
      have hg2 := sE_gd b n (x.1 + 1) (by omega)
      obtain ⟨S6, t1, t2, t3⟩ := expr_ok hn hN w3 (p5.b hb) (by omega) (by omega)
      rw [w1, bd1_some, t1, bd1_some]
      cases hy : sE b n (x.1 + 1) with
      | inl f =>
        rw [hy] at t3
        dsimp only at t3 ⊢
        obtain ⟨S', v1, v2, v3⟩ := write_fl t3 59
        rw [v1, bd1_some]
        exact ⟨S', rfl, (p5.trans t2).trans v2, v3⟩
      | inr y =>
        rw [hy] at t3 hg2
        dsimp only at t3 hg2 ⊢
        obtain ⟨t3, t4⟩ := t3
        obtain ⟨S7, v1, v2, v3, v4⟩ := write_ok t3 (by omega) 59
        rw [v1, bd1_some]
        have d5 : Dr S S5 dr (x.2.1 ++ [63]) := s4.app (w4.of22 (fun j => by rw [gi_si, if_neg (by decide)]))
        have d6 : Dr S S6 dr (x.2.1 ++ [63] ++ y.2.1) := d5.app (by rw [List.length_append, ← Nat.add_assoc]; exact t4)
        have l6 : dr + (x.2.1 ++ [63] ++ y.2.1).length = dr + x.2.1.length + 1 + y.2.1.length := by simp only [List.length_append, List.length_cons, List.length_nil]; omega
        have d7 : Dr S S7 dr (x.2.1 ++ [63] ++ y.2.1 ++ [59]) := d6.app (by rw [l6]; exact v4)
        refine ⟨S7, rfl, (p5.trans t2).trans v2, ?_, d7⟩
        dsimp only
        rw [List.length_append, ← Nat.add_assoc, l6]
        exact v3
    · rw [if_neg hq, if_neg hq]
      obtain ⟨S7, v1, v2, v3, v4⟩ := write_ok s3 (by omega) 59
      rw [v1, bd1_some]
      refine ⟨S7, rfl, s2.trans v2, ?_, s4.app v4⟩
      dsimp only
      rw [List.length_append, ← Nat.add_assoc]
      exact v3
theorem lines_ok {b : Nat → Int32} {n N : Nat} (hn : n ≤ 120) (hN : 120 < N) {S0 : St} (hb : ∀ j, j < n → gi S0 20 j = b j) :
    ∀ k (x : Nat × List Int32 × List Li) (Sc : St), k ≤ 120 → PF S0 Sc → Ok1 Sc n x.1 x.2.1.length → Dr S0 Sc 0 x.2.1 → x.1 ≤ n → x.2.1.length ≤ x.1 + 1 → ∀ n1, k < n1 → ∃ S', lp (fun kk (y : St × Int32) => La_read_b21 N kk y.1 y.2) n1 (Sc, nI (121 - k)) = La_read_b56 N S' ∧ PF S0 S' ∧ (match sLines b n k x with
      | .inl f => Fl1 S' n f
      | .inr z => Ok1 S' n z.1 z.2.1.length ∧ Dr S0 S' 0 z.2.1 ∧ z.1 ≤ n ∧ z.2.1.length ≤ z.1 + 1)
  | 0, x, Sc, _, h1, h2, h3, h4, h5, n1, h6 => by
    obtain ⟨n1, rfl⟩ : ∃ k, n1 = k + 1 := ⟨n1 - 1, by omega⟩
    refine ⟨Sc, ?_, h1, h2, h3, h4, h5⟩
    show La_read_b21 N (lp (fun kk (y : St × Int32) => La_read_b21 N kk y.1 y.2) n1) Sc (nI 121) = _
    generalize lp (fun kk (y : St × Int32) => La_read_b21 N kk y.1 y.2) n1 = K
    unfold La_read_b21
    rw [if_pos (by decide)]
  | k + 1, x, Sc, hk, h1, h2, h3, h4, h5, n1, h6 => by
    obtain ⟨n1, rfl⟩ : ∃ k, n1 = k + 1 := ⟨n1 - 1, by omega⟩
    have ih := lines_ok (N := N) hn hN hb k
    show ∃ S', La_read_b21 N (lp (fun kk (y : St × Int32) => La_read_b21 N kk y.1 y.2) n1) Sc (nI (121 - (k + 1))) = _ ∧ _
    have flt : ∀ (Sf : St) (f : Nat), Fl1 Sf n f → lp (fun kk (y : St × Int32) => La_read_b21 N kk y.1 y.2) n1 (Sf, nI (121 - k)) = La_read_b56 N Sf := fun Sf f g2 => by
      obtain ⟨n2, rfl⟩ : ∃ k, n1 = k + 1 := ⟨n1 - 1, by omega⟩
      show La_read_b21 N (lp (fun kk (y : St × Int32) => La_read_b21 N kk y.1 y.2) n2) Sf (nI (121 - k)) = _
      generalize lp (fun kk (y : St × Int32) => La_read_b21 N kk y.1 y.2) n2 = K
      unfold La_read_b21
      rw [next_fl g2 hn, bd1_some, if_neg (by decide : ¬ (-1 : Int32) = 59)]
      split <;> rfl
    have hb' := h1.b hb
    unfold sLines
    by_cases hq : nx b n x.1 = 59
    · rw [if_pos hq]
      have hlt : x.1 < n := nx_lt (by rw [hq]; decide)
      have hgl := sLine_gd b n (i := x.1 + 1) (by omega)
      obtain ⟨S3, s1, s2, s3⟩ := line_ok (b := b) hn hN h2.step (fun j hj => (by rw [gi_si, if_neg (by decide)]; exact hb' j hj : gi (si Sc 2 8 (nI (x.1 + 1))) 20 j = b j)) (by omega) (by omega)
      have p3 : PF S0 S3 := (h1.trans (PF.si2 Sc (by omega) _)).trans s2
      have step : La_read_b21 N (lp (fun kk (y : St × Int32) => La_read_b21 N kk y.1 y.2) n1) Sc (nI (121 - (k + 1))) = lp (fun kk (y : St × Int32) => La_read_b21 N kk y.1 y.2) n1 (S3, nI (121 - k)) := by
        generalize lp (fun kk (y : St × Int32) => La_read_b21 N kk y.1 y.2) n1 = K
        unfold La_read_b21
        rw [if_neg (by show ¬ nI 120 < nI (121 - (k + 1)); rw [lt_nI _ _ (by omega) (by omega)]; omega), next_ok h2 hb' h4 hn, bd1_some, if_pos hq, h2.2.1, nI_1, nm_eq, s1, bd1_some, nI_1, nm_eq, show 121 - (k + 1) + 1 = 121 - k from by omega]
      rw [step]
      cases hy : sLine b n (x.1 + 1) with
      | inl f =>
        rw [hy] at s3
        dsimp only at s3 ⊢
        exact ⟨S3, flt S3 f s3, p3, s3⟩
      | inr y =>
        rw [hy] at s3 hgl
        dsimp only at s3 hgl ⊢
        obtain ⟨s3, s4⟩ := s3
        have d3 : Dr S0 S3 0 (x.2.1 ++ y.2.1) := h3.app (by rw [Nat.zero_add]; exact s4.of22 (fun j => by rw [gi_si, if_neg (by decide)]))
        have len : (x.2.1 ++ y.2.1).length = x.2.1.length + y.2.1.length := List.length_append
        exact ih (y.1, x.2.1 ++ y.2.1, x.2.2 ++ [y.2.2]) S3 (by omega) p3 (by dsimp only; rw [len]; exact s3) d3 (by dsimp only; omega) (by dsimp only; rw [len]; omega) n1 (by omega)
    · rw [if_neg hq]
      refine ⟨Sc, ?_, h1, h2, h3, h4, h5⟩
      generalize lp (fun kk (y : St × Int32) => La_read_b21 N kk y.1 y.2) n1 = K
      unfold La_read_b21
      rw [if_neg (by show ¬ nI 120 < nI (121 - (k + 1)); rw [lt_nI _ _ (by omega) (by omega)]; omega), next_ok h2 hb' h4 hn, bd1_some, if_neg hq]
/-- the class reads a text -/
theorem read_ok {b : Nat → Int32} {n N : Nat} (hn : n ≤ 120) (hN : 121 < N) {S : St} (h0 : gi S 2 0 = nI n) (hb : ∀ j, j < n → gi S 20 j = b j) : ∃ (r : Int32) (S' : St), La_read N S = some (r, S') ∧ gi S' 2 0 = 0 ∧ (∀ v i, v ≠ 21 → scr v i = false → (v = 2 → i ≠ 0 ∧ i ≠ 6) → gi S' v i = gi S v i) ∧ (∀ v i, gl S' v i = gl S v i) ∧ match sText b n with
    | .inl f => f ≤ n ∧ r = nI f ∧ (∀ i, gi S' 21 i = gi S 21 i) ∧ gi S' 2 6 = gi S 2 6
    | .inr z => r = -1 ∧ 2 ≤ z.1.length ∧ z.1.length ≤ 121 ∧ gi S' 2 6 = nI z.1.length ∧ ∀ j, j < z.1.length → gi S' 21 j = z.1.getD j 0 := by
  unfold La_read
  simp only [nm_eq]
  obtain ⟨S3, hS3⟩ : ∃ S3, S3 = si (si (si S 2 8 0) 2 7 0) 2 9 (-1) := ⟨_, rfl⟩
  rw [← hS3]
  have o3 : Ok1 S3 n 0 0 := by
    rw [hS3]; unfold Ok1
    simp only [gi_si, gl_si, gi_sl, gl_sl, row_si, row_sl, Nat.reduceEqDiff, reduceIte]
    exact ⟨h0, rfl, trivial, rfl⟩
  have p3 : PF S S3 := by
    rw [hS3]; exact ((PF.si2 S (by omega) _).trans (PF.si2 _ (by omega) _)).trans (PF.si2 _ (by omega) _)
  obtain ⟨S4, l1, l2, l3⟩ := line_ok (N := N) hn (by omega) o3 (p3.b hb) (Nat.zero_le _) (Nat.zero_le _)
  rw [l1, bd1_some]
  have hgl := sLine_gd b n (i := 0) (Nat.zero_le _)
  -- all comes to b56 of a state
  have fin : ∃ S5, La_read_L21 N (S4, 1) = La_read_b56 N S5 ∧ PF S S5 ∧ (match (match sLine b n 0 with
      | .inl f => (.inl f : Nat ⊕ (Nat × List Int32 × List Li))
      | .inr y => sLines b n 120 (y.1, y.2.1, [y.2.2])) with
      | .inl f => Fl1 S5 n f
      | .inr z => Ok1 S5 n z.1 z.2.1.length ∧ (∀ j, j < z.2.1.length → gi S5 22 j = z.2.1.getD j 0) ∧ z.1 ≤ n ∧ z.2.1.length ≤ z.1 + 1) := by
    unfold La_read_L21
    cases hy : sLine b n 0 with
    | inl f =>
      rw [hy] at l3
      dsimp only at l3 ⊢
      refine ⟨S4, ?_, p3.trans l2, l3⟩
      obtain ⟨n2, rfl⟩ : ∃ k, N = k + 1 := ⟨N - 1, by omega⟩
      show La_read_b21 (n2 + 1) (lp (fun kk (y : St × Int32) => La_read_b21 (n2 + 1) kk y.1 y.2) n2) S4 1 = _
      generalize lp (fun kk (y : St × Int32) => La_read_b21 (n2 + 1) kk y.1 y.2) n2 = K
      unfold La_read_b21
      rw [if_neg (by decide), next_fl l3 hn, bd1_some, if_neg (by decide)]
    | inr y =>
      rw [hy] at l3 hgl
      dsimp only at l3 hgl ⊢
      obtain ⟨l3, l4⟩ := l3
      rw [Nat.zero_add] at l3
      obtain ⟨S5, m1, m2, m3⟩ := lines_ok (N := N) hn (by omega) (p3.b hb) 120 (y.1, y.2.1, [y.2.2]) S4 (Nat.le_refl _) l2 l3 l4 hgl.2.1 (by dsimp only; omega) N (by omega)
      refine ⟨S5, m1, p3.trans m2, ?_⟩
      cases hz : sLines b n 120 (y.1, y.2.1, [y.2.2]) with
      | inl f => rw [hz] at m3; exact m3
      | inr z =>
        rw [hz] at m3
        dsimp only at m3 ⊢
        refine ⟨m3.1, fun j hj => ?_, m3.2.2⟩
        have := m3.2.1.2 j hj
        rw [Nat.zero_add] at this; exact this
  obtain ⟨S5, f1, f2, f3⟩ := fin
  have hlen : ∀ z, (match sLine b n 0 with
      | .inl f => (.inl f : Nat ⊕ (Nat × List Int32 × List Li))
      | .inr y => sLines b n 120 (y.1, y.2.1, [y.2.2])) = .inr z → 2 ≤ z.2.1.length := by
    intro z hz
    cases hy : sLine b n 0 with
    | inl f => rw [hy] at hz; cases hz
    | inr y =>
      rw [hy] at hz hgl
      dsimp only at hz hgl
      have key : ∀ k x z, sLines b n k x = .inr z → 2 ≤ x.2.1.length → 2 ≤ z.2.1.length := by
        intro k
        induction k with
        | zero => intro x z h h2; cases h; exact h2
        | succ k ih =>
          intro x z h h2
          unfold sLines at h
          by_cases hq : nx b n x.1 = 59
          · rw [if_pos hq] at h
            cases hw : sLine b n (x.1 + 1) with
            | inl f => rw [hw] at h; cases h
            | inr w =>
              rw [hw] at h
              exact ih _ z h (by dsimp only; rw [List.length_append]; omega)
          · rw [if_neg hq] at h; cases h; exact h2
      exact key 120 _ z hz hgl.2.2.2
  rw [f1]
  have es : sText b n = match (match sLine b n 0 with
      | .inl f => (.inl f : Nat ⊕ (Nat × List Int32 × List Li))
      | .inr y => sLines b n 120 (y.1, y.2.1, [y.2.2])) with
      | .inl f => .inl f
      | .inr z => if z.1 < n then .inl z.1 else .inr (z.2.1, z.2.2) := by
    unfold sText
    cases sLine b n 0 <;> rfl
  rw [es]
  generalize (match sLine b n 0 with
      | .inl f => (.inl f : Nat ⊕ (Nat × List Int32 × List Li))
      | .inr y => sLines b n 120 (y.1, y.2.1, [y.2.2])) = R at *
  -- a fault
  have flt : ∀ (Sf : St) (f : Nat), PF S Sf → Fl1 Sf n f → ∃ r S', La_read_b71 N Sf = some (r, S') ∧ gi S' 2 0 = 0 ∧ (∀ v i, v ≠ 21 → scr v i = false → (v = 2 → i ≠ 0 ∧ i ≠ 6) → gi S' v i = gi S v i) ∧ (∀ v i, gl S' v i = gl S v i) ∧ f ≤ n ∧ r = nI f ∧ (∀ i, gi S' 21 i = gi S 21 i) ∧ gi S' 2 6 = gi S 2 6 := by
    intro Sf f g1 g2
    unfold La_read_b71
    have := g2.2.1
    have n1 := nI_nem1 f (by omega)
    simp only [nm_eq, gi_si, gl_si, gi_sl, gl_sl, row_si, row_sl, Nat.reduceEqDiff, reduceIte, g2.2.2.1, n1]
    refine ⟨_, _, rfl, ?_, fun v i a1 a2 a3 => ?_, fun v i => g1.2 v i, this, rfl, fun i => ?_, ?_⟩
    · simp only [gi_si, gl_si, gi_sl, gl_sl, row_si, row_sl, Nat.reduceEqDiff, reduceIte]
    · rw [gi_si]
      by_cases e : v = 2
      · rw [if_pos e, if_neg (a3 e).1]
        refine g1.1 v i (by omega) (fun _ => ?_)
        subst e
        unfold scr at a2
        simp at a2
        omega
      · rw [if_neg e]
        refine g1.1 v i (fun e2 => ?_) (fun e3 => absurd e3 e)
        subst e2
        exact absurd (show (true : Bool) = false from a2) (by decide)
    · rw [gi_si, if_neg (by decide)]; exact g1.1 21 i (by decide) (fun e => absurd e (by decide))
    · simp only [gi_si, gl_si, gi_sl, gl_sl, row_si, row_sl, Nat.reduceEqDiff, reduceIte]; exact g1.1 2 6 (by decide) (fun _ => .inl (by decide))
  cases R with
  | inl f =>
    dsimp only at f3 ⊢
    unfold La_read_b56
    rw [fail_fl f3 hn, bd1_some]
    obtain ⟨r, S', q⟩ := flt S5 f f2 f3
    refine ⟨r, S', ?_, q.2⟩
    split <;> exact q.1
  | inr z =>
    dsimp only at f3 ⊢
    obtain ⟨g1, g2, g3, g4⟩ := f3
    have hz2 := hlen z rfl
    unfold La_read_b56
    rw [g1.1, g1.2.1]
    by_cases hlt : z.1 < n
    · rw [if_neg (by rw [le_nI _ _ (by omega) (by omega)]; omega), if_pos hlt, fail_ok g1, bd1_some]
      exact flt _ z.1 (f2.trans (PF.si2 S5 (by omega) _)) (Fl1.of g1 g3 (by omega))
    · rw [if_pos (by rw [le_nI _ _ (by omega) (by omega)]; omega), if_neg hlt]
      dsimp only
      unfold La_read_b71
      have e0 : (0 : Int32).toNatClampNeg = 0 := rfl
      have c1 : cpok 0 0 (nI z.2.1.length) 121 121 = true := by
        unfold cpok
        refine decide_eq_true ⟨by decide, by decide, nb0 _ (by omega), ?_, ?_⟩
        · rw [e0, cl _ (by omega)]; omega
        · rw [e0, cl _ (by omega)]; omega
      simp only [nm_eq, gi_si, gl_si, gi_sl, gl_sl, row_si, row_sl, Nat.reduceEqDiff, reduceIte, g1.2.2.1, if_true, g1.2.2.2, c1, ck_true, e0, cl z.2.1.length (by omega), gi_cpi]
      refine ⟨_, _, rfl, ?_, fun v i a1 a2 a3 => ?_, fun v i => f2.2 v i, rfl, hz2, by omega, ?_, fun j hj => ?_⟩
      · simp only [gi_si, gl_si, gi_sl, gl_sl, row_si, row_sl, Nat.reduceEqDiff, reduceIte, gi_cpi]
      · simp only [gi_si, gi_cpi, if_neg a1]
        by_cases e : v = 2
        · rw [if_pos e, if_neg (a3 e).2, if_pos e, if_neg (a3 e).1]
          refine f2.1 v i (by omega) (fun _ => ?_)
          subst e
          unfold scr at a2
          simp at a2
          omega
        · rw [if_neg e, if_neg e]
          refine f2.1 v i (fun e2 => ?_) (fun e3 => absurd e3 e)
          subst e2
          exact absurd (show (true : Bool) = false from a2) (by decide)
      · simp only [gi_si, gl_si, gi_sl, gl_sl, row_si, row_sl, Nat.reduceEqDiff, reduceIte]
      · simp only [gi_si, gl_si, gi_sl, gl_sl, row_si, row_sl, Nat.reduceEqDiff, reduceIte, gi_cpi, Nat.zero_le, true_and, Nat.zero_add, Nat.sub_zero]
        rw [if_pos hj]; exact g2 j hj
