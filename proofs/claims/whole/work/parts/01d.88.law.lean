def gst (e : Nat → Int32) (l : Li) (s : Bool × Int32) : Bool × Int32 := if s.1 = true then s else match l.1 with
  | none => (true, l.2 e)
  | some c => if c e = 0 then s else (true, l.2 e)
def ggo (e : Nat → Int32) : List Li → Bool × Int32 → Bool × Int32
  | [], s => s
  | l :: r, s => ggo e r (gst e l s)
theorem ggo_app (e : Nat → Int32) : ∀ L M s, ggo e (L ++ M) s = ggo e M (ggo e L s)
  | [], M, s => rfl
  | l :: r, M, s => ggo_app e r M (gst e l s)
theorem ggo_t (e : Nat → Int32) (v : Int32) : ∀ L, ggo e L (true, v) = (true, v)
  | [] => rfl
  | l :: r => ggo_t e v r
theorem ggo_tvl (e : Nat → Int32) : ∀ L, (ggo e L (false, 0)).2 = tvl e L
  | [] => rfl
  | l :: r => by
    have ih := ggo_tvl e r
    obtain ⟨c, v⟩ := l
    cases c with
    | none =>
      show (ggo e r (true, v e)).2 = v e
      rw [ggo_t]
    | some c =>
      show (ggo e r (if c e = 0 then (false, 0) else (true, v e))).2 = if c e = 0 then tvl e r else v e
      by_cases h : c e = 0
      · rw [if_pos h, if_pos h]; exact ih
      · rw [if_neg h, if_neg h, ggo_t]
section
variable {bs : Int32} {cb n : Nat} {b : Nat → Int32}
theorem lineM {N i : Nat} {e : Nat → Int32} {V : St} (hN : 122 < N) (hB : Bs bs cb) (hn : n ≤ 120) (h : OkM V bs n i 6) (hb : ∀ j, j < n → gi V cb j = b j) (he : ∀ k, k < 6 → gi V 53 k = e k) (hi : i ≤ n) (s : Bool × Int32) : ∃ V3 s', (∀ k33, Mo_workOut_b33 N k33 V (bI s.1) s.2 1 = Mo_workOut_b96 N k33 V3 (bI s'.1) s'.2) ∧ PM V V3 ∧ match sLine b n i with
    | .inl f => FlM V3 bs n f
    | .inr y => OkM V3 bs n y.1 6 ∧ s' = gst e y.2.2 s := by
  obtain ⟨g, gv⟩ := s
  have hw := either_ok (N := N) (e := e) hN hB hn (b := b)
  obtain ⟨v, V1, s1, s2, s3⟩ := hw V i h hb he hi
  have hg := sE_gd b n i hi
  have fin : ∀ (Vk : St) (f : Nat) (l6 l7 : Int32) (k33 : (St × Int32 × Int32 × Int32) → Option (Int32 × St)), FlM Vk bs n f → Mo_workOut_b74 N k33 Vk (bI g) gv l6 l7 = Mo_workOut_b96 N k33 Vk (bI g) gv := fun Vk f l6 l7 k33 hf => by
    have := hf.2.2.2.2
    unfold Mo_workOut_b74
    rw [hf.2.2.2.1, if_pos (nn17 (by omega))]
  have okf : ∀ (Vk : St) (j : Nat) (l6 l7 : Int32) (k33 : (St × Int32 × Int32 × Int32) → Option (Int32 × St)), OkM Vk bs n j 6 → Mo_workOut_b74 N k33 Vk (bI g) gv l6 l7 = if l7 = 0 then Mo_workOut_b96 N k33 Vk (bI g) gv else if g = true then Mo_workOut_b96 N k33 Vk (bI g) gv else Mo_workOut_b96 N k33 Vk (bI true) l6 := fun Vk j l6 l7 k33 hk => by
    unfold Mo_workOut_b74
    rw [hk.2.2.2.1, if_neg (by decide), if_bI]; rfl
  unfold sLine
  cases hx : sE b n i with
  | inl f =>
    rw [hx] at s3
    dsimp only at s3 ⊢
    refine ⟨V1, (g, gv), fun k33 => ?_, s2, s3⟩
    unfold Mo_workOut_b33
    rw [if_neg (by decide), s1, bd2_some, takes_fl s3 hn, bd2_some, if_pos rfl, fin V1 f _ _ _ s3]
  | inr x =>
    rw [hx] at s3 hg
    dsimp only at s3 hg ⊢
    obtain ⟨s3, s4⟩ := s3
    have hb1 := s2.bb hB hb
    have tk := takes_ok hB s3 hb1 hg.2.1 hn (c := 63) (by decide) (by decide)
    by_cases hq : nx b n x.1 = 63
    · rw [if_pos hq] at tk ⊢
      have hlt : x.1 < n := nx_lt (by rw [hq]; decide)
      have p1 : PM V (si V1 44 15 (nI (x.1 + 1))) := s2.trans (PM.si V1 (.inl rfl) _)
      obtain ⟨v2, V2, t1, t2, t3⟩ := hw _ (x.1 + 1) s3.step (p1.bb hB hb) (p1.ee he) (by omega)
      have p2 := p1.trans t2
      cases hy : sE b n (x.1 + 1) with
      | inl f =>
        rw [hy] at t3
        dsimp only at t3 ⊢
        refine ⟨V2, (g, gv), fun k33 => ?_, p2, t3⟩
        unfold Mo_workOut_b33
        rw [if_neg (by decide), s1, bd2_some, tk, bd2_some, if_neg (by decide), t1, bd2_some, bd2_some, fin V2 f _ _ _ t3, fin V2 f _ _ _ t3]
        split <;> rfl
      | inr y =>
        rw [hy] at t3
        dsimp only at t3 ⊢
        obtain ⟨t3, t4⟩ := t3
        refine ⟨V2, gst e (some x.2.2, y.2.2) (g, gv), fun k33 => ?_, p2, t3, rfl⟩
        unfold Mo_workOut_b33
        rw [if_neg (by decide), s1, bd2_some, tk, bd2_some, if_neg (by decide), t1, bd2_some, bd2_some, okf V2 y.1 _ _ _ t3, okf V2 y.1 _ _ _ t3, if_pos rfl, if_neg (by decide : ¬ (1 : Int32) = 0)]
        rw [s4, t4]
        unfold gst
        dsimp only
        by_cases hc : x.2.2 e = 0
        · rw [if_pos hc, if_pos hc]
          cases g <;> rfl
        · rw [if_neg hc, if_neg hc]
          cases g <;> rfl
    · rw [if_neg hq] at tk ⊢
      dsimp only
      refine ⟨V1, gst e (none, x.2.2) (g, gv), fun k33 => ?_, s2, s3, rfl⟩
      unfold Mo_workOut_b33
      rw [if_neg (by decide), s1, bd2_some, tk, bd2_some, if_pos rfl, okf V1 x.1 _ _ _ s3, if_neg (by decide : ¬ (1 : Int32) = 0), s4]
      unfold gst
      cases g <;> rfl
def sRest (b : Nat → Int32) (n k i : Nat) (c : List Int32) (L : List Li) : Nat ⊕ (Nat × List Int32 × List Li) := match sLine b n i with
  | .inl f => .inl f
  | .inr y => sLines b n k (y.1, c ++ y.2.1, L ++ [y.2.2])
theorem work_lp {N : Nat} {e : Nat → Int32} (hN : 122 < N) (hB : Bs bs cb) (hn : n ≤ 120) : ∀ k (i : Nat) (c : List Int32) (L : List Li) (V : St), OkM V bs n i 6 → (∀ j, j < n → gi V cb j = b j) → (∀ k, k < 6 → gi V 53 k = e k) → i ≤ n → n ≤ i + k → ∀ n1, k + 2 < n1 → ∃ v V', lp (fun kk (x : St × Int32 × Int32 × Int32) => Mo_workOut_b33 N kk x.1 x.2.1 x.2.2.1 x.2.2.2) n1 (V, bI (ggo e L (false, 0)).1, (ggo e L (false, 0)).2, 1) = some (v, V') ∧ PM V V' ∧ match sRest b n k i c L with
    | .inl f => FlM V' bs n f
    | .inr z => if z.1 < n then FlM V' bs n z.1 else gi V' 44 17 = -1 ∧ v = (ggo e z.2.2 (false, 0)).2 := by
  intro k
  induction k with
  | zero =>
    intro i c L V h hb he hi hk n1 h1
    obtain ⟨n1, rfl⟩ : ∃ k, n1 = k + 1 + 1 := ⟨n1 - 2, by omega⟩
    obtain ⟨V3, s', a1, a2, a3⟩ := lineM hN hB hn h hb he hi (ggo e L (false, 0))
    have hg := sLine_gd b n hi
    unfold sRest
    cases hx : sLine b n i with
    | inr y => rw [hx] at hg; dsimp only at hg; omega
    | inl f =>
      rw [hx] at a3
      dsimp only at a3 ⊢
      have := a3.2.2.2.2
      refine ⟨s'.2, V3, ?_, a2, a3⟩
      show Mo_workOut_b33 N (lp (fun kk (x : St × Int32 × Int32 × Int32) => Mo_workOut_b33 N kk x.1 x.2.1 x.2.2.1 x.2.2.2) (n1 + 1)) V (bI (ggo e L (false, 0)).1) (ggo e L (false, 0)).2 1 = _
      rw [a1]
      unfold Mo_workOut_b96
      rw [takes_fl a3 hn, bd2_some]
      show Mo_workOut_b33 N (lp (fun kk (x : St × Int32 × Int32 × Int32) => Mo_workOut_b33 N kk x.1 x.2.1 x.2.2.1 x.2.2.2) n1) V3 (bI s'.1) s'.2 0 = _
      generalize lp (fun kk (x : St × Int32 × Int32 × Int32) => Mo_workOut_b33 N kk x.1 x.2.1 x.2.2.1 x.2.2.2) n1 = K
      unfold Mo_workOut_b33
      rw [if_pos rfl, a3.2.2.2.1, if_pos (nn17 (by omega))]
  | succ k ih =>
    intro i c L V h hb he hi hk n1 h1
    obtain ⟨n1, rfl⟩ : ∃ k, n1 = k + 1 + 1 := ⟨n1 - 2, by omega⟩
    obtain ⟨V3, s', a1, a2, a3⟩ := lineM hN hB hn h hb he hi (ggo e L (false, 0))
    have hg := sLine_gd b n hi
    have hd : lp (fun kk (x : St × Int32 × Int32 × Int32) => Mo_workOut_b33 N kk x.1 x.2.1 x.2.2.1 x.2.2.2) (n1 + 1 + 1) (V, bI (ggo e L (false, 0)).1, (ggo e L (false, 0)).2, 1) = Mo_workOut_b96 N (lp (fun kk (x : St × Int32 × Int32 × Int32) => Mo_workOut_b33 N kk x.1 x.2.1 x.2.2.1 x.2.2.2) (n1 + 1)) V3 (bI s'.1) s'.2 := by
      show Mo_workOut_b33 N (lp (fun kk (x : St × Int32 × Int32 × Int32) => Mo_workOut_b33 N kk x.1 x.2.1 x.2.2.1 x.2.2.2) (n1 + 1)) V (bI (ggo e L (false, 0)).1) (ggo e L (false, 0)).2 1 = _
      rw [a1]
    rw [hd]
    unfold sRest Mo_workOut_b96
    cases hx : sLine b n i with
    | inl f =>
      rw [hx] at a3
      dsimp only at a3 ⊢
      have := a3.2.2.2.2
      refine ⟨s'.2, V3, ?_, a2, a3⟩
      rw [takes_fl a3 hn, bd2_some]
      show Mo_workOut_b33 N (lp (fun kk (x : St × Int32 × Int32 × Int32) => Mo_workOut_b33 N kk x.1 x.2.1 x.2.2.1 x.2.2.2) n1) V3 (bI s'.1) s'.2 0 = _
      generalize lp (fun kk (x : St × Int32 × Int32 × Int32) => Mo_workOut_b33 N kk x.1 x.2.1 x.2.2.1 x.2.2.2) n1 = K
      unfold Mo_workOut_b33
      rw [if_pos rfl, a3.2.2.2.1, if_pos (nn17 (by omega))]
    | inr y =>
      rw [hx] at a3 hg
      dsimp only at a3 hg ⊢
      obtain ⟨a3, a4⟩ := a3
      have es : s' = ggo e (L ++ [y.2.2]) (false, 0) := by rw [ggo_app, a4]; rfl
      have hb3 := a2.bb hB hb
      rw [takes_ok hB a3 hb3 hg.2.1 hn (by decide) (by decide)]
      unfold sLines
      by_cases hq : nx b n y.1 = 59
      · have hlt : y.1 < n := nx_lt (by rw [hq]; decide)
        rw [if_pos hq, if_pos hq, bd2_some, es]
        have p4 : PM V (si V3 44 15 (nI (y.1 + 1))) := a2.trans (PM.si V3 (.inl rfl) _)
        obtain ⟨v, V', t1, t2, t3⟩ := ih (y.1 + 1) (c ++ y.2.1) (L ++ [y.2.2]) _ a3.step (p4.bb hB hb) (p4.ee he) (by omega) (by omega) (n1 + 1) (by omega)
        exact ⟨v, V', t1, p4.trans t2, t3⟩
      · rw [if_neg hq, if_neg hq, bd2_some]
        dsimp only
        have last : lp (fun kk (x : St × Int32 × Int32 × Int32) => Mo_workOut_b33 N kk x.1 x.2.1 x.2.2.1 x.2.2.2) (n1 + 1) (V3, bI s'.1, s'.2, 0) = if n ≤ y.1 then some (s'.2, V3) else (bd2 (Mo_wrong V3) fun r2 S1 => some (r2, S1)) := by
          show Mo_workOut_b33 N (lp (fun kk (x : St × Int32 × Int32 × Int32) => Mo_workOut_b33 N kk x.1 x.2.1 x.2.2.1 x.2.2.2) n1) V3 (bI s'.1) s'.2 0 = _
          generalize lp (fun kk (x : St × Int32 × Int32 × Int32) => Mo_workOut_b33 N kk x.1 x.2.1 x.2.2.1 x.2.2.2) n1 = K
          unfold Mo_workOut_b33
          rw [if_pos rfl, a3.2.2.2.1, if_neg (by decide), a3.2.1, a3.2.2.1]
          have e : (nI n ≤ nI y.1) = (n ≤ y.1) := le_nI _ _ (by omega) (by omega)
          simp only [e]
        rw [last]
        by_cases hlt : y.1 < n
        · rw [if_neg (by omega : ¬ n ≤ y.1)]
          obtain ⟨w1, w2, w3⟩ := wrong_ok a3 hg.2.1
          rw [w1, bd2_some]
          exact ⟨_, _, rfl, a2.trans w2, by rw [if_pos hlt]; exact w3⟩
        · rw [if_pos (by omega : n ≤ y.1)]
          exact ⟨_, V3, rfl, a2, by rw [if_neg hlt]; exact ⟨a3.2.2.2.1, by rw [es]⟩⟩
theorem sText_rest : sText b n = match sRest b n 120 0 [] [] with
    | .inl f => .inl f
    | .inr z => if z.1 < n then .inl z.1 else .inr (z.2.1, z.2.2) := by
  unfold sText sRest
  cases sLine b n 0 <;> rfl
theorem workOut_ok {N : Nat} {e : Nat → Int32} {V : St} (hN : 122 < N) (hB : Bs bs cb) (hn : n ≤ 120) (hb : ∀ j, j < n → gi V cb j = b j) (he : ∀ k, k < 6 → gi V 53 k = e k) : ∃ v V', Mo_workOut N V bs (nI n) = some (v, V') ∧ (∀ v i, (v = 44 → i < 14 ∨ 18 < i) → gi V' v i = gi V v i) ∧ (∀ v i, gl V' v i = gl V v i) ∧ match sText b n with
    | .inl f => gi V' 44 17 = nI f ∧ f ≤ n
    | .inr z => gi V' 44 17 = -1 ∧ v = tvl e z.2 := by
  unfold Mo_workOut
  simp only [nm_eq]
  obtain ⟨V5, hV5⟩ : ∃ V5, V5 = si (si (si (si (si V 44 14 bs) 44 15 0) 44 16 (nI n)) 44 17 (-1)) 44 18 0 := ⟨_, rfl⟩
  rw [← hV5]
  have o5 : OkM V5 bs n 0 6 := by
    rw [hV5]; unfold OkM
    simp only [gi_si, gl_si, gi_sl, gl_sl, row_si, row_sl, Nat.reduceEqDiff, reduceIte]
    exact ⟨trivial, rfl, trivial, trivial, rfl⟩
  have g5 : ∀ v i, (v = 44 → i < 14 ∨ 18 < i) → gi V5 v i = gi V v i := fun v i a => by
    rw [hV5]
    simp only [gi_si]
    by_cases ev : v = 44
    · have := a ev
      rw [if_pos ev, if_pos ev, if_pos ev, if_pos ev, if_pos ev, if_neg (by omega), if_neg (by omega), if_neg (by omega), if_neg (by omega), if_neg (by omega)]
    · rw [if_neg ev, if_neg ev, if_neg ev, if_neg ev, if_neg ev]
  have hb5 : ∀ j, j < n → gi V5 cb j = b j := fun j hj => by
    refine (g5 cb j (fun e => ?_)).trans (hb j hj)
    rcases hB with ⟨-, rfl⟩ | ⟨-, rfl⟩
    · exact absurd e (by decide)
    · exact absurd e (by decide)
  have he5 : ∀ k, k < 6 → gi V5 53 k = e k := fun k hk => (g5 53 k (fun e => absurd e (by decide))).trans (he k hk)
  obtain ⟨v, V', t1, t2, t3⟩ := work_lp (c := []) (e := e) hN hB hn 120 0 [] V5 o5 hb5 he5 (Nat.zero_le _) (by omega) N (by omega)
  unfold Mo_workOut_L33
  refine ⟨v, V', t1, fun v i a => ?_, fun v i => ?_, ?_⟩
  · rw [t2.1 v i (fun e => by have := a e; omega)]; exact g5 v i a
  · rw [t2.2 v i, hV5]; rfl
  · rw [sText_rest]
    cases hz : sRest b n 120 0 [] [] with
    | inl f => rw [hz] at t3; exact ⟨t3.2.2.2.1, t3.2.2.2.2⟩
    | inr z =>
      rw [hz] at t3
      dsimp only at t3 ⊢
      by_cases hlt : z.1 < n
      · rw [if_pos hlt] at t3 ⊢; exact ⟨t3.2.2.2.1, t3.2.2.2.2⟩
      · rw [if_neg hlt] at t3 ⊢
        exact ⟨t3.1, by rw [t3.2, ggo_tvl]⟩
end
/-- the reference keeps the tape as its text -/
theorem keep_V (V : St) {F N : Nat} (hF : F ≤ 120) (hf : 121 < N) : ∃ V', Mo_law_L37 N (nI F) (V, 0) = some (1, si V' 44 13 (nI F)) ∧ (∀ v i, v ≠ 52 → gi V' v i = gi V v i) ∧ (∀ v i, gl V' v i = gl V v i) ∧ ∀ j, j < F → gi V' 52 j = gi V 51 j := by
  unfold Mo_law_L37
  have hs : ∀ j (x : St × Int32), j < F → (fun j (x : St × Int32) => ∃ Vj, x = (Vj, nI j) ∧ (∀ v i, v ≠ 52 → gi Vj v i = gi V v i) ∧ (∀ v i, gl Vj v i = gl V v i) ∧ ∀ i, i < j → gi Vj 52 i = gi V 51 i) j x → ∃ x', (∀ k, (fun k (x : St × Int32) => Mo_law_b37 N k x.1 (nI F) x.2) k x = k x') ∧ (fun j (x : St × Int32) => ∃ Vj, x = (Vj, nI j) ∧ (∀ v i, v ≠ 52 → gi Vj v i = gi V v i) ∧ (∀ v i, gl Vj v i = gl V v i) ∧ ∀ i, i < j → gi Vj 52 i = gi V 51 i) (j + 1) x' := by
    rintro j x hj ⟨Vj, rfl, h1, h2, h3⟩
    refine ⟨(si Vj 52 j (gi Vj 51 j), nI (j + 1)), fun k => ?_, _, rfl, fun v i hv => ?_, fun v i => h2 v i, fun i hi => ?_⟩
    · dsimp only
      unfold Mo_law_b37
      rw [if_neg (by rw [le_nI _ _ (by omega) (by omega)]; omega), inb_nI (j := j) (n := 120) (by omega) (by omega), ck_true, ck_true, cl j (by omega), nm_eq, nm_eq, nI_1]
    · rw [gi_si, if_neg hv]; exact h1 v i hv
    · rw [gi_si, if_pos rfl]
      by_cases e : i = j
      · rw [if_pos e, e]; exact h1 51 j (by decide)
      · rw [if_neg e]; exact h3 i (by omega)
  obtain ⟨x, k, e, Vj, rfl, h1, h2, h3⟩ := lp_go _ F hs N 0 (V, 0) (by omega) (by omega) ⟨V, rfl, fun _ _ _ => rfl, fun _ _ => rfl, fun i hi => absurd hi (Nat.not_lt_zero _)⟩
  refine ⟨Vj, ?_, h1, h2, h3⟩
  rw [e]
  dsimp only
  unfold Mo_law_b37
  rw [if_pos (Int32.le_refl _), nm_eq]
theorem RR_law : LS_law RR := by
  rintro S V hRR
  obtain ⟨T, P, Q, F, c, a, B, hC, hN, hPe, hPr, hP, ⟨t1, t2, t3, t4⟩, hLw, hLd, hCh, hBo, hSh⟩ := hRR
  obtain ⟨b, hbd⟩ : ∃ b : Nat → Int32, b = fun j => if j < F then gi T 20 j else 0 := ⟨_, rfl⟩
  have hbS : ∀ j, j < F → gi S 20 j = b j := fun j hj => by rw [hbd]; dsimp only; rw [if_pos hj]; exact hC.1 20 j rfl
  have hbV : ∀ j, j < F → gi V 51 j = b j := fun j hj => by rw [hbd]; dsimp only; rw [if_pos hj]; exact (t4 j (by omega)).1
  obtain ⟨r, S', s1, s2, s3, s4, s5⟩ := read_ok (b := b) (N := fuel) t2 (by decide) ((hC.1 2 0 rfl).trans t1) hbS
  obtain ⟨v, V1, v1, v2, v3, v4⟩ := workOut_ok (b := b) (N := fuel) (e := gi V 53) (V := V) (by decide) (.inl ⟨rfl, rfl⟩) t2 hbV (fun _ _ => rfl)
  unfold Ch_law Mo_law
  rw [s1, bd2_some, t3, v1, bd2_some]
  simp only [nm_eq, gi_si, v2 44 11 (fun _ => .inl (by decide)), t3, Nat.reduceEqDiff, if_false, reduceIte]
  have gS : ∀ v i, v ≠ 21 → v ≠ 2 → scr v i = false → gi S' v i = gi T v i := fun v i a1 a2 a3 => (s3 v i a1 a3 (fun e => absurd e a2)).trans (hC.1 v i a3)
  cases hz : sText b F with
  | inl f =>
    rw [hz] at s5 v4
    dsimp only at s5 v4
    obtain ⟨f1, rfl, f3, f4⟩ := s5
    have rn : ¬ nI f = (-1 : Int32) := nI_nem1 f (by omega)
    rw [if_neg rn, v4.1, if_neg (nb0 f (by omega))]
    have hC' : Core S' (si T 2 0 0) := ⟨fun v i hv => by
      rw [gi_si]
      by_cases e2 : v = 2
      · subst e2
        rw [if_pos rfl]
        by_cases e0 : i = 0
        · rw [if_pos e0, e0]; exact s2
        · rw [if_neg e0]
          by_cases e6 : i = 6
          · rw [e6, f4]; exact hC.1 2 6 rfl
          · exact (s3 2 i (by decide) hv (fun _ => ⟨e0, e6⟩)).trans (hC.1 2 i hv)
      · rw [if_neg e2]
        by_cases e21 : v = 21
        · subst e21; exact (f3 i).trans (hC.1 21 i rfl)
        · exact gS v i e21 e2 hv, fun i => (s4 43 i).trans (hC.2 i)⟩
    refine ⟨_, _, _, rfl, rfl, si T 2 0 0, P, Q, 0, c, a, B, hC', ?_⟩
    have ofm : OfM V V1 := ⟨fun v i hv => v2 v i (fun e => by
      subst e
      unfold scm at hv
      simp at hv
      omega), fun i => v3 63 i⟩
    obtain ⟨hN, hPe, hPr, hP, hTa, hLw, hLd, hCh, hBo, hSh⟩ := ofm.RLk (r := (⟨hN, hPe, hPr, hP, ⟨t1, t2, t3, t4⟩, hLw, hLd, hCh, hBo, hSh⟩ : RLk V T P Q F c a B))
    refine ⟨by simpa only [iN, gi_si, gl_si, gi_sl, gl_sl, row_si, row_sl, Nat.reduceEqDiff, reduceIte] using hN, by simpa only [iPe, gi_si, gl_si, gi_sl, gl_sl, row_si, row_sl, Nat.reduceEqDiff, reduceIte] using hPe, by simpa only [iPr, gi_si, gl_si, gi_sl, gl_sl, row_si, row_sl, Nat.reduceEqDiff, reduceIte] using hPr, by simpa only [rP, gi_si, gl_si, gi_sl, gl_sl, row_si, row_sl, Nat.reduceEqDiff, reduceIte] using hP, ⟨rfl, by omega, rfl, fun j hj => ?_⟩, by simpa only [rLw, gi_si, gl_si, gi_sl, gl_sl, row_si, row_sl, Nat.reduceEqDiff, reduceIte] using hLw, by simpa only [rLd, gi_si, gl_si, gi_sl, gl_sl, row_si, row_sl, Nat.reduceEqDiff, reduceIte] using hLd, by simpa only [rCh, iCe, okv, gi_si, gl_si, gi_sl, gl_sl, row_si, row_sl, Nat.reduceEqDiff, reduceIte] using hCh, by simpa only [rBo, gi_si, gl_si, gi_sl, gl_sl, row_si, row_sl, Nat.reduceEqDiff, reduceIte] using hBo, by simpa only [rSh, rS1, gi_si, gl_si, gi_sl, gl_sl, row_si, row_sl, Nat.reduceEqDiff, reduceIte] using hSh⟩
    simp only [gi_si, gl_si, gi_sl, gl_sl, row_si, row_sl, Nat.reduceEqDiff, reduceIte]
    exact ⟨(hTa.2.2.2 j hj).1, fun h => absurd h (Nat.not_lt_zero _)⟩
  | inr z =>
    rw [hz] at s5 v4
    dsimp only at s5 v4
    obtain ⟨rfl, z1, z2, z3, z4⟩ := s5
    rw [if_pos rfl, v4.1, if_pos (by decide)]
    obtain ⟨V2, w1, w2, w3, w4⟩ := keep_V (si V1 44 11 0) (N := fuel) t2 (by decide)
    rw [w1]
    obtain ⟨T', hT'⟩ : ∃ T' : St, T' = (fun v i => if v = 21 then gi S' 21 i else if v = 2 then (if i = 0 then 0 else if i = 6 then nI z.1.length else gi T 2 i) else gi T v i, T.2) := ⟨_, rfl⟩
    have g21 : ∀ i, gi T' 21 i = gi S' 21 i := fun i => by rw [hT']; rfl
    have g2 : ∀ i, gi T' 2 i = if i = 0 then 0 else if i = 6 then nI z.1.length else gi T 2 i := fun i => by rw [hT']; rfl
    have gT : ∀ v i, v ≠ 21 → v ≠ 2 → gi T' v i = gi T v i := fun v i a1 a2 => by rw [hT']; show (if v = 21 then gi S' 21 i else if v = 2 then (if i = 0 then 0 else if i = 6 then nI z.1.length else gi T 2 i) else gi T v i) = _; rw [if_neg a1, if_neg a2]
    have gTl : ∀ v i, gl T' v i = gl T v i := fun v i => by rw [hT']; rfl
    have hC' : Core S' T' := ⟨fun v i hv => by
      by_cases e21 : v = 21
      · subst e21; exact (g21 i).symm
      · by_cases e2 : v = 2
        · subst e2
          rw [g2]
          by_cases e0 : i = 0
          · rw [if_pos e0, e0]; exact s2
          · rw [if_neg e0]
            by_cases e6 : i = 6
            · rw [if_pos e6, e6]; exact z3
            · rw [if_neg e6]; exact (s3 2 i (by decide) hv (fun _ => ⟨e0, e6⟩)).trans (hC.1 2 i hv)
        · rw [gT v i e21 e2]; exact gS v i e21 e2 hv, fun i => by rw [gTl]; exact (s4 43 i).trans (hC.2 i)⟩
    refine ⟨_, _, _, rfl, rfl, T', P, Q, 0, c, a, B, hC', ?_⟩
    have ofm : OfM V V1 := ⟨fun v i hv => v2 v i (fun e => by
      subst e
      unfold scm at hv
      simp at hv
      omega), fun i => v3 63 i⟩
    have gV : ∀ v i, v ≠ 44 → v ≠ 52 → gi V2 v i = gi V1 v i := fun v i a1 a2 => by rw [w2 v i a2, gi_si, if_neg a1]
    have gV44 : ∀ i, gi V2 44 i = if i = 11 then 0 else gi V1 44 i := fun i => by rw [w2 44 i (by decide), gi_si, if_pos rfl]
    have gVl : ∀ i, gl V2 63 i = gl V1 63 i := fun i => w3 63 i
    obtain ⟨hN, hPe, hPr, hP, hTa, hLw, hLd, hCh, hBo, hSh⟩ := ofm.RLk (r := (⟨hN, hPe, hPr, hP, ⟨t1, t2, t3, t4⟩, hLw, hLd, hCh, hBo, hSh⟩ : RLk V T P Q F c a B))
    have hv45 := fun i => gV 45 i (by decide) (by decide)
    have hv46 := fun i => gV 46 i (by decide) (by decide)
    have hv47 := fun i => gV 47 i (by decide) (by decide)
    have hv48 := fun i => gV 48 i (by decide) (by decide)
    have hv49 := fun i => gV 49 i (by decide) (by decide)
    have hv50 := fun i => gV 50 i (by decide) (by decide)
    have hv51 := fun i => gV 51 i (by decide) (by decide)
    have hv56 := fun i => gV 56 i (by decide) (by decide)
    have hv57 := fun i => gV 57 i (by decide) (by decide)
    have hv58 := fun i => gV 58 i (by decide) (by decide)
    have hv59 := fun i => gV 59 i (by decide) (by decide)
    have hv60 := fun i => gV 60 i (by decide) (by decide)
    have hv61 := fun i => gV 61 i (by decide) (by decide)
    have hv62 := fun i => gV 62 i (by decide) (by decide)
    have ht1 := fun i => gT 1 i (by decide) (by decide)
    have ht7 := fun i => gT 7 i (by decide) (by decide)
    have ht8 := fun i => gT 8 i (by decide) (by decide)
    have ht9 := fun i => gT 9 i (by decide) (by decide)
    have ht11 := fun i => gT 11 i (by decide) (by decide)
    have ht12 := fun i => gT 12 i (by decide) (by decide)
    have ht13 := fun i => gT 13 i (by decide) (by decide)
    have ht14 := fun i => gT 14 i (by decide) (by decide)
    have ht15 := fun i => gT 15 i (by decide) (by decide)
    have ht16 := fun i => gT 16 i (by decide) (by decide)
    have ht17 := fun i => gT 17 i (by decide) (by decide)
    have ht18 := fun i => gT 18 i (by decide) (by decide)
    have ht19 := fun i => gT 19 i (by decide) (by decide)
    have ht20 := fun i => gT 20 i (by decide) (by decide)
    have ht31 := fun i => gT 31 i (by decide) (by decide)
    have ht32 := fun i => gT 32 i (by decide) (by decide)
    have ht33 := fun i => gT 33 i (by decide) (by decide)
    have ht34 := fun i => gT 34 i (by decide) (by decide)
    have ht35 := fun i => gT 35 i (by decide) (by decide)
    have ht36 := fun i => gT 36 i (by decide) (by decide)
    have ht37 := fun i => gT 37 i (by decide) (by decide)
    have ht38 := fun i => gT 38 i (by decide) (by decide)
    have ht39 := fun i => gT 39 i (by decide) (by decide)
    have ht40 := fun i => gT 40 i (by decide) (by decide)
    have ht41 := fun i => gT 41 i (by decide) (by decide)
    have ht42 := fun i => gT 42 i (by decide) (by decide)
    refine ⟨by simpa only [iN, gi_si, gl_si, gi_sl, gl_sl, row_si, row_sl, Nat.reduceEqDiff, reduceIte, gV44, hv45, hv46, hv47, hv48, hv49, hv50, hv51, hv56, hv57, hv58, hv59, hv60, hv61, hv62, ht1, ht7, ht8, ht9, ht11, ht12, ht13, ht14, ht15, ht16, ht17, ht18, ht19, ht20, ht31, ht32, ht33, ht34, ht35, ht36, ht37, ht38, ht39, ht40, ht41, ht42, gVl, gTl] using hN, by simpa only [iPe, gi_si, gl_si, gi_sl, gl_sl, row_si, row_sl, Nat.reduceEqDiff, reduceIte, gV44, hv45, hv46, hv47, hv48, hv49, hv50, hv51, hv56, hv57, hv58, hv59, hv60, hv61, hv62, ht1, ht7, ht8, ht9, ht11, ht12, ht13, ht14, ht15, ht16, ht17, ht18, ht19, ht20, ht31, ht32, ht33, ht34, ht35, ht36, ht37, ht38, ht39, ht40, ht41, ht42, gVl, gTl] using hPe, by simpa only [iPr, gi_si, gl_si, gi_sl, gl_sl, row_si, row_sl, Nat.reduceEqDiff, reduceIte, gV44, hv45, hv46, hv47, hv48, hv49, hv50, hv51, hv56, hv57, hv58, hv59, hv60, hv61, hv62, ht1, ht7, ht8, ht9, ht11, ht12, ht13, ht14, ht15, ht16, ht17, ht18, ht19, ht20, ht31, ht32, ht33, ht34, ht35, ht36, ht37, ht38, ht39, ht40, ht41, ht42, gVl, gTl] using hPr, by simpa only [rP, gi_si, gl_si, gi_sl, gl_sl, row_si, row_sl, Nat.reduceEqDiff, reduceIte, gV44, hv45, hv46, hv47, hv48, hv49, hv50, hv51, hv56, hv57, hv58, hv59, hv60, hv61, hv62, ht1, ht7, ht8, ht9, ht11, ht12, ht13, ht14, ht15, ht16, ht17, ht18, ht19, ht20, ht31, ht32, ht33, ht34, ht35, ht36, ht37, ht38, ht39, ht40, ht41, ht42, gVl, gTl] using hP, ⟨?_, by omega, ?_, fun j hj => ?_⟩, ?_, by simpa only [rLd, gi_si, gl_si, gi_sl, gl_sl, row_si, row_sl, Nat.reduceEqDiff, reduceIte, gV44, hv45, hv46, hv47, hv48, hv49, hv50, hv51, hv56, hv57, hv58, hv59, hv60, hv61, hv62, ht1, ht7, ht8, ht9, ht11, ht12, ht13, ht14, ht15, ht16, ht17, ht18, ht19, ht20, ht31, ht32, ht33, ht34, ht35, ht36, ht37, ht38, ht39, ht40, ht41, ht42, gVl, gTl] using hLd, by simpa only [rCh, iCe, okv, gi_si, gl_si, gi_sl, gl_sl, row_si, row_sl, Nat.reduceEqDiff, reduceIte, gV44, hv45, hv46, hv47, hv48, hv49, hv50, hv51, hv56, hv57, hv58, hv59, hv60, hv61, hv62, ht1, ht7, ht8, ht9, ht11, ht12, ht13, ht14, ht15, ht16, ht17, ht18, ht19, ht20, ht31, ht32, ht33, ht34, ht35, ht36, ht37, ht38, ht39, ht40, ht41, ht42, gVl, gTl] using hCh, by simpa only [rBo, gi_si, gl_si, gi_sl, gl_sl, row_si, row_sl, Nat.reduceEqDiff, reduceIte, gV44, hv45, hv46, hv47, hv48, hv49, hv50, hv51, hv56, hv57, hv58, hv59, hv60, hv61, hv62, ht1, ht7, ht8, ht9, ht11, ht12, ht13, ht14, ht15, ht16, ht17, ht18, ht19, ht20, ht31, ht32, ht33, ht34, ht35, ht36, ht37, ht38, ht39, ht40, ht41, ht42, gVl, gTl] using hBo, by simpa only [rSh, rS1, gi_si, gl_si, gi_sl, gl_sl, row_si, row_sl, Nat.reduceEqDiff, reduceIte, gV44, hv45, hv46, hv47, hv48, hv49, hv50, hv51, hv56, hv57, hv58, hv59, hv60, hv61, hv62, ht1, ht7, ht8, ht9, ht11, ht12, ht13, ht14, ht15, ht16, ht17, ht18, ht19, ht20, ht31, ht32, ht33, ht34, ht35, ht36, ht37, ht38, ht39, ht40, ht41, ht42, gVl, gTl] using hSh⟩
    · rw [g2, if_pos rfl]; rfl
    · rw [gi_si, if_pos rfl, if_neg (by decide), gV44, if_pos rfl]; rfl
    · simp only [gi_si, gl_si, gi_sl, gl_sl, row_si, row_sl, Nat.reduceEqDiff, reduceIte, hv51, ht20]
      exact ⟨(hTa.2.2.2 j hj).1, fun h => absurd h (Nat.not_lt_zero _)⟩
    · have hb52 : ∀ j, j < F → gi V2 52 j = gi T 20 j := fun j hj => by
        rw [w4 j hj, gi_si, if_neg (by decide)]; exact (hTa.2.2.2 j (by omega)).1
      have eb : (fun j => if j < F then (si V2 44 13 (nI F)).1 52 j else 0) = b := by
        rw [hbd]; funext j
        by_cases hj : j < F
        · rw [if_pos hj, if_pos hj]; exact hb52 j hj
        · rw [if_neg hj, if_neg hj]
      have F1 : 1 ≤ F := by
        rcases Nat.eq_zero_or_pos F with h0 | h0
        · have := sLine_gd b F (i := 0) (Nat.zero_le _)
          unfold sText at hz
          cases hy : sLine b F 0 with
          | inl f => rw [hy] at hz; cases hz
          | inr y => rw [hy] at this; dsimp only at this; omega
        · exact h0
      refine .inr ⟨F, z.1, z.2, F1, t2, by rw [gi_si, if_pos rfl, if_pos rfl], fun j hj => ?_, ?_, by omega, z2, ?_, fun j hj => ?_⟩
      · show byt (gi (si V2 44 13 (nI F)) 52 j)
        rw [gi_si, if_neg (by decide), hb52 j hj]
        exact (t4 j (by omega)).2 hj
      · rw [eb, hz]
      · rw [g2, if_neg (by decide), if_pos rfl]
      · show gi T' 21 j = _
        rw [g21]; exact z4 j hj
