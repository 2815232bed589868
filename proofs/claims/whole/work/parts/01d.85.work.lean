/-- what working out leaves alone -/
def PM (V V' : St) : Prop := (∀ v i, (v = 44 → i ≠ 15 ∧ i ≠ 17 ∧ i ≠ 18) → gi V' v i = gi V v i) ∧ ∀ v i, gl V' v i = gl V v i
theorem PM.refl (V : St) : PM V V := ⟨fun _ _ _ => rfl, fun _ _ => rfl⟩
theorem PM.trans {A B C : St} (h1 : PM A B) (h2 : PM B C) : PM A C := ⟨fun v i a => (h2.1 v i a).trans (h1.1 v i a), fun v i => (h2.2 v i).trans (h1.2 v i)⟩
theorem PM.si (V : St) {i : Nat} (h : i = 15 ∨ i = 17 ∨ i = 18) (x : Int32) : PM V (si V 44 i x) := ⟨fun v j a => by
  rw [gi_si]
  by_cases e : v = 44
  · rw [if_pos e, if_neg (by have := a e; omega)]
  · rw [if_neg e], fun _ _ => rfl⟩
/-- where it reads: in the tape (bs -1), in the text (bs 0) -/
def Bs (bs : Int32) (cb : Nat) : Prop := (bs = -1 ∧ cb = 51) ∨ (bs = 0 ∧ cb = 52)
def OkM (V : St) (bs : Int32) (n i r : Nat) : Prop := gi V 44 14 = bs ∧ gi V 44 15 = nI i ∧ gi V 44 16 = nI n ∧ gi V 44 17 = -1 ∧ gi V 44 18 = nI (6 - r)
def FlM (V : St) (bs : Int32) (n f : Nat) : Prop := gi V 44 14 = bs ∧ (∃ i, i ≤ n ∧ gi V 44 15 = nI i) ∧ gi V 44 16 = nI n ∧ gi V 44 17 = nI f ∧ f ≤ n
/-- the byte that the reference reads: 0 behind the end -/
def ny (b : Nat → Int32) (n i : Nat) : Int32 := if i < n then b i else 0
theorem ny_eq {b : Nat → Int32} {n i : Nat} {k : Int32} (h0 : k ≠ 0) (h1 : k ≠ -1) : (ny b n i = k) = (nx b n i = k) := by
  unfold ny nx
  by_cases h : i < n
  · rw [if_pos h, if_pos h]
  · rw [if_neg h, if_neg h]
    have a : ¬ (0 : Int32) = k := fun e => h0 e.symm
    have b : ¬ (-1 : Int32) = k := fun e => h1 e.symm
    simp only [a, b]
theorem ny_lv (b : Nat → Int32) (n i : Nat) : lv (ny b n i) = lv (nx b n i) := by
  unfold ny nx; split
  · rfl
  · decide
theorem ny_nm (b : Nat → Int32) (n i : Nat) : nmI (ny b n i) = nmI (nx b n i) := by
  unfold ny nx; split
  · rfl
  · decide
theorem ny_dg (b : Nat → Int32) (n i : Nat) : dgt (ny b n i) = dgt (nx b n i) := by
  unfold ny nx; split
  · rfl
  · decide
theorem ny_lt {b : Nat → Int32} {n i : Nat} (h : i < n) : ny b n i = nx b n i := by unfold ny nx; rw [if_pos h, if_pos h]
theorem byte_of {V : St} {bs : Int32} {cb n i : Nat} {b : Nat → Int32} (hB : Bs bs cb) (h1 : gi V 44 14 = bs) (h2 : gi V 44 15 = nI i) (h3 : gi V 44 16 = nI n) (hb : ∀ j, j < n → gi V cb j = b j) (hi : i ≤ n) (hn : n ≤ 120) : Mo_byteAt V = some (ny b n i) := by
  unfold Mo_byteAt ny
  rw [h1, h2, h3]
  by_cases hlt : i < n
  · rw [if_neg (by rw [le_nI _ _ (by omega) (by omega)]; omega), if_pos hlt]
    rcases hB with ⟨rfl, rfl⟩ | ⟨rfl, rfl⟩
    · rw [if_neg (by decide), inb_nI (j := i) (n := 120) (by omega) (by omega), ck_true, cl i (by omega), hb i hlt]
    · rw [if_pos (by decide), Int32.zero_add, inb_nI (j := i) (n := 120) (by omega) (by omega), ck_true, cl i (by omega), hb i hlt]
  · rw [if_pos (by rw [le_nI _ _ (by omega) (by omega)]; omega), if_neg hlt]
theorem nn17 {f : Nat} (h : f < 5000) : (0 : Int32) ≤ nI f := by show nI 0 ≤ nI f; rw [le_nI _ _ (by omega) h]; omega
section
variable {bs : Int32} {cb n : Nat} {b : Nat → Int32}
theorem byte_ok (hB : Bs bs cb) {V : St} {i r : Nat} (h : OkM V bs n i r) (hb : ∀ j, j < n → gi V cb j = b j) (hi : i ≤ n) (hn : n ≤ 120) : Mo_byteAt V = some (ny b n i) := byte_of hB h.1 h.2.1 h.2.2.1 hb hi hn
theorem byte_fl (hB : Bs bs cb) {V : St} {f : Nat} (h : FlM V bs n f) (hn : n ≤ 120) : ∃ c, Mo_byteAt V = some c := by
  obtain ⟨h1, ⟨i, hi, h2⟩, h3, -⟩ := h
  exact ⟨_, byte_of (b := gi V cb) hB h1 h2 h3 (fun _ _ => rfl) hi hn⟩
theorem takes_fl {V : St} {f : Nat} (h : FlM V bs n f) (hn : n ≤ 120) (c : Int32) : Mo_takes V c = some (0, V) := by
  unfold Mo_takes
  have := h.2.2.2.2
  rw [h.2.2.2.1, if_pos (nn17 (by omega))]
theorem takes_ok (hB : Bs bs cb) {V : St} {i r : Nat} (h : OkM V bs n i r) (hb : ∀ j, j < n → gi V cb j = b j) (hi : i ≤ n) (hn : n ≤ 120) {c : Int32} (c0 : c ≠ 0) (c1 : c ≠ -1) : Mo_takes V c = if nx b n i = c then some (1, si V 44 15 (nI (i + 1))) else some (0, V) := by
  unfold Mo_takes
  rw [h.2.2.2.1, if_neg (by decide), byte_ok hB h hb hi hn, bd1_some, h.2.1, nI_1, nm_eq]
  simp only [ny_eq c0 c1]
theorem OkM.step {V : St} {i r : Nat} (h : OkM V bs n i r) : OkM (si V 44 15 (nI (i + 1))) bs n (i + 1) r := by
  obtain ⟨h1, h2, h3, h4, h5⟩ := h
  unfold OkM
  simp only [gi_si, gl_si, gi_sl, gl_sl, row_si, row_sl, Nat.reduceEqDiff, reduceIte]
  exact ⟨h1, trivial, h3, h4, h5⟩
/-- what working out gives -/
def Rm (V V' : St) (bs : Int32) (n r : Nat) (e : Nat → Int32) (v : Int32) (R : Re) : Prop := PM V V' ∧ match R with
  | .inl f => FlM V' bs n f
  | .inr x => OkM V' bs n x.1 r ∧ v = x.2.2 e
/-- a method that works out as the text has it -/
def Wk (f : St → Option (Int32 × St)) (bs : Int32) (cb n r : Nat) (b e : Nat → Int32) (o : Nat → Re) : Prop := ∀ V i, OkM V bs n i r → (∀ j, j < n → gi V cb j = b j) → (∀ k, k < 6 → gi V 53 k = e k) → i ≤ n → ∃ v V', f V = some (v, V') ∧ Rm V V' bs n r e v (o i)
/-- a method that gives 0 where there is a fault -/
def Zf (f : St → Option (Int32 × St)) (bs : Int32) (n : Nat) : Prop := ∀ V q, FlM V bs n q → f V = some (0, V)
theorem PM.bb (hB : Bs bs cb) {V V' : St} (h : PM V V') (hb : ∀ j, j < n → gi V cb j = b j) : ∀ j, j < n → gi V' cb j = b j := fun j hj => by
  refine (h.1 cb j (fun e => ?_)).trans (hb j hj)
  rcases hB with ⟨-, rfl⟩ | ⟨-, rfl⟩
  · exact absurd e (by decide)
  · exact absurd e (by decide)
theorem PM.ee {V V' : St} {e : Nat → Int32} (h : PM V V') (he : ∀ k, k < 6 → gi V 53 k = e k) : ∀ k, k < 6 → gi V' 53 k = e k := fun k hk => (h.1 53 k (fun e => absurd e (by decide))).trans (he k hk)
theorem lv0 {c : Int32} : (lv c = 0) = (c = 124) := by
  unfold lv
  by_cases a : c = 124
  · simp [a]
  · rw [if_neg a]
    refine propext ⟨fun h => ?_, fun h => absurd h a⟩
    revert h
    split
    · intro h; omega
    · split
      · intro h; omega
      · split
        · intro h; omega
        · split <;> (intro h; omega)
theorem lv1 {c : Int32} : (lv c = 1) = (c = 38) := by
  unfold lv
  by_cases a : c = 38
  · subst a; decide
  · refine propext ⟨fun h => ?_, fun h => absurd h a⟩
    revert h
    rw [if_neg a]
    split
    · intro h; omega
    · split
      · intro h; omega
      · split
        · intro h; omega
        · split <;> (intro h; omega)
theorem lv2 {c : Int32} : (lv c = 2) = (c = 60 ∨ c = 61 ∨ c = 62) := by
  unfold lv
  by_cases a : c = 60 ∨ c = 61 ∨ c = 62
  · rcases a with rfl | rfl | rfl <;> decide
  · refine propext ⟨fun h => ?_, fun h => absurd h a⟩
    revert h
    rw [if_neg a]
    split
    · intro h; omega
    · split
      · intro h; omega
      · split
        · intro h; omega
        · split <;> (intro h; omega)
theorem lv3 {c : Int32} : (lv c = 3) = (c = 43 ∨ c = 45) := by
  unfold lv
  by_cases a : c = 43 ∨ c = 45
  · rcases a with rfl | rfl <;> decide
  · refine propext ⟨fun h => ?_, fun h => absurd h a⟩
    revert h
    rw [if_neg a]
    split
    · intro h; omega
    · split
      · intro h; omega
      · split
        · intro h; omega
        · split <;> (intro h; omega)
theorem lv4 {c : Int32} : (lv c = 4) = (c = 42 ∨ c = 47 ∨ c = 37) := by
  unfold lv
  by_cases a : c = 42 ∨ c = 47 ∨ c = 37
  · rcases a with rfl | rfl | rfl <;> decide
  · refine propext ⟨fun h => ?_, fun h => absurd h a⟩
    revert h
    rw [if_neg a]
    split
    · intro h; omega
    · split
      · intro h; omega
      · split
        · intro h; omega
        · split <;> (intro h; omega)
theorem either_lp {N r : Nat} {e : Nat → Int32} (hB : Bs bs cb) (hn : n ≤ 120) (f_both f_compared f_either f_one f_product f_sums : St → Option (Int32 × St)) {sub : Nat → Re} (hg : Gd n sub) (hw : Wk f_both bs cb n r b e sub) : ∀ k (x : Nat × List Int32 × Va) (V : St), OkM V bs n x.1 r → (∀ j, j < n → gi V cb j = b j) → (∀ k, k < 6 → gi V 53 k = e k) → x.1 ≤ n → n ≤ x.1 + k → ∀ n1, k + 1 < n1 → ∃ v V', lp (fun kk (y : St × Int32) => Mo_either_b5 N f_both f_compared f_either f_one f_product f_sums kk y.1 y.2) n1 (V, x.2.2 e) = some (v, V') ∧ Rm V V' bs n r e v (sLoop b n sub 0 k x)
  | 0, x, V, h, hb, he, hi, hk, n1, h1 => by
    obtain ⟨n1, rfl⟩ : ∃ k, n1 = k + 1 := ⟨n1 - 1, by omega⟩
    refine ⟨x.2.2 e, V, ?_, PM.refl V, h, rfl⟩
    show Mo_either_b5 N f_both f_compared f_either f_one f_product f_sums (lp (fun kk (y : St × Int32) => Mo_either_b5 N f_both f_compared f_either f_one f_product f_sums kk y.1 y.2) n1) V (x.2.2 e) = _
    generalize lp (fun kk (y : St × Int32) => Mo_either_b5 N f_both f_compared f_either f_one f_product f_sums kk y.1 y.2) n1 = K
    unfold Mo_either_b5
    rw [takes_ok hB h hb hi hn (by decide) (by decide), if_neg (fun hq => by have := nx_lt (b := b) (n := n) (i := x.1) (by rw [hq]; decide); omega), bd2_some, if_pos rfl]
  | k + 1, x, V, h, hb, he, hi, hk, n1, h1 => by
    obtain ⟨n1, rfl⟩ : ∃ k, n1 = k + 1 := ⟨n1 - 1, by omega⟩
    have ih := either_lp (N := N) hB hn f_both f_compared f_either f_one f_product f_sums hg hw k
    show ∃ v V', Mo_either_b5 N f_both f_compared f_either f_one f_product f_sums (lp (fun kk (y : St × Int32) => Mo_either_b5 N f_both f_compared f_either f_one f_product f_sums kk y.1 y.2) n1) V (x.2.2 e) = some (v, V') ∧ _
    have flt : ∀ (Vf : St) (f : Nat) (v : Int32), FlM Vf bs n f → lp (fun kk (y : St × Int32) => Mo_either_b5 N f_both f_compared f_either f_one f_product f_sums kk y.1 y.2) n1 (Vf, v) = some (v, Vf) := fun Vf f v g2 => by
      obtain ⟨n2, rfl⟩ : ∃ k, n1 = k + 1 := ⟨n1 - 1, by omega⟩
      show Mo_either_b5 N f_both f_compared f_either f_one f_product f_sums (lp (fun kk (y : St × Int32) => Mo_either_b5 N f_both f_compared f_either f_one f_product f_sums kk y.1 y.2) n2) Vf v = _
      generalize lp (fun kk (y : St × Int32) => Mo_either_b5 N f_both f_compared f_either f_one f_product f_sums kk y.1 y.2) n2 = K
      unfold Mo_either_b5
      rw [takes_fl g2 hn, bd2_some, if_pos rfl]
    unfold sLoop
    generalize hK : lp (fun kk (y : St × Int32) => Mo_either_b5 N f_both f_compared f_either f_one f_product f_sums kk y.1 y.2) n1 = K at flt ⊢
    unfold Mo_either_b5
    rw [takes_ok hB h hb hi hn (by decide) (by decide)]
    simp only [lv0]
    by_cases hq : nx b n x.1 = 124
    · have hlt : x.1 < n := nx_lt (by rw [hq]; decide)
      have hgx := hg (x.1 + 1) (by omega)
      have p1 : PM V (si V 44 15 (nI (x.1 + 1))) := PM.si V (.inl rfl) _
      obtain ⟨w, V3, s1, s2, s3⟩ := hw _ (x.1 + 1) h.step (p1.bb hB hb) (p1.ee he) (by omega)
      rw [if_pos hq, if_pos hq, bd2_some, if_neg (by decide), s1, bd2_some]
      have p3 := p1.trans s2
      have ev : ∀ w : Int32, (if x.2.2 e = 0 then if w = 0 then K (V3, 0) else K (V3, 1) else K (V3, 1)) = K (V3, op2 (nx b n x.1) (x.2.2 e) w) := fun w => by
        rw [hq]
        unfold op2
        rw [if_pos rfl]
        by_cases a1 : x.2.2 e = 0 <;> by_cases a2 : w = 0 <;> simp [a1, a2]
      rw [ev]
      cases hy : sub (x.1 + 1) with
      | inl f =>
        rw [hy] at s3
        dsimp only at s3 ⊢
        exact ⟨_, V3, flt V3 f _ s3, p3, s3⟩
      | inr y =>
        rw [hy] at s3 hgx
        dsimp only at s3 hgx ⊢
        obtain ⟨s3, s4⟩ := s3
        rw [s4, ← hK]
        obtain ⟨v, V', t1, t2, t3⟩ := ih (y.1, x.2.1 ++ y.2.1 ++ [nx b n x.1], fun e => op2 (nx b n x.1) (x.2.2 e) (y.2.2 e)) V3 s3 (p3.bb hB hb) (p3.ee he) hgx.2.1 (by dsimp only; omega) n1 (by omega)
        exact ⟨v, V', t1, p3.trans t2, t3⟩
    · rw [if_neg hq, if_neg hq, bd2_some, if_pos rfl]
      exact ⟨_, V, rfl, PM.refl V, h, rfl⟩
theorem both_lp {N r : Nat} {e : Nat → Int32} (hB : Bs bs cb) (hn : n ≤ 120) (f_both f_compared f_either f_one f_product f_sums : St → Option (Int32 × St)) {sub : Nat → Re} (hg : Gd n sub) (hw : Wk f_compared bs cb n r b e sub) : ∀ k (x : Nat × List Int32 × Va) (V : St), OkM V bs n x.1 r → (∀ j, j < n → gi V cb j = b j) → (∀ k, k < 6 → gi V 53 k = e k) → x.1 ≤ n → n ≤ x.1 + k → ∀ n1, k + 1 < n1 → ∃ v V', lp (fun kk (y : St × Int32) => Mo_both_b5 N f_both f_compared f_either f_one f_product f_sums kk y.1 y.2) n1 (V, x.2.2 e) = some (v, V') ∧ Rm V V' bs n r e v (sLoop b n sub 1 k x)
  | 0, x, V, h, hb, he, hi, hk, n1, h1 => by
    obtain ⟨n1, rfl⟩ : ∃ k, n1 = k + 1 := ⟨n1 - 1, by omega⟩
    refine ⟨x.2.2 e, V, ?_, PM.refl V, h, rfl⟩
    show Mo_both_b5 N f_both f_compared f_either f_one f_product f_sums (lp (fun kk (y : St × Int32) => Mo_both_b5 N f_both f_compared f_either f_one f_product f_sums kk y.1 y.2) n1) V (x.2.2 e) = _
    generalize lp (fun kk (y : St × Int32) => Mo_both_b5 N f_both f_compared f_either f_one f_product f_sums kk y.1 y.2) n1 = K
    unfold Mo_both_b5
    rw [takes_ok hB h hb hi hn (by decide) (by decide), if_neg (fun hq => by have := nx_lt (b := b) (n := n) (i := x.1) (by rw [hq]; decide); omega), bd2_some, if_pos rfl]
  | k + 1, x, V, h, hb, he, hi, hk, n1, h1 => by
    obtain ⟨n1, rfl⟩ : ∃ k, n1 = k + 1 := ⟨n1 - 1, by omega⟩
    have ih := both_lp (N := N) hB hn f_both f_compared f_either f_one f_product f_sums hg hw k
    show ∃ v V', Mo_both_b5 N f_both f_compared f_either f_one f_product f_sums (lp (fun kk (y : St × Int32) => Mo_both_b5 N f_both f_compared f_either f_one f_product f_sums kk y.1 y.2) n1) V (x.2.2 e) = some (v, V') ∧ _
    have flt : ∀ (Vf : St) (f : Nat) (v : Int32), FlM Vf bs n f → lp (fun kk (y : St × Int32) => Mo_both_b5 N f_both f_compared f_either f_one f_product f_sums kk y.1 y.2) n1 (Vf, v) = some (v, Vf) := fun Vf f v g2 => by
      obtain ⟨n2, rfl⟩ : ∃ k, n1 = k + 1 := ⟨n1 - 1, by omega⟩
      show Mo_both_b5 N f_both f_compared f_either f_one f_product f_sums (lp (fun kk (y : St × Int32) => Mo_both_b5 N f_both f_compared f_either f_one f_product f_sums kk y.1 y.2) n2) Vf v = _
      generalize lp (fun kk (y : St × Int32) => Mo_both_b5 N f_both f_compared f_either f_one f_product f_sums kk y.1 y.2) n2 = K
      unfold Mo_both_b5
      rw [takes_fl g2 hn, bd2_some, if_pos rfl]
    unfold sLoop
    generalize hK : lp (fun kk (y : St × Int32) => Mo_both_b5 N f_both f_compared f_either f_one f_product f_sums kk y.1 y.2) n1 = K at flt ⊢
    unfold Mo_both_b5
    rw [takes_ok hB h hb hi hn (by decide) (by decide)]
    simp only [lv1]
    by_cases hq : nx b n x.1 = 38
    · have hlt : x.1 < n := nx_lt (by rw [hq]; decide)
      have hgx := hg (x.1 + 1) (by omega)
      have p1 : PM V (si V 44 15 (nI (x.1 + 1))) := PM.si V (.inl rfl) _
      obtain ⟨w, V3, s1, s2, s3⟩ := hw _ (x.1 + 1) h.step (p1.bb hB hb) (p1.ee he) (by omega)
      rw [if_pos hq, if_pos hq, bd2_some, if_neg (by decide), s1, bd2_some]
      have p3 := p1.trans s2
      have ev : ∀ w : Int32, (if x.2.2 e = 0 then K (V3, 0) else (if w = 0 then K (V3, 0) else K (V3, 1))) = K (V3, op2 (nx b n x.1) (x.2.2 e) w) := fun w => by
        rw [hq]
        unfold op2
        rw [if_neg (by decide : ¬ (38 : Int32) = 124), if_pos (rfl : (38 : Int32) = 38)]
        by_cases a1 : x.2.2 e = 0 <;> by_cases a2 : w = 0 <;> simp [a1, a2]
      rw [ev]
      cases hy : sub (x.1 + 1) with
      | inl f =>
        rw [hy] at s3
        dsimp only at s3 ⊢
        exact ⟨_, V3, flt V3 f _ s3, p3, s3⟩
      | inr y =>
        rw [hy] at s3 hgx
        dsimp only at s3 hgx ⊢
        obtain ⟨s3, s4⟩ := s3
        rw [s4, ← hK]
        obtain ⟨v, V', t1, t2, t3⟩ := ih (y.1, x.2.1 ++ y.2.1 ++ [nx b n x.1], fun e => op2 (nx b n x.1) (x.2.2 e) (y.2.2 e)) V3 s3 (p3.bb hB hb) (p3.ee he) hgx.2.1 (by dsimp only; omega) n1 (by omega)
        exact ⟨v, V', t1, p3.trans t2, t3⟩
    · rw [if_neg hq, if_neg hq, bd2_some, if_pos rfl]
      exact ⟨_, V, rfl, PM.refl V, h, rfl⟩
end
