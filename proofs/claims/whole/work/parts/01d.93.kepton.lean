/-- two worlds alike but for the kepts think alike where they hold alike open -/
theorem lenU_cg {T T' : St} {x : Int32} (h : ∀ u i, u ≠ 18 → gi T u i = gi T' u i) (ho : ∀ j, opn T j x = opn T' j x) (w : Nat) : ∀ j, lenU T w x j = lenU T' w x j
  | 0 => h 11 w (by decide)
  | j + 1 => by
    unfold lenU con
    rw [lenU_cg h ho w j, ho j, h 14 j (by decide), h 17 j (by decide), h 19 j (by decide)]
theorem soV_cg {T T' : St} {x : Int32} {Q : Nat} (o : Option (List Li)) (h : ∀ u i, u ≠ 18 → gi T u i = gi T' u i) (ho : ∀ j, opn T j x = opn T' j x) (w : Nat) : ∀ j, soV o T Q w x j = soV o T' Q w x j
  | 0 => rfl
  | j + 1 => by
    have e0 : evn T Q j x = evn T' Q j x := by
      funext k
      unfold evn whN
      rw [h 16 j (by decide), h 17 j (by decide), h 14 j (by decide), h 19 j (by decide), lenU_cg h ho _ Q, h 12 _ (by decide)]
    unfold soV con ckv
    rw [soV_cg o h ho w j, ho j, h 14 j (by decide), h 16 j (by decide), h 17 j (by decide), h 19 j (by decide), e0]
/-- the world with a promise kept on a day -/
def kp (T : St) (p : Nat) (x : Int32) : St := si T 18 p x
theorem kp_off (T : St) (p : Nat) (x : Int32) (u i : Nat) (h : u ≠ 18) : gi (kp T p x) u i = gi T u i := by
  unfold kp; rw [gi_si, if_neg h]
theorem kp_18 (T : St) (p : Nat) (x : Int32) (j : Nat) : gi (kp T p x) 18 j = if j = p then x else gi T 18 j := by
  unfold kp; rw [gi_si, if_pos rfl]
theorem fwr_kp (o : Option (List Li)) (T : St) (Q w d p k : Nat) (x y : Int32) (h : opn (kp T p x) p (nI k) = opn (kp T p y) p (nI k)) : fwr o (kp T p x) Q w d k = fwr o (kp T p y) Q w d k := by
  unfold fwr
  rw [soV_cg o (fun u i hu => (kp_off T p x u i hu).trans (kp_off T p y u i hu).symm) (fun j => ?_) w Q]
  · rfl
  · by_cases hj : j = p
    · subst hj; exact h
    · unfold opn; rw [kp_off _ _ _ 15 _ (by decide), kp_off _ _ _ 15 _ (by decide), kp_18, kp_18, if_neg hj, if_neg hj]
theorem fwr_lo (o : Option (List Li)) (T : St) (Q w d p k : Nat) (x : Int32) (h : x = -1 ∨ ¬ x ≤ nI k) : fwr o (kp T p x) Q w d k = fwr o (kp T p (-1)) Q w d k := by
  refine fwr_kp o T Q w d p k x (-1) ?_
  unfold opn
  rw [kp_off _ _ _ 15 _ (by decide), kp_off _ _ _ 15 _ (by decide), kp_18, kp_18, if_pos rfl, if_pos rfl]
  rcases h with h | h
  · rw [h]
  · rw [decide_eq_false h, decide_eq_true (rfl : (-1 : Int32) = -1), Bool.not_false, Bool.or_true, Bool.true_or]
theorem fwr_hi (o : Option (List Li)) (T : St) (Q w d p k : Nat) (hk : k < 100) (x : Int32) (h1 : ¬ x = -1) (h : x ≤ nI k) : fwr o (kp T p x) Q w d k = fwr o (kp T p (nI k)) Q w d k := by
  refine fwr_kp o T Q w d p k x (nI k) ?_
  unfold opn
  rw [kp_off _ _ _ 15 _ (by decide), kp_off _ _ _ 15 _ (by decide), kp_18, kp_18, if_pos rfl, if_pos rfl, decide_eq_false h1, decide_eq_true h, decide_eq_false (nI_nem1 k (by omega)), decide_eq_true (Int32.le_refl (nI k))]
theorem iN_kp {T : St} {P Q : Nat} (h : iN T P Q) (p : Nat) (x : Int32) : iN (kp T p x) P Q := by
  obtain ⟨a, b, e, f⟩ := h
  exact ⟨(kp_off _ _ _ 1 9 (by decide)).trans a, b, (kp_off _ _ _ 1 10 (by decide)).trans e, f⟩
theorem iPe_kp {T : St} {P : Nat} (h : iPe T P) (p : Nat) (x : Int32) : iPe (kp T p x) P := by
  intro j hj
  rw [kp_off _ _ _ 11 _ (by decide), kp_off _ _ _ 12 _ (by decide), kp_off _ _ _ 13 _ (by decide)]
  exact h j hj
theorem iPr_kp {T : St} {P Q : Nat} (h : iPr T P Q) (p : Nat) {x : Int32} (hx : -1 ≤ x.toInt ∧ x.toInt ≤ 99) : iPr (kp T p x) P Q := by
  intro j hj
  rw [kp_off _ _ _ 14 _ (by decide), kp_off _ _ _ 15 _ (by decide), kp_off _ _ _ 16 _ (by decide), kp_off _ _ _ 17 _ (by decide), kp_off _ _ _ 19 _ (by decide), kp_18]
  obtain ⟨a1, a2, a3, a4, a5⟩ := h j hj
  refine ⟨a1, a2, a3, ?_, a5⟩
  by_cases e : j = p
  · rw [if_pos e]; exact hx
  · rw [if_neg e]; exact a4
theorem LcT_kp {T : St} {o : Option (List Li)} (h : LcT T o) (p : Nat) (x : Int32) : LcT (kp T p x) o := by
  cases o with
  | none => exact (kp_off _ _ _ 2 6 (by decide)).trans h
  | some L =>
    obtain ⟨cd, a1, a2, a3, a4, a5⟩ := h
    exact ⟨cd, a1, a2, a3, (kp_off _ _ _ 2 6 (by decide)).trans a4, fun j hj => (kp_off _ _ _ 21 j (by decide)).trans (a5 j hj)⟩
/-- the class but for one kept -/
def CoX (S T : St) (p : Nat) : Prop := (∀ v i, scr v i = false → ¬ (v = 18 ∧ i = p) → gi S v i = gi T v i) ∧ ∀ i, gl S 43 i = gl T 43 i
theorem CoX.of {S T : St} {p : Nat} {x : Int32} (h : Core S (kp T p x)) : CoX S T p := ⟨fun v i h1 h2 => by
  rw [h.1 v i h1]
  by_cases e : v = 18
  · subst e; rw [kp_18, if_neg (fun e => h2 ⟨rfl, e⟩)]
  · exact kp_off _ _ _ _ _ e, fun i => h.2 i⟩
theorem CoX.put {S T : St} {p : Nat} (h : CoX S T p) (x : Int32) : Core (si S 18 p x) (kp T p x) := ⟨fun v i h1 => by
  unfold kp
  rw [gi_si, gi_si]
  by_cases e : v = 18
  · rw [if_pos e, if_pos e]
    by_cases e2 : i = p
    · rw [if_pos e2, if_pos e2]
    · rw [if_neg e2, if_neg e2]; exact h.1 v i h1 (fun q => e2 q.2)
  · rw [if_neg e, if_neg e]; exact h.1 v i h1 (fun q => e q.1), fun i => h.2 i⟩
theorem CoX.back {S T : St} {p : Nat} (h : CoX S T p) : Core (si S 18 p (gi T 18 p)) T := ⟨fun v i h1 => by
  rw [gi_si]
  by_cases e : v = 18
  · rw [if_pos e]
    by_cases e2 : i = p
    · rw [if_pos e2, e, e2]
    · rw [if_neg e2]; exact h.1 v i h1 (fun q => e2 q.2)
  · rw [if_neg e]; exact h.1 v i h1 (fun q => e q.1), fun i => h.2 i⟩
theorem CoX.scr {S T : St} {p v : Nat} (h : CoX S T p) (hv : ∀ i, scr v i = true) (i : Nat) (x : Int32) : CoX (si S v i x) T p := ⟨fun u j h1 h2 => by
  have hu : u ≠ v := fun e => by rw [e, hv j] at h1; exact Bool.noConfusion h1
  rw [gi_si, if_neg hu]; exact h.1 u j h1 h2, fun i => h.2 i⟩
theorem CoX.ofC {S T : St} (h : Core S T) (p : Nat) : CoX S T p := ⟨fun v i h1 _ => h.1 v i h1, h.2⟩
/-- a day compared: with the promise open, and kept on it -/
theorem cmp_S {T : St} {P Q N nn d w p : Nat} {o : Option (List Li)} (hNn : iN T P Q) (hPe : iPe T P) (hPr : iPr T P Q) (hL : LcT T o) (hd : d < 6) (hnn : nn ≤ 60) (h40 : gi T 40 d = nI nn) (hp : p < 10) (hN : 122 < N) {S : St} (hC : Core S T) : ∃ S', Cr_compareOpenAndKept N S (nI d) (nI p) (nI w) = some S' ∧ Core S' T ∧ ∀ k, k < nn → gi S' 29 k = bI (!fwr o (kp T p (-1)) Q w d k) ∧ gi S' 30 k = bI (!fwr o (kp T p (nI k)) Q w d k) := by
  unfold Cr_compareOpenAndKept Cr_compareOpenAndKept_L14
  rw [inb_nI hp (by omega), ck_true, cl p (by omega), nm_eq, hC.g 18 (fun _ => rfl)]
  have hs : ∀ j (x : St × Int32), j < nn → (fun j (x : St × Int32) => ∃ Sj, x = (Sj, nI j) ∧ CoX Sj T p ∧ ∀ k, k < j → gi Sj 29 k = bI (!fwr o (kp T p (-1)) Q w d k) ∧ gi Sj 30 k = bI (!fwr o (kp T p (nI k)) Q w d k)) j x → ∃ x', (∀ k, (fun k (x : St × Int32) => Cr_compareOpenAndKept_b14 N k x.1 (nI d) (nI p) (nI w) (gi T 18 p) x.2) k x = k x') ∧ (fun j (x : St × Int32) => ∃ Sj, x = (Sj, nI j) ∧ CoX Sj T p ∧ ∀ k, k < j → gi Sj 29 k = bI (!fwr o (kp T p (-1)) Q w d k) ∧ gi Sj 30 k = bI (!fwr o (kp T p (nI k)) Q w d k)) (j + 1) x' := by
    rintro j x hj ⟨Sj, rfl, h1, h2⟩
    obtain ⟨S4, s1, s2, s3⟩ := ofOne_S (N := N) (S := si Sj 18 p (-1)) ⟨h1.put (-1), iN_kp hNn p _, iPe_kp hPe p _, iPr_kp hPr p (by decide)⟩ (LcT_kp hL p _) w (nI j) hN
    have c4 := CoX.of s2
    have c5 : CoX (si S4 29 j (bI (!fwr o (kp T p (-1)) Q w d j))) T p := c4.scr (fun _ => rfl) _ _
    obtain ⟨S7, t1, t2, t3⟩ := ofOne_S (N := N) (S := si (si S4 29 j (bI (!fwr o (kp T p (-1)) Q w d j))) 18 p (nI j)) ⟨c5.put (nI j), iN_kp hNn p _, iPe_kp hPe p _, iPr_kp hPr p (by rw [ti j (by omega)]; omega)⟩ (LcT_kp hL p _) w (nI j) hN
    have c7 : CoX (si S7 30 j (bI (!fwr o (kp T p (nI j)) Q w d j))) T p := (CoX.of t2).scr (fun _ => rfl) _ _
    refine ⟨(si S7 30 j (bI (!fwr o (kp T p (nI j)) Q w d j)), nI (j + 1)), fun k => ?_, _, rfl, c7, fun k hk => ?_⟩
    · dsimp only
      have b71 : ∀ (k14 : (St × Int32) → Option St), Cr_compareOpenAndKept_b71 N k14 S4 (nI d) (nI p) (nI w) (gi T 18 p) (nI j) (bI (!fwr o (kp T p (-1)) Q w d j)) (nI j) = k14 (si S7 30 j (bI (!fwr o (kp T p (nI j)) Q w d j)), nI (j + 1)) := by
        intro k14
        unfold Cr_compareOpenAndKept_b71 Sh_elementAt
        rw [inb_nI (j := j) (n := 60) (by omega) (by omega), ck_true, isB_bI, ck_true, nm_eq, inb_nI hp (by omega), ck_true, nm_eq, cl j (by omega), cl p (by omega), (s60 d).1, nI_add, inb_nI (j := 60 * d + j) (n := 360) (by omega) (by omega), ck_true, cl (60 * d + j) (by omega), bd1_some, t1, bd2_some, (c5.put (nI j)).2]
        simp only [lgc_0, nm_eq, nI_1, ck_true]
        unfold fwr
        by_cases h : gl (kp T p (nI j)) 43 (60 * d + j) = Int32.toInt64 (soV o (kp T p (nI j)) Q w (nI j) Q)
        · rw [if_pos h, decide_eq_true h]; rfl
        · rw [if_neg h, decide_eq_false h]; rfl
      unfold Cr_compareOpenAndKept_b14 Sh_elementAt
      rw [inb_nI hd (by omega), ck_true, cl d (by omega), h1.1 40 d rfl (by omega), h40, if_neg (by rw [le_nI _ _ (by omega) (by omega)]; omega), inb_nI hp (by omega), ck_true, nm_eq, cl p (by omega), (s60 d).1, nI_add, inb_nI (j := 60 * d + j) (n := 360) (by omega) (by omega), ck_true, cl (60 * d + j) (by omega), bd1_some, s1, bd2_some, (h1.put (-1)).2]
      simp only [lgc_0]
      rw [← b71 k]
      unfold fwr
      by_cases h : gl (kp T p (-1)) 43 (60 * d + j) = Int32.toInt64 (soV o (kp T p (-1)) Q w (nI j) Q)
      · rw [if_pos h, decide_eq_true h]; rfl
      · rw [if_neg h, decide_eq_false h]; rfl
    · have e29 : ∀ k, gi (si S7 30 j (bI (!fwr o (kp T p (nI j)) Q w d j))) 29 k = if k = j then bI (!fwr o (kp T p (-1)) Q w d j) else gi Sj 29 k := by
        intro k
        rw [gi_si, if_neg (by decide), t3 29 k (by decide) (by decide), gi_si, if_neg (by decide), gi_si, if_pos rfl, s3 29 k (by decide) (by decide), gi_si, if_neg (show ¬ (29 : Nat) = 18 by decide)]
      have e30 : ∀ k, gi (si S7 30 j (bI (!fwr o (kp T p (nI j)) Q w d j))) 30 k = if k = j then bI (!fwr o (kp T p (nI j)) Q w d j) else gi Sj 30 k := by
        intro k
        rw [gi_si, if_pos rfl, t3 30 k (by decide) (by decide), gi_si, if_neg (show ¬ (30 : Nat) = 18 by decide), gi_si, if_neg (show ¬ (30 : Nat) = 29 by decide), s3 30 k (by decide) (by decide), gi_si, if_neg (show ¬ (30 : Nat) = 18 by decide)]
      rw [e29, e30]
      by_cases e : k = j
      · rw [if_pos e, if_pos e, e]; exact ⟨rfl, rfl⟩
      · rw [if_neg e, if_neg e]; exact h2 k (by omega)
  obtain ⟨x, k, e, Sj, rfl, h1, h2⟩ := lp_go _ nn hs N 0 (S, 0) (by omega) (by omega) ⟨S, rfl, CoX.ofC hC p, fun k hk => absurd hk (Nat.not_lt_zero k)⟩
  refine ⟨si Sj 18 p (gi T 18 p), ?_, h1.back, fun k hk => ?_⟩
  · rw [e]
    dsimp only
    unfold Cr_compareOpenAndKept_b14
    rw [inb_nI hd (by omega), ck_true, cl d (by omega), h1.1 40 d rfl (by omega), h40, if_pos (Int32.le_refl _), inb_nI hp (by omega), ck_true, nm_eq, cl p (by omega)]
  · rw [gi_si, if_neg (by decide), gi_si, if_neg (by decide)]; exact h2 k hk
/-- the class: is the row so if kept on a day -/
theorem isSo_S {S T : St} {Q N nn d w p : Nat} {o : Option (List Li)} (hd : d < 6) (hnn : nn ≤ 60) (h40 : gi S 40 d = nI nn) (h2 : ∀ k, k < nn → gi S 29 k = bI (!fwr o (kp T p (-1)) Q w d k) ∧ gi S 30 k = bI (!fwr o (kp T p (nI k)) Q w d k)) (v : Int32) : ∀ (m k : Nat), k + m = nn → ∀ n1, m < n1 → lp (fun kk (x : Int32) => Cr_isSoIfKeptOn_b2 N kk S v (nI d) x) n1 (nI k) = some (bI (decide (fsr (fwr o (kp T p v) Q w d) k m = -2)))
  | 0, k, hk, n1, h1 => by
    obtain ⟨n1, rfl⟩ : ∃ k, n1 = k + 1 := ⟨n1 - 1, by omega⟩
    show Cr_isSoIfKeptOn_b2 N (lp (fun kk (x : Int32) => Cr_isSoIfKeptOn_b2 N kk S v (nI d) x) n1) S v (nI d) (nI k) = _
    generalize lp (fun kk (x : Int32) => Cr_isSoIfKeptOn_b2 N kk S v (nI d) x) n1 = K
    unfold Cr_isSoIfKeptOn_b2
    rw [inb_nI hd (by omega), ck_true, cl d (by omega), h40, if_pos (by rw [le_nI _ _ (by omega) (by omega)]; omega)]; rfl
  | m + 1, k, hk, n1, h1 => by
    obtain ⟨n1, rfl⟩ : ∃ k, n1 = k + 1 := ⟨n1 - 1, by omega⟩
    have t1 := isSo_S (N := N) (w := w) hd hnn h40 h2 v m (k + 1) (by omega) n1 (by omega)
    obtain ⟨g1, g2⟩ := h2 k (by omega)
    have step : Cr_isSoIfKeptOn_b2 N (lp (fun kk (x : Int32) => Cr_isSoIfKeptOn_b2 N kk S v (nI d) x) n1) S v (nI d) (nI k) = if fwr o (kp T p v) Q w d k = true then some 0 else lp (fun kk (x : Int32) => Cr_isSoIfKeptOn_b2 N kk S v (nI d) x) n1 (nI (k + 1)) := by
      generalize lp (fun kk (x : Int32) => Cr_isSoIfKeptOn_b2 N kk S v (nI d) x) n1 = K
      have b1 : Cr_isSoIfKeptOn_b30 N K S v (nI d) (nI k) 1 = if fwr o (kp T p (-1)) Q w d k = true then some 0 else K (nI (k + 1)) := by
        unfold Cr_isSoIfKeptOn_b30
        rw [if_neg (by decide), inb_nI (j := k) (n := 60) (by omega) (by omega), ck_true, cl k (by omega), g1, nm_eq, nI_1]
        cases fwr o (kp T p (-1)) Q w d k <;> rfl
      have b0 : Cr_isSoIfKeptOn_b30 N K S v (nI d) (nI k) 0 = if fwr o (kp T p (nI k)) Q w d k = true then some 0 else K (nI (k + 1)) := by
        unfold Cr_isSoIfKeptOn_b30
        rw [if_pos rfl, inb_nI (j := k) (n := 60) (by omega) (by omega), ck_true, cl k (by omega), g2, nm_eq, nI_1]
        cases fwr o (kp T p (nI k)) Q w d k <;> rfl
      unfold Cr_isSoIfKeptOn_b2
      rw [inb_nI hd (by omega), ck_true, cl d (by omega), h40, if_neg (by rw [le_nI _ _ (by omega) (by omega)]; omega), b1, b0]
      by_cases e1 : v = -1
      · rw [if_pos e1, fwr_lo o T Q w d p k v (.inl e1)]
      · rw [if_neg e1]
        by_cases e2 : v ≤ nI k
        · rw [if_pos e2, fwr_hi o T Q w d p k (by omega) v e1 e2]
        · rw [if_neg e2, fwr_lo o T Q w d p k v (.inr e2)]
    show Cr_isSoIfKeptOn_b2 N (lp (fun kk (x : Int32) => Cr_isSoIfKeptOn_b2 N kk S v (nI d) x) n1) S v (nI d) (nI k) = _
    rw [step]
    unfold fsr
    by_cases h : fwr o (kp T p v) Q w d k = true
    · rw [if_pos h, if_pos h, decide_eq_false (nI_ne2 k (by omega))]; rfl
    · rw [if_neg h, if_neg h, t1]
/-- how many of -1, 0, ... are so; the least that is so -/
def vv (j : Nat) : Int32 := nI j - 1
theorem vv_1 (j : Nat) : vv (j + 1) = nI j := nI_1m j
theorem vv_a (j : Nat) : vv j + 1 = vv (j + 1) := by
  rw [vv_1]; unfold vv; rw [Int32.sub_add_cancel]
def cN (f : Nat → Bool) : Nat → Nat
  | 0 => 0
  | j + 1 => if f j = true then cN f j + 1 else cN f j
def lsN (f : Nat → Bool) : Nat → Int32
  | 0 => -9
  | j + 1 => if f j = true then (if cN f j = 0 then vv j else lsN f j) else lsN f j
theorem cN_le (f : Nat → Bool) : ∀ j, cN f j ≤ j
  | 0 => Nat.le_refl _
  | j + 1 => by
    have := cN_le f j
    unfold cN; split <;> omega
theorem lsN_stay (f : Nat → Bool) (j : Nat) (h : cN f j ≠ 0) : ∀ m, lsN f (j + m) = lsN f j ∧ cN f (j + m) ≠ 0
  | 0 => ⟨rfl, h⟩
  | m + 1 => by
    obtain ⟨a, b⟩ := lsN_stay f j h m
    constructor
    · show (if f (j + m) = true then (if cN f (j + m) = 0 then vv (j + m) else lsN f (j + m)) else lsN f (j + m)) = lsN f j
      rw [if_neg b, a]; split <;> rfl
    · show (if f (j + m) = true then cN f (j + m) + 1 else cN f (j + m)) ≠ 0
      split <;> omega
theorem lsN_none (f : Nat → Bool) : ∀ j, cN f j = 0 → lsN f j = -9
  | 0, _ => rfl
  | j + 1, h => by
    unfold cN at h
    unfold lsN
    by_cases c : f j = true
    · rw [if_pos c] at h; omega
    · rw [if_neg c] at h ⊢; exact lsN_none f j h
theorem vv_100 : (100 : Int32) = vv 101 := by rw [vv_1]; rfl
theorem vv_nle (j : Nat) (h : j < 101) : ¬ (100 : Int32) ≤ vv j ∧ ¬ (99 : Int32) < vv j := by
  cases j with
  | zero => decide
  | succ j =>
    rw [vv_1]
    exact ⟨by show ¬ nI 100 ≤ nI j; rw [le_nI _ _ (by omega) (by omega)]; omega, by show ¬ nI 99 < nI j; rw [lt_nI _ _ (by omega) (by omega)]; omega⟩
theorem many_S {S : St} {N : Nat} {d : Int32} {f : Nat → Bool} (hf : ∀ j, j < 101 → Cr_isSoIfKeptOn N S (vv j) d = some (bI (f j))) (hN : 122 < N) : Cr_howManyKepts N S d = some (nI (cN f 101)) := by
  unfold Cr_howManyKepts Cr_howManyKepts_L4
  have hs : ∀ j (x : Int32 × Int32), j < 101 → (fun j (x : Int32 × Int32) => x = (nI (cN f j), vv j)) j x → ∃ x', (∀ k, (fun k (x : Int32 × Int32) => Cr_howManyKepts_b4 N k S d x.1 x.2) k x = k x') ∧ (fun j (x : Int32 × Int32) => x = (nI (cN f j), vv j)) (j + 1) x' := by
    rintro j x hj rfl
    refine ⟨(nI (cN f (j + 1)), vv (j + 1)), fun k => ?_, rfl⟩
    dsimp only
    unfold Cr_howManyKepts_b4
    rw [show cN f (j + 1) = if f j = true then cN f j + 1 else cN f j from rfl, if_neg (vv_nle j hj).1, hf j hj, bd1_some, if_bI, nm_eq, nm_eq, nm_eq, nI_1, vv_a]
    split <;> rfl
  obtain ⟨x, k, e, rfl⟩ := lp_go _ 101 hs N 0 (0, -1) (by omega) (by omega) (by rfl)
  rw [e]
  dsimp only
  unfold Cr_howManyKepts_b4
  rw [if_pos (by rw [vv_100]; exact Int32.le_refl _)]
theorem least_S {S : St} {N : Nat} {d : Int32} {f : Nat → Bool} (hf : ∀ j, j < 101 → Cr_isSoIfKeptOn N S (vv j) d = some (bI (f j))) : ∀ (m j : Nat), j + m = 101 → cN f j = 0 → ∀ n1, m < n1 → lp (fun k x => Cr_leastKept_b2 N k S d x) n1 (vv j) = some (lsN f 101)
  | 0, j, hj, h0, n1, h1 => by
    obtain ⟨n1, rfl⟩ : ∃ k, n1 = k + 1 := ⟨n1 - 1, by omega⟩
    show Cr_leastKept_b2 N (lp (fun k x => Cr_leastKept_b2 N k S d x) n1) S d (vv j) = _
    generalize lp (fun k x => Cr_leastKept_b2 N k S d x) n1 = K
    obtain rfl : j = 101 := by omega
    unfold Cr_leastKept_b2
    rw [if_pos (by rw [vv_100]; exact Int32.le_refl _), lsN_none f _ h0]
  | m + 1, j, hj, h0, n1, h1 => by
    obtain ⟨n1, rfl⟩ : ∃ k, n1 = k + 1 := ⟨n1 - 1, by omega⟩
    show Cr_leastKept_b2 N (lp (fun k x => Cr_leastKept_b2 N k S d x) n1) S d (vv j) = _
    by_cases c : f j = true
    · generalize lp (fun k x => Cr_leastKept_b2 N k S d x) n1 = K
      have hc : cN f (j + 1) ≠ 0 := by unfold cN; rw [if_pos c]; omega
      have := (lsN_stay f (j + 1) hc m).1
      rw [show j + 1 + m = 101 by omega] at this
      unfold Cr_leastKept_b2
      rw [if_neg (vv_nle j (by omega)).1, hf j (by omega), bd1_some, if_bI, if_pos c, this]
      unfold lsN
      rw [if_pos c, if_pos h0]
    · have hc : cN f (j + 1) = 0 := by unfold cN; rw [if_neg c]; exact h0
      have t1 := least_S hf m (j + 1) (by omega) hc n1 (by omega)
      have step : Cr_leastKept_b2 N (lp (fun k x => Cr_leastKept_b2 N k S d x) n1) S d (vv j) = lp (fun k x => Cr_leastKept_b2 N k S d x) n1 (vv (j + 1)) := by
        generalize lp (fun k x => Cr_leastKept_b2 N k S d x) n1 = K
        unfold Cr_leastKept_b2
        rw [if_neg (vv_nle j (by omega)).1, hf j (by omega), bd1_some, if_bI, if_neg c, nm_eq, vv_a]
      rw [step, t1]
/-- the reference but for one kept -/
def OfX (V V' : St) (p : Nat) : Prop := (∀ v i, scm v i = false → ¬ (v = 45 ∧ i = 38 + p) → gi V' v i = gi V v i) ∧ ∀ i, gl V' 63 i = gl V 63 i
theorem OfX.of {V W V' : St} {p : Nat} (h : OfX V W p) (x : Int32) (g : OfM (si W 45 (38 + p) x) V') : OfX V V' p := ⟨fun v i h1 h2 => by
  rw [g.1 v i h1, gi_si]
  by_cases e : v = 45
  · rw [if_pos e, if_neg (fun q => h2 ⟨e, q⟩)]; exact h.1 v i h1 h2
  · rw [if_neg e]; exact h.1 v i h1 h2, fun i => (g.2 i).trans (h.2 i)⟩
theorem OfX.back {V W : St} {p : Nat} (h : OfX V W p) : OfM V (si W 45 (38 + p) (gi V 45 (38 + p))) := ⟨fun v i h1 => by
  rw [gi_si]
  by_cases e : v = 45
  · rw [if_pos e]
    by_cases e2 : i = 38 + p
    · rw [if_pos e2, e, e2]
    · rw [if_neg e2]; exact h.1 v i h1 (fun q => e2 q.2)
  · rw [if_neg e]; exact h.1 v i h1 (fun q => e q.1), h.2⟩
theorem OfX.rp {V W T : St} {p : Nat} (h : OfX V W p) (r : rP V T) (hp : p < 10) (x : Int32) : rP (si W 45 (38 + p) x) (kp T p x) := by
  obtain ⟨r1, r2, r3, r4⟩ := r
  have g : ∀ v i, scm v i = false → ¬ (v = 45 ∧ i = 38 + p) → gi (si W 45 (38 + p) x) v i = gi V v i := fun v i h1 h2 => by
    rw [gi_si]
    by_cases e : v = 45
    · rw [if_pos e, if_neg (fun q => h2 ⟨e, q⟩)]; exact h.1 v i h1 h2
    · rw [if_neg e]; exact h.1 v i h1 h2
  refine ⟨?_, ?_, fun j hj => ?_, fun j hj => ?_⟩
  · rw [g 44 6 rfl (by omega), kp_off _ _ _ 1 _ (by decide)]; exact r1
  · rw [g 44 7 rfl (by omega), kp_off _ _ _ 1 _ (by decide)]; exact r2
  · rw [g 45 j rfl (by omega), g 45 (6 + j) rfl (by omega), g 45 (12 + j) rfl (by omega), kp_off _ _ _ 11 _ (by decide), kp_off _ _ _ 12 _ (by decide), kp_off _ _ _ 13 _ (by decide)]
    exact r3 j hj
  · obtain ⟨a1, a2, a3, a4, a5, a6⟩ := r4 j hj
    rw [g 49 j rfl (by omega), g 50 j rfl (by omega), g 45 (18 + j) rfl (by omega), g 45 (28 + j) rfl (by omega), g 45 (48 + j) rfl (by omega), kp_off _ _ _ 14 _ (by decide), kp_off _ _ _ 15 _ (by decide), kp_off _ _ _ 16 _ (by decide), kp_off _ _ _ 17 _ (by decide), kp_off _ _ _ 19 _ (by decide), kp_18]
    refine ⟨a1, a2, a3, a4, ?_, a6⟩
    by_cases e : j = p
    · rw [if_pos e, e, gi_si, if_pos rfl, if_pos rfl]
    · rw [if_neg e, g 45 (38 + j) rfl (by omega)]; exact a5
theorem OfX.lcv {V W : St} {p : Nat} {o : Option (List Li)} (h : OfX V W p) (hl : LcV V o) (x : Int32) : LcV (si W 45 (38 + p) x) o := by
  cases o with
  | none =>
    show gi (si W 45 (38 + p) x) 44 13 = -1
    rw [gi_si, if_neg (show ¬ (44 : Nat) = 45 by decide), h.1 44 13 rfl (by omega)]; exact hl
  | some L =>
    obtain ⟨n, b, cd, a1, a2, a3, a4⟩ := hl
    refine ⟨n, b, cd, a1, ?_, a3, fun j hj => ?_⟩
    · rw [gi_si, if_neg (show ¬ (44 : Nat) = 45 by decide), h.1 44 13 rfl (by omega)]; exact a2
    · rw [gi_si, if_neg (show ¬ (52 : Nat) = 45 by decide), h.1 52 j rfl (by omega)]; exact a4 j hj
theorem kept_V {V T : St} {P Q N nn d w p : Nat} {o : Option (List Li)} (hM : MP V T P Q) (hL : LcV V o) (hd : d < 6) (hnn : nn ≤ 60) (h62 : gi V 62 d = nI nn) (hit : ∀ j, j < 360 → gl V 63 j = gl T 43 j) (hp : p < 10) (hN : 122 < N) (y : Int32) : ∃ V', Mo_keptOn_L61 N (nI d) (nI p) (nI w) y (gi V 45 (38 + p)) (V, 0, -9, -1) = some (if y = 0 then nI (cN (fun j => decide (fsr (fwr o (kp T p (vv j)) Q w d) 0 nn = -2)) 101) else lsN (fun j => decide (fsr (fwr o (kp T p (vv j)) Q w d) 0 nn = -2)) 101, V') ∧ OfM V V' := by
  obtain ⟨hP, hNn, hPe, hPr⟩ := hM
  unfold Mo_keptOn_L61
  have e38 : (38 : Int32) + nI p = nI (38 + p) := by show nI 38 + nI p = _; rw [nI_add]
  have hs : ∀ j (x : St × Int32 × Int32 × Int32), j < 101 → (fun j (x : St × Int32 × Int32 × Int32) => ∃ Vj, x = (Vj, nI (cN (fun j => decide (fsr (fwr o (kp T p (vv j)) Q w d) 0 nn = -2)) j), lsN (fun j => decide (fsr (fwr o (kp T p (vv j)) Q w d) 0 nn = -2)) j, vv j) ∧ OfX V Vj p) j x → ∃ x', (∀ k, (fun k (x : St × Int32 × Int32 × Int32) => Mo_keptOn_b61 N k x.1 (nI d) (nI p) (nI w) y (gi V 45 (38 + p)) x.2.1 x.2.2.1 x.2.2.2) k x = k x') ∧ (fun j (x : St × Int32 × Int32 × Int32) => ∃ Vj, x = (Vj, nI (cN (fun j => decide (fsr (fwr o (kp T p (vv j)) Q w d) 0 nn = -2)) j), lsN (fun j => decide (fsr (fwr o (kp T p (vv j)) Q w d) 0 nn = -2)) j, vv j) ∧ OfX V Vj p) (j + 1) x' := by
    rintro j x hj ⟨Vj, rfl, h1⟩
    have hv : -1 ≤ (vv j).toInt ∧ (vv j).toInt ≤ 99 := by
      cases j with
      | zero => decide
      | succ j => rw [vv_1, ti j (by omega)]; omega
    have hx : ∀ v i, v ≠ 45 → scm v i = false → gi (si Vj 45 (38 + p) (vv j)) v i = gi V v i := fun v i e h => by
      rw [gi_si, if_neg e]; exact h1.1 v i h (fun q => e q.1)
    obtain ⟨V', v1, v2⟩ := first_V2 (N := N) (w := w) (T := kp T p (vv j)) hd hnn hN nn 0 (si Vj 45 (38 + p) (vv j)) (by omega) ⟨h1.rp hP hp _, iN_kp hNn p _, iPe_kp hPe p _, iPr_kp hPr p hv⟩ (h1.lcv hL _) ((hx 62 d (by decide) rfl).trans h62) (fun i hi => (h1.2 i).trans (hit i hi)) N (by omega)
    refine ⟨(V', nI (cN (fun j => decide (fsr (fwr o (kp T p (vv j)) Q w d) 0 nn = -2)) (j + 1)), lsN (fun j => decide (fsr (fwr o (kp T p (vv j)) Q w d) 0 nn = -2)) (j + 1), vv (j + 1)), fun k => ?_, V', rfl, h1.of _ v2⟩
    dsimp only
    have ec : cN (fun j => decide (fsr (fwr o (kp T p (vv j)) Q w d) 0 nn = -2)) (j + 1) = if decide (fsr (fwr o (kp T p (vv j)) Q w d) 0 nn = -2) = true then cN (fun j => decide (fsr (fwr o (kp T p (vv j)) Q w d) 0 nn = -2)) j + 1 else cN (fun j => decide (fsr (fwr o (kp T p (vv j)) Q w d) 0 nn = -2)) j := rfl
    have el : lsN (fun j => decide (fsr (fwr o (kp T p (vv j)) Q w d) 0 nn = -2)) (j + 1) = if decide (fsr (fwr o (kp T p (vv j)) Q w d) 0 nn = -2) = true then (if cN (fun j => decide (fsr (fwr o (kp T p (vv j)) Q w d) 0 nn = -2)) j = 0 then vv j else lsN (fun j => decide (fsr (fwr o (kp T p (vv j)) Q w d) 0 nn = -2)) j) else lsN (fun j => decide (fsr (fwr o (kp T p (vv j)) Q w d) 0 nn = -2)) j := rfl
    have cle := cN_le (fun j => decide (fsr (fwr o (kp T p (vv j)) Q w d) 0 nn = -2)) j
    rw [ec, el]
    generalize cN (fun j => decide (fsr (fwr o (kp T p (vv j)) Q w d) 0 nn = -2)) j = C at *
    generalize lsN (fun j => decide (fsr (fwr o (kp T p (vv j)) Q w d) 0 nn = -2)) j = L at *
    unfold Mo_keptOn_b61
    rw [if_neg (vv_nle j hj).2, e38, inb_nI (j := 38 + p) (n := 58) (by omega) (by omega), ck_true, nm_eq, cl (38 + p) (by omega), show Mo_firstFalse N (si Vj 45 (38 + p) (vv j)) (nI d) (nI w) = _ from v1, bd2_some, vv_a]
    simp only [nm_eq, nI_1]
    by_cases c : fsr (fwr o (kp T p (vv j)) Q w d) 0 nn = -2
    · rw [if_pos c, if_pos (decide_eq_true c), if_pos (decide_eq_true c)]
      by_cases c0 : C = 0
      · rw [if_pos c0, if_pos (show nI C = 0 by rw [c0]; rfl)]
      · rw [if_neg c0, if_neg (show ¬ nI C = 0 from by show ¬ nI C = nI 0; rw [eq_nI _ _ (by omega) (by omega)]; exact c0)]
    · have c' : ¬ decide (fsr (fwr o (kp T p (vv j)) Q w d) 0 nn = -2) = true := fun q => c (of_decide_eq_true q)
      rw [if_neg c, if_neg c', if_neg c']
  obtain ⟨x, k, e, Vj, rfl, h1⟩ := lp_go _ 101 hs N 0 (V, 0, -9, -1) (by omega) (by omega) ⟨V, rfl, fun _ _ _ _ => rfl, fun _ => rfl⟩
  refine ⟨_, ?_, h1.back⟩
  rw [e]
  dsimp only
  unfold Mo_keptOn_b61
  rw [if_pos (by rw [vv_1]; decide), e38, inb_nI (j := 38 + p) (n := 58) (by omega) (by omega), ck_true, nm_eq, cl (38 + p) (by omega)]
  split <;> rfl
theorem RR_keptOn : LS_keptOn RR := by
  rintro S V p1 p2 p3 p4 hRR
  have hRR' := hRR
  obtain ⟨T, P, Q, F, c, a, B, hC, hR⟩ := hRR
  have hR' := hR
  obtain ⟨hN, hPe, hPr, hP, hTa, hLw, hLd, hCh, hBo, hSh⟩ := hR'
  obtain ⟨o, o1, o2⟩ := hLw.split
  have hQ10 := hN.2.2.2
  unfold Ch_keptOn Mo_keptOn
  rw [Sh_isShelf_eq, bd1_some, if_bI]
  simp only [Sm_isOne_eq hC hN, Mo_isOne_eq hP hN, Sm_isPromise_eq hC hN, Mo_isPromise_eq hP hN, Ch_isEither_eq, Mo_within_eq, bd1_some, if_bI, Int32.toInt_toInt64, tI0, tI1]
  by_cases h : wi p1.toInt 0 5 = true
  · rw [if_pos h]
    obtain ⟨d, hd, rfl⟩ := wi_nI5 h
    by_cases h2 : wi p2.toInt 0 ((Q : Int) - 1) = true
    · rw [if_pos h2, if_pos h2]
      by_cases h3 : wi p3.toInt 0 ((P : Int) - 1) = true
      · rw [if_pos h3, if_pos h3]
        by_cases h4 : wi p4.toInt 0 1 = true
        · rw [if_pos h4, if_pos h4]
          rcases shorts hC hR hd with ⟨r, r0, r1, r2⟩ | ⟨r1, r2, nn, n1, n2, n3⟩
          · have rn : ¬ r = 0 := by rcases r0 with rfl | rfl <;> decide
            have rp : r < 0 := by rcases r0 with rfl | rfl <;> decide
            rw [r1, r2, bd1_some, bd1_some, if_neg rn, if_pos rp]
            exact ⟨_, _, _, rfl, rfl, hRR'⟩
          · obtain ⟨p, hp, rfl⟩ := wi_nI h2
            obtain ⟨w, hw, rfl⟩ := wi_nI h3
            have e38 : (38 : Int32) + nI p = nI (38 + p) := by show nI 38 + nI p = _; rw [nI_add]
            obtain ⟨S', s1, s2, s3⟩ := cmp_S (N := fuel) (w := w) (p := p) hN hPe hPr o1 hd n1 n2 (by omega) (by decide) hC
            obtain ⟨V', v1, v2⟩ := kept_V (N := fuel) (w := w) (p := p) ⟨hP, hN, hPe, hPr⟩ o2 hd n1 n3 hSh.2 (by omega) (by decide) p4
            have hf : ∀ j, j < 101 → Cr_isSoIfKeptOn fuel S' (vv j) (nI d) = some (bI ((fun j => decide (fsr (fwr o (kp T p (vv j)) Q w d) 0 nn = -2)) j)) := fun j _ => isSo_S hd n1 ((s2.g 40 (fun _ => rfl) d).trans n2) s3 (vv j) nn 0 (by omega) fuel (by show _ < 1200; omega)
            rw [r1, r2, bd1_some, bd1_some, if_pos rfl, if_neg (by decide : ¬ (1 : Int32) < 0), s1, bd1_some, e38, inb_nI (j := 38 + p) (n := 58) (by omega) (by omega), ck_true, nm_eq, cl (38 + p) (by omega), v1, many_S hf (by decide), show Cr_leastKept fuel S' (nI d) = _ from least_S hf 101 0 (by omega) rfl fuel (by decide), bd1_some, bd1_some]
            by_cases h0 : p4 = 0
            · rw [if_pos h0, if_pos h0]; exact ⟨_, _, _, rfl, rfl, T, P, Q, F, c, a, B, s2, v2.RLk hR⟩
            · rw [if_neg h0, if_neg h0]; exact ⟨_, _, _, rfl, rfl, T, P, Q, F, c, a, B, s2, v2.RLk hR⟩
        · rw [if_neg h4, if_neg h4]
          rcases shorts hC hR hd with ⟨r, r0, r1, r2⟩ | ⟨r1, r2, nn, n1, n2, n3⟩
          · have rp : r < 0 := by rcases r0 with rfl | rfl <;> decide
            rw [r2, bd1_some, if_pos rp]; exact ⟨_, _, _, rfl, rfl, hRR'⟩
          · rw [r2, bd1_some, if_neg (by decide : ¬ (1 : Int32) < 0)]; exact ⟨_, _, _, rfl, rfl, hRR'⟩
      · rw [if_neg h3, if_neg h3]
        rcases shorts hC hR hd with ⟨r, r0, r1, r2⟩ | ⟨r1, r2, nn, n1, n2, n3⟩
        · have rp : r < 0 := by rcases r0 with rfl | rfl <;> decide
          rw [r2, bd1_some, if_pos rp]; exact ⟨_, _, _, rfl, rfl, hRR'⟩
        · rw [r2, bd1_some, if_neg (by decide : ¬ (1 : Int32) < 0)]; exact ⟨_, _, _, rfl, rfl, hRR'⟩
    · rw [if_neg h2, if_neg h2]
      rcases shorts hC hR hd with ⟨r, r0, r1, r2⟩ | ⟨r1, r2, nn, n1, n2, n3⟩
      · have rp : r < 0 := by rcases r0 with rfl | rfl <;> decide
        rw [r2, bd1_some, if_pos rp]; exact ⟨_, _, _, rfl, rfl, hRR'⟩
      · rw [r2, bd1_some, if_neg (by decide : ¬ (1 : Int32) < 0)]; exact ⟨_, _, _, rfl, rfl, hRR'⟩
  · rw [if_neg h]
    have : Mo_shortsIs V p1 = some (-1) := by
      unfold Mo_shortsIs; rw [Mo_isShelf_eq, bd1_some, if_bI, if_neg h]
    rw [this, bd1_some, if_pos (by decide : (-1 : Int32) < 0)]
    exact ⟨_, _, _, rfl, rfl, hRR'⟩
