/-- work to be done day by day, the soonest due first: the pure matter -/
def sB (f : Nat → Nat) (c : Nat → Bool) : Nat → Nat
  | 0 => 0
  | j + 1 => sB f c j + (if c j = true then f j else 0)
theorem sB_mono {f g : Nat → Nat} {c : Nat → Bool} : ∀ {n : Nat}, (∀ i, i < n → c i = true → f i ≤ g i) → sB f c n ≤ sB g c n
  | 0, _ => Nat.le_refl _
  | n + 1, h => by
    have a := sB_mono (f := f) (g := g) (c := c) (n := n) (fun i hi hc => h i (by omega) hc)
    unfold sB
    by_cases e : c n = true
    · rw [if_pos e, if_pos e]; have := h n (by omega) e; omega
    · rw [if_neg e, if_neg e]; omega
theorem sB_sub {f : Nat → Nat} {c d : Nat → Bool} : ∀ {n : Nat}, (∀ i, i < n → c i = true → d i = true) → sB f c n ≤ sB f d n
  | 0, _ => Nat.le_refl _
  | n + 1, h => by
    have a := sB_sub (f := f) (c := c) (d := d) (n := n) (fun i hi hc => h i (by omega) hc)
    unfold sB
    by_cases e : c n = true
    · rw [if_pos e, if_pos (h n (by omega) e)]; omega
    · rw [if_neg e]; omega
theorem sB_ge {f : Nat → Nat} {c : Nat → Bool} {i : Nat} (hc : c i = true) : ∀ {n : Nat}, i < n → f i ≤ sB f c n
  | 0, h => absurd h (by omega)
  | n + 1, h => by
    unfold sB
    by_cases e : i = n
    · rw [← e, if_pos hc]; omega
    · have := sB_ge (f := f) hc (n := n) (by omega); omega
/-- one less at a place -/
def dec1 (f : Nat → Nat) (i : Nat) : Nat → Nat := fun j => if j = i then f i - 1 else f j
theorem sB_dec {f : Nat → Nat} {c : Nat → Bool} {i : Nat} (hf : f i ≠ 0) : ∀ n, sB (dec1 f i) c n + (if i < n ∧ c i = true then 1 else 0) = sB f c n
  | 0 => by rw [if_neg (fun h => absurd h.1 (Nat.not_lt_zero i))]; rfl
  | n + 1 => by
    have a := sB_dec (c := c) hf n
    have e0 : ∀ g, sB g c (n + 1) = sB g c n + (if c n = true then g n else 0) := fun _ => rfl
    rw [e0, e0]
    by_cases e : i = n
    · subst e
      rw [if_neg (fun h => absurd h.1 (Nat.lt_irrefl i))] at a
      have ed : dec1 f i i = f i - 1 := by unfold dec1; rw [if_pos rfl]
      by_cases hc : c i = true
      · rw [if_pos hc, if_pos hc, if_pos ⟨Nat.lt_succ_self i, hc⟩, ed]; omega
      · rw [if_neg hc, if_neg hc, if_neg (fun h => hc h.2)]; omega
    · have ed : dec1 f i n = f n := by unfold dec1; rw [if_neg (fun q => e q.symm)]
      rw [ed]
      by_cases hc : i < n ∧ c i = true
      · rw [if_pos hc] at a
        have q2 : i < n + 1 ∧ c i = true := ⟨by omega, hc.2⟩
        rw [if_pos q2]; omega
      · rw [if_neg hc] at a
        have : ¬ (i < n + 1 ∧ c i = true) := fun h => hc ⟨by omega, h.2⟩
        rw [if_neg this]; omega
/-- who is worked on: made, not done, due soonest -/
def pkw (R m D : Nat → Nat) (x : Nat) : Nat → Option Nat
  | 0 => none
  | j + 1 => if R j = 0 then pkw R m D x j else if x < m j then pkw R m D x j else match pkw R m D x j with
    | none => some j
    | some i => if D i ≤ D j then some i else some j
theorem pkw_none {R m D : Nat → Nat} {x : Nat} : ∀ {n : Nat}, pkw R m D x n = none → ∀ i, i < n → R i ≠ 0 → x < m i
  | 0, _, i, hi, _ => absurd hi (Nat.not_lt_zero i)
  | n + 1, h, i, hi, hR => by
    unfold pkw at h
    by_cases c1 : R n = 0
    · rw [if_pos c1] at h
      have : i ≠ n := fun q => hR (by rw [q]; exact c1)
      exact pkw_none h i (by omega) hR
    · rw [if_neg c1] at h
      by_cases c2 : x < m n
      · rw [if_pos c2] at h
        by_cases q : i = n
        · rw [q]; exact c2
        · exact pkw_none h i (by omega) hR
      · rw [if_neg c2] at h
        cases e : pkw R m D x n with
        | none => rw [e] at h; exact absurd h (by simp)
        | some j =>
          rw [e] at h
          dsimp only at h
          split at h <;> exact absurd h (by simp)
theorem pkw_some {R m D : Nat → Nat} {x p : Nat} : ∀ {n : Nat}, pkw R m D x n = some p → p < n ∧ R p ≠ 0 ∧ m p ≤ x ∧ ∀ i, i < n → R i ≠ 0 → m i ≤ x → D p ≤ D i
  | 0, h => by unfold pkw at h; exact absurd h (by simp)
  | n + 1, h => by
    unfold pkw at h
    by_cases c1 : R n = 0
    · rw [if_pos c1] at h
      obtain ⟨a1, a2, a3, a4⟩ := pkw_some h
      refine ⟨by omega, a2, a3, fun i hi hR hm => ?_⟩
      have : i ≠ n := fun q => hR (by rw [q]; exact c1)
      exact a4 i (by omega) hR hm
    · rw [if_neg c1] at h
      by_cases c2 : x < m n
      · rw [if_pos c2] at h
        obtain ⟨a1, a2, a3, a4⟩ := pkw_some h
        refine ⟨by omega, a2, a3, fun i hi hR hm => ?_⟩
        have : i ≠ n := fun q => by rw [q] at hm; omega
        exact a4 i (by omega) hR hm
      · rw [if_neg c2] at h
        cases e : pkw R m D x n with
        | none =>
          rw [e] at h
          dsimp only at h
          obtain rfl : n = p := by injection h
          refine ⟨by omega, c1, by omega, fun i hi hR hm => ?_⟩
          by_cases q : i = n
          · rw [q]; exact Nat.le_refl _
          · have := pkw_none e i (by omega) hR; omega
        | some j =>
          rw [e] at h
          dsimp only at h
          obtain ⟨a1, a2, a3, a4⟩ := pkw_some e
          by_cases c3 : D j ≤ D n
          · rw [if_pos c3] at h
            obtain rfl : j = p := by injection h
            refine ⟨by omega, a2, a3, fun i hi hR hm => ?_⟩
            by_cases q : i = n
            · rw [q]; exact c3
            · exact a4 i (by omega) hR hm
          · rw [if_neg c3] at h
            obtain rfl : n = p := by injection h
            refine ⟨by omega, c1, by omega, fun i hi hR hm => ?_⟩
            by_cases q : i = n
            · rw [q]; exact Nat.le_refl _
            · have := a4 i (by omega) hR hm; omega
/-- a day's work; the days' -/
def dayW (m D : Nat → Nat) (Q x : Nat) (R : Nat → Nat) : Option (Nat → Nat) := match pkw R m D x Q with
  | none => some R
  | some p => if x ≤ D p then some (dec1 R p) else none
def daysW (m D : Nat → Nat) (Q : Nat) (R : Nat → Nat) : Nat → Option (Nat → Nat)
  | 0 => some R
  | x + 1 => match daysW m D Q R x with
    | none => none
    | some R1 => dayW m D Q x R1
/-- every lot has days for its links -/
def HallW (l m D : Nat → Nat) (Q : Nat) (s : Nat → Bool) : Prop := ∀ c : Nat → Bool, (∀ i, i < Q → c i = true → s i = true) → ∀ a b, (∀ i, i < Q → c i = true → a ≤ m i ∧ D i ≤ b) → sB l c Q ≤ b + 1 - a
theorem dec1_le (R : Nat → Nat) (p i : Nat) : dec1 R p i ≤ R i := by
  unfold dec1; split
  · next e => rw [e]; omega
  · exact Nat.le_refl _
/-- what is done in the days fits into the days -/
theorem days_fit {m D : Nat → Nat} {Q : Nat} {R0 : Nat → Nat} {c : Nat → Bool} {a b : Nat} (hc : ∀ i, i < Q → c i = true → a ≤ m i ∧ D i ≤ b) : ∀ x R, daysW m D Q R0 x = some R → sB R0 c Q ≤ sB R c Q + (min x (b + 1) - a)
  | 0, R, h => by
    unfold daysW at h
    obtain rfl : R0 = R := by injection h
    omega
  | x + 1, R, h => by
    unfold daysW at h
    cases e : daysW m D Q R0 x with
    | none => rw [e] at h; exact absurd h (by simp)
    | some R1 =>
      rw [e] at h
      dsimp only at h
      have ih := days_fit hc x R1 e
      unfold dayW at h
      cases e2 : pkw R1 m D x Q with
      | none =>
        rw [e2] at h
        obtain rfl : R1 = R := by injection h
        omega
      | some p =>
        rw [e2] at h
        dsimp only at h
        obtain ⟨a1, a2, a3, a4⟩ := pkw_some e2
        by_cases c3 : x ≤ D p
        · rw [if_pos c3] at h
          obtain rfl : dec1 R1 p = R := by injection h
          have := sB_dec (c := c) a2 Q
          by_cases c4 : p < Q ∧ c p = true
          · rw [if_pos c4] at this
            have := hc p a1 c4.2
            omega
          · rw [if_neg c4] at this; omega
        · rw [if_neg c3] at h; exact absurd h (by simp)
/-- what is late has filled its days -/
theorem days_full {m D : Nat → Nat} {Q : Nat} {R0 : Nat → Nat} (d : Nat) : ∀ x R, daysW m D Q R0 x = some R → (∀ i, R i ≤ R0 i) ∧ ∃ t, t ≤ x ∧ (∀ i, i < Q → R i ≠ 0 → D i ≤ d → t ≤ m i) ∧ sB R (fun i => decide (D i ≤ d) && decide (t ≤ m i)) Q + (x - t) ≤ sB R0 (fun i => decide (D i ≤ d) && decide (t ≤ m i)) Q
  | 0, R, h => by
    unfold daysW at h
    obtain rfl : R0 = R := by injection h
    exact ⟨fun _ => Nat.le_refl _, 0, Nat.le_refl _, fun _ _ _ _ => Nat.zero_le _, by omega⟩
  | x + 1, R, h => by
    unfold daysW at h
    cases e : daysW m D Q R0 x with
    | none => rw [e] at h; exact absurd h (by simp)
    | some R1 =>
      rw [e] at h
      dsimp only at h
      obtain ⟨h0, t, t1, t2, t3⟩ := days_full d x R1 e
      unfold dayW at h
      have idle : (∀ i, R i ≤ R1 i) → (∀ i, i < Q → R1 i ≠ 0 → D i ≤ d → x < m i) → (∀ i, R i ≤ R0 i) ∧ ∃ t, t ≤ x + 1 ∧ (∀ i, i < Q → R i ≠ 0 → D i ≤ d → t ≤ m i) ∧ sB R (fun i => decide (D i ≤ d) && decide (t ≤ m i)) Q + (x + 1 - t) ≤ sB R0 (fun i => decide (D i ≤ d) && decide (t ≤ m i)) Q := by
        intro g1 g2
        refine ⟨fun i => Nat.le_trans (g1 i) (h0 i), x + 1, Nat.le_refl _, fun i hi hR hd => ?_, ?_⟩
        · have := g1 i
          exact g2 i hi (by omega) hd
        · have := sB_mono (f := R) (g := R0) (c := fun i => decide (D i ≤ d) && decide (x + 1 ≤ m i)) (n := Q) (fun i _ _ => Nat.le_trans (g1 i) (h0 i))
          omega
      cases e2 : pkw R1 m D x Q with
      | none =>
        rw [e2] at h
        obtain rfl : R1 = R := by injection h
        exact idle (fun _ => Nat.le_refl _) (fun i hi hR _ => pkw_none e2 i hi hR)
      | some p =>
        rw [e2] at h
        dsimp only at h
        obtain ⟨a1, a2, a3, a4⟩ := pkw_some e2
        by_cases c3 : x ≤ D p
        · rw [if_pos c3] at h
          obtain rfl : dec1 R1 p = R := by injection h
          by_cases c4 : D p ≤ d
          · have hm := t2 p a1 a2 c4
            refine ⟨fun i => Nat.le_trans (dec1_le R1 p i) (h0 i), t, by omega, fun i hi hR hd => ?_, ?_⟩
            · have := dec1_le R1 p i
              exact t2 i hi (by omega) hd
            · have q := sB_dec (c := fun i => decide (D i ≤ d) && decide (t ≤ m i)) a2 Q
              rw [if_pos ⟨a1, by rw [decide_eq_true c4, decide_eq_true hm]; rfl⟩] at q
              omega
          · refine idle (dec1_le R1 p) (fun i hi hR hd => ?_)
            apply Nat.lt_of_not_le
            intro hm
            have := a4 i hi hR hm
            omega
        · rw [if_neg c3] at h; exact absurd h (by simp)
theorem sB_le2 {f g : Nat → Nat} {c d : Nat → Bool} : ∀ {n : Nat}, (∀ i, i < n → (if c i = true then f i else 0) ≤ (if d i = true then g i else 0)) → sB f c n ≤ sB g d n
  | 0, _ => Nat.le_refl _
  | n + 1, h => by
    have a := sB_le2 (f := f) (g := g) (c := c) (d := d) (n := n) (fun i hi => h i (by omega))
    have b := h n (by omega)
    unfold sB
    omega
theorem sB_zero {f : Nat → Nat} {c : Nat → Bool} : ∀ {n : Nat}, (∀ i, i < n → c i = true → f i = 0) → sB f c n = 0
  | 0, _ => rfl
  | n + 1, h => by
    have a := sB_zero (f := f) (c := c) (n := n) (fun i hi hc => h i (by omega) hc)
    unfold sB
    by_cases e : c n = true
    · rw [if_pos e, a, h n (by omega) e]
    · rw [if_neg e, a]
def R0w (l : Nat → Nat) (s : Nat → Bool) : Nat → Nat := fun i => if s i = true then l i else 0
theorem late {l m D : Nat → Nat} {Q : Nat} {s : Nat → Bool} (hmD : ∀ i, i < Q → m i ≤ D i ∧ D i ≤ 99) (H : HallW l m D Q s) {x : Nat} {R : Nat → Nat} (h : daysW m D Q (R0w l s) x = some R) {j : Nat} (hj : j < Q) (hR : R j ≠ 0) : x ≤ D j := by
  apply Nat.le_of_not_lt
  intro hx
  obtain ⟨h0, t, t1, t2, t3⟩ := days_full (D j) x R h
  have hm := t2 j hj hR (Nat.le_refl _)
  have g1 := H (fun i => s i && (decide (D i ≤ D j) && decide (t ≤ m i))) (fun i _ hc => by
    cases q : s i
    · rw [q] at hc; exact Bool.noConfusion hc
    · rfl) t (D j) (fun i _ hc => by
    have hc2 := (Bool.and_eq_true_iff.mp hc).2
    have := Bool.and_eq_true_iff.mp hc2
    exact ⟨of_decide_eq_true this.2, of_decide_eq_true this.1⟩)
  have g2 : sB (R0w l s) (fun i => decide (D i ≤ D j) && decide (t ≤ m i)) Q ≤ sB l (fun i => s i && (decide (D i ≤ D j) && decide (t ≤ m i))) Q := by
    apply sB_le2
    intro i hi
    unfold R0w
    cases s i
    · simp
    · simp
  have g3 : R j ≤ sB R (fun i => decide (D i ≤ D j) && decide (t ≤ m i)) Q := sB_ge (c := fun i => decide (D i ≤ D j) && decide (t ≤ m i)) (by show (decide (D j ≤ D j) && decide (t ≤ m j)) = true; rw [decide_eq_true (Nat.le_refl (D j)), decide_eq_true hm]; rfl) hj
  have := (hmD j hj).1
  omega
/-- the days suffice where every lot has days for its links, and only there -/
theorem edf_hall {l m D : Nat → Nat} {Q : Nat} {s : Nat → Bool} (hmD : ∀ i, i < Q → m i ≤ D i ∧ D i ≤ 99) : (∃ R, daysW m D Q (R0w l s) 100 = some R ∧ ∀ i, i < Q → R i = 0) ↔ HallW l m D Q s := by
  constructor
  · rintro ⟨R, h1, h2⟩ c hc a b hab
    have g1 := days_fit (c := c) (a := a) (b := b) hab 100 R h1
    have g2 : sB R c Q = 0 := sB_zero (fun i hi _ => h2 i hi)
    have g3 : sB l c Q ≤ sB (R0w l s) c Q := sB_mono (fun i hi hci => by
      unfold R0w; rw [if_pos (hc i hi hci)]; exact Nat.le_refl _)
    omega
  · intro H
    have key : ∀ x, x ≤ 100 → ∃ R, daysW m D Q (R0w l s) x = some R := by
      intro x
      induction x with
      | zero => intro _; exact ⟨_, rfl⟩
      | succ x ih =>
        intro hx
        obtain ⟨R, hR⟩ := ih (by omega)
        have e : daysW m D Q (R0w l s) (x + 1) = dayW m D Q x R := by
          show (match daysW m D Q (R0w l s) x with
            | none => none
            | some R1 => dayW m D Q x R1) = _
          rw [hR]
        rw [e]
        unfold dayW
        cases e2 : pkw R m D x Q with
        | none => exact ⟨_, rfl⟩
        | some p =>
          obtain ⟨a1, a2, -, -⟩ := pkw_some e2
          dsimp only
          rw [if_pos (late hmD H hR a1 a2)]
          exact ⟨_, rfl⟩
    obtain ⟨R, hR⟩ := key 100 (by omega)
    refine ⟨R, hR, fun i hi => ?_⟩
    apply Decidable.byContradiction
    intro hn
    have := late hmD H hR hi hn
    have := (hmD i hi).2
    omega
/-- the first day, the day behind the last -/
def mnB (f : Nat → Nat) (c : Nat → Bool) : Nat → Nat
  | 0 => 100
  | j + 1 => if c j = true then min (mnB f c j) (f j) else mnB f c j
def mxB (f : Nat → Nat) (c : Nat → Bool) : Nat → Nat
  | 0 => 0
  | j + 1 => if c j = true then max (mxB f c j) (f j + 1) else mxB f c j
theorem mnB_le {f : Nat → Nat} {c : Nat → Bool} {i : Nat} (hc : c i = true) : ∀ {n : Nat}, i < n → mnB f c n ≤ f i
  | 0, h => absurd h (by omega)
  | n + 1, h => by
    unfold mnB
    by_cases e : i = n
    · rw [← e, if_pos hc]; omega
    · have := mnB_le (f := f) hc (n := n) (by omega)
      split <;> omega
theorem mnB_ge {f : Nat → Nat} {c : Nat → Bool} {a : Nat} (ha : a ≤ 100) : ∀ {n : Nat}, (∀ i, i < n → c i = true → a ≤ f i) → a ≤ mnB f c n
  | 0, _ => ha
  | n + 1, h => by
    have := mnB_ge (f := f) (c := c) ha (n := n) (fun i hi hc => h i (by omega) hc)
    unfold mnB
    by_cases e : c n = true
    · rw [if_pos e]; have := h n (by omega) e; omega
    · rw [if_neg e]; exact this
theorem mxB_ge {f : Nat → Nat} {c : Nat → Bool} {i : Nat} (hc : c i = true) : ∀ {n : Nat}, i < n → f i + 1 ≤ mxB f c n
  | 0, h => absurd h (by omega)
  | n + 1, h => by
    unfold mxB
    by_cases e : i = n
    · rw [← e, if_pos hc]; omega
    · have := mxB_ge (f := f) hc (n := n) (by omega)
      split <;> omega
theorem mxB_le {f : Nat → Nat} {c : Nat → Bool} {b : Nat} : ∀ {n : Nat}, (∀ i, i < n → c i = true → f i ≤ b) → mxB f c n ≤ b + 1
  | 0, _ => Nat.zero_le _
  | n + 1, h => by
    have := mxB_le (f := f) (c := c) (b := b) (n := n) (fun i hi hc => h i (by omega) hc)
    unfold mxB
    by_cases e : c n = true
    · rw [if_pos e]; have := h n (by omega) e; omega
    · rw [if_neg e]; exact this
/-- a set has days for all its links -/
def HasW (l m D : Nat → Nat) (Q : Nat) (s : Nat → Bool) : Prop := (∀ i, i < Q → s i = false) ∨ mnB m s Q + sB l s Q ≤ mxB D s Q
theorem hall_step {l m D : Nat → Nat} {Q : Nat} {s : Nat → Bool} (hmD : ∀ i, i < Q → m i ≤ D i ∧ D i ≤ 99) : HallW l m D Q s ↔ (∀ i, i < Q → s i = true → HallW l m D Q (fun j => s j && !decide (j = i))) ∧ HasW l m D Q s := by
  constructor
  · intro H
    refine ⟨fun i hi hs c hc => H c (fun j hj hcj => (Bool.and_eq_true_iff.mp (hc j hj hcj)).1), ?_⟩
    by_cases he : ∃ i, i < Q ∧ s i = true
    · obtain ⟨i, hi, hs⟩ := he
      refine .inr ?_
      have g := H s (fun _ _ h => h) (mnB m s Q) (mxB D s Q - 1) (fun j hj hsj => ⟨mnB_le hsj hj, by have := mxB_ge (f := D) hsj hj; omega⟩)
      have g1 := mnB_le (f := m) hs hi
      have g2 := mxB_ge (f := D) hs hi
      have := (hmD i hi).1
      omega
    · refine .inl (fun i hi => ?_)
      cases q : s i
      · rfl
      · exact absurd ⟨i, hi, q⟩ he
  · rintro ⟨H1, H2⟩ c hc a b hab
    by_cases he : ∃ i, i < Q ∧ s i = true ∧ c i = false
    · obtain ⟨i, hi, hs, hci⟩ := he
      refine H1 i hi hs c (fun j hj hcj => ?_) a b hab
      have : j ≠ i := fun q => by rw [q, hci] at hcj; exact Bool.noConfusion hcj
      show (s j && !decide (j = i)) = true
      rw [hc j hj hcj, decide_eq_false this]; rfl
    · have hsc : ∀ i, i < Q → s i = true → c i = true := fun i hi hs => by
        cases q : c i
        · exact absurd ⟨i, hi, hs, q⟩ he
        · rfl
      rcases H2 with H2 | H2
      · rw [sB_zero (fun i hi hci => ?_)]
        · exact Nat.zero_le _
        · have := hc i hi hci; rw [H2 i hi] at this; exact Bool.noConfusion this
      · by_cases hn : ∃ i, i < Q ∧ c i = true
        · obtain ⟨i, hi, hci⟩ := hn
          have g0 := (hab i hi hci).1
          have g00 := hmD i hi
          have g1 : a ≤ mnB m s Q := mnB_ge (by omega) (fun j hj hsj => (hab j hj (hsc j hj hsj)).1)
          have g2 : mxB D s Q ≤ b + 1 := mxB_le (fun j hj hsj => (hab j hj (hsc j hj hsj)).2)
          have g3 : sB l c Q ≤ sB l s Q := sB_sub hc
          omega
        · rw [sB_zero (fun i hi hci => absurd ⟨i, hi, hci⟩ hn)]
          exact Nat.zero_le _
