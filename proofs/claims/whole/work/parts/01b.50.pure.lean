theorem gi_si (S : St) (v i : Nat) (x : Int32) (w j : Nat) : gi (si S v i x) w j = if w = v then (if j = i then x else gi S w j) else gi S w j := by
  unfold gi si upd
  by_cases h : w = v
  · subst h; simp
  · simp [h]
theorem gl_si (S : St) (v i : Nat) (x : Int32) (w j : Nat) : gl (si S v i x) w j = gl S w j := rfl
theorem gi_sl (S : St) (v i : Nat) (x : Int64) (w j : Nat) : gi (sl S v i x) w j = gi S w j := rfl
theorem gl_sl (S : St) (v i : Nat) (x : Int64) (w j : Nat) : gl (sl S v i x) w j = if w = v then (if j = i then x else gl S w j) else gl S w j := by
  unfold gl sl vp_updL
  by_cases h : w = v
  · subst h; simp
  · simp [h]
theorem gi_cpi (S : St) (v0 v1 sp dp n w j : Nat) : gi (cpi S v0 v1 sp dp n) w j = if w = v1 then (if dp ≤ j ∧ j < dp + n then gi S v0 (sp + (j - dp)) else gi S w j) else gi S w j := by
  unfold gi cpi va_cpy
  by_cases h : w = v1
  · subst h; simp
  · simp [h]
theorem gl_cpi (S : St) (v0 v1 sp dp n w j : Nat) : gl (cpi S v0 v1 sp dp n) w j = gl S w j := rfl
theorem gi_cpl (S : St) (v0 v1 sp dp n w j : Nat) : gi (cpl S v0 v1 sp dp n) w j = gi S w j := rfl
theorem gl_cpl (S : St) (v0 v1 sp dp n w j : Nat) : gl (cpl S v0 v1 sp dp n) w j = if w = v1 then (if dp ≤ j ∧ j < dp + n then gl S v0 (sp + (j - dp)) else gl S w j) else gl S w j := by
  unfold gl cpl va_cpy
  by_cases h : w = v1
  · subst h; simp
  · simp [h]
theorem nm_eq {α β : Type} (x : α) (f : α → β) : nm x f = f x := rfl
theorem bd1_some {α ρ : Type} (u : α) (g : α → Option ρ) : bd1 (some u) g = g u := rfl
theorem bd2_some {α β ρ : Type} (u : α) (v : β) (g : α → β → Option ρ) : bd2 (some (u, v)) g = g u v := rfl
theorem ck_true {ρ : Type} (a : Option ρ) : ck true a = a := rfl
def bI (b : Bool) : Int32 := if b = true then 1 else 0
theorem bI_0 (b : Bool) : (bI b = 0) = (b = false) := by cases b <;> simp [bI] 
theorem isB_bI (b : Bool) : isB (bI b) = true := by cases b <;> decide
theorem bI_t : bI true = 1 := rfl
theorem bI_f : bI false = 0 := rfl
theorem inb_nI {j n : Nat} (h : j < n) (hn : n ≤ 2 ^ 31) : inb (nI j) n = true := decide_eq_true (by have := nI_clamp (n := j) (by omega); have h2 := nI_toInt (n := j) (by omega); rw [this, Int32.lt_iff_toInt_lt, h2]; simp; omega)
theorem lp_run {α ρ : Type} {b : (α → Option ρ) → α → Option ρ} {fin : Option ρ} (st : Nat → α) (m : Nat) (hfin : ∀ k, b k (st m) = fin) : ∀ (n i : Nat), i ≤ m → m - i < n → (∀ j, i ≤ j → j < m → ∀ k, b k (st j) = k (st (j + 1))) → lp b n (st i) = fin := by
  intro n
  induction n with
  | zero => intro i _ h; exact absurd h (Nat.not_lt_zero _)
  | succ n ih =>
    intro i hi hn hs
    show b (lp b n) (st i) = fin
    rcases Nat.lt_or_ge i m with h | h
    · rw [hs i (Nat.le_refl _) h]
      exact ih (i + 1) h (by omega) (fun j hj => hs j (by omega))
    · have e : i = m := by omega
      subst e; exact hfin _
theorem lp_inv {α ρ : Type} {b : (α → Option ρ) → α → Option ρ} {Post : ρ → Prop} (I : Nat → α → Prop) (m : Nat) (hfin : ∀ x, I m x → ∃ r, (∀ k, b k x = some r) ∧ Post r) (hs : ∀ j x, j < m → I j x → ∃ x', (∀ k, b k x = k x') ∧ I (j + 1) x') : ∀ (n i : Nat) (x : α), i ≤ m → m - i < n → I i x → ∃ r, lp b n x = some r ∧ Post r := by
  intro n
  induction n with
  | zero => intro i x _ h; exact absurd h (Nat.not_lt_zero _)
  | succ n ih =>
    intro i x hi hn hI
    show ∃ r, b (lp b n) x = some r ∧ Post r
    rcases Nat.lt_or_ge i m with h | h
    · obtain ⟨x', e, hI'⟩ := hs i x h hI
      rw [e]
      exact ih (i + 1) x' h (by omega) hI'
    · have e : i = m := by omega
      subst e
      obtain ⟨r, e, hp⟩ := hfin x hI
      exact ⟨r, e _, hp⟩
