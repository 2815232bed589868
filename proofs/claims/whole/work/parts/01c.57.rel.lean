def byt (x : Int32) : Prop := 0 ≤ x.toInt ∧ x.toInt ≤ 255
/-- the law: none on both sides; or a text there, its signs here -/
def LWp (tm : Int32) (tx : Nat → Int32) (ln : Int32) (sg : Nat → Int32) : Prop := (tm = -1 ∧ ln = 0) ∨ ∃ (n : Nat) (cd : List Int32) (L : List Li), 1 ≤ n ∧ n ≤ 120 ∧ tm = nI n ∧ (∀ j, j < n → byt (tx j)) ∧ sText (fun j => if j < n then tx j else 0) n = .inr (cd, L) ∧ 1 ≤ cd.length ∧ cd.length ≤ 121 ∧ ln = nI cd.length ∧ ∀ j, j < cd.length → sg j = cd.getD j 0
def rLw (V T : St) : Prop := LWp (gi V 44 13) (V.1 52) (gi T 2 6) (T.1 21)
def rTa (V T : St) (F : Nat) : Prop := gi T 2 0 = nI F ∧ F ≤ 120 ∧ gi V 44 11 = nI F ∧ ∀ j, j < 120 → gi V 51 j = gi T 20 j ∧ (j < F → byt (gi T 20 j))
/-- deeds: led, now, the image -/
def rLd (V T : St) (Q : Nat) : Prop := (∃ nw, nw ≤ 99 ∧ gi T 31 4 = nI nw ∧ gi V 44 22 = nI nw) ∧ (∃ nw, nw ≤ 99 ∧ gi T 32 4 = nI nw ∧ gi V 44 26 = nI nw) ∧ (∀ j, j < 4 → gi V 56 j = gi T 31 j ∧ gi V 58 j = gi T 32 j) ∧ gi V 44 24 = gi T 7 1 ∧ (∃ qi, qi ≤ Q ∧ gi T 7 5 = nI qi ∧ gi V 44 25 = nI qi) ∧ ∀ j, j < 10 → gi V 57 j = gi T 33 j ∧ (-1 ≤ (gi T 33 j).toInt ∧ (gi T 33 j).toInt ≤ 99)
/-- what number w (0 .. 6) of the number n may become x -/
def okv (T : St) (P Q w n : Nat) (x : Int32) : Prop := (w = 0 → n < P ∧ 0 ≤ x.toInt ∧ x.toInt ≤ 30) ∧ (w = 1 → n < P ∧ 1 ≤ x.toInt ∧ x.toInt ≤ 60) ∧ (w = 2 → n < P ∧ 0 ≤ x.toInt ∧ x.toInt ≤ 9) ∧ (3 ≤ w → n < Q) ∧ (w = 3 → (gi T 15 n).toInt ≤ x.toInt ∧ x.toInt ≤ 99) ∧ (w = 4 → 1 ≤ x.toInt ∧ x.toInt ≤ 9) ∧ (w = 5 → -1 ≤ x.toInt ∧ x.toInt ≤ 99) ∧ (w = 6 → x = -1 ∨ ∃ k, k < P ∧ x = nI k)
def plc (w n : Nat) : Nat := if w < 3 then 6 * w + n else 18 + 10 * (w - 3) + n
def iCe (V T : St) (P Q j : Nat) : Prop := ∃ w n, w ≤ 6 ∧ gi T 35 j = nI w ∧ gi T 34 j = nI n ∧ gi V 46 j = nI (plc w n) ∧ gi V 47 j = gi T 36 j ∧ gi V 48 j = gi T 37 j ∧ okv T P Q w n (gi T 36 j) ∧ okv T P Q w n (gi T 37 j)
def rCh (V T : St) (P Q c a : Nat) : Prop := gi T 8 0 = nI c ∧ gi T 8 1 = nI a ∧ c ≤ a ∧ a ≤ 40 ∧ gi V 44 5 = nI c ∧ gi V 44 4 = nI a ∧ ∀ j, j < a → iCe V T P Q j
def rBo (V T : St) (B : Nat) : Prop := gi T 9 0 = nI B ∧ B ≤ 50 ∧ gi V 44 29 = nI B ∧ (∀ j, j < B → ∃ k, k < 8 ∧ gi T 39 j = nI k ∧ gi V 59 j = nI k) ∧ gi V 44 32 = gi T 9 1 ∧ ∀ j, j < 24 → gi V 60 j = gi T 38 j
def rS1 (V T : St) (B d : Nat) : Prop := (gi T 42 d = -1 ∧ gi V 61 d = -1) ∨ (gi T 42 d = 5 ∧ ∃ b, b < B ∧ gi T 41 d = nI b ∧ gi V 61 d = nI b) ∨ ∃ s n, s ≤ 4 ∧ n ≤ 60 ∧ gi T 42 d = nI s ∧ gi T 40 d = nI n ∧ gi V 61 d = nI (50 + s) ∧ gi V 62 d = nI n ∧ (s = 0 → ∀ j, j < 60 → -128 ≤ (gl T 43 (60 * d + j)).toInt ∧ (gl T 43 (60 * d + j)).toInt ≤ 127)
def rSh (V T : St) (B : Nat) : Prop := (∀ d, d < 6 → rS1 V T B d) ∧ ∀ j, j < 360 → gl V 63 j = gl T 43 j
def RLk (V T : St) (P Q F c a B : Nat) : Prop := iN T P Q ∧ iPe T P ∧ iPr T P Q ∧ rP V T ∧ rTa V T F ∧ rLw V T ∧ rLd V T Q ∧ rCh V T P Q c a ∧ rBo V T B ∧ rSh V T B
def RR (S V : St) : Prop := ∃ T P Q F c a B, Core S T ∧ RLk V T P Q F c a B
/-- scratch of the reference -/
def scm (v i : Nat) : Bool := decide (v = 53) || decide (v = 54) || decide (v = 55) || (decide (v = 44) && ((decide (14 ≤ i) && decide (i ≤ 18)) || decide (i = 33) || decide (i = 34)))
def OfM (V V' : St) : Prop := (∀ v i, scm v i = false → gi V' v i = gi V v i) ∧ ∀ i, gl V' 63 i = gl V 63 i
theorem OfM.refl (V : St) : OfM V V := ⟨fun _ _ _ => rfl, fun _ => rfl⟩
theorem OfM.trans {A B C : St} (h1 : OfM A B) (h2 : OfM B C) : OfM A C := ⟨fun v i h => (h2.1 v i h).trans (h1.1 v i h), fun i => (h2.2 i).trans (h1.2 i)⟩
theorem OfM.rP {V V' T : St} (h : OfM V V') (r : rP V T) : rP V' T := by
  obtain ⟨r1, r2, r3, r4⟩ := r
  refine ⟨(h.1 44 6 rfl).trans r1, (h.1 44 7 rfl).trans r2, fun j hj => ?_, fun j hj => ?_⟩
  · obtain ⟨a1, a2, a3⟩ := r3 j hj
    exact ⟨(h.1 45 _ rfl).trans a1, (h.1 45 _ rfl).trans a2, (h.1 45 _ rfl).trans a3⟩
  · obtain ⟨a1, a2, a3, a4, a5, a6⟩ := r4 j hj
    exact ⟨(h.1 49 _ rfl).trans a1, (h.1 50 _ rfl).trans a2, (h.1 45 _ rfl).trans a3, (h.1 45 _ rfl).trans a4, (h.1 45 _ rfl).trans a5, (h.1 45 _ rfl).trans a6⟩
theorem OfM.RLk {V V' T : St} {P Q F c a B : Nat} (h : OfM V V') (r : RLk V T P Q F c a B) : RLk V' T P Q F c a B := by
  obtain ⟨hN, hPe, hPr, hP, hTa, hLw, hLd, hCh, hBo, hSh⟩ := r
  refine ⟨hN, hPe, hPr, h.rP hP, ?_, ?_, ?_, ?_, ?_, ?_⟩
  · obtain ⟨a1, a2, a3, a4⟩ := hTa
    exact ⟨a1, a2, (h.1 44 11 rfl).trans a3, fun j hj => ⟨(h.1 51 j rfl).trans (a4 j hj).1, (a4 j hj).2⟩⟩
  · have e : V'.1 52 = V.1 52 := funext fun i => h.1 52 i rfl
    unfold rLw at hLw ⊢
    rw [h.1 44 13 rfl, e]; exact hLw
  · obtain ⟨⟨x1, a1, b1, c1⟩, ⟨x2, a2, b2, c2⟩, a3, a4, ⟨x5, a5, b5, c5⟩, a6⟩ := hLd
    exact ⟨⟨x1, a1, b1, (h.1 44 22 rfl).trans c1⟩, ⟨x2, a2, b2, (h.1 44 26 rfl).trans c2⟩, fun j hj => ⟨(h.1 56 j rfl).trans (a3 j hj).1, (h.1 58 j rfl).trans (a3 j hj).2⟩, (h.1 44 24 rfl).trans a4, ⟨x5, a5, b5, (h.1 44 25 rfl).trans c5⟩, fun j hj => ⟨(h.1 57 j rfl).trans (a6 j hj).1, (a6 j hj).2⟩⟩
  · obtain ⟨a1, a2, a3, a4, a5, a6, a7⟩ := hCh
    refine ⟨a1, a2, a3, a4, (h.1 44 5 rfl).trans a5, (h.1 44 4 rfl).trans a6, fun j hj => ?_⟩
    obtain ⟨w, n, b1, b2, b3, b4, b5, b6, b7, b8⟩ := a7 j hj
    exact ⟨w, n, b1, b2, b3, (h.1 46 j rfl).trans b4, (h.1 47 j rfl).trans b5, (h.1 48 j rfl).trans b6, b7, b8⟩
  · obtain ⟨a1, a2, a3, a4, a5, a6⟩ := hBo
    refine ⟨a1, a2, (h.1 44 29 rfl).trans a3, fun j hj => ?_, (h.1 44 32 rfl).trans a5, fun j hj => (h.1 60 j rfl).trans (a6 j hj)⟩
    obtain ⟨k, b1, b2, b3⟩ := a4 j hj
    exact ⟨k, b1, b2, (h.1 59 j rfl).trans b3⟩
  · obtain ⟨a1, a2⟩ := hSh
    refine ⟨fun d hd => ?_, fun j hj => (h.2 j).trans (a2 j hj)⟩
    rcases a1 d hd with ⟨b1, b2⟩ | ⟨b1, b, b2, b3, b4⟩ | ⟨s, n, b1, b2, b3, b4, b5, b6, b7⟩
    · exact .inl ⟨b1, (h.1 61 d rfl).trans b2⟩
    · exact .inr (.inl ⟨b1, b, b2, b3, (h.1 61 d rfl).trans b4⟩)
    · exact .inr (.inr ⟨s, n, b1, b2, b3, b4, (h.1 61 d rfl).trans b5, (h.1 62 d rfl).trans b6, b7⟩)
theorem Core.si {S T : St} (h : Core S T) (v i : Nat) (x : Int32) : Core (si S v i x) (si T v i x) := ⟨fun w j hw => by
  rw [gi_si, gi_si, h.1 w j hw], fun i => h.2 i⟩
theorem Core.sl {S T : St} (h : Core S T) (i : Nat) (x : Int64) : Core (sl S 43 i x) (sl T 43 i x) := ⟨fun w j hw => h.1 w j hw, fun j => by
  rw [gl_sl, gl_sl, h.2 j]⟩
/-- a branch on a truth value -/
theorem if_bI {ρ : Type} (b : Bool) (x y : ρ) : (if bI b = 0 then x else y) = if b = true then y else x := by cases b <;> rfl
theorem RR_same {S V : St} (h : RR S V) : RR S V := h
theorem Mo_isOne_eq {V T : St} {P Q : Nat} (hR : rP V T) (hN : iN T P Q) (x : Int64) : Mo_isOne V x = some (bI (wi x.toInt 0 (P - 1))) := by
  have hP := hN.2.1
  unfold Mo_isOne
  rw [hR.1, hN.1, Mo_within_eq, bd1_some, isB_bI, ck_true, Int32.toInt_toInt64, Int32.toInt_sub, nI_toInt (n := P) (by omega)]
  have : ((P : Int) - (1 : Int32).toInt).bmod (2 ^ 32) = P - 1 := by
    have e : (1 : Int32).toInt = 1 := rfl
    rw [e, Int.bmod_eq_of_le] <;> omega
  rw [this]; rfl
theorem Mo_isPromise_eq {V T : St} {P Q : Nat} (hR : rP V T) (hN : iN T P Q) (x : Int64) : Mo_isPromise V x = some (bI (wi x.toInt 0 (Q - 1))) := by
  have hQ := hN.2.2.2
  unfold Mo_isPromise
  rw [hR.2.1, hN.2.2.1, Mo_within_eq, bd1_some, isB_bI, ck_true, Int32.toInt_toInt64, Int32.toInt_sub, nI_toInt (n := Q) (by omega)]
  have : ((Q : Int) - (1 : Int32).toInt).bmod (2 ^ 32) = Q - 1 := by
    have e : (1 : Int32).toInt = 1 := rfl
    rw [e, Int.bmod_eq_of_le] <;> omega
  rw [this]; rfl
theorem wi_nI {x : Int32} {n : Nat} (h : wi x.toInt 0 ((n : Int) - 1) = true) : ∃ k, k < n ∧ x = nI k := by
  have h2 := of_decide_eq_true h
  obtain ⟨e, e2⟩ := i32_nI h2.1
  exact ⟨_, by omega, e⟩
theorem wi_t {a b c : Int} : (wi a b c = true) = (b ≤ a ∧ a ≤ c) := by unfold wi; simp
