/-- what the drawing of lives leaves alone -/
def Dv (V V' : St) (Q : Nat) : Prop := (∀ v i, v ≠ 45 → v ≠ 55 → gi V' v i = gi V v i) ∧ (∀ i, ¬ (38 ≤ i ∧ i < 38 + Q) → gi V' 45 i = gi V 45 i) ∧ ∀ i, gl V' 63 i = gl V 63 i
theorem MP_row {V V' T : St} {P Q : Nat} {z : Int32} (hM : MP V T P Q) (h : Dv V V' Q) (hk : ∀ p, p < Q → gi V' 45 (38 + p) = dk T z p) : MP V' (setRow T 18 (fun j => gi V' 45 (38 + j))) P Q := by
  obtain ⟨⟨r1, r2, r3, r4⟩, hN, hPe, hPr⟩ := hM
  obtain ⟨g1, g2, -⟩ := h
  have hQ10 := hN.2.2.2
  refine ⟨⟨?_, ?_, fun j hj => ?_, fun j hj => ?_⟩, ?_, ?_, fun j hj => ?_⟩
  · simp only [gi_setRow, Nat.reduceEqDiff, reduceIte]; rw [g1 44 6 (by decide) (by decide)]; exact r1
  · simp only [gi_setRow, Nat.reduceEqDiff, reduceIte]; rw [g1 44 7 (by decide) (by decide)]; exact r2
  · simp only [gi_setRow, Nat.reduceEqDiff, reduceIte]
    rw [g2 j (by omega), g2 (6 + j) (by omega), g2 (12 + j) (by omega)]; exact r3 j hj
  · obtain ⟨b1, b2, b3, b4, b5, b6⟩ := r4 j hj
    simp only [gi_setRow, Nat.reduceEqDiff, reduceIte]
    rw [g1 49 j (by decide) (by decide), g1 50 j (by decide) (by decide), g2 (18 + j) (by omega), g2 (28 + j) (by omega), g2 (48 + j) (by omega)]
    exact ⟨b1, b2, b3, b4, trivial, b6⟩
  · simpa only [iN, gi_setRow, Nat.reduceEqDiff, reduceIte] using hN
  · simpa only [iPe, gi_setRow, Nat.reduceEqDiff, reduceIte] using hPe
  · obtain ⟨b1, b2, b3, b4, b5⟩ := hPr j hj
    simp only [gi_setRow, Nat.reduceEqDiff, reduceIte]
    rw [hk j hj]
    exact ⟨b1, b2, b3, dk_ok T z j, b5⟩
theorem rd_row {T : St} {f : Nat → Int32} {z : Int32} {Q o x : Nat} (h : ∀ p, p < Q → f p = dk T z p) : rd (setRow T 18 f) Q o x = rd (lf T z) Q o x := by
  unfold rd rid lf
  rw [lenU_row Q h]
  unfold gor
  simp only [gi_setRow, Nat.reduceEqDiff, reduceIte]
theorem draw_V {V T : St} {P Q N : Nat} (hM : MP V T P Q) {V0 : St} (hD : Dv V V0 Q) (l2 l3 l4 l6 l7 z : Int32) (hf : 10 < N) : ∃ V', (∀ k82, Mo_drawn_L91 N k82 l2 l3 l4 l6 l7 (V0, z, 0) = if 0 ≤ l4 then Mo_drawn_L169 N k82 V' l2 l3 l4 (zz z Q) l7 (l6, l4) else Mo_drawn_L169 N k82 V' l2 l3 l4 (zz z Q) l7 (l6, 0)) ∧ Dv V V' Q ∧ (∀ i, gi V' 55 i = gi V0 55 i) ∧ ∀ p, p < Q → gi V' 45 (38 + p) = dk T z p := by
  have hQ10 := hM.2.1.2.2.2
  unfold Mo_drawn_L91
  have hs : ∀ j (x : St × Int32 × Int32), j < Q → (fun j (x : St × Int32 × Int32) => ∃ Vj, x = (Vj, zz z j, nI j) ∧ Dv V Vj Q ∧ (∀ i, gi Vj 55 i = gi V0 55 i) ∧ ∀ p, p < j → gi Vj 45 (38 + p) = dk T z p) j x → ∃ x', (∀ (k82 : (St × Int32 × Int32 × Int32) → Option (Int32 × St)) k, (fun k82 k (x : St × Int32 × Int32) => Mo_drawn_b91 N k82 k x.1 l2 l3 l4 l6 l7 x.2.1 x.2.2) k82 k x = k x') ∧ (fun j (x : St × Int32 × Int32) => ∃ Vj, x = (Vj, zz z j, nI j) ∧ Dv V Vj Q ∧ (∀ i, gi Vj 55 i = gi V0 55 i) ∧ ∀ p, p < j → gi Vj 45 (38 + p) = dk T z p) (j + 1) x' := by
    rintro j x hj ⟨Vj, rfl, h1, h2, h3⟩
    refine ⟨(si Vj 45 (38 + j) (dk T z j), zz z (j + 1), nI (j + 1)), fun k82 k => ?_, _, rfl, ⟨fun v i a b => ?_, fun i hi => ?_, fun i => h1.2.2 i⟩, fun i => ?_, fun p hp => ?_⟩
    · dsimp only
      unfold Mo_drawn_b91
      rw [h1.1 44 7 (by decide) (by decide), hM.1.2.1, hM.2.1.2.2.1, if_neg (by rw [le_nI _ _ (by omega) (by omega)]; omega), inb_nI (j := j) (n := 10) (by omega) (by omega)]
      simp only [nm_eq, nI_1, ck_true, a38, inb_nI (j := 38 + j) (n := 58) (by omega) (by omega), cl j (show j < 5000 by omega), cl (38 + j) (show 38 + j < 5000 by omega), h1.1 50 j (by decide) (by decide), (hM.1.2.2.2 j (by omega)).2.1]
      show (if zd (zz z j) < gi T 15 j then k (si Vj 45 (38 + j) (-1), zn (zz z j), nI (j + 1)) else k (si Vj 45 (38 + j) (zd (zz z j)), zn (zz z j), nI (j + 1))) = k (si Vj 45 (38 + j) (dk T z j), zn (zz z j), nI (j + 1))
      unfold dk
      split <;> rfl
    · rw [gi_si, if_neg a]; exact h1.1 v i a b
    · rw [gi_si, if_pos rfl, if_neg (by omega)]; exact h1.2.1 i hi
    · rw [gi_si, if_neg (by decide)]; exact h2 i
    · rw [gi_si, if_pos rfl]
      by_cases e : p = j
      · rw [if_pos (by omega), e]
      · rw [if_neg (by omega)]; exact h3 p (by omega)
  obtain ⟨x, ⟨Vj, rfl, h1, h2, h3⟩, e⟩ := lp_fam _ Q hs N 0 (V0, z, 0) (by omega) (by omega) ⟨V0, rfl, hD, fun _ => rfl, fun p hp => absurd hp (Nat.not_lt_zero _)⟩
  refine ⟨Vj, fun k82 => ?_, h1, h2, h3⟩
  obtain ⟨k, e⟩ := e k82
  rw [e]
  dsimp only
  unfold Mo_drawn_b91
  rw [h1.1 44 7 (by decide) (by decide), hM.1.2.1, hM.2.1.2.2.1, if_pos (Int32.le_refl _)]
theorem days_V {V T : St} {P Q N o : Nat} (hM : MP V T P Q) (ho : o < P) {V' : St} {z : Int32} (hD : Dv V V' Q) (hk : ∀ p, p < Q → gi V' 45 (38 + p) = dk T z p) (k82 : (St × Int32 × Int32 × Int32) → Option (Int32 × St)) (l2 l5 : Int32) {day : Int32} (hd : day = -1 ∨ ∃ x, x < 100 ∧ day = nI x) (sm i : Nat) (hi : i < 1000) (hf : 101 < N) : (if 0 ≤ day then Mo_drawn_L169 N k82 V' l2 (nI o) day l5 (nI i) (nI sm, day) else Mo_drawn_L169 N k82 V' l2 (nI o) day l5 (nI i) (nI sm, 0)) = k82 (V', l5, nI (sm + lr1 T Q o day z), nI (i + 1)) := by
  have hM2 := MP_row hM hD hk
  have hr : ∀ x, Mo_doesRide N V' (nI o) (nI x) = some (bI (rd (lf T z) Q o x)) := fun x => by
    rw [Mo_doesRide_rd hM2 ho x (by omega), rd_row hk]
  unfold Mo_drawn_L169 lr1
  rcases hd with rfl | ⟨x, hx, rfl⟩
  · rw [if_neg (by decide), if_pos rfl]
    refine lp_run (fun j => (nI (sm + cnt (rd (lf T z) Q o) j), nI j)) 100 (fun k => ?_) N 0 (by omega) (by omega) (fun j _ hj k => ?_)
    · dsimp only
      unfold Mo_drawn_b169 Mo_drawn_b183
      rw [if_neg (by decide), if_pos (by show nI 99 < nI 100; decide), nm_eq, nI_1]
    · dsimp only
      unfold Mo_drawn_b169 Mo_drawn_b183
      rw [if_neg (by decide), if_neg (by show ¬ nI 99 < nI j; rw [lt_nI _ _ (by omega) (by omega)]; omega), hr, bd1_some, if_bI]
      have ec : cnt (rd (lf T z) Q o) (j + 1) = cnt (rd (lf T z) Q o) j + (if rd (lf T z) Q o j = true then 1 else 0) := rfl
      rw [ec]
      simp only [nm_eq, nI_1, Int32.add_zero, ← Nat.add_assoc]
      by_cases h : rd (lf T z) Q o j = true <;> simp [h]
  · have hne : ¬ nI x = (-1 : Int32) := fun e => by have := congrArg Int32.toInt e; rw [ti x (by omega), tim1] at this; omega
    have h0 : (0 : Int32) ≤ nI x := by show nI 0 ≤ nI x; rw [le_nI _ _ (by omega) (by omega)]; omega
    rw [if_pos h0, if_neg hne, cl x (by omega)]
    refine lp_run (fun j => (nI (sm + cnt (fun j => rd (lf T z) Q o (x + j)) j), nI (x + j))) 1 (fun k => ?_) N 0 (by omega) (by omega) (fun j _ hj k => ?_)
    · dsimp only
      unfold Mo_drawn_b169 Mo_drawn_b183
      rw [if_pos h0, if_pos (by rw [lt_nI _ _ (by omega) (by omega)]; omega), nm_eq, nI_1]
    · dsimp only
      unfold Mo_drawn_b169 Mo_drawn_b183
      rw [if_pos h0, if_neg (by rw [lt_nI _ _ (by omega) (by omega)]; omega), hr, bd1_some, if_bI]
      have ec : cnt (fun j => rd (lf T z) Q o (x + j)) (j + 1) = cnt (fun j => rd (lf T z) Q o (x + j)) j + (if rd (lf T z) Q o (x + j) = true then 1 else 0) := rfl
      rw [ec]
      simp only [nm_eq, nI_1, Int32.add_zero, ← Nat.add_assoc]
      by_cases h : rd (lf T z) Q o (x + j) = true <;> simp [h]
theorem lives_V {V T : St} {P Q N o n : Nat} (hM : MP V T P Q) (ho : o < P) (hn : n ≤ 30) {day : Int32} (hd : day = -1 ∨ ∃ x, x < 100 ∧ day = nI x) (z : Int32) {V0 : St} (hD : Dv V V0 Q) (hf : 110 < N) : ∃ V', Mo_drawn_L82 N (nI n) (nI o) day (V0, z, 0, 0) = Mo_drawn_L221 N (nI (dr T Q o day z n).1) (V', 0) ∧ Dv V V' Q ∧ ∀ i, gi V' 55 i = gi V0 55 i := by
  unfold Mo_drawn_L82
  have hs : ∀ j (x : St × Int32 × Int32 × Int32), j < n → (fun j (x : St × Int32 × Int32 × Int32) => ∃ Vj, x = (Vj, (dr T Q o day z j).2, nI (dr T Q o day z j).1, nI j) ∧ Dv V Vj Q ∧ ∀ i, gi Vj 55 i = gi V0 55 i) j x → ∃ x', (∀ k, (fun k (x : St × Int32 × Int32 × Int32) => Mo_drawn_b82 N k x.1 (nI n) (nI o) day x.2.1 x.2.2.1 x.2.2.2) k x = k x') ∧ (fun j (x : St × Int32 × Int32 × Int32) => ∃ Vj, x = (Vj, (dr T Q o day z j).2, nI (dr T Q o day z j).1, nI j) ∧ Dv V Vj Q ∧ ∀ i, gi Vj 55 i = gi V0 55 i) (j + 1) x' := by
    rintro j x hj ⟨Vj, rfl, h1, h2⟩
    dsimp only
    have ed : dr T Q o day z (j + 1) = ((dr T Q o day z j).1 + lr1 T Q o day (dr T Q o day z j).2, zz (dr T Q o day z j).2 Q) := rfl
    rw [ed]
    generalize dr T Q o day z j = y
    obtain ⟨sm, zj⟩ := y
    dsimp only
    obtain ⟨V1, v1, v2, v3, v4⟩ := draw_V (N := N) hM h1 (nI n) (nI o) day (nI sm) (nI j) zj (by omega)
    refine ⟨(V1, zz zj Q, nI (sm + lr1 T Q o day zj), nI (j + 1)), fun k => ?_, V1, rfl, v2, fun i => (v3 i).trans (h2 i)⟩
    unfold Mo_drawn_b82
    rw [if_neg (by rw [le_nI _ _ (by omega) (by omega)]; omega), v1, days_V (N := N) hM ho v2 v4 k (nI n) (zz zj Q) hd sm j (by omega) (by omega)]
  obtain ⟨x, k, e, Vj, rfl, h1, h2⟩ := lp_go _ n hs N 0 (V0, z, 0, 0) (by omega) (by omega) ⟨V0, rfl, hD, fun _ => rfl⟩
  refine ⟨Vj, ?_, h1, h2⟩
  rw [e]
  dsimp only
  unfold Mo_drawn_b82
  rw [if_pos (Int32.le_refl _)]
theorem restore_V {V T : St} {P Q N : Nat} (hM : MP V T P Q) {V0 : St} (hD : Dv V V0 Q) (h55 : ∀ p, p < Q → gi V0 55 p = gi V 45 (38 + p)) (s : Int32) (hf : 10 < N) : ∃ V', Mo_drawn_L221 N s (V0, 0) = some (s, V') ∧ OfM V V' := by
  have hQ10 := hM.2.1.2.2.2
  unfold Mo_drawn_L221
  have hs : ∀ j (x : St × Int32), j < Q → (fun j (x : St × Int32) => ∃ Vj, x = (Vj, nI j) ∧ Dv V Vj Q ∧ (∀ i, gi Vj 55 i = gi V0 55 i) ∧ ∀ p, p < j → gi Vj 45 (38 + p) = gi V 45 (38 + p)) j x → ∃ x', (∀ k, (fun k (x : St × Int32) => Mo_drawn_b221 N k x.1 s x.2) k x = k x') ∧ (fun j (x : St × Int32) => ∃ Vj, x = (Vj, nI j) ∧ Dv V Vj Q ∧ (∀ i, gi Vj 55 i = gi V0 55 i) ∧ ∀ p, p < j → gi Vj 45 (38 + p) = gi V 45 (38 + p)) (j + 1) x' := by
    rintro j x hj ⟨Vj, rfl, h1, h2, h3⟩
    refine ⟨(si Vj 45 (38 + j) (gi Vj 55 j), nI (j + 1)), fun k => ?_, _, rfl, ⟨fun v i a b => ?_, fun i hi => ?_, fun i => h1.2.2 i⟩, fun i => ?_, fun p hp => ?_⟩
    · dsimp only
      unfold Mo_drawn_b221
      rw [h1.1 44 7 (by decide) (by decide), hM.1.2.1, hM.2.1.2.2.1, if_neg (by rw [le_nI _ _ (by omega) (by omega)]; omega), inb_nI (j := j) (n := 10) (by omega) (by omega), a38, inb_nI (j := 38 + j) (n := 58) (by omega) (by omega), ck_true, ck_true, cl j (by omega), cl (38 + j) (by omega), nm_eq, nm_eq, nI_1]
    · rw [gi_si, if_neg a]; exact h1.1 v i a b
    · rw [gi_si, if_pos rfl, if_neg (by omega)]; exact h1.2.1 i hi
    · rw [gi_si, if_neg (by decide)]; exact h2 i
    · rw [gi_si, if_pos rfl]
      by_cases e : p = j
      · rw [if_pos (by omega), e, h2 j]; exact h55 j (by omega)
      · rw [if_neg (by omega)]; exact h3 p (by omega)
  obtain ⟨x, k, e, Vj, rfl, h1, h2, h3⟩ := lp_go _ Q hs N 0 (V0, 0) (by omega) (by omega) ⟨V0, rfl, hD, fun _ => rfl, fun p hp => absurd hp (Nat.not_lt_zero _)⟩
  refine ⟨Vj, ?_, fun v i hv => ?_, fun i => h1.2.2 i⟩
  · rw [e]
    dsimp only
    unfold Mo_drawn_b221
    rw [h1.1 44 7 (by decide) (by decide), hM.1.2.1, hM.2.1.2.2.1, if_pos (Int32.le_refl _)]
  · by_cases h5 : v = 55
    · subst h5; exact absurd hv (by simp [scm])
    · by_cases h4 : v = 45
      · subst h4
        by_cases hi : 38 ≤ i ∧ i < 38 + Q
        · obtain ⟨p, rfl⟩ : ∃ p, i = 38 + p := ⟨i - 38, by omega⟩
          exact h3 p (by omega)
        · exact h1.2.1 i hi
      · exact h1.1 v i h4 h5
theorem save_V {V T : St} {P Q N : Nat} (hM : MP V T P Q) (l1 l2 l3 l4 : Int32) (hf : 10 < N) : ∃ V', Mo_drawn_L41 N l1 l2 l3 l4 (V, 0) = Mo_drawn_L82 N l2 l3 l4 (V', l1, 0, 0) ∧ Dv V V' Q ∧ ∀ p, p < Q → gi V' 55 p = gi V 45 (38 + p) := by
  have hQ10 := hM.2.1.2.2.2
  unfold Mo_drawn_L41
  have hs : ∀ j (x : St × Int32), j < Q → (fun j (x : St × Int32) => ∃ Vj, x = (Vj, nI j) ∧ (∀ v i, v ≠ 55 → gi Vj v i = gi V v i) ∧ (∀ i, gl Vj 63 i = gl V 63 i) ∧ ∀ p, p < j → gi Vj 55 p = gi V 45 (38 + p)) j x → ∃ x', (∀ k, (fun k (x : St × Int32) => Mo_drawn_b41 N k x.1 l1 l2 l3 l4 x.2) k x = k x') ∧ (fun j (x : St × Int32) => ∃ Vj, x = (Vj, nI j) ∧ (∀ v i, v ≠ 55 → gi Vj v i = gi V v i) ∧ (∀ i, gl Vj 63 i = gl V 63 i) ∧ ∀ p, p < j → gi Vj 55 p = gi V 45 (38 + p)) (j + 1) x' := by
    rintro j x hj ⟨Vj, rfl, h1, h2, h3⟩
    refine ⟨(si Vj 55 j (gi Vj 45 (38 + j)), nI (j + 1)), fun k => ?_, _, rfl, fun v i a => ?_, fun i => h2 i, fun p hp => ?_⟩
    · dsimp only
      unfold Mo_drawn_b41
      rw [h1 44 7 (by decide), hM.1.2.1, hM.2.1.2.2.1, if_neg (by rw [le_nI _ _ (by omega) (by omega)]; omega), inb_nI (j := j) (n := 10) (by omega) (by omega), a38, inb_nI (j := 38 + j) (n := 58) (by omega) (by omega), ck_true, ck_true, cl j (by omega), cl (38 + j) (by omega), nm_eq, nm_eq, nI_1]
    · rw [gi_si, if_neg a]; exact h1 v i a
    · rw [gi_si, if_pos rfl]
      by_cases e : p = j
      · rw [if_pos e, e]; exact h1 45 _ (by decide)
      · rw [if_neg e]; exact h3 p (by omega)
  obtain ⟨x, k, e, Vj, rfl, h1, h2, h3⟩ := lp_go _ Q hs N 0 (V, 0) (by omega) (by omega) ⟨V, rfl, fun _ _ _ => rfl, fun _ => rfl, fun p hp => absurd hp (Nat.not_lt_zero _)⟩
  refine ⟨Vj, ?_, ⟨fun v i _ b => h1 v i b, fun i _ => h1 45 i (by decide), h2⟩, h3⟩
  rw [e]
  dsimp only
  unfold Mo_drawn_b41
  rw [h1 44 7 (by decide), hM.1.2.1, hM.2.1.2.2.1, if_pos (Int32.le_refl _)]
theorem RR_drawn : LS_drawn RR := by
  rintro S V p1 p2 p3 p4 hRR
  have hRR' := hRR
  obtain ⟨T, P, Q, F, c, a, B, hC, hR⟩ := hRR
  have hR' := hR
  obtain ⟨hN, hPe, hPr, hP, -⟩ := hR'
  have hX : XP S T P Q := ⟨hC, hN, hPe, hPr⟩
  have hM : MP V T P Q := ⟨hP, hN, hPe, hPr⟩
  unfold Ch_drawn Mo_drawn
  simp only [Sm_isOne_eq hC hN, Mo_isOne_eq hP hN, Ch_within_eq, Mo_within_eq, Mo_isDay_eq, bd1_some, if_bI, Int32.toInt_toInt64, tI1, tI30, ti1, ti30, ti99, tim1]
  by_cases h1 : wi p2.toInt 1 30 = true
  · rw [if_pos h1, if_pos h1]
    by_cases h2 : wi p3.toInt 0 ((P : Int) - 1) = true
    · rw [if_pos h2, if_pos h2]
      obtain ⟨o, ho, rfl⟩ := wi_nI h2
      rw [wi_t] at h1
      obtain ⟨e, e2⟩ := i32_nI (x := p2) (by omega)
      generalize p2.toNatClampNeg = n at e e2
      subst e
      rw [ti n (by omega)] at h1
      have main : (p4 = -1 ∨ ∃ x, x < 100 ∧ p4 = nI x) → ∃ r S1 V1, (bd2 (Dy_drawnRides fuel S p1 (nI n) (nI o) p4) fun r5 S4 => some (r5, S4)) = some (r, S1) ∧ Mo_drawn_L41 fuel p1 (nI n) (nI o) p4 (V, 0) = some (r, V1) ∧ RR S1 V1 := fun hd => by
        obtain ⟨S', s1, s2⟩ := drawn_S (N := fuel) hX ho (n := n) (by omega) hd p1 (by decide)
        obtain ⟨V1, v1, v2, v3⟩ := save_V (N := fuel) hM p1 (nI n) (nI o) p4 (by decide)
        obtain ⟨V2, w1, w2, w3⟩ := lives_V (N := fuel) hM ho (n := n) (by omega) hd p1 v2 (by decide)
        obtain ⟨V3, x1, x2⟩ := restore_V (N := fuel) hM w2 (fun p hp => (w3 p).trans (v3 p hp)) (nI (dr T Q o p4 p1 n).1) (by decide)
        rw [s1, bd2_some, v1, w1, x1]
        exact ⟨_, _, _, rfl, rfl, T, P, Q, F, c, a, B, s2, x2.RLk hR⟩
      by_cases h3 : p4 = -1
      · rw [if_pos h3, if_pos (by rw [h3]; decide)]; exact main (.inl h3)
      · rw [if_neg h3]
        by_cases h4 : wi p4.toInt 0 99 = true
        · rw [if_pos h4, if_pos (by rw [wi_t] at h4 ⊢; omega)]; exact main (.inr (wi_nI99 h4))
        · have h5 : ¬ wi p4.toInt (-1) 99 = true := by
            rw [wi_t] at h4 ⊢
            have : p4.toInt ≠ -1 := fun e => h3 (Int32.toInt_inj.mp e)
            omega
          rw [if_neg h4, if_neg h5]; exact ⟨_, _, _, rfl, rfl, hRR'⟩
    · rw [if_neg h2, if_neg h2]; exact ⟨_, _, _, rfl, rfl, hRR'⟩
  · rw [if_neg h1, if_neg h1]; exact ⟨_, _, _, rfl, rfl, hRR'⟩
