theorem l2i (x : Int64) (h1 : -128 ≤ x.toInt) (h2 : x.toInt ≤ 127) : (Int64.toInt32 x).toInt = x.toInt := by
  rw [Int64.toInt_toInt32, Int.bmod_eq_of_le (by omega) (by omega)]
theorem prom_0 (N n : Nat) (V : St) (l1 l2 l3 l4 : Int32) : lp (fun k (x : St × Int32 × Int32) => Mo_promises_b69 N k x.1 l1 l2 l3 x.2.1 x.2.2) (n + 1) (V, l4, 0) = some (l4, V) := by
  show Mo_promises_b69 N _ V l1 l2 l3 l4 0 = _
  unfold Mo_promises_b69
  rw [if_pos rfl]
theorem prom_loop {F c a B P d i nn n N : Nat} (hd : d < 6) (hnn : nn ≤ 60) (hn : n ≤ 10) (hi : i < 2 ^ 31) : ∀ (m came : Nat), came + m = n → ∀ (Q : Nat) (S V T : St), Core S T → RLk V T P Q F c a B → gi T 42 d = 0 → gi T 40 d = nI nn → ∀ n1 n2, m < n1 → m + 1 < n2 →
    ∃ r S1 V1, lp (fun k (x : St × Int32) => Ch_promisesFromRow_b3 N k x.1 (nI d) (nI i) (nI n) x.2) n1 (S, nI came) = some (r, S1) ∧ lp (fun k (x : St × Int32 × Int32) => Mo_promises_b69 N k x.1 (nI d) (nI i) (nI n) x.2.1 x.2.2) n2 (V, nI came, 1) = some (r, V1) ∧ RR S1 V1 := by
  intro m
  induction m with
  | zero =>
    intro came hc Q S V T hC hR h42 h40 n1 n2 h1 h2
    obtain ⟨n1, rfl⟩ : ∃ k, n1 = k + 1 := ⟨n1 - 1, by omega⟩
    obtain ⟨n2, rfl⟩ : ∃ k, n2 = k + 1 := ⟨n2 - 1, by omega⟩
    refine ⟨nI came, S, V, ?_, ?_, T, P, Q, F, c, a, B, hC, hR⟩
    · show Ch_promisesFromRow_b3 N _ S (nI d) (nI i) (nI n) (nI came) = _
      unfold Ch_promisesFromRow_b3
      rw [if_pos (by rw [le_nI _ _ (by omega) (by omega)]; omega)]
    · show Mo_promises_b69 N _ V (nI d) (nI i) (nI n) (nI came) 1 = _
      unfold Mo_promises_b69
      rw [if_neg (by decide), if_pos (by rw [le_nI _ _ (by omega) (by omega)]; omega)]
  | succ m ih =>
    intro came hc Q S V T hC hR h42 h40 n1 n2 h1 h2
    obtain ⟨n1, rfl⟩ : ∃ k, n1 = k + 1 := ⟨n1 - 1, by omega⟩
    obtain ⟨n2, rfl⟩ : ∃ k, n2 = k + 1 + 1 := ⟨n2 - 2, by omega⟩
    have hR' := hR
    obtain ⟨hN, hPe, hPr, hP, hTa, hLw, hLd, hCh, hBo, hSh⟩ := hR'
    obtain ⟨eP, eQ⟩ := hC.pq hN
    obtain ⟨fP, fQ⟩ := hP.pq hN
    have hQ10 := hN.2.2.2
    have hB := hBo.2.1
    have i6 : inb (nI d) 6 = true := inb_nI hd (by omega)
    have done : ∃ r S1 V1, some (nI came, S) = some (r, S1) ∧ some (nI came, V) = some (r, V1) ∧ RR S1 V1 := ⟨_, _, _, rfl, rfl, T, P, Q, F, c, a, B, hC, hR⟩
    obtain ⟨s, n', y1, y2, y3, y4, y5, y6, y7⟩ : ∃ s n, s ≤ 4 ∧ n ≤ 60 ∧ gi T 42 d = nI s ∧ gi T 40 d = nI n ∧ gi V 61 d = nI (50 + s) ∧ gi V 62 d = nI n ∧ (s = 0 → ∀ j, j < 60 → -128 ≤ (gl T 43 (60 * d + j)).toInt ∧ (gl T 43 (60 * d + j)).toInt ≤ 127) := by
      rcases hSh.1 d hd with ⟨z1, z2⟩ | ⟨z1, z2⟩ | z
      · exact absurd (h42.symm.trans z1) (by decide)
      · exact absurd (h42.symm.trans z1) (by decide)
      · exact z
    have s0 : s = 0 := by
      have := h42.symm.trans y3
      rw [show (0 : Int32) = nI 0 from rfl, eq_nI _ _ (by omega) (by omega)] at this; omega
    have en : n' = nn := by
      have := y4.symm.trans h40
      rw [eq_nI _ _ (by omega) (by omega)] at this; exact this
    subst en
    have rng := y7 s0
    have ref0 : ∀ l6, Mo_promises_b177 N (lp (fun k (x : St × Int32 × Int32) => Mo_promises_b69 N k x.1 (nI d) (nI i) (nI n) x.2.1 x.2.2) (n2 + 1)) V (nI d) (nI i) (nI n) (nI came) l6 0 = some (nI came, V) := fun l6 => by
      unfold Mo_promises_b177
      rw [if_pos rfl, prom_0]
    have c4 : 4 * nI came + 4 = nI (4 * came + 4) := by
      have e := (Int32.ofNat_mul 4 came).symm
      rw [show (4 : Int32) * nI came = nI (4 * came) from e]; exact nI_add _ 4
    have c4' : 4 * nI came = nI (4 * came) := (Int32.ofNat_mul 4 came).symm
    show ∃ r S1 V1, Ch_promisesFromRow_b3 N (lp (fun k (x : St × Int32) => Ch_promisesFromRow_b3 N k x.1 (nI d) (nI i) (nI n) x.2) n1) S (nI d) (nI i) (nI n) (nI came) = some (r, S1) ∧ Mo_promises_b69 N (lp (fun k (x : St × Int32 × Int32) => Mo_promises_b69 N k x.1 (nI d) (nI i) (nI n) x.2.1 x.2.2) (n2 + 1)) V (nI d) (nI i) (nI n) (nI came) 1 = some (r, V1) ∧ RR S1 V1
    generalize hK1 : lp (fun k (x : St × Int32) => Ch_promisesFromRow_b3 N k x.1 (nI d) (nI i) (nI n) x.2) n1 = K1
    generalize hK2 : lp (fun k (x : St × Int32 × Int32) => Mo_promises_b69 N k x.1 (nI d) (nI i) (nI n) x.2.1 x.2.2) (n2 + 1) = K2 at ref0 ⊢
    unfold Ch_promisesFromRow_b3 Mo_promises_b69 Mo_promises_b111 Sm_isFull
    have nle : ¬ nI n ≤ nI came := by rw [le_nI _ _ (by omega) (by omega)]; omega
    rw [if_neg nle, if_neg (by decide : ¬ (1 : Int32) = 0), if_neg nle, i6, ck_true, cl d (by omega), y6, fQ, eQ]
    have e44 : ((nI n' - 4 - 4 * nI came) : Int32).toInt = n' - 4 - 4 * came := by
      rw [c4', Int32.toInt_sub, Int32.toInt_sub, ti _ (by omega), ti _ (by omega)]
      have : (4 : Int32).toInt = 4 := rfl
      rw [this, Int.bmod_eq_of_le (n := (n' : Int) - 4) (by omega) (by omega), Int.bmod_eq_of_le (by omega) (by omega)]
      omega
    by_cases hq : Q < 10
    · rw [if_pos (by show nI Q < nI 10; rw [lt_nI _ _ (by omega) (by omega)]; exact hq), bd1_some, if_pos rfl, c4, Sh_hasPlaces_eq hC hd hnn h40, bd1_some, if_bI]
      by_cases hp : plb n' (nI i) (nI (4 * came + 4)) = true
      · rw [if_pos hp]
        unfold plb at hp
        rw [decide_eq_true_eq, nI_toInt hi, ti _ (by omega)] at hp
        rw [if_neg (by rw [Int32.lt_iff_toInt_lt, e44, nI_toInt hi]; omega), if_neg (by show ¬ nI 10 ≤ nI Q; rw [le_nI _ _ (by omega) (by omega)]; omega)]
        have x3 : nI i + 4 * nI came = nI (i + 4 * came) := by rw [c4', nI_add]
        have x1 : 60 * nI d + nI i + 4 * nI came = nI (60 * d + (i + 4 * came)) := by rw [c4', (s60 d).2, nI_add, nI_add, Nat.add_assoc]
        have hA : i + 4 * came + 3 < 60 := by omega
        simp only [nm_eq, x3, x1]
        generalize i + 4 * came = A at hA
        have q1 : nI A + 1 = nI (A + 1) := nI_1 _
        have q2 : nI A + 2 = nI (A + 2) := nI_add _ 2
        have q3 : nI A + 3 = nI (A + 3) := nI_add _ 3
        have v1 : nI (60 * d + A) + 1 = nI (60 * d + (A + 1)) := nI_1 _
        have v2 : nI (60 * d + A) + 2 = nI (60 * d + (A + 2)) := nI_add _ 2
        have v3 : nI (60 * d + A) + 3 = nI (60 * d + (A + 3)) := nI_add _ 3
        have el : ∀ j, j < 60 → Sh_elementAt S (nI d) (nI j) = some (gl T 43 (60 * d + j)) := fun j hj => by
          unfold Sh_elementAt
          rw [(s60 d).1, nI_add, inb_nI (j := 60 * d + j) (n := 360) (by omega) (by omega), ck_true, cl (60 * d + j) (by omega), hC.2]
        have ev : ∀ j, j < 60 → inb (nI (60 * d + j)) 360 = true ∧ gl V 63 (nI (60 * d + j)).toNatClampNeg = gl T 43 (60 * d + j) := fun j hj => ⟨inb_nI (by omega) (by omega), by rw [cl (60 * d + j) (by omega)]; exact hSh.2 _ (by omega)⟩
        obtain ⟨k0, k0'⟩ := ev A (by omega)
        obtain ⟨k1, k1'⟩ := ev (A + 1) (by omega)
        obtain ⟨k2, k2'⟩ := ev (A + 2) (by omega)
        obtain ⟨k3, k3'⟩ := ev (A + 3) (by omega)
        have r0 := rng A (by omega)
        have r1 := rng (A + 1) (by omega)
        have r2 := rng (A + 2) (by omega)
        have r3 := rng (A + 3) (by omega)
        simp only [q1, q2, q3, v1, v2, v3, el A (by omega), el (A + 1) (by omega), el (A + 2) (by omega), el (A + 3) (by omega), bd1_some, k0, k1, k2, k3, ck_true, k0', k1', k2', k3', dd6, if_false]
        generalize gl T 43 (60 * d + A) = e0 at *
        generalize gl T 43 (60 * d + (A + 1)) = e1 at *
        generalize gl T 43 (60 * d + (A + 2)) = e2 at *
        generalize gl T 43 (60 * d + (A + 3)) = e3 at *
        rw [Sm_canPromise_eq hC hN, bd1_some, if_bI, Mo_mayCome_eq hP hN, bd1_some, if_bI, l2i e0 r0.1 r0.2, l2i e1 r1.1 r1.2, l2i e2 r2.1 r2.2, l2i e3 r3.1 r3.2]
        by_cases hcp : cpb P e0.toInt e1.toInt e2.toInt e3.toInt = true
        · rw [if_pos hcp, if_pos hcp]
          unfold Mo_promises_b177
          simp only [v1, v2, v3, k0, k1, k2, k3, ck_true, k0', k1', k2', k3', dd6, if_false]
          obtain ⟨⟨c1, c2⟩, ⟨c3, c4⟩, c5, c6⟩ := cpb_t hcp
          obtain ⟨e, e'⟩ := i32_nI (x := Int64.toInt32 e0) (by rw [l2i e0 r0.1 r0.2]; exact c1)
          have e'' := l2i e0 r0.1 r0.2
          generalize (Int64.toInt32 e0).toNatClampNeg = w at e e'
          obtain ⟨S1, V1, T1, s1, s2, s3, s4, s5, s6⟩ := add_pr (w := w) (p2 := Int64.toInt32 e1) (p3 := Int64.toInt32 e2) (p4 := Int64.toInt32 e3) hC hR hq (by omega) (by rw [l2i e1 r1.1 r1.2]; exact c3) (by rw [l2i e1 r1.1 r1.2, l2i e2 r2.1 r2.2]; exact c5) (by rw [l2i e3 r3.1 r3.2]; exact c6)
          rw [← e] at s1 s2
          rw [s1, s2, bd2_some, bd2_some, nI_1, ← hK1, ← hK2]
          exact ih (came + 1) (by omega) (Q + 1) S1 V1 T1 s3 s4 ((s5 42 d (by decide)).trans h42) ((s5 40 d (by decide)).trans h40) n1 (n2 + 1) (by omega) (by omega)
        · rw [if_neg hcp, if_neg hcp, ref0]
          exact done
      · rw [if_neg hp]
        unfold plb at hp
        rw [decide_eq_true_eq, nI_toInt hi, ti _ (by omega)] at hp
        rw [if_pos (by rw [Int32.lt_iff_toInt_lt, e44, nI_toInt hi]; omega), nm_eq, if_pos rfl, ref0]
        exact done
    · rw [if_neg (by show ¬ nI Q < nI 10; rw [lt_nI _ _ (by omega) (by omega)]; exact hq), bd1_some, if_neg (by decide), if_pos (show (10 : Int32) ≤ nI Q by show nI 10 ≤ nI Q; rw [le_nI _ _ (by omega) (by omega)]; omega), nm_eq, if_pos rfl, ref0]
      split
      · exact done
      · exact done
theorem RR_promises : LS_promises RR := by
  rintro S V p1 p2 p3 hRR
  have hRR' := hRR
  obtain ⟨T, P, Q, F, c, a, B, hC, hR⟩ := hRR
  have hR' := hR
  obtain ⟨hN, hPe, hPr, hP, hTa, hLw, hLd, hCh, hBo, hSh⟩ := hR'
  have hB := hBo.2.1
  unfold Ch_promises Mo_promises Mo_promises_b44 Sh_refusalOfRow
  simp only [Sh_isShelf_eq, Mo_isShelf_eq, Ch_within_eq, Mo_within_eq, bd1_some, if_bI, Int32.toInt_toInt64, tI1, tI10, ti1, ti10]
  by_cases h : wi p1.toInt 0 5 = true
  · rw [if_pos h, if_pos h]
    obtain ⟨d, hd, rfl⟩ := wi_nI5 h
    have i6 : inb (nI d) 6 = true := inb_nI hd (by omega)
    by_cases h2 : wi p3.toInt 1 10 = true
    · rw [if_pos h2, if_pos h2]
      rw [wi_t] at h2
      obtain ⟨e, e2⟩ := i32_nI (x := p3) (by omega)
      generalize p3.toNatClampNeg = n at e e2
      subst e
      rw [ti n (by omega)] at h2
      have z : ∀ (l4 : Int32), Mo_promises_L69 fuel (nI d) p2 (nI n) (V, l4, 0) = some (l4, V) := fun l4 => prom_0 fuel 1199 V (nI d) p2 (nI n) l4
      simp only [i6, ck_true, cl d (show d < 5000 by omega), hC.g 42 (fun _ => rfl), z]
      rcases hSh.1 d hd with ⟨x1, x2⟩ | ⟨x1, b, x2, x3, x4⟩ | ⟨s, nn, x1, x2, x3, x4, x5, x6, x7⟩
      · rw [x1, x2, if_pos rfl, bd1_some, if_pos rfl, if_pos (by decide), if_neg (by decide)]
        exact ⟨_, _, _, rfl, rfl, hRR'⟩
      · rw [x1, x4, if_neg (by decide), if_neg (by decide), bd1_some, if_neg (by decide), if_neg (by decide), if_neg (by show ¬ nI b < nI 0; rw [lt_nI _ _ (by omega) (by omega)]; omega), if_neg (by show ¬ nI b = nI 50; rw [eq_nI _ _ (by omega) (by omega)]; omega)]
        exact ⟨_, _, _, rfl, rfl, hRR'⟩
      · have n1 : ¬ nI s = (-1 : Int32) := by
          intro e; have := congrArg Int32.toInt e; rw [ti s (by omega), tim1] at this; omega
        have f1 : ¬ nI (50 + s) < (0 : Int32) := by show ¬ nI (50 + s) < nI 0; rw [lt_nI _ _ (by omega) (by omega)]; omega
        rw [x3, x5, if_neg n1]
        by_cases hs : s = 0
        · subst hs
          rw [if_pos (show nI 0 = (0 : Int32) from rfl), bd1_some, if_neg (by decide : ¬ (0 : Int32) = -11), if_pos rfl, if_neg f1, if_pos (show nI (50 + 0) = (50 : Int32) from rfl), if_pos (show nI (50 + 0) = (50 : Int32) from rfl)]
          by_cases h0 : p2 < 0
          · rw [if_pos h0]
            have fin : Ch_promisesFromRow fuel S (nI d) p2 (nI n) = some (0, S) := by
              show Ch_promisesFromRow_b3 fuel (lp _ 1199) S (nI d) p2 (nI n) 0 = _
              generalize lp _ 1199 = K
              unfold Ch_promisesFromRow_b3 Sm_isFull
              have hp : ∀ k, ¬ plb nn p2 k = true := fun k => by unfold plb; rw [decide_eq_true_eq]; rw [Int32.lt_iff_toInt_lt, ti0] at h0; omega
              rw [if_neg (by show ¬ nI n ≤ nI 0; rw [le_nI _ _ (by omega) (by omega)]; omega), Sh_hasPlaces_eq hC hd x2 x4, bd1_some, if_bI, if_neg (hp _)]
              split <;> (rw [bd1_some]; rfl)
            rw [fin, bd2_some]
            exact ⟨_, _, _, rfl, rfl, hRR'⟩
          · rw [if_neg h0]
            obtain ⟨i, hi, rfl⟩ := nI_of h0
            obtain ⟨r, S1, V1, r1, r2, r3⟩ := prom_loop (F := F) (c := c) (a := a) (B := B) (P := P) (N := fuel) (d := d) (i := i) (nn := nn) (n := n) hd x2 (by omega) hi n 0 (by omega) Q S V T hC hR x3 x4 1200 1200 (by omega) (by omega)
            rw [show Ch_promisesFromRow fuel S (nI d) (nI i) (nI n) = some (r, S1) from r1, show Mo_promises_L69 fuel (nI d) (nI i) (nI n) (V, 0, 1) = some (r, V1) from r2, bd2_some]
            exact ⟨_, _, _, rfl, rfl, r3⟩
        · have n2 : ¬ nI s = (0 : Int32) := by show ¬ nI s = nI 0; rw [eq_nI _ _ (by omega) (by omega)]; exact hs
          have n3 : ¬ nI (50 + s) = (50 : Int32) := by show ¬ nI (50 + s) = nI 50; rw [eq_nI _ _ (by omega) (by omega)]; omega
          rw [if_neg n2, bd1_some, if_neg (by decide : ¬ (-12 : Int32) = -11), if_neg (by decide : ¬ (-12 : Int32) = 0), if_neg f1, if_neg n3]
          exact ⟨_, _, _, rfl, rfl, hRR'⟩
    · rw [if_neg h2, if_neg h2]; exact ⟨_, _, _, rfl, rfl, hRR'⟩
  · rw [if_neg h, if_neg h]; exact ⟨_, _, _, rfl, rfl, hRR'⟩
