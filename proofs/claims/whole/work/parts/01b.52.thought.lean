theorem a6 (p : Nat) : (6 : Int32) + nI p = nI (6 + p) := nI_add 6 p
theorem a12 (p : Nat) : (12 : Int32) + nI p = nI (12 + p) := nI_add 12 p
theorem a18 (p : Nat) : (18 : Int32) + nI p = nI (18 + p) := nI_add 18 p
theorem a28 (p : Nat) : (28 : Int32) + nI p = nI (28 + p) := nI_add 28 p
theorem a38 (p : Nat) : (38 : Int32) + nI p = nI (38 + p) := nI_add 38 p
theorem a48 (p : Nat) : (48 : Int32) + nI p = nI (48 + p) := nI_add 48 p
theorem cl (p : Nat) (h : p < 5000) : (nI p).toNatClampNeg = p := nI_clamp (by omega)
theorem ti (p : Nat) (h : p < 5000) : (nI p).toInt = p := nI_toInt (by omega)
theorem le_nI (a b : Nat) (ha : a < 5000) (hb : b < 5000) : (nI a ≤ nI b) = (a ≤ b) := propext (nI_leI (by omega) (by omega))
theorem lt_nI (a b : Nat) (ha : a < 5000) (hb : b < 5000) : (nI a < nI b) = (a < b) := propext (nI_ltI (by omega) (by omega))
theorem eq_nI (a b : Nat) (ha : a < 5000) (hb : b < 5000) : (nI a = nI b) = (a = b) := propext (nI_eq (by omega) (by omega))
def opn (T : St) (p : Nat) (d : Int32) : Bool := !decide (d < gi T 15 p) && (decide (gi T 18 p = -1) || !decide (gi T 18 p ≤ d))
def con (T : St) (p : Nat) (o : Int32) : Bool := decide (gi T 14 p = o) || decide (gi T 19 p = o)
def lenU (T : St) (o : Nat) (d : Int32) : Nat → Int32
  | 0 => gi T 11 o
  | j + 1 => lenU T o d j + (if con T j (nI o) && opn T j d then gi T 17 j else 0)
def gor (T : St) (o : Nat) (x : Int32) : Bool := wi x.toInt (gi T 12 o).toInt (gi T 12 o + gi T 13 o).toInt
def rid (T : St) (Q o : Nat) (d : Int32) : Bool := gor T o (lenU T o d Q)
theorem Sm_isOpen_eq {S T : St} (hC : Core S T) {p : Nat} (hp : p < 10) (d : Int32) : Sm_isOpen S (nI p) d = some (bI (opn T p d)) := by
  unfold Sm_isOpen opn
  rw [inb_nI hp (by omega), ck_true, ck_true, ck_true, cl p (by omega), hC.g 15 (fun _ => rfl), hC.g 18 (fun _ => rfl)]
  by_cases h1 : d < gi T 15 p <;> by_cases h2 : gi T 18 p = -1 <;> by_cases h3 : gi T 18 p ≤ d <;> simp [h1, h2, h3, bI]
theorem Mo_isOpen_eq {V T : St} {P Q : Nat} (hM : MP V T P Q) {p : Nat} (hp : p < Q) (d : Int32) : Mo_isOpen V (nI p) d = some (bI (opn T p d)) := by
  have hQ := hM.2.1.2.2.2
  obtain ⟨-, m2, -, -, m5, -⟩ := hM.1.2.2.2 p (by omega)
  have hk := (hM.2.2.2 p hp).2.2.2.1.1
  unfold Mo_isOpen opn
  rw [a38, inb_nI (j := p) (n := 10) (by omega) (by omega), inb_nI (j := 38 + p) (n := 58) (by omega) (by omega), ck_true, ck_true, ck_true, cl p (by omega), cl (38 + p) (by omega), m2, m5]
  have h4 : (gi T 18 p < 0) = (gi T 18 p = -1) := by
    rw [Int32.lt_iff_toInt_lt, ← Int32.toInt_inj]
    simp; omega
  simp only [h4]
  by_cases h1 : d < gi T 15 p <;> by_cases h2 : gi T 18 p = -1 <;> by_cases h3 : gi T 18 p ≤ d <;> simp [h1, h2, h3, bI]
theorem Sm_concerns_eq {S T : St} (hC : Core S T) {p : Nat} (hp : p < 10) (o : Int32) : Sm_concerns S (nI p) o = some (bI (con T p o)) := by
  unfold Sm_concerns con
  rw [inb_nI hp (by omega), ck_true, ck_true, cl p (by omega), hC.g 14 (fun _ => rfl), hC.g 19 (fun _ => rfl)]
  by_cases h1 : gi T 14 p = o <;> by_cases h2 : gi T 19 p = o <;> simp [h1, h2, bI]
theorem Mo_isOf_eq {V T : St} (hM : rP V T) {p : Nat} (hp : p < 10) (o : Int32) : Mo_isOf V (nI p) o = some (bI (con T p o)) := by
  obtain ⟨m1, -, -, -, -, m6⟩ := hM.2.2.2 p hp
  unfold Mo_isOf con
  rw [a48, inb_nI hp (by omega), inb_nI (j := 48 + p) (n := 58) (by omega) (by omega), ck_true, ck_true, cl p (by omega), cl (48 + p) (by omega), m1, m6]
  by_cases h1 : gi T 14 p = o <;> by_cases h2 : gi T 19 p = o <;> simp [h1, h2, bI]
theorem Sm_lengthOn_eq {S T : St} {P Q N : Nat} (hX : XP S T P Q) {o : Nat} (ho : o < P) (d : Int32) (hf : 10 < N) : Sm_lengthOn N S (nI o) d = some (lenU T o d Q) := by
  obtain ⟨hC, hN, -, -⟩ := hX
  obtain ⟨-, hP6, hQ, hQ10⟩ := hN
  unfold Sm_lengthOn Sm_lengthOn_L10
  rw [inb_nI (j := o) (n := 6) (by omega) (by omega), ck_true, nm_eq, cl o (by omega), hC.g 11 (fun _ => rfl)]
  refine lp_run (fun j => (lenU T o d j, nI j)) Q (fun k => ?_) N 0 (by omega) (by omega) (fun j _ hj k => ?_)
  · unfold Sm_lengthOn_b10
    rw [hC.1 1 10 rfl, hQ, if_pos (by rw [le_nI _ _ (by omega) (by omega)]; exact Nat.le_refl _)]
  · unfold Sm_lengthOn_b10
    rw [hC.1 1 10 rfl, hQ, if_neg (by rw [le_nI _ _ (by omega) (by omega)]; omega), Sm_concerns_eq hC (by omega), bd1_some, Sm_isOpen_eq hC (by omega), bd1_some, inb_nI (j := j) (n := 10) (by omega) (by omega), ck_true, cl j (by omega), hC.g 17 (fun _ => rfl)]
    simp only [nm_eq, bI_0, nI_1, lenU]
    cases con T j (nI o) <;> cases opn T j d <;> simp
theorem Mo_chainOf_eq {V T : St} {P Q N : Nat} (hM : MP V T P Q) {o : Nat} (ho : o < P) (d : Int32) (hf : 10 < N) : Mo_chainOf N V (nI o) d = some (lenU T o d Q) := by
  have hM' := hM
  obtain ⟨hR, hN, -, -⟩ := hM
  obtain ⟨-, hP6, hQ, hQ10⟩ := hN
  unfold Mo_chainOf Mo_chainOf_L10
  rw [inb_nI (j := o) (n := 58) (by omega) (by omega), ck_true, nm_eq, cl o (by omega), (hR.2.2.1 o (by omega)).1]
  refine lp_run (fun j => (lenU T o d j, nI j)) Q (fun k => ?_) N 0 (by omega) (by omega) (fun j _ hj k => ?_)
  · unfold Mo_chainOf_b10
    rw [hR.2.1, hQ, if_pos (by rw [le_nI _ _ (by omega) (by omega)]; exact Nat.le_refl _)]
  · unfold Mo_chainOf_b10
    rw [hR.2.1, hQ, if_neg (by rw [le_nI _ _ (by omega) (by omega)]; omega), Mo_isOf_eq hR (by omega), bd1_some, Mo_isOpen_eq hM' (by omega), bd1_some, a28, inb_nI (j := 28 + j) (n := 58) (by omega) (by omega), ck_true, cl (28 + j) (by omega), (hR.2.2.2 j (by omega)).2.2.2.1]
    simp only [nm_eq, bI_0, nI_1, lenU, Mo_chainOf_b53]
    cases con T j (nI o) <;> cases opn T j d <;> simp
theorem Sm_goesRound_eq {S T : St} (hC : Core S T) {o : Nat} (ho : o < 6) (x : Int32) : Sm_goesRound S (nI o) x = some (bI (gor T o x)) := by
  unfold Sm_goesRound gor
  rw [inb_nI (j := o) (n := 6) ho (by omega), ck_true, ck_true, ck_true, cl o (by omega), hC.g 12 (fun _ => rfl), hC.g 13 (fun _ => rfl), Ch_within_eq, bd1_some, isB_bI, ck_true]
theorem Mo_goesRound_eq {V T : St} (hM : rP V T) {o : Nat} (ho : o < 6) (x : Int32) : Mo_goesRound V (nI o) x = some (bI (gor T o x)) := by
  obtain ⟨-, m2, m3⟩ := hM.2.2.1 o ho
  unfold Mo_goesRound gor
  rw [a6, a12, inb_nI (j := 6 + o) (n := 58) (by omega) (by omega), inb_nI (j := 12 + o) (n := 58) (by omega) (by omega), ck_true, ck_true, ck_true, cl (6 + o) (by omega), cl (12 + o) (by omega), m2, m3, Mo_within_eq, bd1_some, isB_bI, ck_true]
  simp
theorem Sm_ridesOn_eq {S T : St} {P Q N : Nat} (hX : XP S T P Q) {o : Nat} (ho : o < P) (d : Int32) (hf : 10 < N) : Sm_ridesOn N S (nI o) d = some (bI (rid T Q o d)) := by
  have hP := hX.2.1.2.1
  unfold Sm_ridesOn rid
  rw [Sm_lengthOn_eq hX ho d hf, bd1_some, Sm_goesRound_eq hX.1 (by omega), bd1_some, isB_bI, ck_true]
theorem Mo_doesRide_eq {V T : St} {P Q N : Nat} (hM : MP V T P Q) {o : Nat} (ho : o < P) (d : Int32) (hf : 10 < N) : Mo_doesRide N V (nI o) d = some (bI (rid T Q o d)) := by
  have hP := hM.2.1.2.1
  unfold Mo_doesRide rid
  rw [Mo_chainOf_eq hM ho d hf, bd1_some, Mo_goesRound_eq hM.1 (by omega), bd1_some, isB_bI, ck_true]
