def bit (n j : Nat) : Nat := n / 2 ^ j % 2
def popU (n : Nat) : Nat → Nat
  | 0 => 0
  | j + 1 => popU n j + bit n j
def pop (n : Nat) : Nat := popU n 10
theorem bitCount_all : ∀ n, n < 1024 → In_bitCount (fun _ _ => 0, fun _ _ => 0) (nI n) = some (nI (pop n)) := by decide +kernel
theorem In_bitCount_eq (S : St) {n : Nat} (h : n < 1024) : In_bitCount S (nI n) = some (nI (pop n)) := bitCount_all n h
theorem shr_all : ∀ n, n < 1024 → ∀ j, j < 10 → ((nI n >>> (nI j &&& 31)) &&& 1) = nI (bit n j) := by decide +kernel
theorem Mo_bitsOf_eq (V : St) {n N : Nat} (h : n < 1024) (hf : 10 < N) : Mo_bitsOf N V (nI n) = some (nI (pop n)) := by
  unfold Mo_bitsOf Mo_bitsOf_L4
  refine lp_run (fun j => (nI (popU n j), nI j)) 10 (fun k => ?_) N 0 (by omega) (by omega) (fun j _ hj k => ?_)
  · unfold Mo_bitsOf_b4
    rw [if_pos (by show (10 : Int32) ≤ nI 10; decide)]; rfl
  · unfold Mo_bitsOf_b4
    rw [if_neg (by show ¬ nI 10 ≤ nI j; rw [le_nI _ _ (by omega) (by omega)]; omega)]
    dsimp only
    rw [nm_eq, nm_eq, shr_all n h j hj, nI_add, nI_1]; rfl
theorem bit_lt (n j : Nat) : bit n j < 2 := Nat.mod_lt _ (by decide)
theorem Ch_isIn_eq (S : St) {n j : Nat} (h : n < 1024) (hj : j < 10) : Ch_isIn S (nI n) (nI j) = some (bI (decide (bit n j = 1))) := by
  unfold Ch_isIn
  rw [shr_all n h j hj]
  have hb := bit_lt n j
  have : bit n j = 0 ∨ bit n j = 1 := by omega
  rcases this with e | e <;> rw [e] <;> rfl
theorem Mo_isIn_eq (S : St) {n j : Nat} (h : n < 1024) (hj : j < 10) : Mo_isIn S (nI n) (nI j) = some (bI (decide (bit n j = 1))) := by
  unfold Mo_isIn
  rw [shr_all n h j hj]
  have hb := bit_lt n j
  have : bit n j = 0 ∨ bit n j = 1 := by omega
  rcases this with e | e <;> rw [e] <;> rfl
def setU (f : Nat → Bool) : Nat → Nat
  | 0 => 0
  | j + 1 => setU f j + (if f j then 2 ^ j else 0)
theorem setU_lt (f : Nat → Bool) : ∀ j, setU f j < 2 ^ j
  | 0 => by show 0 < 1; decide
  | j + 1 => by
    have h := setU_lt f j
    unfold setU
    rw [Nat.pow_succ]
    split <;> omega
theorem or_all : ∀ j, j < 10 → ∀ n, n < 2 ^ j → (nI n ||| ((1 : Int32) <<< (nI j &&& 31))) = nI (n + 2 ^ j) := by decide +kernel
theorem setU_lt10 (f : Nat → Bool) {j : Nat} (h : j ≤ 10) : setU f j < 1024 := Nat.lt_of_lt_of_le (setU_lt f j) (Nat.pow_le_pow_right (by decide) h)
theorem Sm_ridersOn_eq {S T : St} {P Q N : Nat} (hX : XP S T P Q) (d : Int32) (hf : 10 < N) : Sm_ridersOn N S d = some (nI (setU (fun o => rid T Q o d) P)) := by
  have hC := hX.1
  obtain ⟨hP, hP6, -, -⟩ := hX.2.1
  unfold Sm_ridersOn Sm_ridersOn_L4
  refine lp_run (fun j => (nI (setU (fun o => rid T Q o d) j), nI j)) P (fun k => ?_) N 0 (by omega) (by omega) (fun j _ hj k => ?_)
  · unfold Sm_ridersOn_b4
    rw [hC.1 1 9 rfl, hP, if_pos (by rw [le_nI _ _ (by omega) (by omega)]; exact Nat.le_refl _)]
  · unfold Sm_ridersOn_b4
    dsimp only
    rw [hC.1 1 9 rfl, hP, if_neg (by rw [le_nI _ _ (by omega) (by omega)]; omega), Sm_ridesOn_eq hX hj d hf, bd1_some, or_all j (by omega) _ (setU_lt _ j)]
    simp only [nm_eq, bI_0, nI_1, setU]
    by_cases h : rid T Q j d = true <;> simp [h]
theorem Mo_ridersOn_eq {V T : St} {P Q N : Nat} (hM : MP V T P Q) (d : Int32) (hf : 10 < N) : Mo_ridersOn N V d = some (nI (setU (fun o => rid T Q o d) P)) := by
  have hR := hM.1
  obtain ⟨hP, hP6, -, -⟩ := hM.2.1
  unfold Mo_ridersOn Mo_ridersOn_L4
  refine lp_run (fun j => (nI (setU (fun o => rid T Q o d) j), nI j)) P (fun k => ?_) N 0 (by omega) (by omega) (fun j _ hj k => ?_)
  · unfold Mo_ridersOn_b4
    rw [hR.1, hP, if_pos (by rw [le_nI _ _ (by omega) (by omega)]; exact Nat.le_refl _)]
  · unfold Mo_ridersOn_b4
    dsimp only
    rw [hR.1, hP, if_neg (by rw [le_nI _ _ (by omega) (by omega)]; omega), Mo_doesRide_eq hM hj d hf, bd1_some, or_all j (by omega) _ (setU_lt _ j)]
    simp only [nm_eq, bI_0, nI_1, setU]
    by_cases h : rid T Q j d = true <;> simp [h]
