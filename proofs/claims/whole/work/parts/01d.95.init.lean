theorem gi_S0 (v i : Nat) (h : v ≠ 42) : gi S0 v i = 0 := by
  unfold gi S0; dsimp only; rw [if_neg h]; rfl
theorem gi_M0 (v i : Nat) (h : v ≠ 61) (h2 : v ≠ 44) : gi M0 v i = 0 := by
  unfold gi M0; dsimp only; rw [if_neg h, if_neg h2]; rfl
theorem gi_M44 (i : Nat) (h : i ≠ 13) : gi M0 44 i = 0 := by
  show f44 i = 0; unfold f44; rw [if_neg h]
theorem RR_init : RR S0 M0 := by
  refine ⟨S0, 0, 0, 0, 0, 0, 0, ⟨fun _ _ _ => rfl, fun _ => rfl⟩, ⟨by rfl, by omega, by rfl, by omega⟩, fun j hj => absurd hj (Nat.not_lt_zero j), fun j hj => absurd hj (Nat.not_lt_zero j), ⟨by rfl, by rfl, fun j hj => ?_, fun j hj => ?_⟩, ⟨by rfl, by omega, by rfl, fun j hj => ?_⟩, .inl ⟨by rfl, by rfl⟩, ⟨⟨0, by omega, by rfl, by rfl⟩, ⟨0, by omega, by rfl, by rfl⟩, fun j hj => ?_, by rfl, ⟨0, by omega, by rfl, by rfl⟩, fun j hj => ?_⟩, ⟨by rfl, by rfl, by omega, by omega, by rfl, by rfl, fun j hj => absurd hj (Nat.not_lt_zero j)⟩, ⟨by rfl, by omega, by rfl, fun j hj => absurd hj (Nat.not_lt_zero j), by rfl, fun j hj => ?_⟩, fun d hd => .inl ?_, fun j hj => by rfl⟩
  · simp only [gi_M0 45 _ (by decide) (by decide), gi_S0 11 _ (by decide), gi_S0 12 _ (by decide), gi_S0 13 _ (by decide)]; exact ⟨trivial, trivial, trivial⟩
  · simp only [gi_M0 45 _ (by decide) (by decide), gi_M0 49 _ (by decide) (by decide), gi_M0 50 _ (by decide) (by decide), gi_S0 14 _ (by decide), gi_S0 15 _ (by decide), gi_S0 16 _ (by decide), gi_S0 17 _ (by decide), gi_S0 18 _ (by decide), gi_S0 19 _ (by decide)]; exact ⟨trivial, trivial, trivial, trivial, trivial, trivial⟩
  · simp only [gi_M0 51 _ (by decide) (by decide), gi_S0 20 _ (by decide)]; exact ⟨trivial, fun h => absurd h (Nat.not_lt_zero j)⟩
  · simp only [gi_M0 56 _ (by decide) (by decide), gi_M0 58 _ (by decide) (by decide), gi_S0 31 _ (by decide), gi_S0 32 _ (by decide)]; exact ⟨trivial, trivial⟩
  · simp only [gi_M0 57 _ (by decide) (by decide), gi_S0 33 _ (by decide)]; exact ⟨trivial, by decide⟩
  · simp only [gi_M0 60 _ (by decide) (by decide), gi_S0 38 _ (by decide)]
  · match d, hd with
    | 0, _ => exact ⟨by rfl, by rfl⟩
    | 1, _ => exact ⟨by rfl, by rfl⟩
    | 2, _ => exact ⟨by rfl, by rfl⟩
    | 3, _ => exact ⟨by rfl, by rfl⟩
    | 4, _ => exact ⟨by rfl, by rfl⟩
    | 5, _ => exact ⟨by rfl, by rfl⟩
    | n + 6, h => exact absurd h (by omega)
