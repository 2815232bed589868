theorem off_bit : ∀ i, i < 10 → ∀ n, n < 1024 → bit n i = 1 → 2 ^ i ≤ n ∧ ∀ j, j < 10 → bit (n - 2 ^ i) j = if j = i then 0 else bit n j := by decide +kernel
theorem bit_ex : ∀ n, n < 1024 → n ≠ 0 → ∃ i, i < 10 ∧ bit n i = 1 := by decide +kernel
