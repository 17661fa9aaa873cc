/-! the full set has the most bits -/
theorem full_bc : ∀ n, n ≤ 8 → ∀ j, j < 2 ^ n - 1 → bcN j < bcN (2 ^ n - 1) := by decide +kernel
