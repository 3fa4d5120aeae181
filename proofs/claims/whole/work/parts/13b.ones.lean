/-- bits counted, both ways -/
theorem ones_4096 : ∀ a, a < 64 → ∀ b, b < 64 → mX4_ones (nI (64 * a + b)) = some (mJ6_bitCount_0f7a4 (nI (64 * a + b))) := by decide +kernel
theorem ones_bc {n : Nat} (h : n < 4096) : mX4_ones (nI n) = some (mJ6_bitCount_0f7a4 (nI n)) := by
  have := ones_4096 (n / 64) (by omega) (n % 64) (by omega)
  rw [Nat.div_add_mod] at this
  exact this
