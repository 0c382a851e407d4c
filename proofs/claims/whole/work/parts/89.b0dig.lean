/-! ===== digits of base 3 ===== -/
def dig (s i : Nat) : Nat := s / 3 ^ i % 3
theorem dig_12 : ∀ i, i < 6 → ∀ s, s < 729 → dig s i = 0 → ∀ j, j < 6 → dig (s + 3 ^ i) j = (if j = i then 1 else dig s j) ∧ dig (s + 2 * 3 ^ i) j = (if j = i then 2 else dig s j) := by decide +kernel
theorem dig_bd : ∀ B, B < 7 → ∀ i, i < B → ∀ s, s < 3 ^ B → dig s i = 0 → s + 2 * 3 ^ i < 3 ^ B := by decide +kernel
