/-! slants: facts on bits -/
theorem od_f : ∀ s, s < 2048 → ∀ b, b < 5 → s.testBit (2 * b + 1) = (od s).testBit b ∧ (s.testBit (2 * b + 1) = true → od (s - 2 ^ (2 * b + 1)) = od s - 2 ^ b ∧ ev (s - 2 ^ (2 * b + 1)) = ev s ∧ 2 ^ b ≤ od s) := by decide +kernel
theorem ev_f : ∀ s, s < 2048 → ∀ b, b < 6 → s.testBit (2 * b) = (ev s).testBit b ∧ (s.testBit (2 * b) = true → ev (s - 2 ^ (2 * b)) = ev s - 2 ^ b ∧ od (s - 2 ^ (2 * b)) = od s ∧ 2 ^ b ≤ ev s) := by decide +kernel
