/-! the model's slants -/
def sW (C : Nat → Nat → Bool) : Nat → Nat → Nat
  | 0, s => if s = 0 then 1 else 0
  | d + 1, s => sW C d s + fb_sm (fun i => if (C i (d - i) && s.testBit (2 * i + 5 - d)) = true then sW C d (s - 2 ^ (2 * i + 5 - d)) else 0) (d + 1)
theorem sW_z (C : Nat → Nat → Bool) (d : Nat) : sW C (d + 1) 0 = sW C d 0 := by
  rw [sW, fb_sm_0, Nat.add_zero]
  intro i _
  rw [Nat.zero_testBit, Bool.and_false]
  exact if_neg (by decide)
theorem sl_ix : ∀ s, s < 2048 → ∀ o, o < 11 → s.testBit o = true → nI s &&& (((1 : Int32) <<< (nI o &&& 31)) ^^^ (-1)) = nI (s - 2 ^ o) ∧ 2 ^ o ≤ s := by decide +kernel
