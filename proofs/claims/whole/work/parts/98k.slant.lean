/-! slants: sets split by even and odd bits -/
def ev : Nat → Nat
  | s => fb_sm (fun b => if s.testBit (2 * b) = true then 2 ^ b else 0) 6
def od : Nat → Nat
  | s => fb_sm (fun b => if s.testBit (2 * b + 1) = true then 2 ^ b else 0) 6
theorem fb_sm_two (f : Nat → Nat) : ∀ n, fb_sm f (2 * n) = fb_sm (fun s => f (2 * s) + f (2 * s + 1)) n
  | 0 => rfl
  | n + 1 => by
    rw [show 2 * (n + 1) = 2 * n + 1 + 1 by omega, fb_sm_succ, fb_sm_succ, fb_sm_succ, fb_sm_two f n]
    omega
theorem ev_od : ∀ s, s < 1024 → ev (2 * s) = 2 * od s ∧ od (2 * s) = ev s ∧ ev (2 * s + 1) = 2 * od s + 1 ∧ od (2 * s + 1) = ev s := by decide +kernel
theorem ev_od4 : ∀ s, s < 256 → ∀ x, x < 2 → ∀ y, y < 2 → ev (4 * s + 2 * y + x) = 2 * ev s + x ∧ od (4 * s + 2 * y + x) = 2 * od s + y := by decide +kernel
theorem bc_ev_od : ∀ s, s < 2048 → bc s = bc (ev s) + bc (od s) := by decide +kernel
/-- a sum over all sets of 2 m bits is one over two sets of m -/
theorem fb_sm_ev (G : Nat → Nat → Nat) : ∀ m, m ≤ 5 → fb_sm (fun s => G (ev s) (od s)) (4 ^ m) = fb_sm (fun S => fb_sm (fun T => G S T) (2 ^ m)) (2 ^ m) := fun m => by
  induction m generalizing G with
  | zero =>
    intro _
    show 0 + G (ev 0) (od 0) = 0 + (0 + G 0 0)
    have e1 : ev 0 = 0 := by decide
    have e2 : od 0 = 0 := by decide
    rw [e1, e2]
    omega
  | succ m ih =>
    intro hm
    have h4 : 4 ^ m ≤ 4 ^ 4 := Nat.pow_le_pow_right (by decide) (by omega)
    rw [show 4 ^ (m + 1) = 2 * (2 * 4 ^ m) by rw [Nat.pow_succ]; omega, fb_sm_two, fb_sm_two]
    have e : fb_sm (fun s => G (ev (2 * (2 * s))) (od (2 * (2 * s))) + G (ev (2 * (2 * s) + 1)) (od (2 * (2 * s) + 1)) + (G (ev (2 * (2 * s + 1))) (od (2 * (2 * s + 1))) + G (ev (2 * (2 * s + 1) + 1)) (od (2 * (2 * s + 1) + 1)))) (4 ^ m) = fb_sm (fun s => (fun S T => G (2 * S) (2 * T) + G (2 * S + 1) (2 * T) + (G (2 * S) (2 * T + 1) + G (2 * S + 1) (2 * T + 1))) (ev s) (od s)) (4 ^ m) := fb_sm_cong (fun s hs => by
      have hs' : s < 256 := by omega
      obtain ⟨a1, a2⟩ := ev_od4 s hs' 0 (by omega) 0 (by omega)
      obtain ⟨b1, b2⟩ := ev_od4 s hs' 1 (by omega) 0 (by omega)
      obtain ⟨c1, c2⟩ := ev_od4 s hs' 0 (by omega) 1 (by omega)
      obtain ⟨d1, d2⟩ := ev_od4 s hs' 1 (by omega) 1 (by omega)
      rw [show 4 * s + 2 * 0 + 0 = 2 * (2 * s) by omega] at a1 a2
      rw [show 4 * s + 2 * 0 + 1 = 2 * (2 * s) + 1 by omega] at b1 b2
      rw [show 4 * s + 2 * 1 + 0 = 2 * (2 * s + 1) by omega] at c1 c2
      rw [show 4 * s + 2 * 1 + 1 = 2 * (2 * s + 1) + 1 by omega] at d1 d2
      simp only [a1, a2, b1, b2, c1, c2, d1, d2, Nat.add_zero])
    rw [e, ih (fun S T => G (2 * S) (2 * T) + G (2 * S + 1) (2 * T) + (G (2 * S) (2 * T + 1) + G (2 * S + 1) (2 * T + 1))) (by omega)]
    rw [show 2 ^ (m + 1) = 2 * 2 ^ m by rw [Nat.pow_succ]; omega, fb_sm_two]
    refine fb_sm_cong (fun S _ => ?_)
    rw [fb_sm_two, fb_sm_two, ← fb_sm_add]
    refine fb_sm_cong (fun T _ => ?_)
    omega
/-- all sets of 11 bits -/
theorem fb_sm_2048 (G : Nat → Nat → Nat) : fb_sm (fun s => G (ev s) (od s)) 2048 = fb_sm (fun T => fb_sm (fun S => G S T) 64) 32 := by
  rw [show 2048 = 2 * 4 ^ 5 by decide, fb_sm_two]
  have e : fb_sm (fun s => G (ev (2 * s)) (od (2 * s)) + G (ev (2 * s + 1)) (od (2 * s + 1))) (4 ^ 5) = fb_sm (fun s => (fun S T => G (2 * T) S + G (2 * T + 1) S) (ev s) (od s)) (4 ^ 5) := fb_sm_cong (fun s hs => by
    obtain ⟨a1, a2, a3, a4⟩ := ev_od s (by omega)
    simp only [a1, a2, a3, a4])
  rw [e, fb_sm_ev (fun S T => G (2 * T) S + G (2 * T + 1) S) 5 (by omega)]
  refine fb_sm_cong (fun T _ => ?_)
  rw [show 64 = 2 * 2 ^ 5 by decide, fb_sm_two]
