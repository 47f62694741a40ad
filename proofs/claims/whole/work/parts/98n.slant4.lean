/-! slants: a diagonal's cells by columns -/
theorem fb_sm_shift (f : Nat → Nat) (k : Nat) : ∀ n, fb_sm f (k + n) = fb_sm f k + fb_sm (fun i => f (k + i)) n
  | 0 => rfl
  | n + 1 => by
    rw [← Nat.add_assoc, fb_sm_succ, fb_sm_succ, fb_sm_shift f k n, Nat.add_assoc]
/-- terms ahead of k are none -/
theorem fb_sm_from {f : Nat → Nat} {k n : Nat} (h0 : ∀ i, i < k → f i = 0) : fb_sm f (k + n) = fb_sm (fun i => f (k + i)) n := by
  rw [fb_sm_shift, fb_sm_0 h0, Nat.zero_add]
/-- the sum over i of a diagonal against the sum over columns; u = a + par -/
theorem reidx {f g : Nat → Nat} {a par : Nat} (hp : par < 2) (ha : 2 * a + par ≤ 10) (h1 : ∀ b, b < 6 → 3 ≤ a + b + par → b ≤ a + 3 → f (a + b + par - 3) = g b) (h2 : ∀ b, b < 6 → ¬ (3 ≤ a + b + par ∧ b ≤ a + 3) → g b = 0) (h3 : ∀ i, i < 2 * a + par + 1 → i + 3 < a + par → f i = 0) (h4 : ∀ i, i < 2 * a + par + 1 → a + par + 6 ≤ i + 3 → f i = 0) : fb_sm f (2 * a + par + 1) = fb_sm g 6 := by
  by_cases c : a + par ≤ 3
  · -- b begins at 3 - (a + par)
    have eg : fb_sm g 6 = fb_sm (fun i => g (3 - (a + par) + i)) (6 - (3 - (a + par))) := by
      have e := fb_sm_from (f := g) (k := 3 - (a + par)) (n := 6 - (3 - (a + par))) (fun i hi => h2 i (by omega) (by omega))
      rw [show 3 - (a + par) + (6 - (3 - (a + par))) = 6 by omega] at e
      exact e
    rw [eg]
    by_cases l : 2 * a + par + 1 ≤ 6 - (3 - (a + par))
    · rw [fb_sm_cut l (fun k hk hk2 => h2 _ (by omega) (by omega))]
      refine fb_sm_cong (fun i hi => ?_)
      have := h1 (3 - (a + par) + i) (by omega) (by omega) (by omega)
      rw [← this]
      congr 1
      omega
    · rw [fb_sm_cut (show 6 - (3 - (a + par)) ≤ 2 * a + par + 1 by omega) (fun k hk hk2 => h4 k hk2 (by omega))]
      refine fb_sm_cong (fun i hi => ?_)
      have := h1 (3 - (a + par) + i) (by omega) (by omega) (by omega)
      rw [← this]
      congr 1
      omega
  · have ef : fb_sm f (2 * a + par + 1) = fb_sm (fun i => f (a + par - 3 + i)) (2 * a + par + 1 - (a + par - 3)) := by
      have e := fb_sm_from (f := f) (k := a + par - 3) (n := 2 * a + par + 1 - (a + par - 3)) (fun i hi => h3 i (by omega) (by omega))
      rw [show a + par - 3 + (2 * a + par + 1 - (a + par - 3)) = 2 * a + par + 1 by omega] at e
      exact e
    rw [ef, fb_sm_cut (show 6 ≤ 2 * a + par + 1 - (a + par - 3) by omega) (fun k hk hk2 => h4 _ (by omega) (by omega))]
    refine fb_sm_cong (fun b hb => ?_)
    have := h1 b hb (by omega) (by omega)
    rw [← this]
    congr 1
    omega
theorem sW_prod {C : Nat → Nat → Bool} (hC : ∀ i j, C i j = true → i < 6 ∧ j < 6) : ∀ d, d ≤ 11 → ∀ s, s < 2048 → sW C d s = tW (cD C 0) ((d + 1) / 2) (2 * od s) * tW (cD C 1) (d / 2) (ev s)
  | 0, _, s, hs => by
    have e1 : ∀ s, s < 2048 → ((s = 0) ↔ (od s = 0 ∧ ev s = 0)) := by decide +kernel
    rw [sW, tW, tW]
    by_cases z : s = 0
    · have := (e1 s hs).mp z
      rw [if_pos z, if_pos (by omega), if_pos this.2]
    · rw [if_neg z]
      by_cases y : od s = 0
      · rw [if_pos (by omega), if_neg (fun q => z ((e1 s hs).mpr ⟨y, q⟩))]
      · rw [if_neg (by omega), Nat.zero_mul]
  | d + 1, hd, s, hs => by
    have ih := sW_prod hC d (by omega)
    have hbit : ∀ par a b, b < 6 → (cD C par a).testBit b = dcell C par a b := fun par a b hb => by
      unfold cD
      rw [lb_bit, decide_eq_true hb, Bool.true_and]
    rw [sW]
    rcases Nat.mod_two_eq_zero_or_one d with m0 | m1
    · -- an even diagonal
      obtain ⟨a, ea⟩ : ∃ a, d = 2 * a + 0 := ⟨d / 2, by omega⟩
      have e1 : (d + 1 + 1) / 2 = a + 1 := by omega
      have e2 : (d + 1) / 2 = a := by omega
      have e3 : d / 2 = a := by omega
      rw [e1, e2, tW, Nat.add_mul, ih s hs, e2, e3]
      congr 1
      rw [show tW (cD C 1) a (ev s) = tW (cD C 1) a (ev s) from rfl, Nat.mul_comm, ← fb_sm_mul, ea]
      refine reidx (a := a) (par := 0) (by omega) (by omega) (fun b hb q1 q2 => ?_) (fun b hb q => ?_) (fun i hi q => ?_) (fun i hi q => ?_)
      · rw [hbit 0 a b hb]
        unfold dcell
        rw [decide_eq_true (show 3 ≤ a + b + 0 ∧ b ≤ a + 3 from ⟨q1, q2⟩), Bool.true_and, show 2 * a + 0 - (a + b + 0 - 3) = a + 3 - b by omega]
        by_cases b0 : b = 0
        · have hcf : C (a + b + 0 - 3) (a + 3 - b) = false := by
            cases h : C (a + b + 0 - 3) (a + 3 - b)
            · rfl
            · have := hC _ _ h; omega
          rw [hcf, Bool.false_and, Bool.and_false]
          simp
        · obtain ⟨f1, f2⟩ := od_f s hs (b - 1) (by omega)
          rw [show 2 * (a + b + 0 - 3) + 5 - (2 * a + 0) = 2 * (b - 1) + 1 by omega]
          have hb2 : (2 * od s).testBit b = s.testBit (2 * (b - 1) + 1) := by
            rw [f1, show b = (b - 1) + 1 by omega, Nat.testBit_succ, Nat.mul_div_cancel_left _ (by omega)]
            rfl
          rw [hb2, Bool.and_comm]
          by_cases z : (s.testBit (2 * (b - 1) + 1) && C (a + b + 0 - 3) (a + 3 - b)) = true
          · have zs : s.testBit (2 * (b - 1) + 1) = true := by
              rw [Bool.and_eq_true] at z
              exact z.1
            obtain ⟨g1, g2, g3⟩ := f2 zs
            rw [if_pos z, if_pos z, ← ea, ih _ (Nat.lt_of_le_of_lt (Nat.sub_le _ _) hs), e2, e3, g1, g2, Nat.mul_comm]
            congr 2
            rw [Nat.mul_sub, show 2 * 2 ^ (b - 1) = 2 ^ b by rw [← Nat.pow_succ']; congr 1; omega]
          · rw [if_neg z, if_neg z, Nat.mul_zero]
      · rw [hbit 0 a b hb]
        unfold dcell
        rw [decide_eq_false q, Bool.false_and, Bool.and_false, if_neg (by decide), Nat.mul_zero]
      · have hcf : C i (2 * a + 0 - i) = false := by
          cases h : C i (2 * a + 0 - i)
          · rfl
          · have := hC _ _ h; omega
        rw [hcf, Bool.false_and]
        exact if_neg (by decide)
      · have hcf : C i (2 * a + 0 - i) = false := by
          cases h : C i (2 * a + 0 - i)
          · rfl
          · have := hC _ _ h; omega
        rw [hcf, Bool.false_and]
        exact if_neg (by decide)
    · -- an odd diagonal
      obtain ⟨a, ea⟩ : ∃ a, d = 2 * a + 1 := ⟨d / 2, by omega⟩
      have e1 : (d + 1 + 1) / 2 = a + 1 := by omega
      have e2 : (d + 1) / 2 = a + 1 := by omega
      have e3 : d / 2 = a := by omega
      have e4 : (d + 1) / 2 = a + 1 := by omega
      rw [e1, e2, show tW (cD C 1) (a + 1) (ev s) = tW (cD C 1) a (ev s) + fb_sm (fun j => if ((ev s).testBit j && (cD C 1 a).testBit j) = true then tW (cD C 1) a (ev s - 2 ^ j) else 0) 6 from rfl, Nat.mul_add, ih s hs, e2, e3]
      congr 1
      rw [← fb_sm_mul, ea]
      refine reidx (a := a) (par := 1) (by omega) (by omega) (fun b hb q1 q2 => ?_) (fun b hb q => ?_) (fun i hi q => ?_) (fun i hi q => ?_)
      · rw [hbit 1 a b hb]
        unfold dcell
        rw [decide_eq_true (show 3 ≤ a + b + 1 ∧ b ≤ a + 3 from ⟨q1, q2⟩), Bool.true_and, show 2 * a + 1 - (a + b + 1 - 3) = a + 3 - b by omega]
        obtain ⟨f1, f2⟩ := ev_f s hs b hb
        rw [show 2 * (a + b + 1 - 3) + 5 - (2 * a + 1) = 2 * b by omega, ← f1, Bool.and_comm]
        by_cases z : (s.testBit (2 * b) && C (a + b + 1 - 3) (a + 3 - b)) = true
        · have zs : s.testBit (2 * b) = true := by
            rw [Bool.and_eq_true] at z
            exact z.1
          obtain ⟨g1, g2, g3⟩ := f2 zs
          rw [if_pos z, if_pos z, ← ea, ih _ (Nat.lt_of_le_of_lt (Nat.sub_le _ _) hs), e2, e3, g1, g2]
        · rw [if_neg z, if_neg z, Nat.mul_zero]
      · rw [hbit 1 a b hb]
        unfold dcell
        rw [decide_eq_false q, Bool.false_and, Bool.and_false, if_neg (by decide), Nat.mul_zero]
      · have hcf : C i (2 * a + 1 - i) = false := by
          cases h : C i (2 * a + 1 - i)
          · rfl
          · have := hC _ _ h; omega
        rw [hcf, Bool.false_and]
        exact if_neg (by decide)
      · have hcf : C i (2 * a + 1 - i) = false := by
          cases h : C i (2 * a + 1 - i)
          · rfl
          · have := hC _ _ h; omega
        rw [hcf, Bool.false_and]
        exact if_neg (by decide)
