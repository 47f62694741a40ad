/-! slants: the sums -/
theorem cD_row5 {C : Nat → Nat → Bool} (hC : ∀ i j, C i j = true → i < 6 ∧ j < 6) : cD C 1 5 = 0 := by
  refine Nat.eq_of_testBit_eq (fun t => ?_)
  unfold cD
  rw [lb_bit, Nat.zero_testBit]
  by_cases z : t < 6
  · rw [decide_eq_true z, Bool.true_and]
    cases h : dcell C 1 5 t
    · rfl
    · unfold dcell at h
      rw [Bool.and_eq_true] at h
      have := hC _ _ h.2
      omega
  · rw [decide_eq_false z, Bool.false_and]
theorem cD_bit0 {C : Nat → Nat → Bool} (hC : ∀ i j, C i j = true → i < 6 ∧ j < 6) (a : Nat) : (cD C 0 a).testBit 0 = false := by
  unfold cD
  rw [lb_bit, decide_eq_true (by omega), Bool.true_and]
  cases h : dcell C 0 a 0
  · rfl
  · unfold dcell at h
    rw [Bool.and_eq_true, decide_eq_true_eq] at h
    have := hC _ _ h.2
    omega
theorem bt0 : ∀ s, s < 64 → ∀ j, j < 6 → j ≠ 0 → s.testBit j = true → (s - 2 ^ j).testBit 0 = s.testBit 0 := by decide +kernel
theorem tW_no {c : Nat → Nat} (h0 : ∀ i, (c i).testBit 0 = false) : ∀ h s, s < 64 → s.testBit 0 = true → tW c h s = 0
  | 0, s, _, hs => by
    rw [tW]
    refine if_neg (fun z => ?_)
    rw [z, Nat.zero_testBit] at hs
    cases hs
  | h + 1, s, h6, hs => by
    rw [tW, tW_no h0 h s h6 hs, fb_sm_0]
    intro j hj
    by_cases z : (s.testBit j && (c h).testBit j) = true
    · rw [if_pos z]
      rw [Bool.and_eq_true] at z
      have j0 : j ≠ 0 := fun q => by rw [q, h0 h] at z; cases z.2
      exact tW_no h0 h _ (Nat.lt_of_le_of_lt (Nat.sub_le _ _) h6) (by rw [bt0 s h6 j hj j0 z.1]; exact hs)
    · exact if_neg z
theorem one_term (b : Nat) (x : Nat → Nat) : ∀ n, fb_sm (fun e => if b = e then x e else 0) n = if b < n then x b else 0
  | 0 => rfl
  | n + 1 => by
    rw [fb_sm_succ, one_term b x n]
    by_cases e : b = n
    · subst e
      rw [if_neg (Nat.lt_irrefl _), if_pos rfl, if_pos (Nat.lt_succ_self _), Nat.zero_add]
    · rw [if_neg e, Nat.add_zero]
      by_cases z : b < n
      · rw [if_pos z, if_pos (by omega)]
      · rw [if_neg z, if_neg (by omega)]
theorem bc_dbl : ∀ T, T < 32 → bc (2 * T) = bc T ∧ (2 * T + 1).testBit 0 = true := by decide +kernel
theorem sl_sum {C : Nat → Nat → Bool} (hC : ∀ i j, C i j = true → i < 6 ∧ j < 6) (K : Nat) : fb_sm (fun x => if bc x = K then sW C 11 x else 0) 2048 = fb_sm (fun e => tN (cD C 0) 6 e * tN (cD C 1) 6 (K - e)) (K + 1) := by
  have hO : ∀ s, tW (cD C 1) 6 s = tW (cD C 1) 5 s := fun s => by
    rw [tW, fb_sm_0, Nat.add_zero]
    intro j _
    rw [cD_row5 hC, Nat.zero_testBit, Bool.and_false]
    exact if_neg (by decide)
  have hE : ∀ e, tN (cD C 0) 6 e = fb_sm (fun T => if bc T = e then tW (cD C 0) 6 (2 * T) else 0) 32 := fun e => by
    unfold tN
    rw [show 64 = 2 * 32 from rfl, fb_sm_two]
    refine fb_sm_cong (fun T hT => ?_)
    obtain ⟨d1, d2⟩ := bc_dbl T hT
    rw [d1, tW_no (cD_bit0 hC) 6 (2 * T + 1) (by omega) d2]
    have : (if bc (2 * T + 1) = e then 0 else 0) = 0 := by split <;> rfl
    rw [this, Nat.add_zero]
  have e1 : fb_sm (fun x => if bc x = K then sW C 11 x else 0) 2048 = fb_sm (fun s => (fun S T => if bc S + bc T = K then tW (cD C 0) 6 (2 * T) * tW (cD C 1) 5 S else 0) (ev s) (od s)) 2048 := fb_sm_cong (fun s hs => by
    rw [bc_ev_od s hs, sW_prod hC 11 (Nat.le_refl _) s hs])
  rw [e1, fb_sm_2048 (fun S T => if bc S + bc T = K then tW (cD C 0) 6 (2 * T) * tW (cD C 1) 5 S else 0)]
  have e2 : fb_sm (fun e => tN (cD C 0) 6 e * tN (cD C 1) 6 (K - e)) (K + 1) = fb_sm (fun e => fb_sm (fun T => if bc T = e then tW (cD C 0) 6 (2 * T) * tN (cD C 1) 6 (K - e) else 0) 32) (K + 1) := fb_sm_cong (fun e _ => by
    rw [hE, Nat.mul_comm, ← fb_sm_mul]
    refine fb_sm_cong (fun T _ => ?_)
    by_cases z : bc T = e
    · rw [if_pos z, if_pos z, Nat.mul_comm]
    · rw [if_neg z, if_neg z, Nat.mul_zero])
  rw [e2, fb_sm_swap (fun e T => if bc T = e then tW (cD C 0) 6 (2 * T) * tN (cD C 1) 6 (K - e) else 0) 32 (K + 1)]
  refine fb_sm_cong (fun T hT => ?_)
  rw [one_term (bc T) (fun e => tW (cD C 0) 6 (2 * T) * tN (cD C 1) 6 (K - e)) (K + 1)]
  by_cases z : bc T < K + 1
  · rw [if_pos z]
    unfold tN
    rw [← fb_sm_mul]
    refine fb_sm_cong (fun S _ => ?_)
    rw [hO]
    by_cases y : bc S = K - bc T
    · rw [if_pos (by omega), if_pos y]
    · rw [if_neg (by omega), if_neg y, Nat.mul_zero]
  · rw [if_neg z]
    exact fb_sm_0 (fun S _ => if_neg (by omega))
theorem tN_7 (c : Nat → Nat) (h : Nat) {e : Nat} (he : 6 < e) : tN c h e = 0 := by
  unfold tN
  refine fb_sm_0 (fun s hs => if_neg (fun z => ?_))
  have := bc_le6 (s := s) hs
  omega
theorem nb_a_all {c : Nat → Nat} {p : Nat → Int32} (hc : ∀ i, i < 6 → c i < 64 ∧ p i = nI (c i)) {q : Nat} (hq : q < 2 ^ 31) : nb_a (nb_N p 6) (nI q) = nI (tN c 6 q) := by
  by_cases z : q ≤ 6
  · exact nb_a_ok (by omega) hc z
  · unfold nb_a
    rw [if_neg (fun y => nI_ge (a := 6) (by omega) hq y.2), tN_7 c 6 (by omega)]
    rfl
theorem lN_mul' (a b : Nat) : lN a * lN b = lN (a * b) := by
  rw [lN_ofInt, lN_ofInt, lN_ofInt, ← Int64.ofInt_mul]
  rfl
theorem sl_g_ok {c c' : Nat → Nat} {p p' : Nat → Int32} (hc : ∀ i, i < 6 → c i < 64 ∧ p i = nI (c i)) (hc' : ∀ i, i < 6 → c' i < 64 ∧ p' i = nI (c' i)) {K : Nat} (hK : K ≤ 11) : ∀ m e r, e + m = K + 1 → r = lN (fb_sm (fun e => tN c 6 e * tN c' 6 (K - e)) e) → sl_g (nb_N p 6) (nb_N p' 6) (nI K) m e r = lN (fb_sm (fun e => tN c 6 e * tN c' 6 (K - e)) (K + 1))
  | 0, e, r, he, hr => by
    have e' : e = K + 1 := by omega
    subst e'
    exact hr
  | m + 1, e, r, he, hr => by
    rw [sl_g]
    refine sl_g_ok hc hc' hK m (e + 1) _ (by omega) ?_
    have hs : nI K - nI e = nI (K - e) := pk_sub (by omega)
    rw [fb_sm_succ, ← lN_add', hr, hs, nb_a_all hc (by omega), nb_a_all hc' (by omega), tN_l _ (by omega), tN_l _ (by omega), lN_mul']
