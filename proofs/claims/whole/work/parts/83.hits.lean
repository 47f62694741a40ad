/-! orders that hit so many cells -/
theorem fb_si_0 {f : Nat → Int} : ∀ {n : Nat}, (∀ k, k < n → f k = 0) → fb_si f n = 0
  | 0, _ => rfl
  | n + 1, h => by rw [fb_si_succ, fb_si_0 (fun k hk => h k (by omega)), h n (by omega)]; rfl
theorem fb_si_swap (f : Nat → Nat → Int) (m : Nat) : ∀ n, fb_si (fun i => fb_si (fun j => f i j) m) n = fb_si (fun j => fb_si (fun i => f i j) n) m
  | 0 => (fb_si_0 (fun _ _ => rfl)).symm
  | n + 1 => by
    rw [fb_si_succ, fb_si_swap f m n, ← fb_si_add]
    rfl
theorem fb_si_shift (f : Nat → Int) : ∀ n, fb_si f (n + 1) = f 0 + fb_si (fun k => f (k + 1)) n
  | 0 => by rw [fb_si_succ]; show 0 + f 0 = f 0 + 0; omega
  | n + 1 => by rw [fb_si_succ, fb_si_shift f n, fb_si_succ (fun k => f (k + 1)) n]; omega
def qO (ce : Nat → Nat → Bool) (n : Nat) : Nat → Nat → Nat → Nat → Nat
  | 0, _, _, l => if l = 0 then 1 else 0
  | r + 1, i, u, l => qO ce n r (i + 1) u l + fb_sm (fun j => if (decide (0 < l) && (ce i j && !u.testBit j)) = true then qO ce n r (i + 1) (u ||| 2 ^ j) (l - 1) else 0) n
theorem qO_big (ce : Nat → Nat → Bool) (n : Nat) : ∀ r i u l, r < l → qO ce n r i u l = 0
  | 0, i, u, l, h => if_neg (by omega)
  | r + 1, i, u, l, h => by
    rw [qO, qO_big ce n r _ _ _ (by omega), fb_sm_0, Nat.zero_add]
    intro j _
    by_cases e : (decide (0 < l) && (ce i j && !u.testBit j)) = true
    · rw [if_pos e, qO_big ce n r _ _ _ (by omega)]
    · rw [if_neg e]
def qF (n u : Nat) : Nat := fb_sm (fun j => if u.testBit j = true then 0 else 1) n
theorem qF_or {n u l : Nat} (hl : l < n) (hu : u.testBit l = false) : qF n (u ||| 2 ^ l) + 1 = qF n u := by
  symm
  refine fb_sm_one (k := l) (v := 1) hl (fun j _ hj => ?_) ?_
  · rw [fb_bit_set, decide_eq_false hj, Bool.or_false]
  · rw [fb_bit_set, hu, decide_eq_true rfl]
    rfl
/-- one column more, free: as often as there are free ones left -/
theorem qO_A (ce : Nat → Nat → Bool) (n : Nat) : ∀ r i u m, fb_sm (fun j => if u.testBit j = true then 0 else qO ce n r i (u ||| 2 ^ j) m) n + m * qO ce n r i u m = qF n u * qO ce n r i u m
  | 0, i, u, m => by
    simp only [qO]
    by_cases e : m = 0
    · subst e
      simp only [↓reduceIte, Nat.zero_mul, Nat.add_zero, Nat.mul_one]
      rfl
    · simp only [e, ↓reduceIte, ite_self, Nat.mul_zero, Nat.add_zero]
      exact fb_sm_0 (fun _ _ => rfl)
  | r + 1, i, u, m => by
    have ih := qO_A ce n r (i + 1)
    have s1 : fb_sm (fun j => if u.testBit j = true then 0 else qO ce n (r + 1) i (u ||| 2 ^ j) m) n = fb_sm (fun j => if u.testBit j = true then 0 else qO ce n r (i + 1) (u ||| 2 ^ j) m) n + fb_sm (fun l => if (decide (0 < m) && (ce i l && !u.testBit l)) = true then fb_sm (fun j => if (u ||| 2 ^ l).testBit j = true then 0 else qO ce n r (i + 1) ((u ||| 2 ^ l) ||| 2 ^ j) (m - 1)) n else 0) n := by
      have e1 : fb_sm (fun j => if u.testBit j = true then 0 else qO ce n (r + 1) i (u ||| 2 ^ j) m) n = fb_sm (fun j => (if u.testBit j = true then 0 else qO ce n r (i + 1) (u ||| 2 ^ j) m) + fb_sm (fun l => if u.testBit j = true then 0 else if (decide (0 < m) && (ce i l && !(u ||| 2 ^ j).testBit l)) = true then qO ce n r (i + 1) ((u ||| 2 ^ j) ||| 2 ^ l) (m - 1) else 0) n) n := fb_sm_cong (fun j _ => by
        by_cases c : u.testBit j = true
        · simp only [c, ↓reduceIte]
          rw [fb_sm_0 (fun _ _ => rfl)]
        · simp only [c, ↓reduceIte, Bool.false_eq_true]
          rw [qO])
      rw [e1, fb_sm_add, fb_sm_swap]
      congr 1
      refine fb_sm_cong (fun l _ => ?_)
      by_cases c : (decide (0 < m) && (ce i l && !u.testBit l)) = true
      · rw [if_pos c]
        refine fb_sm_cong (fun j _ => ?_)
        rw [Bool.and_eq_true, Bool.and_eq_true] at c
        have ul : u.testBit l = false := by simpa using c.2.2
        rw [fb_bit_set, fb_bit_set, ul, Bool.false_or]
        by_cases jl : j = l
        · subst jl
          simp only [ul, decide_true, Bool.not_true, Bool.and_false, Bool.false_eq_true, ↓reduceIte, Bool.or_true]
        · have lj : ¬ l = j := fun z => jl z.symm
          simp only [decide_eq_false jl, decide_eq_false lj, Bool.or_false, Bool.not_false, Bool.and_true, c.1, c.2.1, ↓reduceIte]
          rw [Nat.or_assoc, Nat.or_comm (2 ^ j), ← Nat.or_assoc]
      · rw [if_neg c]
        refine fb_sm_0 (fun j _ => ?_)
        by_cases uj : u.testBit j = true
        · rw [if_pos uj]
        · rw [if_neg uj, if_neg]
          intro z
          apply c
          rw [Bool.and_eq_true, Bool.and_eq_true] at z ⊢
          refine ⟨z.1, z.2.1, ?_⟩
          have := z.2.2
          rw [fb_bit_set] at this
          simp at this ⊢
          exact this.1
    have s2 : fb_sm (fun l => if (decide (0 < m) && (ce i l && !u.testBit l)) = true then fb_sm (fun j => if (u ||| 2 ^ l).testBit j = true then 0 else qO ce n r (i + 1) ((u ||| 2 ^ l) ||| 2 ^ j) (m - 1)) n else 0) n + m * fb_sm (fun l => if (decide (0 < m) && (ce i l && !u.testBit l)) = true then qO ce n r (i + 1) (u ||| 2 ^ l) (m - 1) else 0) n = qF n u * fb_sm (fun l => if (decide (0 < m) && (ce i l && !u.testBit l)) = true then qO ce n r (i + 1) (u ||| 2 ^ l) (m - 1) else 0) n := by
      rw [← fb_sm_mul, ← fb_sm_mul, ← fb_sm_add]
      refine fb_sm_cong (fun l hl => ?_)
      by_cases c : (decide (0 < m) && (ce i l && !u.testBit l)) = true
      · rw [if_pos c, if_pos c]
        rw [Bool.and_eq_true, Bool.and_eq_true] at c
        have ul : u.testBit l = false := by simpa using c.2.2
        have m1 : 0 < m := of_decide_eq_true c.1
        have hF := qF_or hl ul
        have hI := ih (u ||| 2 ^ l) (m - 1)
        generalize qO ce n r (i + 1) (u ||| 2 ^ l) (m - 1) = Q at *
        rw [← hF, Nat.add_mul, Nat.one_mul, ← hI]
        have : m * Q = (m - 1) * Q + Q := by
          rw [← Nat.succ_mul]
          congr 1
          omega
        omega
      · rw [if_neg c, if_neg c, Nat.mul_zero, Nat.mul_zero]
    have s3 := ih u m
    rw [s1, qO, Nat.mul_add, Nat.mul_add]
    omega
def hA : Nat → Nat → Int
  | 0, l => if l = 0 then 1 else 0
  | m + 1, l => (if l = 0 then 0 else hA m (l - 1)) - hA m l
def fac : Nat → Nat
  | 0 => 1
  | n + 1 => (n + 1) * fac n
theorem tP_B (ce : Nat → Nat → Bool) (n : Nat) : ∀ r i u l, r ≤ n → qF n u = r → (tP ce n r i u l : Int) = fb_si (fun m => hA m l * ((qO ce n r i u m * fac (r - m) : Nat) : Int)) (n + 1)
  | 0, i, u, l, hr, hu => by
    rw [fb_si_shift, fb_si_0, Int.add_zero]
    · rw [tP, hA, qO]
      by_cases e : l = 0
      · simp [e, fac]
      · simp [e]
    · intro k _
      rw [qO, if_neg (by omega), Nat.zero_mul]
      exact Int.mul_zero _
  | r + 1, i, u, l, hr, hu => by
    have ih := tP_B ce n r (i + 1)
    have hA' : ∀ m l, hA (m + 1) l = (if l = 0 then 0 else hA m (l - 1)) - hA m l := fun _ _ => rfl
    -- the left side, column by column
    have e1 : (tP ce n (r + 1) i u l : Int) = fb_si (fun j => fb_si (fun m => hA m l * ((if u.testBit j = true then 0 else qO ce n r (i + 1) (u ||| 2 ^ j) m * fac (r - m) : Nat) : Int)) (n + 1) + fb_si (fun m => hA (m + 1) l * ((if (ce i j && !u.testBit j) = true then qO ce n r (i + 1) (u ||| 2 ^ j) m * fac (r - m) else 0 : Nat) : Int)) (n + 1)) n := by
      rw [tP, ← fb_si_nat]
      refine fb_si_cong (fun j hj => ?_)
      by_cases c : u.testBit j = true
      · rw [if_pos c, fb_si_0 (fun m _ => by rw [if_pos c]; exact Int.mul_zero _), fb_si_0 (fun m _ => by rw [if_neg (by simp [c])]; exact Int.mul_zero _)]
        rfl
      · have c' : u.testBit j = false := by simpa using c
        have hq : qF n (u ||| 2 ^ j) = r := by have := qF_or hj c'; omega
        rw [if_neg c, ← fb_si_add]
        by_cases d : ce i j = true
        · rw [if_pos d]
          by_cases l0 : l = 0
          · rw [if_pos l0]
            symm
            refine fb_si_0 (fun m _ => ?_)
            rw [if_neg c, if_pos (by rw [d, c']; rfl), hA', if_pos l0]
            generalize ((qO ce n r (i + 1) (u ||| 2 ^ j) m * fac (r - m) : Nat) : Int) = Q
            rw [Int.sub_mul, Int.zero_mul]
            omega
          · rw [if_neg l0, ih (u ||| 2 ^ j) (l - 1) (by omega) hq]
            refine fb_si_cong (fun m _ => ?_)
            rw [if_neg c, if_pos (by rw [d, c']; rfl), hA', if_neg l0]
            generalize ((qO ce n r (i + 1) (u ||| 2 ^ j) m * fac (r - m) : Nat) : Int) = Q
            rw [Int.sub_mul]
            omega
        · rw [if_neg d, ih (u ||| 2 ^ j) l (by omega) hq]
          refine fb_si_cong (fun m _ => ?_)
          rw [if_neg c, if_neg (by simp [d])]
          show _ = _ + hA (m + 1) l * 0
          omega
    -- the two sums, number by number
    have e2 : fb_si (fun j => fb_si (fun m => hA m l * ((if u.testBit j = true then 0 else qO ce n r (i + 1) (u ||| 2 ^ j) m * fac (r - m) : Nat) : Int)) (n + 1)) n = fb_si (fun m => hA m l * ((qO ce n r (i + 1) u m * fac (r + 1 - m) : Nat) : Int)) (n + 1) := by
      rw [fb_si_swap]
      refine fb_si_cong (fun m _ => ?_)
      rw [fb_si_mul, fb_si_nat]
      congr 2
      have hs := qO_A ce n r (i + 1) u m
      rw [hu] at hs
      have hm : fb_sm (fun j => if u.testBit j = true then 0 else qO ce n r (i + 1) (u ||| 2 ^ j) m * fac (r - m)) n = fac (r - m) * fb_sm (fun j => if u.testBit j = true then 0 else qO ce n r (i + 1) (u ||| 2 ^ j) m) n := by
        rw [← fb_sm_mul]
        refine fb_sm_cong (fun j _ => ?_)
        by_cases c : u.testBit j = true
        · rw [if_pos c, if_pos c]; rfl
        · rw [if_neg c, if_neg c, Nat.mul_comm]
      rw [hm]
      generalize fb_sm (fun j => if u.testBit j = true then 0 else qO ce n r (i + 1) (u ||| 2 ^ j) m) n = T at *
      by_cases c : m ≤ r
      · have e3 : r + 1 - m = (r - m) + 1 := by omega
        rw [e3, fac]
        have e4 : T = (r - m + 1) * qO ce n r (i + 1) u m := by
          have : (r + 1) * qO ce n r (i + 1) u m = (r - m + 1) * qO ce n r (i + 1) u m + m * qO ce n r (i + 1) u m := by
            rw [← Nat.add_mul]
            congr 1
            omega
          omega
        rw [e4, ← Nat.mul_assoc, Nat.mul_comm (fac (r - m)), Nat.mul_comm (qO ce n r (i + 1) u m), Nat.mul_assoc]
      · have e5 := qO_big ce n r (i + 1) u m (by omega)
        rw [e5] at hs ⊢
        have : T = 0 := by omega
        rw [this, Nat.mul_zero, Nat.zero_mul]
    have e3 : fb_si (fun j => fb_si (fun m => hA (m + 1) l * ((if (ce i j && !u.testBit j) = true then qO ce n r (i + 1) (u ||| 2 ^ j) m * fac (r - m) else 0 : Nat) : Int)) (n + 1)) n = fb_si (fun m => hA m l * ((fb_sm (fun j => if (decide (0 < m) && (ce i j && !u.testBit j)) = true then qO ce n r (i + 1) (u ||| 2 ^ j) (m - 1) else 0) n * fac (r + 1 - m) : Nat) : Int)) (n + 1) := by
      rw [fb_si_swap, fb_si_shift (fun m => hA m l * ((fb_sm (fun j => if (decide (0 < m) && (ce i j && !u.testBit j)) = true then qO ce n r (i + 1) (u ||| 2 ^ j) (m - 1) else 0) n * fac (r + 1 - m) : Nat) : Int)) n, fb_si_succ]
      have t0 : fb_sm (fun j => if (decide (0 < 0) && (ce i j && !u.testBit j)) = true then qO ce n r (i + 1) (u ||| 2 ^ j) (0 - 1) else 0) n = 0 := fb_sm_0 (fun j _ => if_neg (by simp))
      have t1 : fb_si (fun j => hA (n + 1) l * ((if (ce i j && !u.testBit j) = true then qO ce n r (i + 1) (u ||| 2 ^ j) n * fac (r - n) else 0 : Nat) : Int)) n = 0 := fb_si_0 (fun j _ => by
        rw [qO_big ce n r _ _ n (by omega), Nat.zero_mul, ite_self]
        exact Int.mul_zero _)
      rw [t0, t1, Nat.zero_mul]
      show _ + 0 = hA 0 l * 0 + _
      rw [Int.mul_zero, Int.zero_add, Int.add_zero]
      refine fb_si_cong (fun m _ => ?_)
      rw [fb_si_mul, fb_si_nat]
      congr 2
      rw [Nat.mul_comm, ← fb_sm_mul]
      refine fb_sm_cong (fun j _ => ?_)
      have m0 : decide (0 < m + 1) = true := by simp
      rw [m0, Bool.true_and, Nat.add_sub_cancel, show r + 1 - (m + 1) = r - m by omega]
      by_cases c : (ce i j && !u.testBit j) = true
      · rw [if_pos c, if_pos c, Nat.mul_comm]
      · rw [if_neg c, if_neg c]; rfl
    rw [e1, fb_si_add, e2, e3, ← fb_si_add]
    refine fb_si_cong (fun m _ => ?_)
    rw [← Int.mul_add, qO]
    congr 1
    rw [← Int.natCast_add, ← Nat.add_mul]
theorem qO_none {ce : Nat → Nat → Bool} {h : Nat} (h0 : ∀ i j, h ≤ i → ce i j = false) (n : Nat) : ∀ r i u m, h ≤ i → qO ce n r i u m = if m = 0 then 1 else 0
  | 0, i, u, m, _ => rfl
  | r + 1, i, u, m, hi => by
    rw [qO, qO_none h0 n r (i + 1) u m (by omega), fb_sm_0, Nat.add_zero]
    intro j _
    rw [h0 i j hi]
    exact if_neg (by simp)
theorem qO_tO {c : Nat → Nat} {h w n : Nat} (hh : h ≤ n) (hw : w ≤ n) : ∀ r i u m, i + r = h → qO (mcell h w c) n (r + (n - h)) i u m = tO c w r i u m
  | 0, i, u, m, e => by
    rw [qO_none (h := h) (fun i j hi => by unfold mcell; rw [decide_eq_false (by omega)]; rfl) n _ _ _ _ (by omega)]
    rfl
  | r + 1, i, u, m, e => by
    have ih := qO_tO (c := c) hh hw r (i + 1)
    rw [show r + 1 + (n - h) = (r + (n - h)) + 1 by omega, qO, tO, ih u m (by omega)]
    congr 1
    rw [fb_sm_cut hw]
    · refine fb_sm_cong (fun j hj => ?_)
      have : mcell h w c i j = (c i).testBit j := by unfold mcell; rw [decide_eq_true (show i < h by omega), decide_eq_true hj]; rfl
      rw [this, ih _ _ (by omega)]
    · intro j hj _
      have : mcell h w c i j = false := by unfold mcell; rw [decide_eq_false (show ¬ j < w by omega), Bool.false_and, Bool.and_false]
      rw [this]
      exact if_neg (by simp)
/-- signs and choices of the class -/
def hsc (kk : Nat) : Nat → Int64 × Int64
  | 0 => (1, 1)
  | i + 1 => (-(hsc kk i).1, (hsc kk i).2 * (nI (kk + i + 1)).toInt64 / (nI (i + 1)).toInt64)
theorem hsc_ok : ∀ kk, kk < 7 → ∀ i, i < 7 → (hsc kk i).1 * (hsc kk i).2 = Int64.ofInt (hA (kk + i) kk) := by decide +kernel
theorem hfac_ok : ∀ n, n < 7 → nb_fac n = lN (fac n) := by decide +kernel
theorem hA_0 : ∀ j, j < 7 → ∀ kk, kk < 7 → j < kk → hA j kk = 0 := by decide +kernel
theorem qF_0 (n : Nat) : qF n 0 = n := by
  unfold qF
  have : fb_sm (fun j => if (0 : Nat).testBit j = true then 0 else 1) n = fb_sm (fun _ => 1) n := fb_sm_cong (fun j _ => by simp)
  rw [this, fb_sm_const, Nat.mul_one]
theorem lN_ofInt (n : Nat) : lN n = Int64.ofInt (n : Int) := Int64.ofInt_eq_ofNat.symm
theorem nb_hit_ok {z : Nat → Int32} {M : Nat → Nat} {kk nn : Nat} (hk : kk < 7) (hn : nn ≤ 6) (hz : ∀ j, j < 7 → z j = nI (M j)) (hM : ∀ j, M j < 2 ^ 31) : ∀ m i o, kk + i + m ≤ nn + 1 → nb_hit z kk nn m (kk + i) o (hsc kk i).1 (hsc kk i).2 = o + Int64.ofInt (fb_si (fun t => hA (kk + i + t) kk * ((M (kk + i + t) * fac (nn - (kk + i + t)) : Nat) : Int)) m)
  | 0, i, o, _ => by
    rw [nb_hit]
    exact (Int64.add_zero o).symm
  | m + 1, i, o, h => by
    rw [nb_hit, fb_si_shift, Int64.ofInt_add, ← Int64.add_assoc]
    have ih := nb_hit_ok hk hn hz hM m (i + 1) (o + Int64.ofInt (hA (kk + i + 0) kk * ((M (kk + i + 0) * fac (nn - (kk + i + 0)) : Nat) : Int))) (by omega)
    have e1 : fb_si (fun t => hA (kk + (i + 1) + t) kk * ((M (kk + (i + 1) + t) * fac (nn - (kk + (i + 1) + t)) : Nat) : Int)) m = fb_si (fun k => hA (kk + i + (k + 1)) kk * ((M (kk + i + (k + 1)) * fac (nn - (kk + i + (k + 1))) : Nat) : Int)) m := fb_si_cong (fun t _ => by rw [show kk + (i + 1) + t = kk + i + (t + 1) by omega])
    rw [e1] at ih
    rw [← ih]
    have e2 : o + (hsc kk i).1 * (hsc kk i).2 * (z (kk + i)).toInt64 * nb_fac (nn - (kk + i)) = o + Int64.ofInt (hA (kk + i + 0) kk * ((M (kk + i + 0) * fac (nn - (kk + i + 0)) : Nat) : Int)) := by
      rw [hsc_ok kk hk i (by omega), hz _ (by omega), nI_l (hM _), hfac_ok _ (by omega), Nat.add_zero, lN_ofInt, lN_ofInt, Int.natCast_mul, Int64.ofInt_mul, Int64.ofInt_mul, Int64.mul_assoc]
    have e3 : kk + i + 1 - kk = i + 1 := by omega
    rw [e2, e3]
    rfl
theorem nb_hit_eq {c : Nat → Nat} {p : Nat → Int32} {h w n kk : Nat} (hk : kk < 7) (h6 : h ≤ 6) (w6 : w ≤ 6) (hh : h ≤ n) (hw : w ≤ n) (hn : n ≤ 6) (hc : ∀ i, i < h → c i < 2 ^ w ∧ p i = nI (c i)) : nb_hit (nb_N p h) kk n (n + 1 - kk) kk 0 1 1 = lN (tP (mcell h w c) n n 0 0 kk) := by
  have hM : ∀ j, tN c h j < 2 ^ 31 := fun j => by have := tN_le c h6 j; omega
  have hz : ∀ j, j < 7 → nb_N p h j = nI (tN c h j) := fun j hj => nb_N_ok h6 (fun i hi => ⟨mz_c64 w6 (hc i hi).1, (hc i hi).2⟩) hj
  have e1 := nb_hit_ok hk hn hz hM (n + 1 - kk) 0 0
  rw [lN_ofInt, tP_B _ n n 0 0 kk (Nat.le_refl _) (qF_0 n)]
  have e2 : fb_si (fun m => hA m kk * ((qO (mcell h w c) n n 0 0 m * fac (n - m) : Nat) : Int)) (n + 1) = fb_si (fun m => hA m kk * ((tN c h m * fac (n - m) : Nat) : Int)) (n + 1) := fb_si_cong (fun m _ => by
    have := qO_tO (c := c) hh hw h 0 0 m (by omega)
    rw [show h + (n - h) = n by omega] at this
    rw [this, ← tN_tO w6 (fun i hi => (hc i hi).1)])
  rw [e2]
  by_cases c1 : kk ≤ n + 1
  · have e3 := e1 (by omega)
    rw [show hsc kk 0 = (1, 1) from rfl] at e3
    refine e3.trans ?_
    rw [Int64.zero_add]
    congr 1
    have e4 := fb_si_split (fun m => hA m kk * ((tN c h m * fac (n - m) : Nat) : Int)) kk (n + 1 - kk)
    rw [show kk + (n + 1 - kk) = n + 1 by omega] at e4
    rw [e4, fb_si_0 (n := kk) (fun m hm => by rw [hA_0 m (by omega) kk hk hm]; exact Int.zero_mul _), Int.zero_add]
    rfl
  · rw [show n + 1 - kk = 0 by omega, nb_hit, fb_si_0 (fun m hm => by rw [hA_0 m (by omega) kk hk (by omega)]; exact Int.zero_mul _)]
    rfl
