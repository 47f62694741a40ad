/-! slants: the class's two boards of diagonals -/
def lb (p : Nat → Bool) : Nat → Nat
  | 0 => 0
  | n + 1 => if p n = true then lb p n ||| 2 ^ n else lb p n
theorem lb_bit (p : Nat → Bool) (t : Nat) : ∀ n, (lb p n).testBit t = (decide (t < n) && p t)
  | 0 => by rw [lb, Nat.zero_testBit, decide_eq_false (Nat.not_lt_zero _)]; rfl
  | n + 1 => by
    rw [lb]
    by_cases e : t = n
    · subst e
      cases h : p t
      · rw [if_neg (by decide), lb_bit p t t, h, Bool.and_false, Bool.and_false]
      · rw [if_pos rfl, bit_or, decide_eq_true rfl, Bool.or_true, decide_eq_true (Nat.lt_succ_self _)]
        rfl
    · have e1 : decide (t < n + 1) = decide (t < n) := by
        by_cases z : t < n
        · rw [decide_eq_true z, decide_eq_true (by omega)]
        · rw [decide_eq_false z, decide_eq_false (by omega)]
      rw [e1]
      cases h : p n
      · rw [if_neg (by decide), lb_bit p t n]
      · rw [if_pos rfl, bit_or, lb_bit p t n, decide_eq_false e, Bool.or_false]
theorem lb_lt (p : Nat → Bool) : lb p 6 < 64 := by
  refine Nat.lt_pow_two_of_testBit (n := 6) _ (fun i hi => ?_)
  rw [lb_bit, decide_eq_false (by omega)]
  rfl
/-- column b of diagonal a of the parity -/
def dcell (C : Nat → Nat → Bool) (par a b : Nat) : Bool := decide (3 ≤ a + b + par ∧ b ≤ a + 3) && C (a + b + par - 3) (a + 3 - b)
def cD (C : Nat → Nat → Bool) (par a : Nat) : Nat := lb (dcell C par a) 6
def pC (C : Nat → Nat → Bool) (i j : Nat) : Nat → Nat → Bool := fun x y => C x y && (decide (x < i) || (decide (x = i) && decide (y < j)))
theorem dcell_step (C : Nat → Nat → Bool) {i j par a t : Nat} (hp : par < 2) (hi : i < 6) (hj : j < 6) : dcell (pC C i (j + 1)) par a t = true ↔ dcell (pC C i j) par a t = true ∨ (C i j = true ∧ (i + j) % 2 = par ∧ a = (i + j) / 2 ∧ t = (i + 6 - j) / 2) := by
  unfold dcell pC
  simp only [Bool.and_eq_true, Bool.or_eq_true, decide_eq_true_eq]
  constructor
  · rintro ⟨v, cc, z⟩
    rcases z with z | ⟨z1, z2⟩
    · exact Or.inl ⟨v, cc, Or.inl z⟩
    · by_cases y : a + 3 - t = j
      · refine Or.inr ⟨?_, by omega, by omega, by omega⟩
        rw [z1, y] at cc
        exact cc
      · exact Or.inl ⟨v, cc, Or.inr ⟨z1, by omega⟩⟩
  · rintro (⟨v, cc, z⟩ | ⟨cc, z1, z2, z3⟩)
    · refine ⟨v, cc, ?_⟩
      rcases z with z | ⟨z1, z2⟩
      · exact Or.inl z
      · exact Or.inr ⟨z1, by omega⟩
    · have e1 : a + t + par - 3 = i := by omega
      have e2 : a + 3 - t = j := by omega
      rw [e1, e2]
      exact ⟨by omega, cc, Or.inr ⟨rfl, by omega⟩⟩
theorem cD_ext {C D : Nat → Nat → Bool} {p q a x : Nat} (h : ∀ t, t < 6 → (dcell C p a t = true ↔ dcell D q a t = true ∨ t = x)) (hx : x < 6) : cD C p a = cD D q a ||| 2 ^ x := by
  refine Nat.eq_of_testBit_eq (fun t => ?_)
  unfold cD
  rw [bit_or, lb_bit, lb_bit]
  by_cases z : t < 6
  · rw [decide_eq_true z, Bool.true_and, Bool.true_and]
    have := h t z
    rw [Bool.eq_iff_iff, this, Bool.or_eq_true, decide_eq_true_eq]
  · rw [decide_eq_false z, Bool.false_and, Bool.false_and, decide_eq_false (by omega)]
    rfl
theorem cD_same {C D : Nat → Nat → Bool} {p a : Nat} (h : ∀ t, t < 6 → (dcell C p a t = true ↔ dcell D p a t = true)) : cD C p a = cD D p a := by
  refine Nat.eq_of_testBit_eq (fun t => ?_)
  unfold cD
  rw [lb_bit, lb_bit]
  by_cases z : t < 6
  · rw [decide_eq_true z, Bool.true_and, Bool.true_and]
    have := h t z
    cases h1 : dcell C p a t <;> cases h2 : dcell D p a t <;> simp_all
  · rw [decide_eq_false z, Bool.false_and, Bool.false_and]
theorem bd_dgi_ok {ht wd : Int32} {g : Nat → Int32} {C : Nat → Nat → Bool} {par i w : Nat} (hp : par < 2) (hi : i < 6) (hw : w ≤ 6) (hC : ∀ j, j < w → (bd_hc ht wd g i j = true ↔ C i j = true)) : ∀ m j (v : Nat → Int32), j + m = w → (∀ a, a < 6 → v a = nI (cD (pC C i j) par a)) → ∀ a, a < 6 → bd_dgi ht wd g (nI par) i m j v a = nI (cD (pC C i w) par a)
  | 0, j, v, e, hv, a, ha => by
    have e' : j = w := by omega
    subst e'
    exact hv a ha
  | m + 1, j, v, e, hv, a, ha => by
    rw [bd_dgi]
    refine bd_dgi_ok hp hi hw hC m (j + 1) _ (by omega) (fun x hx => ?_) a ha
    have hst := fun t => dcell_step C (i := i) (j := j) (par := par) (a := x) (t := t) hp hi (by omega)
    have hpe : nI ((i + j) % 2) = nI par ↔ (i + j) % 2 = par := nI_eq (by omega) (by omega)
    by_cases z : C i j = true ∧ (i + j) % 2 = par
    · rw [if_pos ⟨(hC j (by omega)).mpr z.1, hpe.mpr z.2⟩]
      by_cases y : x = (i + j) / 2
      · rw [← y, pk_us, hv x hx, fa_or]
        congr 1
        refine (cD_ext (fun t _ => ?_) (by omega)).symm
        rw [hst t]
        constructor
        · rintro (q | q)
          · exact Or.inl q
          · exact Or.inr q.2.2.2
        · rintro (q | q)
          · exact Or.inl q
          · exact Or.inr ⟨z.1, z.2, y, q⟩
      · rw [pk_un y, hv x hx]
        congr 1
        refine cD_same (fun t _ => ?_)
        rw [hst t]
        exact ⟨fun q => Or.inl q, fun q => q.resolve_right (fun q2 => y q2.2.2.1)⟩
    · rw [if_neg (fun q => z ⟨(hC j (by omega)).mp q.1, hpe.mp q.2⟩), hv x hx]
      congr 1
      refine cD_same (fun t _ => ?_)
      rw [hst t]
      exact ⟨fun q => Or.inl q, fun q => q.resolve_right (fun q2 => z ⟨q2.1, q2.2.1⟩)⟩
theorem bd_dg_ok {ht wd : Int32} {g : Nat → Int32} {C : Nat → Nat → Bool} {par h w : Nat} (hp : par < 2) (hh : h ≤ 6) (hw : w ≤ 6) (hC : ∀ i, i < h → ∀ j, j < w → (bd_hc ht wd g i j = true ↔ C i j = true)) (hC2 : ∀ i j, C i j = true → i < h ∧ j < w) : ∀ m i (v : Nat → Int32), i + m = h → (∀ a, a < 6 → v a = nI (cD (pC C i 0) par a)) → ∀ a, a < 6 → bd_dg ht wd g (nI par) w m i v a = nI (cD C par a)
  | 0, i, v, e, hv, a, ha => by
    have e' : i = h := by omega
    subst e'
    rw [bd_dg, hv a ha]
    congr 2
    funext x y
    unfold pC
    cases c : C x y
    · rfl
    · rw [decide_eq_true (hC2 x y c).1]
      rfl
  | m + 1, i, v, e, hv, a, ha => by
    rw [bd_dg]
    refine bd_dg_ok hp hh hw hC hC2 m (i + 1) _ (by omega) (fun x hx => ?_) a ha
    rw [bd_dgi_ok hp (show i < 6 by omega) hw (hC i (by omega)) w 0 v (by omega) hv x hx]
    congr 2
    funext x y
    unfold pC
    cases c : C x y
    · rfl
    · rw [decide_eq_true (hC2 x y c).2, Bool.and_true, decide_eq_false (Nat.not_lt_zero y), Bool.and_false, Bool.or_false]
      by_cases z : x < i
      · rw [decide_eq_true z, decide_eq_true (show x < i + 1 by omega)]
        rfl
      · rw [decide_eq_false z]
        by_cases z2 : x = i
        · rw [decide_eq_true z2, decide_eq_true (show x < i + 1 by omega)]
          rfl
        · rw [decide_eq_false z2, decide_eq_false (show ¬ x < i + 1 by omega)]
          rfl
