/-! free cells: the class's numbers -/
/-- cells that are free in a row without a tower, columns s taken -/
def fa_n (c s : Nat) : Nat := zb_pc (c &&& (63 - s))
/-- with a tower in column j -/
def fa_j (c s j : Nat) : Nat := zb_pc ((c &&& (63 - s)) &&& (2 ^ j - 1))
theorem fa_n_le (c s : Nat) : fa_n c s ≤ 6 := zb_pc_le _
theorem fa_j_le (c s j : Nat) : fa_j c s j ≤ 6 := zb_pc_le _
def dD (c : Nat → Nat) : Nat → Nat → Nat → Nat
  | 0, s, f => if s = 0 ∧ f = 0 then 1 else 0
  | i + 1, s, f => (if fa_n (c i) s ≤ f then dD c i s (f - fa_n (c i) s) else 0) + fb_sm (fun j => if (s.testBit j && (c i).testBit j) = true then (if fa_j (c i) (s - 2 ^ j) j ≤ f then dD c i (s - 2 ^ j) (f - fa_j (c i) (s - 2 ^ j) j) else 0) else 0) 6
theorem ifc {p q : Prop} [Decidable p] [Decidable q] (h : p ↔ q) (a b : Nat) : (if p then a else b) = if q then a else b := by
  by_cases c : p
  · rw [if_pos c, if_pos (h.mp c)]
  · rw [if_neg c, if_neg (fun z => c (h.mpr z))]
/-- what lies at (x, f) when set s is at its number k of free cells; z = 1: its own ways have gone on without a tower -/
def fV (D : Nat → Nat → Nat) (c s k z m x f : Nat) : Nat :=
  (if x < s ∨ (x = s ∧ f + z ≤ k) then D x f else 0)
  + (if fa_n c x ≤ f ∧ (s < x ∨ (s = x ∧ k + 1 ≤ f - fa_n c x + z)) then D x (f - fa_n c x) else 0)
  + fb_sm (fun j => if x.testBit j = true ∧ c.testBit j = true ∧ fa_j c (x - 2 ^ j) j ≤ f ∧ (s < x - 2 ^ j ∨ (s = x - 2 ^ j ∧ (k < f - fa_j c (x - 2 ^ j) j ∨ (k = f - fa_j c (x - 2 ^ j) j ∧ j < m)))) then D (x - 2 ^ j) (f - fa_j c (x - 2 ^ j) j) else 0) 6
theorem fV_self {D : Nat → Nat → Nat} {c s k m : Nat} (hs : s < 64) : fV D c s k 0 m s k = D s k := by
  unfold fV
  rw [if_pos (Or.inr ⟨rfl, Nat.le_refl _⟩), if_neg (by omega), fb_sm_0]
  · rfl
  · intro j hj
    refine if_neg (fun z => ?_)
    have p2 : 0 < 2 ^ j := Nat.two_pow_pos j
    have := (qb_sub s hs j hj z.1).1
    omega
/-- the set's own ways go on without a tower -/
theorem fV_own {D : Nat → Nat → Nat} {c s k x f : Nat} : fV D c s k 1 0 x f + (if x = s ∧ f = k then D s k else 0) = fV D c s k 0 0 x f + (if x = s ∧ f = k + fa_n c s then D s k else 0) := by
  unfold fV
  generalize fb_sm _ 6 = S
  by_cases xs : x = s
  · subst xs
    rw [ifc (show (x < x ∨ (x = x ∧ f + 1 ≤ k)) ↔ f < k by omega), ifc (show (x < x ∨ (x = x ∧ f + 0 ≤ k)) ↔ f ≤ k by omega), ifc (show (fa_n c x ≤ f ∧ (x < x ∨ (x = x ∧ k + 1 ≤ f - fa_n c x + 1))) ↔ (k + fa_n c x ≤ f) by omega), ifc (show (fa_n c x ≤ f ∧ (x < x ∨ (x = x ∧ k + 1 ≤ f - fa_n c x + 0))) ↔ (k + fa_n c x < f) by omega), ifc (show (x = x ∧ f = k) ↔ f = k by omega), ifc (show (x = x ∧ f = k + fa_n c x) ↔ f = k + fa_n c x by omega)]
    generalize fa_n c x = A
    have p1 : (if f < k then D x f else 0) + (if f = k then D x k else 0) = (if f ≤ k then D x f else 0) := by
      by_cases c1 : f = k
      · subst c1
        rw [if_neg (by omega), if_pos rfl, if_pos (by omega), Nat.zero_add]
      · rw [if_neg c1, Nat.add_zero]
        exact ifc (by omega) _ _
    have p2 : (if k + A ≤ f then D x (f - A) else 0) = (if k + A < f then D x (f - A) else 0) + (if f = k + A then D x k else 0) := by
      by_cases c1 : f = k + A
      · subst c1
        rw [if_pos (by omega), if_neg (by omega), if_pos rfl, Nat.zero_add, show k + A - A = k by omega]
      · rw [if_neg c1, Nat.add_zero]
        exact ifc (by omega) _ _
    omega
  · rw [ifc (show (x < s ∨ (x = s ∧ f + 1 ≤ k)) ↔ (x < s ∨ (x = s ∧ f + 0 ≤ k)) by omega), ifc (show (fa_n c x ≤ f ∧ (s < x ∨ (s = x ∧ k + 1 ≤ f - fa_n c x + 1))) ↔ (fa_n c x ≤ f ∧ (s < x ∨ (s = x ∧ k + 1 ≤ f - fa_n c x + 0))) by omega), if_neg (show ¬ (x = s ∧ f = k) from fun z => xs z.1), if_neg (show ¬ (x = s ∧ f = k + fa_n c s) from fun z => xs z.1)]
theorem fV_col {D : Nat → Nat → Nat} {c s k m x f : Nat} (hs : s < 64) (hx : x < 64) (hm : m < 6) : fV D c s k 1 (m + 1) x f = fV D c s k 1 m x f + (if x = s ||| 2 ^ m ∧ c.testBit m = true ∧ s.testBit m = false ∧ f = k + fa_j c s m then D s k else 0) := by
  unfold fV
  rw [Nat.add_assoc _ (fb_sm _ 6)]
  congr 1
  refine fb_sm_one hm (fun j hj hjk => ?_) ?_
  · refine ifc ?_ _ _
    have : (s < x - 2 ^ j ∨ (s = x - 2 ^ j ∧ (k < f - fa_j c (x - 2 ^ j) j ∨ (k = f - fa_j c (x - 2 ^ j) j ∧ j < m + 1)))) ↔ (s < x - 2 ^ j ∨ (s = x - 2 ^ j ∧ (k < f - fa_j c (x - 2 ^ j) j ∨ (k = f - fa_j c (x - 2 ^ j) j ∧ j < m)))) := by omega
    rw [this]
  · by_cases c1 : x = s ||| 2 ^ m ∧ c.testBit m = true ∧ s.testBit m = false ∧ f = k + fa_j c s m
    · obtain ⟨q1, q2⟩ := qb_or s hs m hm c1.2.2.1
      have x1 : x = s + 2 ^ m := c1.1.trans q1
      have x2 : x - 2 ^ m = s := by omega
      have f1 := c1.2.2.2
      have x3 : x.testBit m = true := by rw [x1]; exact q2
      rw [if_pos c1, x2, if_pos ⟨x3, c1.2.1, by omega, Or.inr ⟨rfl, Or.inr ⟨by omega, by omega⟩⟩⟩, if_neg (fun z => by have := z.2.2; omega), show f - fa_j c s m = k by omega, Nat.zero_add]
    · rw [if_neg c1, Nat.add_zero]
      by_cases c2 : x.testBit m = true ∧ c.testBit m = true
      · obtain ⟨p1, p2⟩ := qb_sub x hx m hm c2.1
        have ne : ¬ (s = x - 2 ^ m ∧ f = k + fa_j c s m) := fun e => c1 (by
          have h3 : s.testBit m = false := by rw [e.1]; exact p2
          exact ⟨by rw [(qb_or s hs m hm h3).1]; omega, c2.2, h3, e.2⟩)
        have : (fa_j c (x - 2 ^ m) m ≤ f ∧ (s < x - 2 ^ m ∨ (s = x - 2 ^ m ∧ (k < f - fa_j c (x - 2 ^ m) m ∨ (k = f - fa_j c (x - 2 ^ m) m ∧ m < m + 1))))) ↔ (fa_j c (x - 2 ^ m) m ≤ f ∧ (s < x - 2 ^ m ∨ (s = x - 2 ^ m ∧ (k < f - fa_j c (x - 2 ^ m) m ∨ (k = f - fa_j c (x - 2 ^ m) m ∧ m < m))))) := by
          by_cases e : s = x - 2 ^ m
          · rw [← e]
            have : ¬ f = k + fa_j c s m := fun z => ne ⟨e, z⟩
            omega
          · omega
        refine ifc ?_ _ _
        rw [this]
      · rw [if_neg (fun z => c2 ⟨z.1, z.2.1⟩), if_neg (fun z => c2 ⟨z.1, z.2.1⟩)]
theorem fV_next {D : Nat → Nat → Nat} {c s k x f : Nat} : fV D c s (k + 1) 1 6 x f = fV D c s k 0 0 x f := by
  unfold fV
  rw [ifc (show (x < s ∨ (x = s ∧ f + 1 ≤ k + 1)) ↔ (x < s ∨ (x = s ∧ f + 0 ≤ k)) by omega), ifc (show (fa_n c x ≤ f ∧ (s < x ∨ (s = x ∧ k + 1 + 1 ≤ f - fa_n c x + 1))) ↔ (fa_n c x ≤ f ∧ (s < x ∨ (s = x ∧ k + 1 ≤ f - fa_n c x + 0))) by omega)]
  congr 1
  refine fb_sm_cong (fun j hj => ifc ?_ _ _)
  have : (s < x - 2 ^ j ∨ (s = x - 2 ^ j ∧ (k + 1 < f - fa_j c (x - 2 ^ j) j ∨ (k + 1 = f - fa_j c (x - 2 ^ j) j ∧ j < 6)))) ↔ (s < x - 2 ^ j ∨ (s = x - 2 ^ j ∧ (k < f - fa_j c (x - 2 ^ j) j ∨ (k = f - fa_j c (x - 2 ^ j) j ∧ j < 0)))) := by omega
  rw [this]
theorem fV_set {D : Nat → Nat → Nat} {c s x f : Nat} (hf : f < 37) : fV D c (s + 1) 0 1 6 x f = fV D c s 36 0 0 x f := by
  unfold fV
  rw [ifc (show (x < s + 1 ∨ (x = s + 1 ∧ f + 1 ≤ 0)) ↔ (x < s ∨ (x = s ∧ f + 0 ≤ 36)) by omega), ifc (show (fa_n c x ≤ f ∧ (s + 1 < x ∨ (s + 1 = x ∧ 0 + 1 ≤ f - fa_n c x + 1))) ↔ (fa_n c x ≤ f ∧ (s < x ∨ (s = x ∧ 36 + 1 ≤ f - fa_n c x + 0))) by omega)]
  congr 1
  refine fb_sm_cong (fun j hj => ifc ?_ _ _)
  have : (s + 1 < x - 2 ^ j ∨ (s + 1 = x - 2 ^ j ∧ (0 < f - fa_j c (x - 2 ^ j) j ∨ (0 = f - fa_j c (x - 2 ^ j) j ∧ j < 6)))) ↔ (s < x - 2 ^ j ∨ (s = x - 2 ^ j ∧ (36 < f - fa_j c (x - 2 ^ j) j ∨ (36 = f - fa_j c (x - 2 ^ j) j ∧ j < 0)))) := by omega
  rw [this]
theorem fV_top {D : Nat → Nat → Nat} {c x f : Nat} (hx : x < 64) (hf : f < 37) : fV D c 63 36 0 0 x f = D x f := by
  unfold fV
  rw [if_pos (by omega), if_neg (by omega), fb_sm_0]
  · rfl
  · intro j hj
    have p2 : 0 < 2 ^ j := Nat.two_pow_pos j
    exact if_neg (fun z => by have := z.2.2; omega)
theorem fV_end {D : Nat → Nat → Nat} {c x f : Nat} : fV D c 0 0 1 6 x f = (if fa_n c x ≤ f then D x (f - fa_n c x) else 0) + fb_sm (fun j => if (x.testBit j && c.testBit j) = true then (if fa_j c (x - 2 ^ j) j ≤ f then D (x - 2 ^ j) (f - fa_j c (x - 2 ^ j) j) else 0) else 0) 6 := by
  unfold fV
  rw [if_neg (by omega), Nat.zero_add, ifc (show (fa_n c x ≤ f ∧ (0 < x ∨ (0 = x ∧ 0 + 1 ≤ f - fa_n c x + 1))) ↔ fa_n c x ≤ f by omega)]
  congr 1
  refine fb_sm_cong (fun j hj => ?_)
  have e3 : (fa_j c (x - 2 ^ j) j ≤ f ∧ (0 < x - 2 ^ j ∨ (0 = x - 2 ^ j ∧ (0 < f - fa_j c (x - 2 ^ j) j ∨ (0 = f - fa_j c (x - 2 ^ j) j ∧ j < 6))))) ↔ (fa_j c (x - 2 ^ j) j ≤ f) := by omega
  rw [ifc (show _ ↔ (x.testBit j = true ∧ c.testBit j = true ∧ fa_j c (x - 2 ^ j) j ≤ f) by rw [e3])]
  by_cases c1 : x.testBit j = true ∧ c.testBit j = true
  · rw [if_pos (show (x.testBit j && c.testBit j) = true by rw [c1.1, c1.2]; rfl)]
    exact ifc ⟨fun z => z.2.2, fun z => ⟨c1.1, c1.2, z⟩⟩ _ _
  · rw [if_neg (fun z => c1 ⟨z.1, z.2.1⟩), if_neg (fun z => c1 (by rw [Bool.and_eq_true] at z; exact z))]
theorem ix_ne {a b c d : Nat} (hb : b < 37) (hd : d < 37) : (a * 37 + b = c * 37 + d) ↔ (a = c ∧ b = d) := by omega
theorem qb_open2 : ∀ c, c < 64 → ∀ s, s < 64 → ∀ k, k < 6 → (nI (c &&& (63 - s)) &&& nI (2 ^ k) = 0 ↔ ¬ (c.testBit k = true ∧ s.testBit k = false)) := by
  intro c hc s hs k hk
  rw [← zb_1shl k (by omega)]
  exact qb_open c hc s hs k hk
theorem fr_in_ok {D : Nat → Nat → Nat} {c s k : Nat} (hc : c < 64) (hs : s < 64) : ∀ m j (w : Nat → Int32), j + m = 6 → (∀ x, x < 64 → ∀ f, f < 37 → w (x * 37 + f) = nI (fV D c s k 1 j x f)) → ∀ x, x < 64 → ∀ f, f < 37 → fr_in (c &&& (63 - s)) s k (nI (D s k)) m j w (x * 37 + f) = nI (fV D c s k 1 6 x f)
  | 0, j, w, e, h, x, hx, f, hf => by
    have e' : j = 6 := by omega
    subst e'
    exact h x hx f hf
  | m + 1, j, w, e, h, x, hx, f, hf => by
    rw [fr_in]
    refine fr_in_ok hc hs m (j + 1) _ (by omega) (fun y hy q hq => ?_) x hx f hf
    rw [fV_col hs hy (show j < 6 by omega), ← nI_add, ← h y hy q hq]
    have ho := qb_open2 c hc s hs j (by omega)
    have z0 : nI 0 = 0 := rfl
    by_cases c1 : c.testBit j = true ∧ s.testBit j = false
    · rw [if_neg (fun z => ho.mp z c1)]
      unfold fr_give
      have e2 : zb_pc (c &&& (63 - s) &&& (2 ^ j - 1)) = fa_j c s j := rfl
      rw [e2]
      by_cases c2 : k + fa_j c s j < 37
      · rw [if_pos c2]
        by_cases c3 : y = s ||| 2 ^ j ∧ q = k + fa_j c s j
        · rw [if_pos ⟨c3.1, c1.1, c1.2, c3.2⟩, c3.1, c3.2, pk_us]
        · rw [if_neg (fun z => c3 ⟨z.1, z.2.2.2⟩), pk_un (fun z => c3 ((ix_ne hq c2).mp z)), z0, Int32.add_zero]
      · rw [if_neg c2, if_neg (fun z => c2 (by have := z.2.2.2; omega)), z0, Int32.add_zero]
    · rw [if_pos (ho.mpr c1), if_neg (fun z => c1 ⟨z.2.1, z.2.2.1⟩), z0, Int32.add_zero]
theorem fr_add_okD {D : Nat → Nat → Nat} {c s k : Nat} (hc : c < 64) (hs : s < 64) (hk : k < 37) (hD : D s k < 2 ^ 31) (w : Nat → Int32) (h : ∀ x, x < 64 → ∀ f, f < 37 → w (x * 37 + f) = nI (fV D c s k 0 0 x f)) : ∀ x, x < 64 → ∀ f, f < 37 → fr_add (c &&& (63 - s)) s k w (x * 37 + f) = nI (fV D c s k 1 6 x f) := by
  have hw : w (s * 37 + k) = nI (D s k) := by rw [h s hs k hk, fV_self hs]
  intro x hx f hf
  unfold fr_add
  rw [hw]
  by_cases d0 : D s k = 0
  · rw [d0, if_pos (show nI 0 = 0 from rfl), h x hx f hf]
    congr 1
    have h1 := fV_own (D := D) (c := c) (s := s) (k := k) (x := x) (f := f)
    rw [d0, ite_self, ite_self, Nat.add_zero, Nat.add_zero] at h1
    have h2 : ∀ m, m ≤ 6 → fV D c s k 1 m x f = fV D c s k 1 0 x f := fun m => by
      induction m with
      | zero => intro _; rfl
      | succ m ih =>
        intro hm
        rw [fV_col hs hx (show m < 6 by omega), d0, ite_self, Nat.add_zero]
        exact ih (by omega)
    rw [h2 6 (by omega), h1]
  · rw [if_neg (nI_ne0 (by omega) hD)]
    refine fr_in_ok hc hs 6 0 _ (by omega) (fun y hy q hq => ?_) x hx f hf
    have h1 := fV_own (D := D) (c := c) (s := s) (k := k) (x := y) (f := q)
    have z0 : nI 0 = 0 := rfl
    have e2 : zb_pc (c &&& (63 - s)) = fa_n c s := rfl
    rw [e2]
    have hz : upd w (s * 37 + k) 0 (y * 37 + q) = nI (fV D c s k 0 0 y q - (if y = s ∧ q = k then D s k else 0)) := by
      by_cases c1 : y = s ∧ q = k
      · rw [c1.1, c1.2, pk_us, if_pos ⟨rfl, rfl⟩, fV_self hs, Nat.sub_self]
        rfl
      · rw [pk_un (fun z => c1 ((ix_ne hq hk).mp z)), if_neg c1, Nat.sub_zero]
        exact h y hy q hq
    have hle : (if y = s ∧ q = k then D s k else 0) ≤ fV D c s k 0 0 y q := by
      by_cases c1 : y = s ∧ q = k
      · rw [if_pos c1, c1.1, c1.2, fV_self hs]
        exact Nat.le_refl _
      · rw [if_neg c1]; exact Nat.zero_le _
    have h3 : fV D c s k 1 0 y q = (fV D c s k 0 0 y q - (if y = s ∧ q = k then D s k else 0)) + (if y = s ∧ q = k + fa_n c s then D s k else 0) := by omega
    rw [h3, ← nI_add, ← hz]
    unfold fr_give
    by_cases c2 : k + fa_n c s < 37
    · rw [if_pos c2]
      by_cases c3 : y = s ∧ q = k + fa_n c s
      · rw [if_pos c3, c3.1, c3.2, pk_us]
      · rw [if_neg c3, pk_un (fun z => c3 ((ix_ne hq c2).mp z)), z0, Int32.add_zero]
    · rw [if_neg c2, if_neg (fun z => c2 (by have := z.2; omega)), z0, Int32.add_zero]
theorem fr_fl_ok {D : Nat → Nat → Nat} {c s : Nat} (hc : c < 64) (hs : s < 64) (hD : ∀ k, D s k < 2 ^ 31) : ∀ k (w : Nat → Int32), k < 37 → (∀ x, x < 64 → ∀ f, f < 37 → w (x * 37 + f) = nI (fV D c s k 0 0 x f)) → ∀ x, x < 64 → ∀ f, f < 37 → fr_fl c s (k + 1) w (x * 37 + f) = nI (fV D c s 0 1 6 x f)
  | 0, w, hk, h, x, hx, f, hf => by
    rw [fr_fl, fr_fl]
    exact fr_add_okD hc hs hk (hD 0) w h x hx f hf
  | k + 1, w, hk, h, x, hx, f, hf => by
    rw [fr_fl]
    refine fr_fl_ok hc hs hD k _ (by omega) (fun y hy q hq => ?_) x hx f hf
    rw [← fV_next]
    exact fr_add_okD hc hs hk (hD _) w h y hy q hq
theorem fr_sets_ok {D : Nat → Nat → Nat} {c : Nat} (hc : c < 64) (hD : ∀ s k, D s k < 2 ^ 31) : ∀ s (w : Nat → Int32), s < 64 → (∀ x, x < 64 → ∀ f, f < 37 → w (x * 37 + f) = nI (fV D c s 36 0 0 x f)) → ∀ x, x < 64 → ∀ f, f < 37 → fr_sets c (s + 1) w (x * 37 + f) = nI (fV D c 0 0 1 6 x f)
  | 0, w, hs, h, x, hx, f, hf => by
    rw [fr_sets, fr_sets]
    exact fr_fl_ok hc hs (hD 0) 36 w (by omega) h x hx f hf
  | s + 1, w, hs, h, x, hx, f, hf => by
    rw [fr_sets]
    refine fr_sets_ok hc hD s _ (by omega) (fun y hy q hq => ?_) x hx f hf
    rw [← fV_set hq]
    exact fr_fl_ok hc hs (hD _) 36 w (by omega) h y hy q hq
theorem dD_le (c : Nat → Nat) : ∀ i s f, dD c i s f ≤ 7 ^ i
  | 0, s, f => by
    unfold dD
    split <;> decide
  | i + 1, s, f => by
    have h1 : (if fa_n (c i) s ≤ f then dD c i s (f - fa_n (c i) s) else 0) ≤ 7 ^ i := by
      split
      · exact dD_le c i _ _
      · exact Nat.zero_le _
    have h2 : fb_sm (fun j => if (s.testBit j && (c i).testBit j) = true then (if fa_j (c i) (s - 2 ^ j) j ≤ f then dD c i (s - 2 ^ j) (f - fa_j (c i) (s - 2 ^ j) j) else 0) else 0) 6 ≤ 6 * 7 ^ i := fb_sm_bound (fun j _ => by
      show (if (s.testBit j && (c i).testBit j) = true then (if fa_j (c i) (s - 2 ^ j) j ≤ f then dD c i (s - 2 ^ j) (f - fa_j (c i) (s - 2 ^ j) j) else 0) else 0) ≤ 7 ^ i
      split
      · split
        · exact dD_le c i _ _
        · exact Nat.zero_le _
      · exact Nat.zero_le _)
    rw [dD, Nat.pow_succ]
    omega
theorem fr_rows_ok {c : Nat → Nat} {h : Nat} (hh : h ≤ 6) (hc : ∀ i, i < h → c i < 64) : ∀ m k (w : Nat → Int32), k + m = h → (∀ x, x < 64 → ∀ f, f < 37 → w (x * 37 + f) = nI (dD c k x f)) → ∀ x, x < 64 → ∀ f, f < 37 → fr_rows c m k w (x * 37 + f) = nI (dD c h x f)
  | 0, k, w, e, hw, x, hx, f, hf => by
    have e' : k = h := by omega
    subst e'
    exact hw x hx f hf
  | m + 1, k, w, e, hw, x, hx, f, hf => by
    rw [fr_rows]
    refine fr_rows_ok hh hc m (k + 1) _ (by omega) (fun y hy q hq => ?_) x hx f hf
    have := fr_sets_ok (D := dD c k) (hc k (by omega)) (fun s f => by
      have h1 := dD_le c k s f
      have h2 : 7 ^ k ≤ 7 ^ 6 := Nat.pow_le_pow_right (by decide) (by omega)
      omega) 63 w (by omega) (fun x hx f hf => by rw [fV_top hx hf, hw x hx f hf]) y hy q hq
    rw [this, fV_end]
    rfl
theorem fr_N_ok {c : Nat → Nat} {h : Nat} (hh : h ≤ 6) (hc : ∀ i, i < h → c i < 64) : ∀ x, x < 64 → ∀ f, f < 37 → fr_N c h (x * 37 + f) = nI (dD c h x f) := by
  unfold fr_N fr_W
  refine fr_rows_ok hh hc h 0 _ (by omega) (fun y hy q hq => ?_)
  rw [dD]
  by_cases e : y = 0 ∧ q = 0
  · rw [if_pos e, e.1, e.2]
    exact pk_us
  · rw [if_neg e, pk_un (by omega)]
    exact if_pos (by omega)
theorem fr_sum_ok {W : Nat → Int32} {D : Nat → Nat} {f : Nat} (K : Nat) (hK : K < 2 ^ 31) (hW : ∀ s, s < 64 → W (s * 37 + f) = nI (D s)) : ∀ m s (r : Nat), s + m = 64 → r = fb_sm (fun s => if bc s = K then D s else 0) s → fr_sum (nI K) f W m s (nI r) = nI (fb_sm (fun s => if bc s = K then D s else 0) 64)
  | 0, s, r, e, hr => by
    have e' : s = 64 := by omega
    subst e'
    rw [fr_sum, hr]
  | m + 1, s, r, e, hr => by
    have h6 := bc_le6 (s := s) (by omega)
    rw [fr_sum, ← bc_pc s (by omega), hW s (by omega)]
    have ih := fr_sum_ok K hK hW m (s + 1) (r + (if bc s = K then D s else 0)) (by omega) (by rw [fb_sm_succ, hr])
    rw [← ih]
    congr 1
    by_cases c : bc s = K
    · rw [if_pos c, if_pos (by rw [c]), nI_add]
    · rw [if_neg c, if_neg (fun z => c ((nI_eq (by omega) hK).mp z)), Nat.add_zero]
