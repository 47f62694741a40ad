/-! rings: the class's and the model's agree -/
theorem nbq {a b : Nat} : Nat.beq a b = true ↔ a = b := ⟨Nat.eq_of_beq_eq_true, fun h => by subst h; exact Nat.beq_refl a⟩
theorem rFf_eq (x : Nat → Nat) (p : Nat) : ∀ f b t, rFf x p f b t = rF x p f b t
  | 0, b, t => by
    rw [rFf, rF, fn_eq]
    simp only [nbq]
  | f + 1, b, t => by
    rw [rFf, rF, fn_eq]
    simp only [nbq, Bool.or_eq_true, fn_eq, rFf_eq x p f]
theorem rWf_eq (x : Nat → Nat) (n p : Nat) : ∀ s ring t, rWf x n p s ring t = rW x n p s ring t
  | 0, _, _ => rfl
  | s + 1, ring, t => by
    rw [rWf, rW, fn_eq]
    simp only [fn_eq, rWf_eq x n p s, nbq, Nat.ble_eq, Nat.blt_eq]
def Lx (x : Nat → Nat) : Nat → List Nat
  | 0 => []
  | i + 1 => x i :: Lx x i
theorem Lx_mem {x : Nat → Nat} {j : Nat} : ∀ {i}, j ∈ Lx x i → ∃ q, q < i ∧ x q = j
  | 0, h => by cases h
  | i + 1, h => by
    rw [Lx, List.mem_cons] at h
    rcases h with h | h
    · exact ⟨i, by omega, h.symm⟩
    · obtain ⟨q, q1, q2⟩ := Lx_mem h
      exact ⟨q, by omega, q2⟩
theorem Lx_get (x : Nat → Nat) : ∀ i q, q < i → (Lx x i).getD (i - 1 - q) 9 = x q
  | 0, q, h => by omega
  | i + 1, q, h => by
    rw [Lx]
    by_cases e : q = i
    · subst e
      rw [show q + 1 - 1 - q = 0 by omega]
      rfl
    · rw [show i + 1 - 1 - q = (i - 1 - q) + 1 by omega, List.getD_cons_succ]
      exact Lx_get x i q (by omega)
/-- the places of a stand -/
def yb (n : Nat) (x : Nat → Nat) : Nat → Nat := xb n (Lx x n)
theorem yb_eq {n : Nat} {x : Nat → Nat} {q : Nat} (hq : q < n) : yb n x q = x q := Lx_get x n q hq
theorem ck_ok {n : Nat} {P : List Nat → Bool} {x : Nat → Nat} (hv : ∀ q, q < n → x q = 9 ∨ x q < n) (hj : ∀ a, a < n → ∀ c, c < n → x a ≠ 9 → x a = x c → a = c) : ∀ r i, i + r = n → ck n P r (Lx x i) = true → P (Lx x n) = true
  | 0, i, e, h => by
    have e' : i = n := by omega
    subst e'
    exact h
  | r + 1, i, e, h => by
    rw [ck, Bool.and_eq_true, List.all_eq_true] at h
    refine ck_ok hv hj r (i + 1) (by omega) ?_
    rw [Lx]
    by_cases z : x i = 9
    · rw [z]; exact h.2
    · have h2 := h.1 (x i) (List.mem_range.mpr ((hv i (by omega)).resolve_left z))
      rw [Bool.or_eq_true] at h2
      rcases h2 with h2 | h2
      · rw [List.contains_iff_mem] at h2
        obtain ⟨q, q1, q2⟩ := Lx_mem h2
        have := hj i (by omega) q (by omega) z q2.symm
        omega
      · exact h2
theorem rk_ok {n : Nat} {X : List Nat} : ∀ r q dn, q + r = n → dn = rD (xb n X) n q → rk n X r q dn = true → ∀ p, q ≤ p → p < n → rW (xb n X) n p n 0 p = rB (xb n X) n p
  | 0, q, dn, e, _, _, p, h1, h2 => by omega
  | r + 1, q, dn, e, hd, h, p, h1, h2 => by
    rw [rk, fc_eq, Bool.and_eq_true, fc_eq] at h
    rw [rFf_eq, rWf_eq, nbq, hd] at h
    by_cases z : p = q
    · subst z
      exact h.1
    · exact rk_ok r (q + 1) _ (by omega) (by rw [rD]) h.2 p (by omega) h2
theorem ring_eq {n : Nat} (n1 : 1 ≤ n) (n6 : n ≤ 6) {x : Nat → Nat} (hv : ∀ q, q < n → x q = 9 ∨ x q < n) (hj : ∀ a, a < n → ∀ c, c < n → x a ≠ 9 → x a = x c → a = c) {p : Nat} (hp : p < n) : rW (yb n x) n p n 0 p = rB (yb n x) n p := by
  have key : ck n (fun x => rk n x n 0 0) n [] = true := by
    have : n = 1 ∨ n = 2 ∨ n = 3 ∨ n = 4 ∨ n = 5 ∨ n = 6 := by omega
    rcases this with e | e | e | e | e | e
    · subst e; exact ck1
    · subst e; exact ck2
    · subst e; exact ck3
    · subst e; exact ck4
    · subst e; exact ck5
    · subst e; exact ck6
  exact rk_ok n 0 0 (by omega) rfl (ck_ok (P := fun x => rk n x n 0 0) hv hj n 0 (by omega) key) p (by omega) hp
/-- the class's ring -/
theorem zf_ring_ok {p : Nat → Int32} {x : Nat → Nat} {n q : Nat} (hn : n ≤ 6) (hq : q < n) (hx : ∀ i, i < n → (x i = 9 ∧ p i = -9) ∨ (x i < n ∧ p i = nI (x i))) : ∀ s ring t, (t = 9 ∨ t < n) → zf_ring p n (nI q) s (nI ring) (nC t) = nI (rW x n q s ring t)
  | 0, ring, t, _ => rfl
  | s + 1, ring, t, ht => by
    rw [zf_ring, rW]
    by_cases e : t < n
    · have e9 : nC t = nI t := nC_lt (by omega)
      rw [e9, if_pos ⟨nI_le (a := 0) (Nat.zero_le _) (by omega), nI_lt e (by omega)⟩, if_pos e, nI_clamp (by omega)]
      by_cases l : q ≤ t
      · rw [if_pos (nI_le l (by omega)), if_pos l]
        have ho : nI ring ||| ((1 : Int32) <<< (nI t &&& 31)) = nI (ring ||| 2 ^ t) := by
          rw [zb_1shl t (by omega)]
          exact fa_or ring (2 ^ t)
        rw [ho]
        rcases hx t e with z | z
        · rw [z.1, z.2, if_neg (fun y => mz_ne9 q (by omega) y.symm), if_neg (show ¬ 9 = q by omega)]
          have ih := zf_ring_ok hn hq hx s (ring ||| 2 ^ t) 9 (Or.inl rfl)
          rw [nC_9] at ih
          exact ih
        · rw [z.2]
          by_cases y : x t = q
          · rw [if_pos y, if_pos (by rw [y])]
          · rw [if_neg y, if_neg (fun y2 => y ((nI_eq (by omega) (by omega)).mp y2))]
            have ih := zf_ring_ok hn hq hx s (ring ||| 2 ^ t) (x t) (Or.inr z.1)
            rw [nC_lt (by omega)] at ih
            exact ih
      · rw [if_neg (nI_ge (by omega) (by omega)), if_neg l]
        rfl
    · rw [if_neg e]
      have t9 : t = 9 := ht.resolve_right e
      subst t9
      rw [nC_9, if_neg (fun z => absurd z.1 (by decide))]
      rfl
theorem fA_has {x : Nat → Nat} {q : Nat} (h : x q ≠ 9) : ∀ i, q < i → (fA x i).testBit (x q) = true
  | 0, z => absurd z (Nat.not_lt_zero _)
  | i + 1, z => by
    rw [fA]
    by_cases e : q = i
    · subst e
      rw [if_neg h, bit_or]
      simp
    · have ih := fA_has h i (by omega)
      by_cases y : x i = 9
      · rw [if_pos y]; exact ih
      · rw [if_neg y, bit_or, ih]; rfl
/-- a stand shares no column -/
theorem std_inj {x : Nat → Nat} {n : Nat} (h : ∀ i, i < n → x i = 9 ∨ (fA x i).testBit (x i) = false) : ∀ a, a < n → ∀ c, c < n → x a ≠ 9 → x a = x c → a = c := fun a ha c hc h9 e => by
  rcases Nat.lt_trichotomy a c with l | l | l
  · have h1 := fA_has h9 c l
    rcases h c hc with z | z
    · exact absurd (e.trans z) h9
    · rw [← e, h1] at z
      cases z
  · exact l
  · have h1 := fA_has (x := x) (q := c) (by rw [← e]; exact h9) a l
    rcases h a ha with z | z
    · exact absurd z h9
    · rw [e, h1] at z
      cases z
def rgA (x : Nat → Nat) (n : Nat) (c : Int32) : Nat → Nat → Nat → Option Nat
  | 0, _, _ => none
  | m + 1, q, seen => if rB x n q = 0 then rgA x n c m (q + 1) seen else if nI seen = c then some (rB x n q) else rgA x n c m (q + 1) (seen + 1)
def rg_o (r : ss_R) (b : ss_B) (t : ss_T) : Option Nat → ss_A
  | none => (.int (-9), r, b, t)
  | some v => (.int (nI (bc v)), r, b, ss_ask t (nI v))
def op_ringOf (x y c : Int32) (r : ss_R) (b : ss_B) (t : ss_T) : ss_A := op_std x y r b t (fun k l => if ¬ b.2.1 k = b.2.2.1 k then ss_no r b t 3 else rg_o r b t (rgA (yb (b.2.1 k) (xs (r.2 l))) (b.2.1 k) c (b.2.1 k) 0 0))
