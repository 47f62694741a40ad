/-! stands with a cell: those of the board without its row and column -/
def un (c : Nat → Nat) (i j : Nat) : Nat → Nat := fun q => if q = i then 0 else c q &&& (63 - 2 ^ j)
theorem un_bit : ∀ c, c < 64 → ∀ j, j < 6 → ∀ t, t < 6 → (c &&& (63 - 2 ^ j)).testBit t = (c.testBit t && !decide (t = j)) := by decide +kernel
theorem fm_if {α β : Type} (q : α → Bool) (g : α → List β) : ∀ l : List α, l.flatMap (fun x => if q x = true then g x else []) = (l.filter q).flatMap g
  | [] => rfl
  | a :: l => by
    rw [List.flatMap_cons, fm_if q g l]
    cases h : q a
    · rw [List.filter_cons_of_neg (by rw [h]; decide)]
      rfl
    · rw [List.filter_cons_of_pos h, List.flatMap_cons]
      rfl
theorem fil_if {α : Type} (p : α → Bool) (b : Bool) (a : α) : (if b = true then [a] else []).filter p = if (b && p a) = true then [a] else [] := by
  cases b <;> cases h : p a <;> simp [h]
theorem bit_or (u j t : Nat) : (u ||| 2 ^ j).testBit t = (u.testBit t || decide (t = j)) := fb_bit_set u j t
theorem pX_wo {c c' w j : Nat} {x : List Nat} (hw : w ≤ 6) (hj : j < 6) (h : ∀ t, t < w → c'.testBit t = (c.testBit t && !decide (t = j))) (hu : (ux x).testBit j = false) : (pX c w x).filter (fun y => !(ux y).testBit j) = pX c' w x := by
  unfold pX
  rw [List.filter_append, List.filter_flatMap]
  congr 1
  · refine fm_cong (fun t ht => ?_)
    have ht' := List.mem_range.mp ht
    rw [fil_if, h t ht', ux_j x (show t ≠ 9 by omega), bit_or, hu]
    by_cases e : t = j
    · subst e
      simp
    · have e' : ¬ j = t := fun z => e z.symm
      simp [e, e']
  · rw [List.filter_cons_of_pos (by rw [ux_9, hu]; rfl), List.filter_nil]
theorem pX_in {c w j : Nat} {x : List Nat} (hw : w ≤ 6) (hu : (ux x).testBit j = true) : (pX c w x).filter (fun y => !(ux y).testBit j) = [] := by
  rw [List.filter_eq_nil_iff]
  intro y hy
  obtain ⟨q, e, hq⟩ := pX_mem hy
  subst e
  rw [ux_app]
  by_cases z : q = 9
  · rw [if_pos z, hu]; decide
  · rw [if_neg z, bit_or, hu]; simp
theorem pE_wo {c : Nat → Nat} {w h i j : Nat} (hw : w ≤ 6) (hj : j < 6) (hi : i < h) (hc : ∀ q, q < h → c q < 64) : ∀ r, r ≤ i → (pE c w r).filter (fun y => !(ux y).testBit j) = pE (un c i j) w r
  | 0, _ => by
    rw [pE, pE, List.filter_cons_of_pos (by rw [show ux [] = 0 from rfl, Nat.zero_testBit]; rfl), List.filter_nil]
  | r + 1, hr => by
    rw [pE, pE, List.filter_flatMap, ← pE_wo hw hj hi hc r (by omega), ← fm_if]
    refine fm_cong (fun x _ => ?_)
    cases hu : (ux x).testBit j
    · rw [if_pos (by decide)]
      refine pX_wo hw hj (fun t ht => ?_) hu
      unfold un
      rw [if_neg (by omega), un_bit _ (hc r (by omega)) j hj t (by omega)]
    · rw [if_neg (by decide)]
      exact pX_in hw hu
theorem rng_one {α : Type} (a : α) (j : Nat) : ∀ w, (List.range w).flatMap (fun t => if t = j then [a] else []) = if j < w then [a] else []
  | 0 => rfl
  | w + 1 => by
    rw [List.range_succ, List.flatMap_append, rng_one a j w, List.flatMap_singleton]
    by_cases e : w = j
    · subst e
      rw [if_neg (Nat.lt_irrefl _), if_pos rfl, if_pos (Nat.lt_succ_self _)]
      rfl
    · rw [if_neg e, List.append_nil]
      by_cases z : j < w
      · rw [if_pos z, if_pos (by omega)]
      · rw [if_neg z, if_neg (by omega)]
theorem pX_at {c w i j : Nat} {x : List Nat} (hw : w ≤ 6) (hj : j < w) (hc : c.testBit j = true) (hl : x.length = i) : (pX c w x).filter (fun y => decide (xf y i = j)) = if (!(ux x).testBit j) = true then [x ++ [j]] else [] := by
  have hx : ∀ v, xf (x ++ [v]) i = v := fun v => by rw [← hl]; exact xf_r x v
  unfold pX
  rw [List.filter_append, List.filter_flatMap, List.filter_cons_of_neg (by rw [hx, decide_eq_true_eq]; omega), List.filter_nil, List.append_nil]
  cases hu : (ux x).testBit j
  · rw [if_pos (by decide)]
    refine (fm_cong (g := fun t => if t = j then [x ++ [j]] else []) (fun t ht => ?_)).trans ((rng_one _ j w).trans (if_pos hj))
    rw [fil_if, hx]
    by_cases e : t = j
    · subst e
      simp [hc, hu]
    · simp [e]
  · rw [if_neg (by decide)]
    refine (fm_cong (g := fun _ => []) (fun t ht => ?_)).trans (by simp)
    rw [fil_if, hx]
    by_cases e : t = j
    · subst e
      simp [hu]
    · simp [e]
theorem pX_0 (w : Nat) (x : List Nat) : pX 0 w x = [x ++ [9]] := by
  unfold pX
  rw [(fm_cong (g := fun _ => []) (fun t _ => by rw [Nat.zero_testBit]; rfl)).trans (show (List.range w).flatMap (fun _ => ([] : List (List Nat))) = [] by simp)]
  rfl
theorem fm_map {α β : Type} (f : α → β) : ∀ l : List α, l.flatMap (fun x => [f x]) = l.map f
  | [] => rfl
  | a :: l => by rw [List.flatMap_cons, fm_map f l]; rfl
theorem pX_keep {c w i j : Nat} {x : List Nat} (hl : i < x.length) : (pX c w x).filter (fun y => decide (xf y i = j)) = if decide (xf x i = j) = true then pX c w x else [] := by
  by_cases e : xf x i = j
  · rw [if_pos (decide_eq_true e), List.filter_eq_self]
    intro y hy
    obtain ⟨q, e2, -⟩ := pX_mem hy
    subst e2
    rw [xf_l hl]
    exact decide_eq_true e
  · rw [if_neg (fun z => e (of_decide_eq_true z)), List.filter_eq_nil_iff]
    intro y hy
    obtain ⟨q, e2, -⟩ := pX_mem hy
    subst e2
    rw [xf_l hl, decide_eq_true_eq]
    exact e
theorem pX_set {c c' w i j : Nat} {x : List Nat} (hw : w ≤ 6) (h : ∀ t, t < w → c'.testBit t = (c.testBit t && !decide (t = j))) (hl : i < x.length) (hu : ux (x.set i j) = ux x ||| 2 ^ j) : pX c w (x.set i j) = (pX c' w x).map (fun y => y.set i j) := by
  have hs : ∀ v, (x ++ [v]).set i j = x.set i j ++ [v] := fun v => List.set_append_left _ _ hl
  unfold pX
  rw [List.map_append, List.map_flatMap, hu]
  congr 1
  · refine fm_cong (fun t ht => ?_)
    rw [h t (List.mem_range.mp ht), bit_or]
    cases c.testBit t <;> cases (ux x).testBit t <;> cases decide (t = j) <;> simp [hs]
  · simp [hs]
theorem pE_un {c : Nat → Nat} {w h i j : Nat} (hw : w ≤ 6) (hj : j < 6) (hi : i < h) (hc : ∀ q, q < h → c q < 64) : ∀ r, r ≤ h → ∀ x, x ∈ pE (un c i j) w r → (ux x).testBit j = false ∧ (i < r → ux (x.set i j) = ux x ||| 2 ^ j ∧ xf x i = 9)
  | 0, _, x, hx => by
    rw [pE, List.mem_singleton] at hx
    subst hx
    exact ⟨Nat.zero_testBit _, fun z => absurd z (Nat.not_lt_zero _)⟩
  | r + 1, hr, x, hx => by
    have hx0 := hx
    rw [pE, List.mem_flatMap] at hx
    obtain ⟨y, hy, hx⟩ := hx
    obtain ⟨i1, i2⟩ := pE_un hw hj hi hc r (by omega) y hy
    obtain ⟨p1, p2, p3⟩ := pE_ok hw r y hy
    obtain ⟨t, e, ht⟩ := pX_mem hx
    subst e
    by_cases z : r = i
    · have t9 : t = 9 := by
        rcases ht with ht | ht
        · exact ht
        · have := ht.2.1
          unfold un at this
          rw [if_pos z, Nat.zero_testBit] at this
          cases this
      subst t9
      refine ⟨by rw [ux_9]; exact i1, fun _ => ⟨?_, by rw [← z, ← p1]; exact xf_r y 9⟩⟩
      rw [ux_9, ← z, ← p1, List.set_append_right _ _ (Nat.le_refl _), Nat.sub_self]
      exact ux_j y (by omega)
    · have tb : t = 9 ∨ (t < 6 ∧ t ≠ j) := by
        rcases ht with ht | ht
        · exact Or.inl ht
        · have := ht.2.1
          unfold un at this
          rw [if_neg z, un_bit _ (hc r (by omega)) j hj t (by omega), Bool.and_eq_true] at this
          refine Or.inr ⟨by omega, fun q => ?_⟩
          rw [q] at this
          simp at this
      refine ⟨?_, fun hir => ?_⟩
      · rw [ux_app]
        rcases tb with tb | tb
        · rw [if_pos tb]; exact i1
        · rw [if_neg (by omega), bit_or, i1]
          simp only [Bool.false_or, decide_eq_false_iff_not]
          exact fun q => tb.2 q.symm
      · obtain ⟨j1, j2⟩ := i2 (by omega)
        rw [List.set_append_left _ _ (by omega), xf_l (by omega)]
        refine ⟨?_, j2⟩
        rw [ux_app, ux_app, j1]
        by_cases q : t = 9
        · rw [if_pos q, if_pos q]
        · rw [if_neg q, if_neg q, Nat.or_assoc, Nat.or_assoc, Nat.or_comm (2 ^ j)]
theorem pE_with {c : Nat → Nat} {w h i j : Nat} (hw : w ≤ 6) (hj : j < w) (hi : i < h) (hc : ∀ q, q < h → c q < 64) (hb : (c i).testBit j = true) : ∀ r, i < r → r ≤ h → (pE c w r).filter (fun x => decide (xf x i = j)) = (pE (un c i j) w r).map (fun x => x.set i j)
  | 0, z, _ => absurd z (Nat.not_lt_zero _)
  | r + 1, hr, hh => by
    by_cases z : r = i
    · subst z
      rw [pE, pE, List.filter_flatMap]
      have e1 : un c r j r = 0 := if_pos rfl
      rw [e1, (fm_cong (fun x _ => pX_0 w x)), fm_map, List.map_map]
      rw [fm_cong (fun x hx => pX_at hw hj hb (pE_ok hw r x hx).1), fm_if (fun x => !(ux x).testBit j) (fun x => [x ++ [j]]), pE_wo hw (by omega) hi hc r (Nat.le_refl _), fm_map]
      refine List.map_congr_left (fun x hx => ?_)
      show x ++ [j] = (x ++ [9]).set r j
      rw [← (pE_ok hw r x hx).1, List.set_append_right _ _ (Nat.le_refl _), Nat.sub_self]
      rfl
    · have ih := pE_with hw hj hi hc hb r (by omega) (by omega)
      rw [pE, pE, List.filter_flatMap, fm_cong (fun x hx => pX_keep (show i < x.length by rw [(pE_ok hw r x hx).1]; omega)), fm_if (fun x => decide (xf x i = j)), ih, List.flatMap_map, List.map_flatMap]
      refine fm_cong (fun x hx => ?_)
      refine pX_set hw (fun t ht => ?_) (by rw [(pE_ok hw r x hx).1]; omega) ((pE_un hw (by omega) hi hc r (by omega) x hx).2 (by omega)).1
      unfold un
      rw [if_neg z, un_bit _ (hc r (by omega)) j (by omega) t (by omega)]
/-- the stands of k + 1 with a cell -/
theorem tE_with {c : Nat → Nat} {w h i j : Nat} (hw : w ≤ 6) (hj : j < w) (hi : i < h) (hc : ∀ q, q < h → c q < 64) (hb : (c i).testBit j = true) (k : Nat) : (tE c w h 0 0 (k + 1)).filter (fun x => decide (xf x i = j)) = (tE (un c i j) w h 0 0 k).map (fun x => x.set i j) := by
  rw [pE_tE hw, pE_tE hw, List.filter_filter, (List.filter_congr (fun x _ => Bool.and_comm _ _)), ← List.filter_filter, pE_with hw hj hi hc hb h hi (Nat.le_refl _), List.filter_map]
  congr 1
  refine List.filter_congr (fun x hx => ?_)
  obtain ⟨u1, u2⟩ := pE_un hw (show j < 6 by omega) hi hc h (Nat.le_refl _) x hx
  show decide (bc (ux (x.set i j)) = k + 1) = decide (bc (ux x) = k)
  rw [(u2 hi).1, bc_or _ (pE_ok hw h x hx).2.1 j (by omega) u1]
  simp
theorem tE_withN {c : Nat → Nat} {w h i j : Nat} (hw : w ≤ 6) (hj : j < w) (hi : i < h) (hc : ∀ q, q < h → c q < 2 ^ w) (hb : (c i).testBit j = true) (k : Nat) : (tE c w h 0 0 (k + 1)).countP (fun x => decide (xf x i = j)) = tN (un c i j) h k := by
  rw [List.countP_eq_length_filter, tE_with hw hj hi (fun q hq => mz_c64 hw (hc q hq)) hb, List.length_map, tN_cnt (w := w) hw (fun q hq => by
    unfold un
    by_cases z : q = i
    · rw [if_pos z]; exact Nat.two_pow_pos w
    · rw [if_neg z]; exact Nat.lt_of_le_of_lt Nat.and_le_left (hc q hq))]
