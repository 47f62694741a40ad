/-! stands as lists -/
theorem fb_sm_swap (f : Nat → Nat → Nat) (m : Nat) : ∀ n, fb_sm (fun i => fb_sm (fun j => f i j) m) n = fb_sm (fun j => fb_sm (fun i => f i j) n) m
  | 0 => (fb_sm_0 (fun _ _ => rfl)).symm
  | n + 1 => by
    rw [fb_sm_succ, fb_sm_swap f m n, ← fb_sm_add]
    rfl
theorem fb_sm_mul (c : Nat) (f : Nat → Nat) : ∀ n, fb_sm (fun k => c * f k) n = c * fb_sm f n
  | 0 => rfl
  | n + 1 => by rw [fb_sm_succ, fb_sm_succ, fb_sm_mul c f n, Nat.mul_add]
/-- terms beyond w are none -/
theorem fb_sm_cut {f : Nat → Nat} {w n : Nat} (h : w ≤ n) (h0 : ∀ k, w ≤ k → k < n → f k = 0) : fb_sm f n = fb_sm f w := by
  have e : n = w + (n - w) := by omega
  rw [e, fb_sm_split, fb_sm_0 (n := n - w) (fun k hk => h0 _ (by omega) (by omega)), Nat.add_zero]
def ux (x : List Nat) : Nat := x.foldl (fun u j => if j = 9 then u else u ||| 2 ^ j) 0
theorem ux_app (x : List Nat) (j : Nat) : ux (x ++ [j]) = if j = 9 then ux x else ux x ||| 2 ^ j := by
  unfold ux
  rw [List.foldl_append]
  rfl
theorem ux_j (x : List Nat) {j : Nat} (h : j ≠ 9) : ux (x ++ [j]) = ux x ||| 2 ^ j := by rw [ux_app, if_neg h]
theorem ux_9 (x : List Nat) : ux (x ++ [9]) = ux x := by rw [ux_app, if_pos rfl]
/-- the ways to go on by one row -/
def pX (c w : Nat) (x : List Nat) : List (List Nat) := (List.range w).flatMap (fun j => if (c.testBit j && !(ux x).testBit j) = true then [x ++ [j]] else []) ++ [x ++ [9]]
/-- all stands of the first i rows -/
def pE (c : Nat → Nat) (w : Nat) : Nat → List (List Nat)
  | 0 => [[]]
  | i + 1 => (pE c w i).flatMap (pX (c i) w)
theorem pX_mem {c w : Nat} {x y : List Nat} (h : y ∈ pX c w x) : ∃ j, y = x ++ [j] ∧ (j = 9 ∨ (j < w ∧ c.testBit j = true ∧ (ux x).testBit j = false)) := by
  unfold pX at h
  rw [List.mem_append] at h
  rcases h with h | h
  · rw [List.mem_flatMap] at h
    obtain ⟨j, hj, hy⟩ := h
    by_cases e : (c.testBit j && !(ux x).testBit j) = true
    · rw [if_pos e, List.mem_singleton] at hy
      rw [Bool.and_eq_true] at e
      exact ⟨j, hy, Or.inr ⟨List.mem_range.mp hj, e.1, by simpa using e.2⟩⟩
    · rw [if_neg e] at hy
      cases hy
  · rw [List.mem_singleton] at h
    exact ⟨9, h, Or.inl rfl⟩
/-- what is true of all stands of the first i rows -/
theorem pE_ok {c : Nat → Nat} {w : Nat} (hw : w ≤ 6) : ∀ i x, x ∈ pE c w i → x.length = i ∧ ux x < 64 ∧ tv w x
  | 0, x, h => by
    rw [pE, List.mem_singleton] at h
    subst h
    exact ⟨rfl, by decide, fun q hq => by cases hq⟩
  | i + 1, x, h => by
    rw [pE, List.mem_flatMap] at h
    obtain ⟨y, hy, hx⟩ := h
    obtain ⟨h1, h2, h3⟩ := pE_ok hw i y hy
    obtain ⟨j, e, hj⟩ := pX_mem hx
    subst e
    refine ⟨by rw [List.length_append, h1]; rfl, ?_, tv_app h3 (hj.imp id (fun z => z.1))⟩
    rw [ux_app]
    rcases hj with hj | hj
    · rw [if_pos hj]; exact h2
    · rw [if_neg (by omega)]; exact zb_or_lt h2 (by omega)
theorem bc_or : ∀ u, u < 64 → ∀ j, j < 6 → u.testBit j = false → bc (u ||| 2 ^ j) = bc u + 1 := by decide +kernel
theorem fm_cong {α β : Type} {f g : α → List β} : ∀ {l : List α}, (∀ x, x ∈ l → f x = g x) → l.flatMap f = l.flatMap g
  | [], _ => rfl
  | a :: l, h => by
    rw [List.flatMap_cons, List.flatMap_cons, h a List.mem_cons_self, fm_cong (fun x hx => h x (List.mem_cons_of_mem _ hx))]
/-- the stands of k, row by row from row i on -/
def pF (c : Nat → Nat) (w h k i : Nat) (x : List Nat) : List (List Nat) := if bc (ux x) ≤ k then (tE c w (h - i) i (ux x) (k - bc (ux x))).map (x ++ ·) else []
theorem pF_step {c : Nat → Nat} {w h k i : Nat} (hw : w ≤ 6) (hi : i < h) {x : List Nat} (hx : ux x < 64) : (pX (c i) w x).flatMap (pF c w h k (i + 1)) = pF c w h k i x := by
  unfold pX
  rw [List.flatMap_append, List.flatMap_assoc, List.flatMap_singleton]
  have e1 : h - i = (h - (i + 1)) + 1 := by omega
  by_cases b : bc (ux x) ≤ k
  · have rhs : pF c w h k i x = ((List.range w).flatMap (fun j => if (decide (0 < k - bc (ux x)) && ((c i).testBit j && !(ux x).testBit j)) = true then (tE c w (h - (i + 1)) (i + 1) (ux x ||| 2 ^ j) (k - bc (ux x) - 1)).map (j :: ·) else [])).map (x ++ ·) ++ ((tE c w (h - (i + 1)) (i + 1) (ux x) (k - bc (ux x))).map (9 :: ·)).map (x ++ ·) := by
      unfold pF
      rw [if_pos b, e1, tE, List.map_append]
    rw [rhs]
    congr 1
    · rw [List.map_flatMap]
      refine fm_cong (fun j hj => ?_)
      have hj6 : j < w := List.mem_range.mp hj
      by_cases e : ((c i).testBit j && !(ux x).testBit j) = true
      · have ub : (ux x).testBit j = false := by
          rw [Bool.and_eq_true] at e
          simpa using e.2
        have hb := bc_or (ux x) hx j (by omega) ub
        rw [if_pos e, List.flatMap_singleton]
        unfold pF
        rw [ux_j x (show j ≠ 9 by omega), hb]
        by_cases b2 : bc (ux x) + 1 ≤ k
        · rw [if_pos b2, if_pos (by rw [Bool.and_eq_true]; exact ⟨decide_eq_true (by omega), e⟩), List.map_map, Nat.sub_sub]
          refine List.map_congr_left (fun y _ => ?_)
          show (x ++ [j]) ++ y = x ++ (j :: y)
          rw [List.append_assoc]
          rfl
        · rw [if_neg b2, if_neg (by rw [Bool.and_eq_true]; exact fun z => absurd (of_decide_eq_true z.1) (by omega))]
          rfl
      · rw [if_neg e, if_neg (by rw [Bool.and_eq_true]; exact fun z => e z.2)]
        rfl
    · unfold pF
      rw [ux_9, if_pos b, List.map_map]
      refine List.map_congr_left (fun y _ => ?_)
      show (x ++ [9]) ++ y = x ++ (9 :: y)
      rw [List.append_assoc]
      rfl
  · have rhs : pF c w h k i x = [] := by
      unfold pF
      rw [if_neg b]
    have l1 : pF c w h k (i + 1) (x ++ [9]) = [] := by
      unfold pF
      rw [ux_9, if_neg b]
    rw [rhs, l1, List.append_nil, List.flatMap_eq_nil_iff]
    intro j hj
    have hj6 : j < w := List.mem_range.mp hj
    by_cases e : ((c i).testBit j && !(ux x).testBit j) = true
    · have ub : (ux x).testBit j = false := by
        rw [Bool.and_eq_true] at e
        simpa using e.2
      have hb := bc_or (ux x) hx j (by omega) ub
      rw [if_pos e, List.flatMap_singleton]
      unfold pF
      rw [ux_j x (show j ≠ 9 by omega), hb, if_neg (by omega)]
    · rw [if_neg e]
      rfl
theorem pE_F {c : Nat → Nat} {w h k : Nat} (hw : w ≤ 6) : ∀ i, i ≤ h → (pE c w i).flatMap (pF c w h k i) = tE c w h 0 0 k
  | 0, _ => by
    have h0 : ux [] = 0 := rfl
    have h1 : bc 0 = 0 := by decide
    rw [pE, List.flatMap_singleton]
    unfold pF
    rw [h0, h1, if_pos (Nat.zero_le _), Nat.sub_zero, Nat.sub_zero]
    have : (fun (x : List Nat) => [] ++ x) = id := rfl
    rw [this, List.map_id]
  | i + 1, hi => by
    rw [← pE_F hw i (by omega), pE, List.flatMap_assoc]
    exact fm_cong (fun x hx => pF_step hw (by omega) (pE_ok hw i x hx).2.1)
theorem pE_tE {c : Nat → Nat} {w h k : Nat} (hw : w ≤ 6) : tE c w h 0 0 k = (pE c w h).filter (fun x => decide (bc (ux x) = k)) := by
  rw [← pE_F hw h (Nat.le_refl _)]
  have : ∀ l : List (List Nat), l.flatMap (pF c w h k h) = l.filter (fun x => decide (bc (ux x) = k)) := fun l => by
    induction l with
    | nil => rfl
    | cons x l ih =>
      rw [List.flatMap_cons, ih, List.filter_cons]
      unfold pF
      rw [Nat.sub_self]
      by_cases e : bc (ux x) = k
      · rw [if_pos (by omega), tE, if_pos (by omega), if_pos (decide_eq_true e), List.map_singleton, List.append_nil]
        rfl
      · rw [if_neg (fun z => e (of_decide_eq_true z))]
        by_cases e2 : bc (ux x) ≤ k
        · rw [if_pos e2, tE, if_neg (by omega)]
          rfl
        · rw [if_neg e2]
          rfl
  exact this _
theorem tE_len (c : Nat → Nat) (w : Nat) : ∀ r i u l, (tE c w r i u l).length = tO c w r i u l
  | 0, i, u, l => by
    rw [tE, tO]
    by_cases e : l = 0
    · rw [if_pos e, if_pos e]; rfl
    · rw [if_neg e, if_neg e]; rfl
  | r + 1, i, u, l => by
    rw [tE, tO, List.length_append, List.length_map, tE_len c w r, Nat.add_comm]
    congr 1
    have : ∀ n, ((List.range n).flatMap (fun j => if (decide (0 < l) && ((c i).testBit j && !u.testBit j)) = true then (tE c w r (i + 1) (u ||| 2 ^ j) (l - 1)).map (j :: ·) else [])).length = fb_sm (fun j => if (decide (0 < l) && ((c i).testBit j && !u.testBit j)) = true then tO c w r (i + 1) (u ||| 2 ^ j) (l - 1) else 0) n := fun n => by
      induction n with
      | zero => rfl
      | succ n ih =>
        rw [List.range_succ, List.flatMap_append, List.length_append, ih, fb_sm_succ, List.flatMap_singleton]
        congr 1
        by_cases e : (decide (0 < l) && ((c i).testBit n && !u.testBit n)) = true
        · rw [if_pos e, if_pos e, List.length_map, tE_len c w r]
        · rw [if_neg e, if_neg e]; rfl
    exact this w
/-- how many ways of one row lead to set s -/
theorem pX_cnt {c w s : Nat} (hw : w ≤ 6) (hc : c < 2 ^ w) (hs : s < 64) {x : List Nat} (hx : ux x < 64) : (pX c w x).countP (fun y => decide (ux y = s)) = (if ux x = s then 1 else 0) + fb_sm (fun j => if (s.testBit j && c.testBit j) = true then (if ux x = s - 2 ^ j then 1 else 0) else 0) 6 := by
  unfold pX
  rw [List.countP_append, List.countP_singleton, Nat.add_comm]
  congr 1
  · simp only [ux_app, ↓reduceIte, decide_eq_true_eq]
  · have e1 : ∀ n, n ≤ 6 → ((List.range n).flatMap (fun j => if (c.testBit j && !(ux x).testBit j) = true then [x ++ [j]] else [])).countP (fun y => decide (ux y = s)) = fb_sm (fun j => if (s.testBit j && c.testBit j) = true then (if ux x = s - 2 ^ j then 1 else 0) else 0) n := fun n => by
      induction n with
      | zero => intro _; rfl
      | succ n ih =>
        intro hn
        rw [List.range_succ, List.flatMap_append, List.countP_append, ih (by omega), fb_sm_succ, List.flatMap_singleton]
        congr 1
        by_cases e : (c.testBit n && !(ux x).testBit n) = true
        · have ub : (ux x).testBit n = false := by
            rw [Bool.and_eq_true] at e
            simpa using e.2
          have cb : c.testBit n = true := by
            rw [Bool.and_eq_true] at e
            exact e.1
          obtain ⟨q1, q2⟩ := qb_or (ux x) hx n (by omega) ub
          rw [if_pos e, List.countP_singleton, ux_j x (show n ≠ 9 by omega), q1]
          by_cases z : ux x + 2 ^ n = s
          · have z1 : s.testBit n = true := by rw [← z]; exact q2
            rw [if_pos (decide_eq_true z), if_pos (by rw [z1, cb]; rfl), if_pos (by omega)]
          · rw [if_neg (fun y => z (of_decide_eq_true y))]
            by_cases z1 : s.testBit n = true
            · have := (qb_sub s hs n (by omega) z1).1
              rw [if_pos (by rw [z1, cb]; rfl), if_neg (by omega)]
            · rw [if_neg (by simp [z1])]
        · rw [if_neg e]
          by_cases z1 : (s.testBit n && c.testBit n) = true
          · rw [if_pos z1]
            rw [Bool.and_eq_true] at z1
            have z2 : (ux x).testBit n = true := by
              cases h : (ux x).testBit n with
              | true => rfl
              | false => exact absurd (by rw [z1.2, h]; rfl) e
            have := (qb_sub s hs n (by omega) z1.1).2
            rw [if_neg (fun z => by rw [z, this] at z2; cases z2)]
            rfl
          · rw [if_neg z1]; rfl
    rw [e1 w hw]
    symm
    refine fb_sm_cut hw (fun j hj _ => ?_)
    have : c.testBit j = false := Nat.testBit_lt_two_pow (Nat.lt_of_lt_of_le hc (Nat.pow_le_pow_right (by omega) hj))
    rw [this, Bool.and_false]
    exact if_neg (by decide)
theorem countP_fm {α β : Type} (P : β → Bool) (f : α → List β) : ∀ l : List α, (l.flatMap f).countP P = (l.map (fun x => (f x).countP P)).sum
  | [] => rfl
  | a :: l => by rw [List.flatMap_cons, List.countP_append, countP_fm P f l, List.map_cons, List.sum_cons]
/-- tW counts stands by the columns that they take -/
theorem tW_cnt {c : Nat → Nat} {w h : Nat} (hw : w ≤ 6) (hc : ∀ i, i < h → c i < 2 ^ w) : ∀ i, i ≤ h → ∀ s, s < 64 → tW c i s = (pE c w i).countP (fun y => decide (ux y = s))
  | 0, _, s, _ => by
    have h0 : ux [] = 0 := rfl
    rw [tW, pE, List.countP_singleton, h0]
    by_cases e : s = 0
    · rw [if_pos e, if_pos (decide_eq_true e.symm)]
    · rw [if_neg e, if_neg (fun z => e (of_decide_eq_true z).symm)]
  | i + 1, hi, s, hs => by
    have ih := tW_cnt hw hc i (by omega)
    have key : ∀ l : List (List Nat), (∀ x, x ∈ l → ux x < 64) → (l.flatMap (pX (c i) w)).countP (fun y => decide (ux y = s)) = l.countP (fun y => decide (ux y = s)) + fb_sm (fun j => if (s.testBit j && (c i).testBit j) = true then l.countP (fun y => decide (ux y = s - 2 ^ j)) else 0) 6 := fun l => by
      induction l with
      | nil =>
        intro _
        symm
        rw [List.countP_nil, Nat.zero_add]
        refine fb_sm_0 (fun j _ => ?_)
        simp
      | cons x l ihl =>
        intro hl
        rw [List.flatMap_cons, List.countP_append, pX_cnt hw (hc i (by omega)) hs (hl x List.mem_cons_self), ihl (fun y hy => hl y (List.mem_cons_of_mem _ hy)), List.countP_cons]
        have : fb_sm (fun j => if (s.testBit j && (c i).testBit j) = true then (x :: l).countP (fun y => decide (ux y = s - 2 ^ j)) else 0) 6 = fb_sm (fun j => if (s.testBit j && (c i).testBit j) = true then l.countP (fun y => decide (ux y = s - 2 ^ j)) else 0) 6 + fb_sm (fun j => if (s.testBit j && (c i).testBit j) = true then (if ux x = s - 2 ^ j then 1 else 0) else 0) 6 := by
          rw [← fb_sm_add]
          refine fb_sm_cong (fun j _ => ?_)
          by_cases e : (s.testBit j && (c i).testBit j) = true
          · simp only [e, ↓reduceIte, List.countP_cons, decide_eq_true_eq]
          · simp only [e, ↓reduceIte, Bool.false_eq_true]
        rw [this]
        simp only [decide_eq_true_eq]
        omega
    rw [tW, pE, key _ (fun x hx => (pE_ok hw i x hx).2.1), ih s hs]
    congr 1
    refine fb_sm_cong (fun j hj => ?_)
    by_cases e : (s.testBit j && (c i).testBit j) = true
    · rw [if_pos e, if_pos e, ih (s - 2 ^ j) (Nat.lt_of_le_of_lt (Nat.sub_le _ _) hs)]
    · rw [if_neg e, if_neg e]
theorem sum_ind (k : Nat) (x : List Nat) : ∀ n, fb_sm (fun s => if bc s = k then (if ux x = s then 1 else 0) else 0) n = if ux x < n ∧ bc (ux x) = k then 1 else 0
  | 0 => by rw [if_neg (by omega)]; rfl
  | n + 1 => by
    rw [fb_sm_succ, sum_ind k x n]
    by_cases e : ux x = n
    · rw [if_neg (by omega), Nat.zero_add, e]
      by_cases e2 : bc n = k
      · rw [if_pos e2, if_pos rfl, if_pos ⟨by omega, e2⟩]
      · rw [if_neg e2, if_neg (fun z => e2 z.2)]
    · have : (ux x < n + 1 ∧ bc (ux x) = k) ↔ (ux x < n ∧ bc (ux x) = k) := by omega
      simp only [this, e, ↓reduceIte, ite_self, Nat.add_zero]
theorem tN_cnt {c : Nat → Nat} {w h : Nat} (hw : w ≤ 6) (hc : ∀ i, i < h → c i < 2 ^ w) (k : Nat) : tN c h k = (tE c w h 0 0 k).length := by
  rw [pE_tE hw, ← List.countP_eq_length_filter]
  unfold tN
  have e1 : fb_sm (fun s => if bc s = k then tW c h s else 0) 64 = fb_sm (fun s => if bc s = k then (pE c w h).countP (fun y => decide (ux y = s)) else 0) 64 := fb_sm_cong (fun s hs => by rw [tW_cnt hw hc h (Nat.le_refl _) s hs])
  rw [e1]
  have key : ∀ l : List (List Nat), (∀ x, x ∈ l → ux x < 64) → fb_sm (fun s => if bc s = k then l.countP (fun y => decide (ux y = s)) else 0) 64 = l.countP (fun x => decide (bc (ux x) = k)) := fun l => by
    induction l with
    | nil =>
      intro _
      refine fb_sm_0 (fun s _ => ?_)
      simp
    | cons x l ih =>
      intro hl
      rw [List.countP_cons, ← ih (fun y hy => hl y (List.mem_cons_of_mem _ hy))]
      have := sum_ind k x 64
      have hxx := hl x List.mem_cons_self
      simp only [hxx, true_and] at this
      simp only [decide_eq_true_eq]
      rw [← this, ← fb_sm_add]
      refine fb_sm_cong (fun s _ => ?_)
      by_cases e : bc s = k
      · simp only [e, ↓reduceIte, List.countP_cons, decide_eq_true_eq]
      · simp only [e, ↓reduceIte]
  exact key _ (fun x hx => (pE_ok hw h x hx).2.1)
theorem tN_tO {c : Nat → Nat} {w h : Nat} (hw : w ≤ 6) (hc : ∀ i, i < h → c i < 2 ^ w) (k : Nat) : tN c h k = tO c w h 0 0 k := by rw [tN_cnt hw hc, tE_len]
