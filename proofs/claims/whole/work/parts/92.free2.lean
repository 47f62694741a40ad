/-! free cells: the model's stands -/
theorem fA_cong {x y : Nat → Nat} : ∀ n, (∀ q, q < n → x q = y q) → fA x n = fA y n
  | 0, _ => rfl
  | n + 1, h => by rw [fA, fA, fA_cong n (fun q hq => h q (by omega)), h n (by omega)]
theorem fN_cong {c : Nat → Nat} {w : Nat} {x y : Nat → Nat} : ∀ n, (∀ q, q < n → x q = y q) → fN c w x n = fN c w y n
  | 0, _ => rfl
  | n + 1, h => by rw [fN, fN, fN_cong n (fun q hq => h q (by omega)), fA_cong (n + 1) h, h n (by omega)]
theorem xf_l {x : List Nat} {j q : Nat} (h : q < x.length) : xf (x ++ [j]) q = xf x q := gd_l h
theorem xf_r (x : List Nat) (j : Nat) : xf (x ++ [j]) x.length = j := gd_r x j
theorem fA_ux : ∀ n (x : List Nat), x.length = n → fA (xf x) n = ux x
  | 0, x, h => by
    have : x = [] := List.length_eq_zero_iff.mp h
    subst this
    rfl
  | n + 1, x, h => by
    rcases List.eq_nil_or_concat x with e | ⟨y, j, e⟩
    · subst e
      cases h
    · rw [List.concat_eq_append] at e
      subst e
      have hy : y.length = n := by
        rw [List.length_append] at h
        simpa using h
      have e1 := xf_r y j
      rw [hy] at e1
      rw [fA, e1, fA_cong n (fun q hq => xf_l (by omega)), fA_ux n y hy, ux_app]
theorem fa_n_ok : ∀ c, c < 64 → ∀ u, u < 64 → fa_n c u = fb_ct (fun q => c.testBit q && !u.testBit q) 6 := by decide +kernel
theorem fa_j_ok : ∀ c, c < 64 → ∀ u, u < 64 → ∀ j, j < 6 → fa_j c u j = fb_ct (fun q => c.testBit q && !u.testBit q) j := by decide +kernel
theorem fb_ct_cut {p : Nat → Bool} {w n : Nat} (h : w ≤ n) (h0 : ∀ k, w ≤ k → k < n → p k = false) : fb_ct p n = fb_ct p w := by
  have e : n = w + (n - w) := by omega
  rw [e, fb_ct_split, (fb_ct_zero (n := n - w)).mpr (fun k hk => h0 _ (by omega) (by omega)), Nat.add_zero]
theorem fN_9 {c : Nat → Nat} {w i : Nat} (hw : w ≤ 6) (hc : c i < 2 ^ w) {x : List Nat} (hl : x.length = i) (hu : ux x < 64) : fN c w (xf (x ++ [9])) (i + 1) = fN c w (xf x) i + fa_n (c i) (ux x) := by
  have e1 := xf_r x 9
  rw [hl] at e1
  have e2 : fA (xf (x ++ [9])) (i + 1) = ux x := by rw [fA_ux (i + 1) _ (by rw [List.length_append, hl]; rfl), ux_9]
  rw [fN, e1, e2, fN_cong i (fun q hq => xf_l (by omega)), if_pos rfl, fa_n_ok _ (mz_c64 hw hc) _ hu]
  congr 1
  symm
  refine fb_ct_cut hw (fun q hq _ => ?_)
  have : (c i).testBit q = false := Nat.testBit_lt_two_pow (Nat.lt_of_lt_of_le hc (Nat.pow_le_pow_right (by omega) hq))
  rw [this]
  rfl
theorem fN_j {c : Nat → Nat} {w i j : Nat} (hw : w ≤ 6) (hc : c i < 2 ^ w) (hj : j < 6) {x : List Nat} (hl : x.length = i) (hu : ux x < 64) : fN c w (xf (x ++ [j])) (i + 1) = fN c w (xf x) i + fa_j (c i) (ux x) j := by
  have e1 := xf_r x j
  rw [hl] at e1
  have e2 : fA (xf (x ++ [j])) (i + 1) = ux x ||| 2 ^ j := by rw [fA_ux (i + 1) _ (by rw [List.length_append, hl]; rfl), ux_j x (by omega)]
  rw [fN, e1, e2, fN_cong i (fun q hq => xf_l (by omega)), if_neg (by omega), fa_j_ok _ (mz_c64 hw hc) _ hu j hj]
  congr 1
  refine fb_ct_cong (fun q hq => ?_)
  rw [fb_bit_set, decide_eq_false (by omega), Bool.or_false]
/-- how many ways of one row lead to set s and f free cells -/
theorem pX_cnt2 {c : Nat → Nat} {w i s f : Nat} (hw : w ≤ 6) (hc : c i < 2 ^ w) (hs : s < 64) {x : List Nat} (hl : x.length = i) (hx : ux x < 64) : (pX (c i) w x).countP (fun y => decide (ux y = s ∧ fN c w (xf y) (i + 1) = f)) = (if ux x = s ∧ fN c w (xf x) i + fa_n (c i) s = f then 1 else 0) + fb_sm (fun j => if (s.testBit j && (c i).testBit j) = true then (if ux x = s - 2 ^ j ∧ fN c w (xf x) i + fa_j (c i) (s - 2 ^ j) j = f then 1 else 0) else 0) 6 := by
  unfold pX
  rw [List.countP_append, List.countP_singleton, Nat.add_comm]
  congr 1
  · rw [ux_9, fN_9 hw hc hl hx]
    by_cases e : ux x = s
    · subst e
      by_cases e2 : fN c w (xf x) i + fa_n (c i) (ux x) = f
      · rw [if_pos (decide_eq_true ⟨rfl, e2⟩), if_pos ⟨rfl, e2⟩]
      · rw [if_neg (fun z => e2 (of_decide_eq_true z).2), if_neg (fun z => e2 z.2)]
    · rw [if_neg (fun z => e (of_decide_eq_true z).1), if_neg (fun z => e z.1)]
  · have e1 : ∀ n, n ≤ 6 → ((List.range n).flatMap (fun j => if ((c i).testBit j && !(ux x).testBit j) = true then [x ++ [j]] else [])).countP (fun y => decide (ux y = s ∧ fN c w (xf y) (i + 1) = f)) = fb_sm (fun j => if (s.testBit j && (c i).testBit j) = true then (if ux x = s - 2 ^ j ∧ fN c w (xf x) i + fa_j (c i) (s - 2 ^ j) j = f then 1 else 0) else 0) n := fun n => by
      induction n with
      | zero => intro _; rfl
      | succ n ih =>
        intro hn
        rw [List.range_succ, List.flatMap_append, List.countP_append, ih (by omega), fb_sm_succ, List.flatMap_singleton]
        congr 1
        by_cases e : ((c i).testBit n && !(ux x).testBit n) = true
        · have ub : (ux x).testBit n = false := by
            rw [Bool.and_eq_true] at e
            simpa using e.2
          have cb : (c i).testBit n = true := by
            rw [Bool.and_eq_true] at e
            exact e.1
          obtain ⟨q1, q2⟩ := qb_or (ux x) hx n (by omega) ub
          rw [if_pos e, List.countP_singleton, ux_j x (show n ≠ 9 by omega), q1, fN_j hw hc (show n < 6 by omega) hl hx]
          by_cases z : ux x + 2 ^ n = s
          · have z1 : s.testBit n = true := by rw [← z]; exact q2
            have z2 : s - 2 ^ n = ux x := by omega
            rw [if_pos (show (s.testBit n && (c i).testBit n) = true by rw [z1, cb]; rfl), z2]
            by_cases z3 : fN c w (xf x) i + fa_j (c i) (ux x) n = f
            · rw [if_pos (decide_eq_true ⟨z, z3⟩), if_pos ⟨rfl, z3⟩]
            · rw [if_neg (fun y => z3 (of_decide_eq_true y).2), if_neg (fun y => z3 y.2)]
          · rw [if_neg (fun y => z (of_decide_eq_true y).1)]
            by_cases z1 : s.testBit n = true
            · have := (qb_sub s hs n (by omega) z1).1
              rw [if_pos (show (s.testBit n && (c i).testBit n) = true by rw [z1, cb]; rfl), if_neg (fun y => by have := y.1; omega)]
            · rw [if_neg (by simp [z1])]
        · rw [if_neg e]
          by_cases z1 : (s.testBit n && (c i).testBit n) = true
          · rw [if_pos z1]
            rw [Bool.and_eq_true] at z1
            have z2 : (ux x).testBit n = true := by
              cases h : (ux x).testBit n with
              | true => rfl
              | false => exact absurd (by rw [z1.2, h]; rfl) e
            have := (qb_sub s hs n (by omega) z1.1).2
            rw [if_neg (fun z => by rw [z.1, this] at z2; cases z2)]
            rfl
          · rw [if_neg z1]; rfl
    rw [e1 w hw]
    symm
    refine fb_sm_cut hw (fun j hj _ => ?_)
    have : (c i).testBit j = false := Nat.testBit_lt_two_pow (Nat.lt_of_lt_of_le hc (Nat.pow_le_pow_right (by omega) hj))
    rw [this, Bool.and_false]
    exact if_neg (by decide)
theorem cnt_shift (l : List (List Nat)) (s a f : Nat) (F : List Nat → Nat) : l.countP (fun y => decide (ux y = s ∧ F y + a = f)) = if a ≤ f then l.countP (fun y => decide (ux y = s ∧ F y = f - a)) else 0 := by
  by_cases e : a ≤ f
  · rw [if_pos e]
    refine List.countP_congr (fun y _ => ?_)
    rw [decide_eq_true_eq, decide_eq_true_eq]
    omega
  · rw [if_neg e]
    rw [List.countP_eq_zero]
    intro y _
    rw [decide_eq_true_eq]
    omega
theorem dD_cnt {c : Nat → Nat} {w h : Nat} (hw : w ≤ 6) (hc : ∀ i, i < h → c i < 2 ^ w) : ∀ i, i ≤ h → ∀ s, s < 64 → ∀ f, dD c i s f = (pE c w i).countP (fun y => decide (ux y = s ∧ fN c w (xf y) i = f))
  | 0, _, s, _, f => by
    have h0 : ux [] = 0 := rfl
    have h1 : fN c w (xf []) 0 = 0 := rfl
    rw [dD, pE, List.countP_singleton, h0, h1]
    by_cases e : s = 0 ∧ f = 0
    · rw [if_pos e, if_pos (decide_eq_true ⟨e.1.symm, e.2.symm⟩)]
    · rw [if_neg e, if_neg (fun z => e ⟨(of_decide_eq_true z).1.symm, (of_decide_eq_true z).2.symm⟩)]
  | i + 1, hi, s, hs, f => by
    have ih := dD_cnt hw hc i (by omega)
    have key : ∀ l : List (List Nat), (∀ x, x ∈ l → x.length = i ∧ ux x < 64) → (l.flatMap (pX (c i) w)).countP (fun y => decide (ux y = s ∧ fN c w (xf y) (i + 1) = f)) = l.countP (fun y => decide (ux y = s ∧ fN c w (xf y) i + fa_n (c i) s = f)) + fb_sm (fun j => if (s.testBit j && (c i).testBit j) = true then l.countP (fun y => decide (ux y = s - 2 ^ j ∧ fN c w (xf y) i + fa_j (c i) (s - 2 ^ j) j = f)) else 0) 6 := fun l => by
      induction l with
      | nil =>
        intro _
        symm
        rw [List.countP_nil, Nat.zero_add]
        refine fb_sm_0 (fun j _ => ?_)
        simp
      | cons x l ihl =>
        intro hl
        rw [List.flatMap_cons, List.countP_append, pX_cnt2 hw (hc i (by omega)) hs (hl x List.mem_cons_self).1 (hl x List.mem_cons_self).2, ihl (fun y hy => hl y (List.mem_cons_of_mem _ hy)), List.countP_cons]
        have : fb_sm (fun j => if (s.testBit j && (c i).testBit j) = true then (x :: l).countP (fun y => decide (ux y = s - 2 ^ j ∧ fN c w (xf y) i + fa_j (c i) (s - 2 ^ j) j = f)) else 0) 6 = fb_sm (fun j => if (s.testBit j && (c i).testBit j) = true then l.countP (fun y => decide (ux y = s - 2 ^ j ∧ fN c w (xf y) i + fa_j (c i) (s - 2 ^ j) j = f)) else 0) 6 + fb_sm (fun j => if (s.testBit j && (c i).testBit j) = true then (if ux x = s - 2 ^ j ∧ fN c w (xf x) i + fa_j (c i) (s - 2 ^ j) j = f then 1 else 0) else 0) 6 := by
          rw [← fb_sm_add]
          refine fb_sm_cong (fun j _ => ?_)
          by_cases e : (s.testBit j && (c i).testBit j) = true
          · simp only [e, ↓reduceIte, List.countP_cons, decide_eq_true_eq]
          · simp only [e, ↓reduceIte, Bool.false_eq_true]
        rw [this]
        simp only [decide_eq_true_eq]
        omega
    rw [dD, pE, key _ (fun x hx => ⟨(pE_ok hw i x hx).1, (pE_ok hw i x hx).2.1⟩), cnt_shift _ _ _ _ (fun y => fN c w (xf y) i), ← ih s hs]
    congr 1
    refine fb_sm_cong (fun j hj => ?_)
    by_cases e : (s.testBit j && (c i).testBit j) = true
    · rw [if_pos e, if_pos e, cnt_shift _ _ _ _ (fun y => fN c w (xf y) i), ← ih _ (Nat.lt_of_le_of_lt (Nat.sub_le _ _) hs)]
    · rw [if_neg e, if_neg e]
/-- a number of stands by sets, of those that are as Q says -/
theorem cnt_sets (Q : List Nat → Prop) [DecidablePred Q] (k : Nat) : ∀ l : List (List Nat), (∀ x, x ∈ l → ux x < 64) → fb_sm (fun s => if bc s = k then l.countP (fun y => decide (ux y = s ∧ Q y)) else 0) 64 = (l.filter (fun x => decide (bc (ux x) = k))).countP (fun x => decide (Q x)) := fun l => by
  induction l with
  | nil =>
    intro _
    refine fb_sm_0 (fun s _ => ?_)
    simp
  | cons x l ih =>
    intro hl
    have hxx := hl x List.mem_cons_self
    have ih' := ih (fun y hy => hl y (List.mem_cons_of_mem _ hy))
    have hsum := sum_ind k x 64
    simp only [hxx, true_and] at hsum
    by_cases q : Q x
    · have e1 : fb_sm (fun s => if bc s = k then (x :: l).countP (fun y => decide (ux y = s ∧ Q y)) else 0) 64 = fb_sm (fun s => if bc s = k then l.countP (fun y => decide (ux y = s ∧ Q y)) else 0) 64 + fb_sm (fun s => if bc s = k then (if ux x = s then 1 else 0) else 0) 64 := by
        rw [← fb_sm_add]
        refine fb_sm_cong (fun s _ => ?_)
        by_cases e : bc s = k
        · simp only [e, ↓reduceIte, List.countP_cons, decide_eq_true_eq, q, and_true]
        · simp only [e, ↓reduceIte]
      rw [e1, hsum, ih', List.filter_cons]
      by_cases e : bc (ux x) = k
      · rw [if_pos e, if_pos (decide_eq_true e), List.countP_cons, if_pos (decide_eq_true q)]
      · rw [if_neg e, if_neg (fun z => e (of_decide_eq_true z)), Nat.add_zero]
    · have e1 : fb_sm (fun s => if bc s = k then (x :: l).countP (fun y => decide (ux y = s ∧ Q y)) else 0) 64 = fb_sm (fun s => if bc s = k then l.countP (fun y => decide (ux y = s ∧ Q y)) else 0) 64 := by
        refine fb_sm_cong (fun s _ => ?_)
        by_cases e : bc s = k
        · simp only [e, ↓reduceIte, List.countP_cons, decide_eq_true_eq, q, and_false, Nat.add_zero]
        · simp only [e, ↓reduceIte]
      rw [e1, ih', List.filter_cons]
      by_cases e : bc (ux x) = k
      · rw [if_pos (decide_eq_true e), List.countP_cons, if_neg (fun z => q (of_decide_eq_true z)), Nat.add_zero]
      · rw [if_neg (fun z => e (of_decide_eq_true z))]
theorem fr_eq {c : Nat → Nat} {w h K f : Nat} (hh : h ≤ 6) (hw : w ≤ 6) (hK : K ≤ 36) (hf : f < 37) (hc : ∀ i, i < h → c i < 2 ^ w) : fr_sum (nI K) f (fr_N c h) 64 0 0 = nI ((tE c w h 0 0 K).countP (fun x => decide (fN c w (xf x) h = f))) := by
  have e1 := fr_sum_ok (W := fr_N c h) (D := fun s => dD c h s f) (f := f) K (by omega) (fun s hs => fr_N_ok hh (fun i hi => mz_c64 hw (hc i hi)) s hs f hf) 64 0 0 (by omega) rfl
  rw [show nI 0 = 0 from rfl] at e1
  rw [e1, pE_tE hw, ← cnt_sets (fun x => fN c w (xf x) h = f) K _ (fun x hx => (pE_ok hw h x hx).2.1)]
  congr 1
  refine fb_sm_cong (fun s hs => ?_)
  by_cases e : bc s = K
  · rw [if_pos e, if_pos e, dD_cnt hw hc h (Nat.le_refl _) s hs f]
  · rw [if_neg e, if_neg e]
theorem tE_len_lt {c : Nat → Nat} {w h : Nat} (hw : w ≤ 6) (hh : h ≤ 6) (K : Nat) (P : List Nat → Bool) : (tE c w h 0 0 K).countP P < 2 ^ 20 := by
  have h1 := List.countP_le_length (p := P) (l := tE c w h 0 0 K)
  rw [tE_len] at h1
  have := tO_lt c hw hh 0 0 K
  omega
