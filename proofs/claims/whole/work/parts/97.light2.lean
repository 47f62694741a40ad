/-! least sums: the model's stands -/
def wZ (wt : Nat → Nat → Int) (x : Nat → Nat) : Nat → Int
  | 0 => 0
  | i + 1 => wZ wt x i + (if x i = 9 then 0 else wt i (x i))
theorem wZ_cong {wt : Nat → Nat → Int} {x y : Nat → Nat} : ∀ n, (∀ q, q < n → x q = y q) → wZ wt x n = wZ wt y n
  | 0, _ => rfl
  | n + 1, h => by rw [wZ, wZ, wZ_cong n (fun q hq => h q (by omega)), h n (by omega)]
theorem wZ_9 {wt : Nat → Nat → Int} {i : Nat} {x : List Nat} (hl : x.length = i) : wZ wt (xf (x ++ [9])) (i + 1) = wZ wt (xf x) i := by
  have e1 := xf_r x 9
  rw [hl] at e1
  rw [wZ, e1, if_pos rfl, wZ_cong i (fun q hq => xf_l (by omega)), Int.add_zero]
theorem wZ_j {wt : Nat → Nat → Int} {i j : Nat} {x : List Nat} (hj : j < 6) (hl : x.length = i) : wZ wt (xf (x ++ [j])) (i + 1) = wZ wt (xf x) i + wt i j := by
  have e1 := xf_r x j
  rw [hl] at e1
  rw [wZ, e1, if_neg (by omega), wZ_cong i (fun q hq => xf_l (by omega))]
/-- how many ways of one row lead to set s and sum a -/
theorem pX_cntZ {c : Nat → Nat} {wt : Nat → Nat → Int} {w i s : Nat} {a : Int} (hw : w ≤ 6) (hc : c i < 2 ^ w) (hs : s < 64) {x : List Nat} (hl : x.length = i) (hx : ux x < 64) : (pX (c i) w x).countP (fun y => decide (ux y = s ∧ wZ wt (xf y) (i + 1) = a)) = (if ux x = s ∧ wZ wt (xf x) i = a then 1 else 0) + fb_sm (fun j => if (s.testBit j && (c i).testBit j) = true then (if ux x = s - 2 ^ j ∧ wZ wt (xf x) i = a - wt i j then 1 else 0) else 0) 6 := by
  unfold pX
  rw [List.countP_append, List.countP_singleton, Nat.add_comm]
  congr 1
  · rw [ux_9, wZ_9 hl]
    by_cases e : ux x = s ∧ wZ wt (xf x) i = a
    · rw [if_pos (decide_eq_true e), if_pos e]
    · rw [if_neg (fun z => e (of_decide_eq_true z)), if_neg e]
  · have e1 : ∀ n, n ≤ 6 → ((List.range n).flatMap (fun j => if ((c i).testBit j && !(ux x).testBit j) = true then [x ++ [j]] else [])).countP (fun y => decide (ux y = s ∧ wZ wt (xf y) (i + 1) = a)) = fb_sm (fun j => if (s.testBit j && (c i).testBit j) = true then (if ux x = s - 2 ^ j ∧ wZ wt (xf x) i = a - wt i j then 1 else 0) else 0) n := fun n => by
      induction n with
      | zero => intro _; rfl
      | succ n ih =>
        intro hn
        rw [List.range_succ, List.flatMap_append, List.countP_append, ih (by omega), fb_sm_succ, List.flatMap_singleton]
        congr 1
        by_cases e : ((c i).testBit n && !(ux x).testBit n) = true
        · have ub : (ux x).testBit n = false := by
            rw [Bool.and_eq_true] at e
            simpa using e.2
          have cb : (c i).testBit n = true := by
            rw [Bool.and_eq_true] at e
            exact e.1
          obtain ⟨q1, q2⟩ := qb_or (ux x) hx n (by omega) ub
          rw [if_pos e, List.countP_singleton, ux_j x (show n ≠ 9 by omega), q1, wZ_j (show n < 6 by omega) hl]
          by_cases z : ux x + 2 ^ n = s
          · have z1 : s.testBit n = true := by rw [← z]; exact q2
            have z2 : s - 2 ^ n = ux x := by omega
            rw [if_pos (show (s.testBit n && (c i).testBit n) = true by rw [z1, cb]; rfl), z2]
            by_cases z3 : wZ wt (xf x) i + wt i n = a
            · rw [if_pos (decide_eq_true ⟨z, z3⟩), if_pos ⟨rfl, by omega⟩]
            · rw [if_neg (fun y => z3 (of_decide_eq_true y).2), if_neg (fun y => z3 (by omega))]
          · rw [if_neg (fun y => z (of_decide_eq_true y).1)]
            by_cases z1 : s.testBit n = true
            · have := (qb_sub s hs n (by omega) z1).1
              rw [if_pos (show (s.testBit n && (c i).testBit n) = true by rw [z1, cb]; rfl), if_neg (fun y => by have := y.1; omega)]
            · rw [if_neg (by simp [z1])]
        · rw [if_neg e]
          by_cases z1 : (s.testBit n && (c i).testBit n) = true
          · rw [if_pos z1]
            rw [Bool.and_eq_true] at z1
            have z2 : (ux x).testBit n = true := by
              cases h : (ux x).testBit n with
              | true => rfl
              | false => exact absurd (by rw [z1.2, h]; rfl) e
            have := (qb_sub s hs n (by omega) z1.1).2
            rw [if_neg (fun z => by rw [z.1, this] at z2; cases z2)]
            rfl
          · rw [if_neg z1]; rfl
    rw [e1 w hw]
    symm
    refine fb_sm_cut hw (fun j hj _ => ?_)
    have : (c i).testBit j = false := Nat.testBit_lt_two_pow (Nat.lt_of_lt_of_le hc (Nat.pow_le_pow_right (by omega) hj))
    rw [this, Bool.and_false]
    exact if_neg (by decide)
theorem tL_cnt {c : Nat → Nat} {wt : Nat → Nat → Int} {w h : Nat} (hw : w ≤ 6) (hc : ∀ i, i < h → c i < 2 ^ w) : ∀ i, i ≤ h → ∀ s, s < 64 → ∀ a, tL c wt i s a = (pE c w i).countP (fun y => decide (ux y = s ∧ wZ wt (xf y) i = a))
  | 0, _, s, _, a => by
    have h0 : ux [] = 0 := rfl
    have h1 : wZ wt (xf []) 0 = 0 := rfl
    rw [tL, pE, List.countP_singleton, h0, h1]
    by_cases e : s = 0 ∧ a = 0
    · rw [if_pos e, if_pos (decide_eq_true ⟨e.1.symm, e.2.symm⟩)]
    · rw [if_neg e, if_neg (fun z => e ⟨(of_decide_eq_true z).1.symm, (of_decide_eq_true z).2.symm⟩)]
  | i + 1, hi, s, hs, a => by
    have ih := tL_cnt (wt := wt) hw hc i (by omega)
    have key : ∀ l : List (List Nat), (∀ x, x ∈ l → x.length = i ∧ ux x < 64) → (l.flatMap (pX (c i) w)).countP (fun y => decide (ux y = s ∧ wZ wt (xf y) (i + 1) = a)) = l.countP (fun y => decide (ux y = s ∧ wZ wt (xf y) i = a)) + fb_sm (fun j => if (s.testBit j && (c i).testBit j) = true then l.countP (fun y => decide (ux y = s - 2 ^ j ∧ wZ wt (xf y) i = a - wt i j)) else 0) 6 := fun l => by
      induction l with
      | nil =>
        intro _
        symm
        rw [List.countP_nil, Nat.zero_add]
        refine fb_sm_0 (fun j _ => ?_)
        simp
      | cons x l ihl =>
        intro hl
        rw [List.flatMap_cons, List.countP_append, pX_cntZ hw (hc i (by omega)) hs (hl x List.mem_cons_self).1 (hl x List.mem_cons_self).2, ihl (fun y hy => hl y (List.mem_cons_of_mem _ hy)), List.countP_cons]
        have : fb_sm (fun j => if (s.testBit j && (c i).testBit j) = true then (x :: l).countP (fun y => decide (ux y = s - 2 ^ j ∧ wZ wt (xf y) i = a - wt i j)) else 0) 6 = fb_sm (fun j => if (s.testBit j && (c i).testBit j) = true then l.countP (fun y => decide (ux y = s - 2 ^ j ∧ wZ wt (xf y) i = a - wt i j)) else 0) 6 + fb_sm (fun j => if (s.testBit j && (c i).testBit j) = true then (if ux x = s - 2 ^ j ∧ wZ wt (xf x) i = a - wt i j then 1 else 0) else 0) 6 := by
          rw [← fb_sm_add]
          refine fb_sm_cong (fun j _ => ?_)
          by_cases e : (s.testBit j && (c i).testBit j) = true
          · simp only [e, ↓reduceIte, List.countP_cons, decide_eq_true_eq]
          · simp only [e, ↓reduceIte, Bool.false_eq_true]
        rw [this]
        simp only [decide_eq_true_eq]
        omega
    rw [tL, pE, key _ (fun x hx => ⟨(pE_ok hw i x hx).1, (pE_ok hw i x hx).2.1⟩), ← ih s hs]
    congr 1
    refine fb_sm_cong (fun j hj => ?_)
    by_cases e : (s.testBit j && (c i).testBit j) = true
    · rw [if_pos e, if_pos e, ← ih _ (Nat.lt_of_le_of_lt (Nat.sub_le _ _) hs)]
    · rw [if_neg e, if_neg e]
theorem tLK_cnt {c : Nat → Nat} {wt : Nat → Nat → Int} {w h : Nat} (hw : w ≤ 6) (hc : ∀ i, i < h → c i < 2 ^ w) (K : Nat) (a : Int) : tLK c wt h K 64 a = (tE c w h 0 0 K).countP (fun x => decide (wZ wt (xf x) h = a)) := by
  rw [pE_tE hw, ← cnt_sets (fun x => wZ wt (xf x) h = a) K _ (fun x hx => (pE_ok hw h x hx).2.1)]
  unfold tLK
  refine fb_sm_cong (fun s hs => ?_)
  by_cases e : bc s = K
  · rw [if_pos e, if_pos e, tL_cnt hw hc h (Nat.le_refl _) s hs a]
  · rw [if_neg e, if_neg e]
theorem iZ_toI (x : Int32) : iZ x.toInt = x := Int32.ofInt_toInt x
theorem wS_ok (p : Nat → Int32) (w : Nat) (x : Nat → Nat) : ∀ h, wS p w x h = iZ (wZ (fun i j => (p (w * i + j)).toInt) x h)
  | 0 => rfl
  | h + 1 => by
    rw [wS, wZ, ← iZ_add, wS_ok p w x h]
    congr 1
    by_cases e : x h = 9
    · rw [if_pos e, if_pos e]; rfl
    · rw [if_neg e, if_neg e]
      exact (iZ_toI _).symm
/-- what the model holds after stands: F of each sum, G of each sum with the cell, n with the cell -/
def li (F G : Int → Nat) (n : Nat) (a : ls_T) : Prop := (((∀ b, F b = 0) ∧ a.1 = 0 ∧ a.2.2.1 = 1000000) ∨ (∃ m, F m ≠ 0 ∧ (∀ b, F b ≠ 0 → m ≤ b) ∧ a.1 = lN (F m) ∧ a.2.2.1 = iZ m)) ∧ a.2.1 = lN n ∧ (((∀ b, G b = 0) ∧ n = 0) ∨ (∃ m, G m ≠ 0 ∧ (∀ b, G b ≠ 0 → m ≤ b) ∧ n ≠ 0 ∧ a.2.2.2 = iZ m))
theorem lN_ne0 {n : Nat} (h : n ≠ 0) (h2 : n < 2 ^ 31) : ¬ lN n = 0 := fun z => h ((lN_iff h2 (by omega)).mp (z.trans lN_0.symm))
theorem li_step {F G F' G' : Int → Nat} {n : Nat} {a : ls_T} {x : Int} {wi : Bool} (h : li F G n a) (hx : sml x) (x6 : x ≤ 6000) (bF : ∀ b, F b ≠ 0 → sml b) (bG : ∀ b, G b ≠ 0 → sml b) (sF : ∀ b, F b < 2 ^ 30) (sn : n < 2 ^ 30) (hF : ∀ b, F' b = F b + (if b = x then 1 else 0)) (hG : ∀ b, G' b = G b + (if wi = true ∧ b = x then 1 else 0)) : li F' G' (n + (if wi = true then 1 else 0)) (lsk (iZ x) wi a) := by
  obtain ⟨h1, h2, h3⟩ := h
  refine ⟨?_, ?_, ?_⟩
  · refine Or.inr ?_
    dsimp only [lsk]
    rcases h1 with ⟨f0, a0, l0⟩ | ⟨m, m1, m2, m3, m4⟩
    · have lt : iZ x < a.2.2.1 := by
        rw [l0, show (1000000 : Int32) = iZ 1000000 from rfl]
        exact (iZ_lt hx ⟨by omega, by omega⟩).mpr (by omega)
      refine ⟨x, by rw [hF, if_pos rfl]; omega, fun b hb => ?_, ?_, ?_⟩
      · rw [hF, f0] at hb
        by_cases e : b = x
        · omega
        · rw [if_neg e] at hb
          exact absurd rfl hb
      · rw [if_pos (Or.inl a0), hF, f0, if_pos rfl]
        rfl
      · rw [if_pos (Or.inl a0), if_pos ⟨rfl, lt⟩]
    · have sm := bF m m1
      have a0 : ¬ a.1 = 0 := by rw [m3]; exact lN_ne0 m1 (by have := sF m; omega)
      have ab : ∀ b, F' b ≠ 0 → m ≤ b ∨ b = x := fun b hb => by
        rw [hF] at hb
        by_cases e : b = x
        · exact Or.inr e
        · rw [if_neg e] at hb
          exact Or.inl (m2 b hb)
      by_cases l : x < m
      · have lt : iZ x < a.2.2.1 := by rw [m4]; exact (iZ_lt hx sm).mpr l
        have fx : F x = 0 := by
          by_cases z : F x = 0
          · exact z
          · have := m2 x z; omega
        refine ⟨x, by rw [hF, if_pos rfl]; omega, fun b hb => ?_, ?_, ?_⟩
        · rcases ab b hb with z | z <;> omega
        · rw [if_pos (Or.inr lt), hF, fx, if_pos rfl]
          rfl
        · rw [if_pos (Or.inr lt), if_pos ⟨rfl, lt⟩]
      · have lt : ¬ iZ x < a.2.2.1 := by rw [m4]; exact fun z => l ((iZ_lt hx sm).mp z)
        refine ⟨m, by rw [hF]; omega, fun b hb => ?_, ?_, ?_⟩
        · rcases ab b hb with z | z <;> omega
        · rw [if_neg (not_or.mpr ⟨a0, lt⟩), hF, m4]
          by_cases e : m = x
          · rw [if_pos (by rw [e]), if_pos e, m3]
            exact lN_1 _
          · rw [if_neg (fun z => e ((iZ_eq hx sm).mp z).symm), if_neg e]
            exact m3
        · rw [if_neg (fun z => lt z.2)]
          exact m4
  · show a.2.1 + (if wi = true then 1 else 0) = _
    rw [h2]
    cases wi
    · exact Int64.add_zero _
    · exact lN_1 _
  · cases wi
    · have g' : ∀ b, G' b = G b := fun b => by rw [hG, if_neg (fun z => absurd z.1 (by decide)), Nat.add_zero]
      have nn : n + (if false = true then 1 else 0) = n := rfl
      rw [nn]
      dsimp only [lsk]
      rw [if_neg (fun z => absurd z.1 (by decide))]
      rcases h3 with h3 | ⟨m, m1, m2, m3, m4⟩
      · exact Or.inl ⟨fun b => by rw [g', h3.1], h3.2⟩
      · exact Or.inr ⟨m, by rw [g']; exact m1, fun b hb => m2 b (by rw [g'] at hb; exact hb), m3, m4⟩
    · have g' : ∀ b, G' b = G b + (if b = x then 1 else 0) := fun b => by
        rw [hG]
        by_cases e : b = x
        · rw [if_pos ⟨rfl, e⟩, if_pos e]
        · rw [if_neg (fun z => e z.2), if_neg e]
      have nn : n + (if true = true then 1 else 0) = n + 1 := rfl
      rw [nn]
      refine Or.inr ?_
      dsimp only [lsk]
      rcases h3 with h3 | ⟨m, m1, m2, m3, m4⟩
      · refine ⟨x, by rw [g', if_pos rfl]; omega, fun b hb => ?_, by omega, ?_⟩
        · rw [g', h3.1] at hb
          by_cases e : b = x
          · omega
          · rw [if_neg e] at hb
            exact absurd rfl hb
        · rw [if_pos ⟨rfl, Or.inl (by rw [h2, h3.2]; rfl)⟩]
      · have sm := bG m m1
        have n0 : ¬ a.2.1 = 0 := by rw [h2]; exact lN_ne0 m3 (by omega)
        by_cases l : x < m
        · have lt : iZ x < a.2.2.2 := by rw [m4]; exact (iZ_lt hx sm).mpr l
          refine ⟨x, by rw [g', if_pos rfl]; omega, fun b hb => ?_, by omega, by rw [if_pos ⟨rfl, Or.inr lt⟩]⟩
          rw [g'] at hb
          by_cases e : b = x
          · omega
          · rw [if_neg e] at hb
            have := m2 b hb
            omega
        · have lt : ¬ iZ x < a.2.2.2 := by rw [m4]; exact fun z => l ((iZ_lt hx sm).mp z)
          refine ⟨m, by rw [g']; omega, fun b hb => ?_, by omega, by rw [if_neg (fun z => (not_or.mpr ⟨n0, lt⟩) z.2)]; exact m4⟩
          rw [g'] at hb
          by_cases e : b = x
          · omega
          · rw [if_neg e] at hb
            exact m2 b hb
theorem li_fold {T : Type} (σ : T → Int) (τ : T → Int32) (P : T → Bool) : ∀ (l : List T) (F G : Int → Nat) (n : Nat) (a : ls_T), li F G n a → (∀ x, x ∈ l → τ x = iZ (σ x) ∧ sml (σ x) ∧ σ x ≤ 6000) → (∀ b, F b ≠ 0 → sml b) → (∀ b, G b ≠ 0 → sml b) → (∀ b, F b + l.length < 2 ^ 30) → n + l.length < 2 ^ 30 → li (fun b => F b + l.countP (fun x => decide (σ x = b))) (fun b => G b + (l.filter P).countP (fun x => decide (σ x = b))) (n + l.countP P) (l.foldl (fun a x => lsk (τ x) (P x) a) a)
  | [], F, G, n, a, h, _, _, _, _, _ => h
  | y :: l, F, G, n, a, h, hl, bF, bG, sF, sn => by
    obtain ⟨y1, y2, y3⟩ := hl y List.mem_cons_self
    rw [List.length_cons] at sn
    have sF' : ∀ b, F b + (l.length + 1) < 2 ^ 30 := fun b => by have := sF b; rw [List.length_cons] at this; exact this
    have st := li_step (F' := fun b => F b + (if b = σ y then 1 else 0)) (G' := fun b => G b + (if P y = true ∧ b = σ y then 1 else 0)) (wi := P y) h y2 y3 bF bG (fun b => by have := sF' b; omega) (by omega) (fun _ => rfl) (fun _ => rfl)
    rw [← y1] at st
    have ih := li_fold σ τ P l _ _ _ _ st (fun x hx => hl x (List.mem_cons_of_mem _ hx)) (fun b hb => by
      by_cases e : b = σ y
      · rw [e]; exact y2
      · exact bF b (by have hb' : F b + (if b = σ y then 1 else 0) ≠ 0 := hb; rw [if_neg e] at hb'; exact hb')) (fun b hb => by
      by_cases e : b = σ y
      · rw [e]; exact y2
      · exact bG b (by have hb' : G b + (if P y = true ∧ b = σ y then 1 else 0) ≠ 0 := hb; rw [if_neg (fun z => e z.2)] at hb'; exact hb')) (fun b => by
      have := sF' b
      show F b + (if b = σ y then 1 else 0) + l.length < 2 ^ 30
      split <;> omega) (by split <;> omega)
    rw [List.foldl_cons]
    have e1 : (fun b => F b + (y :: l).countP (fun x => decide (σ x = b))) = (fun b => F b + (if b = σ y then 1 else 0) + l.countP (fun x => decide (σ x = b))) := funext (fun b => by
      rw [List.countP_cons]
      have : (decide (σ y = b) = true) ↔ b = σ y := by rw [decide_eq_true_eq]; exact eq_comm
      simp only [this]
      omega)
    have e2 : (fun b => G b + ((y :: l).filter P).countP (fun x => decide (σ x = b))) = (fun b => G b + (if P y = true ∧ b = σ y then 1 else 0) + (l.filter P).countP (fun x => decide (σ x = b))) := funext (fun b => by
      have : (decide (σ y = b) = true) ↔ b = σ y := by rw [decide_eq_true_eq]; exact eq_comm
      cases hp : P y
      · rw [List.filter_cons_of_neg (by rw [hp]; decide), if_neg (fun z => absurd z.1 (by decide)), Nat.add_zero]
      · rw [List.filter_cons_of_pos hp, List.countP_cons]
        simp only [this, true_and]
        omega)
    have e3 : n + (y :: l).countP P = n + (if P y = true then 1 else 0) + l.countP P := by
      rw [List.countP_cons]
      omega
    rw [e1, e2, e3]
    exact ih
