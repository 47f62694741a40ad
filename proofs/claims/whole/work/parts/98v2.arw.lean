/-! what the class's sets fall into counts those lists -/
def qE (hc : Nat → Nat → Bool) (sh p c : Nat) (e : e4T) : Bool := okm hc e.1 && (decide (e.2.1 = p) && (decide (e.2.2.1 = c) && decide (sh ≤ e.2.2.2)))
def Wn (hc : Nat → Nat → Bool) (sh s p c : Nat) : Nat := (clk 64 s).countP (qE hc sh p c)
theorem mik_le {sh a b : Nat} : sh ≤ mik a b ↔ sh ≤ a ∧ sh ≤ b := by
  unfold mik
  by_cases h : Nat.ble a b = true
  · rw [if_pos h]
    have := Nat.le_of_ble_eq_true h
    omega
  · rw [if_neg h]
    have : ¬ a ≤ b := fun z => h (Nat.ble_eq_true_of_le z)
    omega
theorem pt_ok : ∀ s, s < 64 → ∀ k, k < 64 → ptb s k = true → 0 < k ∧ k ≤ s ∧ s &&& (63 - k) = s - k ∧ zb_pc (s - k) + 1 ≤ zb_pc s := by decide +kernel
theorem pt_iff : ∀ s, s < 64 → 0 < s → ∀ k, k < 64 → ((nI k &&& (nI s ^^^ (-1)) = 0 ∧ ¬ nI k &&& (nI s &&& (- nI s)) = 0) ↔ ptb s k = true) := by decide +kernel
theorem pc_le6 : ∀ s, s < 64 → zb_pc s ≤ 6 := by decide +kernel
theorem clk_S (f s : Nat) : clk (f + 1) s = if s = 0 then [(0, 0, 0, 7)] else (List.range (s + 1)).flatMap (fun k => if ptb s k = true then (ptk k).flatMap (fun a => (clk f (s - k)).map (fun b => e4m a b)) else []) := by
  rw [clk]
  simp only [nbq]
theorem clk_f : ∀ f f' s, s < 64 → s ≤ f → s ≤ f' → clk f s = clk f' s
  | 0, 0, s, _, _, _ => rfl
  | 0, f' + 1, s, h1, h2, h3 => by
    have e : s = 0 := by omega
    subst e
    rw [clk_S, clk, if_pos rfl]
  | f + 1, 0, s, h1, h2, h3 => by
    have e : s = 0 := by omega
    subst e
    rw [clk_S, clk, if_pos rfl]
  | f + 1, f' + 1, s, h1, h2, h3 => by
    rw [clk_S, clk_S]
    by_cases z : s = 0
    · rw [if_pos z, if_pos z]
    · rw [if_neg z, if_neg z]
      refine fm_cong (fun k hk => ?_)
      by_cases c : ptb s k = true
      · have hk2 := List.mem_range.mp hk
        obtain ⟨a1, a2, a3, a4⟩ := pt_ok s h1 k (by omega) c
        rw [if_pos c, if_pos c, clk_f f f' (s - k) (by omega) (by omega) (by omega)]
      · rw [if_neg c, if_neg c]
theorem clk_g (f : Nat) {s : Nat} (hs : s < 64) (h0 : 0 < s) (hf : s ≤ f) : clk (f + 1) s = (List.range (s + 1)).flatMap (fun k => if ptb s k = true then (ptk k).flatMap (fun a => (clk (f + 1) (s - k)).map (fun b => e4m a b)) else []) := by
  rw [clk_S f s, if_neg (by omega)]
  refine fm_cong (fun k hk => ?_)
  by_cases c : ptb s k = true
  · have hk2 := List.mem_range.mp hk
    obtain ⟨a1, a2, a3, a4⟩ := pt_ok s hs k (by omega) c
    rw [if_pos c, if_pos c, clk_f f (f + 1) (s - k) (by omega) (by omega) (by omega)]
  · rw [if_neg c, if_neg c]
theorem ptk_1 {k : Nat} {a : e4T} (h : a ∈ ptk k) : a.2.1 + a.2.2.1 = 1 := by
  unfold ptk at h
  rw [List.mem_append] at h
  rcases h with h | h
  · obtain ⟨m, _, e⟩ := List.mem_map.mp h
    rw [← e]
    rfl
  · obtain ⟨m, _, e⟩ := List.mem_map.mp h
    rw [← e]
    rfl
theorem clk_le : ∀ f s, s < 64 → ∀ e, e ∈ clk f s → e.2.1 + e.2.2.1 ≤ zb_pc s
  | 0, s, h1, e, he => by
    rw [clk, List.mem_singleton] at he
    rw [he]
    exact Nat.zero_le _
  | f + 1, s, h1, e, he => by
    rw [clk_S] at he
    by_cases z : s = 0
    · rw [if_pos z, List.mem_singleton] at he
      rw [he]
      exact Nat.zero_le _
    · rw [if_neg z, List.mem_flatMap] at he
      obtain ⟨k, hk, he⟩ := he
      have hk2 := List.mem_range.mp hk
      by_cases c : ptb s k = true
      · rw [if_pos c, List.mem_flatMap] at he
        obtain ⟨a1, a2, a3, a4⟩ := pt_ok s h1 k (by omega) c
        obtain ⟨a, ha, he⟩ := he
        obtain ⟨b, hb, e2⟩ := List.mem_map.mp he
        have i1 := clk_le f (s - k) (by omega) b hb
        have i2 := ptk_1 ha
        rw [← e2]
        show (a.2.1 + b.2.1) + (a.2.2.1 + b.2.2.1) ≤ _
        omega
      · rw [if_neg c] at he
        cases he
theorem Wn_big {hc : Nat → Nat → Bool} {sh s p c : Nat} (hs : s < 64) (h : zb_pc s < p + c) : Wn hc sh s p c = 0 := by
  unfold Wn
  refine List.countP_eq_zero.mpr (fun e he => ?_)
  have := clk_le 64 s hs e he
  unfold qE
  intro q
  rw [Bool.and_eq_true, Bool.and_eq_true, Bool.and_eq_true, decide_eq_true_eq, decide_eq_true_eq] at q
  omega
theorem Wn_0 {hc : Nat → Nat → Bool} {sh p c : Nat} (hsh : sh ≤ 7) : Wn hc sh 0 p c = if p = 0 ∧ c = 0 then 1 else 0 := by
  have e : clk 64 0 = [(0, 0, 0, 7)] := (clk_S 63 0).trans (if_pos rfl)
  unfold Wn
  rw [e, List.countP_singleton]
  unfold qE
  rw [okm_0, decide_eq_true hsh]
  by_cases q : p = 0 ∧ c = 0
  · rw [if_pos q, q.1, q.2]
    rfl
  · rw [if_neg q, if_neg (fun y => q (by
      rw [Bool.true_and, Bool.and_true, Bool.and_eq_true, decide_eq_true_eq, decide_eq_true_eq] at y
      exact ⟨y.1.symm, y.2.symm⟩))]
theorem pr_cnt {hc : Nat → Nat → Bool} {sh p c : Nat} (dp dc dm : Nat) (M : List e4T) : ∀ L : List Nat, ((L.map (fun m => ((m, dp, dc, dm) : e4T))).flatMap (fun a => M.map (fun b => e4m a b))).countP (qE hc sh p c) = cN hc L * M.countP (fun b => okm hc b.1 && (decide (dp + b.2.1 = p) && (decide (dc + b.2.2.1 = c) && decide (sh ≤ mik dm b.2.2.2))))
  | [] => by
    rw [List.map_nil, List.flatMap_nil]
    unfold cN
    rw [List.countP_nil, List.countP_nil, Nat.zero_mul]
  | m :: L => by
    rw [List.map_cons, List.flatMap_cons, List.countP_append, pr_cnt dp dc dm M L, List.countP_map]
    have e1 : cN hc (m :: L) = cN hc L + (if okm hc m = true then 1 else 0) := List.countP_cons
    rw [e1, Nat.add_mul, Nat.add_comm]
    congr 1
    by_cases o : okm hc m = true
    · rw [if_pos o, Nat.one_mul]
      refine List.countP_congr (fun b _ => ?_)
      show qE hc sh p c (e4m (m, dp, dc, dm) b) = true ↔ _
      unfold qE e4m
      dsimp only
      rw [okm_or, o, Bool.true_and]
    · rw [if_neg o, Nat.zero_mul]
      refine List.countP_eq_zero.mpr (fun b _ => ?_)
      show ¬ qE hc sh p c (e4m (m, dp, dc, dm) b) = true
      unfold qE e4m
      dsimp only
      rw [okm_or]
      intro y
      rw [Bool.and_eq_true, Bool.and_eq_true] at y
      exact o y.1.1
def tK (hc : Nat → Nat → Bool) (sh s p c k : Nat) : Nat := (if p = 0 then 0 else cN hc (plk k) * Wn hc sh (s - k) (p - 1) c) + (if c = 0 then 0 else (if sh ≤ zb_pc k then cN hc (rgk k) else 0) * Wn hc sh (s - k) p (c - 1))
theorem tK_ok {hc : Nat → Nat → Bool} {sh s p c k : Nat} (hsh : sh ≤ 7) : ((ptk k).flatMap (fun a => (clk 64 (s - k)).map (fun b => e4m a b))).countP (qE hc sh p c) = tK hc sh s p c k := by
  unfold ptk tK
  rw [List.flatMap_append, List.countP_append, pr_cnt, pr_cnt]
  congr 1
  · cases p with
    | zero =>
      rw [if_pos rfl, List.countP_eq_zero.mpr, Nat.mul_zero]
      intro b _ y
      rw [Bool.and_eq_true, Bool.and_eq_true, decide_eq_true_eq] at y
      omega
    | succ p =>
      rw [if_neg (by omega), Nat.add_sub_cancel]
      congr 1
      unfold Wn
      refine List.countP_congr (fun b _ => ?_)
      unfold qE
      simp only [Bool.and_eq_true, decide_eq_true_eq, mik_le, Nat.zero_add]
      constructor
      · rintro ⟨y1, y2, y3, y4⟩
        exact ⟨y1, by omega, y3, y4.2⟩
      · rintro ⟨y1, y2, y3, y4⟩
        exact ⟨y1, by omega, y3, hsh, y4⟩
  · cases c with
    | zero =>
      rw [if_pos rfl, List.countP_eq_zero.mpr, Nat.mul_zero]
      intro b _ y
      rw [Bool.and_eq_true, Bool.and_eq_true, Bool.and_eq_true, decide_eq_true_eq, decide_eq_true_eq] at y
      omega
    | succ c =>
      rw [if_neg (by omega), Nat.add_sub_cancel]
      by_cases q : sh ≤ zb_pc k
      · rw [if_pos q]
        congr 1
        unfold Wn
        refine List.countP_congr (fun b _ => ?_)
        unfold qE
        simp only [Bool.and_eq_true, decide_eq_true_eq, mik_le, Nat.zero_add]
        constructor
        · rintro ⟨y1, y2, y3, y4⟩
          exact ⟨y1, y2, by omega, y4.2⟩
        · rintro ⟨y1, y2, y3, y4⟩
          exact ⟨y1, y2, by omega, q, y4⟩
      · rw [if_neg q, Nat.zero_mul, List.countP_eq_zero.mpr, Nat.mul_zero]
        intro b _ y
        simp only [Bool.and_eq_true, decide_eq_true_eq, mik_le] at y
        exact q y.2.2.2.1
theorem Wn_S {hc : Nat → Nat → Bool} {sh s p c : Nat} (hs : s < 64) (h0 : 0 < s) (hsh : sh ≤ 7) : Wn hc sh s p c = fb_sm (fun k => if ptb s k = true then tK hc sh s p c k else 0) (s + 1) := by
  have e : clk 64 s = (List.range (s + 1)).flatMap (fun k => if ptb s k = true then (ptk k).flatMap (fun a => (clk 64 (s - k)).map (fun b => e4m a b)) else []) := clk_g 63 hs h0 (by omega)
  have e2 : Wn hc sh s p c = ((List.range (s + 1)).flatMap (fun k => if ptb s k = true then (ptk k).flatMap (fun a => (clk 64 (s - k)).map (fun b => e4m a b)) else [])).countP (qE hc sh p c) := congrArg (List.countP (qE hc sh p c)) e
  rw [e2, cp_fm]
  refine fb_sm_cong (fun k hk => ?_)
  by_cases q : ptb s k = true
  · rw [if_pos q, if_pos q, tK_ok hsh]
  · rw [if_neg q, if_neg q]
    rfl
/-! the arrays -/
theorem i32_sw (a b c d e : Int32) : a + b + c + d + e = a + (b + d) + (c + e) := by
  rw [Int32.add_assoc (a + b) c d, Int32.add_comm c d, ← Int32.add_assoc (a + b) d c, Int32.add_assoc a b d, Int32.add_assoc (a + (b + d)) c e]
theorem ar_c_ok {pv rv : Int32} {R T p : Nat} (hRT : R ≠ T) (hp : p < 6) : ∀ m c0 (u : Nat → Int32), c0 + m ≤ 6 → (∀ p' c', p' ≤ 6 → c' ≤ 6 → ar_c pv rv R T p m c0 u (T * 7 * 7 + p' * 7 + c') = u (T * 7 * 7 + p' * 7 + c') + (if p' = p + 1 ∧ c0 ≤ c' ∧ c' < c0 + m then pv * u (R * 7 * 7 + p * 7 + c') else 0) + (if p' = p ∧ c0 < c' ∧ c' ≤ c0 + m then rv * u (R * 7 * 7 + p * 7 + (c' - 1)) else 0)) ∧ ∀ s' p' c', s' ≠ T → p' ≤ 6 → c' ≤ 6 → ar_c pv rv R T p m c0 u (s' * 7 * 7 + p' * 7 + c') = u (s' * 7 * 7 + p' * 7 + c')
  | 0, c0, u, hm => by
    rw [ar_c]
    refine ⟨fun p' c' h1 h2 => ?_, fun _ _ _ _ _ _ => rfl⟩
    rw [if_neg (by omega), if_neg (by omega), Int32.add_zero, Int32.add_zero]
  | m + 1, c0, u, hm => by
    rw [ar_c]
    obtain ⟨i1, i2⟩ := ar_c_ok (pv := pv) (rv := rv) hRT hp m (c0 + 1) (upd (ar_c1 pv R T p c0 u) (T * 7 * 7 + p * 7 + c0 + 1) (ar_c1 pv R T p c0 u (T * 7 * 7 + p * 7 + c0 + 1) + rv * u (R * 7 * 7 + p * 7 + c0))) (by omega)
    have o : ∀ s' p' c', s' ≠ T → p' ≤ 6 → c' ≤ 6 → upd (ar_c1 pv R T p c0 u) (T * 7 * 7 + p * 7 + c0 + 1) (ar_c1 pv R T p c0 u (T * 7 * 7 + p * 7 + c0 + 1) + rv * u (R * 7 * 7 + p * 7 + c0)) (s' * 7 * 7 + p' * 7 + c') = u (s' * 7 * 7 + p' * 7 + c') := fun s' p' c' h1 h2 h3 => by
      unfold ar_c1
      rw [pk_un (by omega), pk_un (by omega)]
    have w : ∀ p' c', p' ≤ 6 → c' ≤ 6 → upd (ar_c1 pv R T p c0 u) (T * 7 * 7 + p * 7 + c0 + 1) (ar_c1 pv R T p c0 u (T * 7 * 7 + p * 7 + c0 + 1) + rv * u (R * 7 * 7 + p * 7 + c0)) (T * 7 * 7 + p' * 7 + c') = u (T * 7 * 7 + p' * 7 + c') + (if p' = p + 1 ∧ c' = c0 then pv * u (R * 7 * 7 + p * 7 + c0) else 0) + (if p' = p ∧ c' = c0 + 1 then rv * u (R * 7 * 7 + p * 7 + c0) else 0) := fun p' c' h2 h3 => by
      unfold ar_c1
      by_cases e1 : p' = p ∧ c' = c0 + 1
      · rw [if_pos e1, if_neg (by omega), e1.1, e1.2, show T * 7 * 7 + p * 7 + (c0 + 1) = T * 7 * 7 + p * 7 + c0 + 1 by omega, pk_us, pk_un (by omega), Int32.add_zero]
      · rw [if_neg e1, Int32.add_zero, pk_un (by omega)]
        by_cases e2 : p' = p + 1 ∧ c' = c0
        · rw [if_pos e2, e2.1, e2.2, pk_us]
        · rw [if_neg e2, Int32.add_zero, pk_un (by omega)]
    refine ⟨fun p' c' h1 h2 => ?_, fun s' p' c' h1 h2 h3 => by rw [i2 s' p' c' h1 h2 h3, o s' p' c' h1 h2 h3]⟩
    rw [i1 p' c' h1 h2, w p' c' h1 h2, o R p c' hRT (by omega) h2, o R p (c' - 1) hRT (by omega) (by omega)]
    have hA : (if p' = p + 1 ∧ c0 ≤ c' ∧ c' < c0 + (m + 1) then pv * u (R * 7 * 7 + p * 7 + c') else 0) = (if p' = p + 1 ∧ c' = c0 then pv * u (R * 7 * 7 + p * 7 + c0) else 0) + (if p' = p + 1 ∧ c0 + 1 ≤ c' ∧ c' < c0 + 1 + m then pv * u (R * 7 * 7 + p * 7 + c') else 0) := by
      by_cases q : p' = p + 1 ∧ c' = c0
      · have e1 : (if p' = p + 1 ∧ c0 + 1 ≤ c' ∧ c' < c0 + 1 + m then pv * u (R * 7 * 7 + p * 7 + c') else 0) = 0 := if_neg (by omega)
        rw [e1, if_pos q, if_pos (by omega), Int32.add_zero, q.2]
      · rw [if_neg q, Int32.zero_add]
        by_cases q2 : p' = p + 1 ∧ c0 + 1 ≤ c' ∧ c' < c0 + 1 + m
        · rw [if_pos q2, if_pos (by omega)]
        · rw [if_neg q2, if_neg (by omega)]
    have hB : (if p' = p ∧ c0 < c' ∧ c' ≤ c0 + (m + 1) then rv * u (R * 7 * 7 + p * 7 + (c' - 1)) else 0) = (if p' = p ∧ c' = c0 + 1 then rv * u (R * 7 * 7 + p * 7 + c0) else 0) + (if p' = p ∧ c0 + 1 < c' ∧ c' ≤ c0 + 1 + m then rv * u (R * 7 * 7 + p * 7 + (c' - 1)) else 0) := by
      by_cases q : p' = p ∧ c' = c0 + 1
      · have e1 : (if p' = p ∧ c0 + 1 < c' ∧ c' ≤ c0 + 1 + m then rv * u (R * 7 * 7 + p * 7 + (c' - 1)) else 0) = 0 := if_neg (by omega)
        rw [e1, if_pos q, if_pos (by omega), Int32.add_zero, show c' - 1 = c0 by omega]
      · rw [if_neg q, Int32.zero_add]
        by_cases q2 : p' = p ∧ c0 + 1 < c' ∧ c' ≤ c0 + 1 + m
        · rw [if_pos q2, if_pos (by omega)]
        · rw [if_neg q2, if_neg (by omega)]
    rw [hA, hB]
    exact i32_sw _ _ _ _ _
theorem ar_p_ok {pv rv : Int32} {R T : Nat} (hRT : R ≠ T) : ∀ m p0 (u : Nat → Int32), p0 + m = 6 → (∀ p' c', p' ≤ 6 → c' ≤ 6 → ar_p pv rv R T m p0 u (T * 7 * 7 + p' * 7 + c') = u (T * 7 * 7 + p' * 7 + c') + (if p0 < p' ∧ (p' - 1) + c' ≤ 5 then pv * u (R * 7 * 7 + (p' - 1) * 7 + c') else 0) + (if p0 ≤ p' ∧ 0 < c' ∧ p' + (c' - 1) ≤ 5 then rv * u (R * 7 * 7 + p' * 7 + (c' - 1)) else 0)) ∧ ∀ s' p' c', s' ≠ T → p' ≤ 6 → c' ≤ 6 → ar_p pv rv R T m p0 u (s' * 7 * 7 + p' * 7 + c') = u (s' * 7 * 7 + p' * 7 + c')
  | 0, p0, u, hm => by
    rw [ar_p]
    refine ⟨fun p' c' h1 h2 => ?_, fun _ _ _ _ _ _ => rfl⟩
    rw [if_neg (by omega), if_neg (by omega), Int32.add_zero, Int32.add_zero]
  | m + 1, p0, u, hm => by
    rw [ar_p]
    obtain ⟨c1, c2⟩ := ar_c_ok (pv := pv) (rv := rv) (p := p0) hRT (by omega) (6 - p0) 0 u (by omega)
    obtain ⟨i1, i2⟩ := ar_p_ok (pv := pv) (rv := rv) hRT m (p0 + 1) (ar_c pv rv R T p0 (6 - p0) 0 u) (by omega)
    refine ⟨fun p' c' h1 h2 => ?_, fun s' p' c' h1 h2 h3 => by rw [i2 s' p' c' h1 h2 h3, c2 s' p' c' h1 h2 h3]⟩
    rw [i1 p' c' h1 h2, c1 p' c' h1 h2, c2 R (p' - 1) c' hRT (by omega) h2, c2 R p' (c' - 1) hRT h1 (by omega)]
    by_cases a : p' = p0 + 1
    · have e3 : (if p0 + 1 < p' ∧ p' - 1 + c' ≤ 5 then pv * u (R * 7 * 7 + (p' - 1) * 7 + c') else 0) = 0 := if_neg (by omega)
      have e4 : (if p' = p0 ∧ 0 < c' ∧ c' ≤ 0 + (6 - p0) then rv * u (R * 7 * 7 + p0 * 7 + (c' - 1)) else 0) = 0 := if_neg (by omega)
      rw [e3, e4, Int32.add_zero, Int32.add_zero, show p' - 1 = p0 by omega]
      congr 1
      · congr 1
        by_cases q : p0 + c' ≤ 5
        · rw [if_pos (by omega), if_pos (by omega)]
        · rw [if_neg (by omega), if_neg (by omega)]
      · by_cases q : 0 < c' ∧ p' + (c' - 1) ≤ 5
        · rw [if_pos (by omega), if_pos (by omega)]
        · rw [if_neg (by omega), if_neg (by omega)]
    · have e3 : (if p' = p0 + 1 ∧ 0 ≤ c' ∧ c' < 0 + (6 - p0) then pv * u (R * 7 * 7 + p0 * 7 + c') else 0) = 0 := if_neg (fun z => a z.1)
      rw [e3, Int32.add_zero]
      by_cases a2 : p' = p0
      · have e4 : (if p0 + 1 < p' ∧ p' - 1 + c' ≤ 5 then pv * u (R * 7 * 7 + (p' - 1) * 7 + c') else 0) = 0 := if_neg (by omega)
        have e5 : (if p0 < p' ∧ p' - 1 + c' ≤ 5 then pv * u (R * 7 * 7 + (p' - 1) * 7 + c') else 0) = 0 := if_neg (by omega)
        have e6 : (if p0 + 1 ≤ p' ∧ 0 < c' ∧ p' + (c' - 1) ≤ 5 then rv * u (R * 7 * 7 + p' * 7 + (c' - 1)) else 0) = 0 := if_neg (by omega)
        rw [e4, e5, e6, Int32.add_zero, Int32.add_zero, Int32.add_zero, a2]
        congr 1
        by_cases q : 0 < c' ∧ p0 + (c' - 1) ≤ 5
        · rw [if_pos (by omega), if_pos (by omega)]
        · rw [if_neg (by omega), if_neg (by omega)]
      · have e4 : (if p' = p0 ∧ 0 < c' ∧ c' ≤ 0 + (6 - p0) then rv * u (R * 7 * 7 + p0 * 7 + (c' - 1)) else 0) = 0 := if_neg (fun z => a2 z.1)
        rw [e4, Int32.add_zero]
        congr 1
        · congr 1
          by_cases q : p0 + 1 < p' ∧ p' - 1 + c' ≤ 5
          · rw [if_pos q, if_pos (by omega)]
          · rw [if_neg q, if_neg (by omega)]
        · by_cases q : p0 + 1 ≤ p' ∧ 0 < c' ∧ p' + (c' - 1) ≤ 5
          · rw [if_pos q, if_pos (by omega)]
          · rw [if_neg q, if_neg (by omega)]
/-- the array holds the numbers of set s -/
def uW (hc : Nat → Nat → Bool) (sh : Nat) (u : Nat → Int32) (s : Nat) : Prop := ∀ p c, p ≤ 6 → c ≤ 6 → u (s * 7 * 7 + p * 7 + c) = nI (Wn hc sh s p c)
theorem ar_add_ok {hc : Nat → Nat → Bool} {sh s k : Nat} {z g u : Nat → Int32} (hs : s < 64) (hk : k < 64) (hpt : ptb s k = true) (hz : z k = nI (cN hc (plk k))) (hg : g k = nI (if sh ≤ zb_pc k then cN hc (rgk k) else 0)) (hu : uW hc sh u (s - k)) : (∀ p c, p ≤ 6 → c ≤ 6 → ar_add z g s k u (s * 7 * 7 + p * 7 + c) = u (s * 7 * 7 + p * 7 + c) + nI (tK hc sh s p c k)) ∧ ∀ s' p c, s' ≠ s → p ≤ 6 → c ≤ 6 → ar_add z g s k u (s' * 7 * 7 + p * 7 + c) = u (s' * 7 * 7 + p * 7 + c) := by
  obtain ⟨a1, a2, a3, a4⟩ := pt_ok s hs k hk hpt
  have a5 := pc_le6 s hs
  unfold ar_add
  rw [a3, hz, hg]
  obtain ⟨h1, h2⟩ := ar_p_ok (pv := nI (cN hc (plk k))) (rv := nI (if sh ≤ zb_pc k then cN hc (rgk k) else 0)) (show s - k ≠ s by omega) 6 0 u (by omega)
  refine ⟨fun p c hp hc' => ?_, h2⟩
  rw [h1 p c hp hc', hu (p - 1) c (by omega) hc', hu p (c - 1) hp (by omega), Int32.add_assoc]
  congr 1
  unfold tK
  rw [← nI_add]
  congr 1
  · by_cases q : p = 0
    · rw [if_pos q, if_neg (by omega)]
      rfl
    · rw [if_neg q]
      by_cases q2 : p - 1 + c ≤ 5
      · rw [if_pos (by omega), pk_mul]
      · rw [if_neg (by omega), Wn_big (by omega) (by omega), Nat.mul_zero]
        rfl
  · by_cases q : c = 0
    · rw [if_pos q, if_neg (by omega)]
      rfl
    · rw [if_neg q]
      by_cases q2 : p + (c - 1) ≤ 5
      · rw [if_pos (by omega), pk_mul]
      · rw [if_neg (by omega), Wn_big (s := s - k) (p := p) (c := c - 1) (by omega) (by omega), Nat.mul_zero]
        rfl
theorem ar_fall_ok {hc : Nat → Nat → Bool} {sh s n : Nat} {z g : Nat → Int32} (hn : n ≤ 6) (hs : s < 2 ^ n) (h0 : 0 < s) (hz : ∀ k, 0 < k → k < 2 ^ n → z k = nI (cN hc (plk k))) (hg : ∀ k, 0 < k → k < 2 ^ n → g k = nI (if sh ≤ zb_pc k then cN hc (rgk k) else 0)) : ∀ m k (u : Nat → Int32), k + m = s + 1 → 0 < k → (∀ s', s' < s → uW hc sh u s') → (∀ p c, p ≤ 6 → c ≤ 6 → u (s * 7 * 7 + p * 7 + c) = nI (fb_sm (fun k => if ptb s k = true then tK hc sh s p c k else 0) k)) → (∀ p c, p ≤ 6 → c ≤ 6 → ar_fall z g s m k u (s * 7 * 7 + p * 7 + c) = nI (fb_sm (fun k => if ptb s k = true then tK hc sh s p c k else 0) (s + 1))) ∧ ∀ s' p c, s' ≠ s → p ≤ 6 → c ≤ 6 → ar_fall z g s m k u (s' * 7 * 7 + p * 7 + c) = u (s' * 7 * 7 + p * 7 + c)
  | 0, k, u, e, hk, h1, h2 => by
    have e' : k = s + 1 := by omega
    subst e'
    rw [ar_fall]
    exact ⟨h2, fun _ _ _ _ _ _ => rfl⟩
  | m + 1, k, u, e, hk, h1, h2 => by
    have h64 : s < 64 := Nat.lt_of_lt_of_le hs (show 2 ^ n ≤ 2 ^ 6 from Nat.pow_le_pow_right (by decide) hn)
    rw [ar_fall]
    simp only [pt_iff s h64 h0 k (by omega)]
    by_cases q : ptb s k = true
    · rw [if_pos q]
      obtain ⟨a1, a2, a3, a4⟩ := pt_ok s h64 k (by omega) q
      obtain ⟨b1, b2⟩ := ar_add_ok (u := u) h64 (show k < 64 by omega) q (hz k hk (by omega)) (hg k hk (by omega)) (h1 (s - k) (by omega))
      obtain ⟨i1, i2⟩ := ar_fall_ok hn hs h0 hz hg m (k + 1) (ar_add z g s k u) (by omega) (by omega) (fun s' hs' p c hp hc' => by rw [b2 s' p c (by omega) hp hc']; exact h1 s' hs' p c hp hc') (fun p c hp hc' => by rw [b1 p c hp hc', h2 p c hp hc', nI_add, fb_sm_succ, if_pos q])
      exact ⟨i1, fun s' p c h3 hp hc' => by rw [i2 s' p c h3 hp hc', b2 s' p c h3 hp hc']⟩
    · rw [if_neg q]
      exact ar_fall_ok hn hs h0 hz hg m (k + 1) u (by omega) (by omega) h1 (fun p c hp hc' => by rw [h2 p c hp hc', fb_sm_succ, if_neg q]; rfl)
theorem ar_ways_ok {hc : Nat → Nat → Bool} {sh n : Nat} {z g : Nat → Int32} (hn : n ≤ 6) (hsh : sh ≤ 7) (hz : ∀ k, 0 < k → k < 2 ^ n → z k = nI (cN hc (plk k))) (hg : ∀ k, 0 < k → k < 2 ^ n → g k = nI (if sh ≤ zb_pc k then cN hc (rgk k) else 0)) : ∀ m s (u : Nat → Int32), s + m = 2 ^ n → 0 < s → (∀ s', s' < s → uW hc sh u s') → (∀ s' p c, s ≤ s' → s' < 2 ^ n → p ≤ 6 → c ≤ 6 → u (s' * 7 * 7 + p * 7 + c) = 0) → ∀ s', s' < 2 ^ n → uW hc sh (ar_ways z g m s u) s'
  | 0, s, u, e, h0, h1, h2, s', hs' => by
    rw [ar_ways]
    exact h1 s' (by omega)
  | m + 1, s, u, e, h0, h1, h2, s', hs' => by
    have hs : s < 2 ^ n := by omega
    have h64 : s < 64 := Nat.lt_of_lt_of_le hs (show 2 ^ n ≤ 2 ^ 6 from Nat.pow_le_pow_right (by decide) hn)
    rw [ar_ways]
    obtain ⟨f1, f2⟩ := ar_fall_ok (hc := hc) (sh := sh) hn hs h0 hz hg s 1 u (by omega) (by omega) h1 (fun p c hp hc' => by
      rw [h2 s p c (Nat.le_refl _) hs hp hc', fb_sm_succ]
      have : ptb s 0 = false := by
        unfold ptb
        rw [Nat.zero_testBit, Bool.and_false]
      rw [if_neg (by rw [this]; decide)]
      rfl)
    refine ar_ways_ok hn hsh hz hg m (s + 1) _ (by omega) (by omega) (fun s1 hs1 p c hp hc' => ?_) (fun s1 p c a b hp hc' => ?_) s' hs'
    · by_cases q : s1 = s
      · rw [q, f1 p c hp hc', Wn_S h64 h0 hsh]
      · rw [f2 s1 p c q hp hc']
        exact h1 s1 (by omega) p c hp hc'
    · rw [f2 s1 p c (by omega) hp hc']
      exact h2 s1 p c (by omega) b hp hc'
theorem ar_U_ok {hc : Nat → Nat → Bool} {sh n : Nat} (hn : n ≤ 6) (hsh : sh ≤ 6) (y z g u : Nat → Int32) {p c : Nat} (hp : p ≤ 6) (hc' : c ≤ 6) : ar_U hc (nI sh) n y z g u (((2 ^ n - 1) * 7 + p) * 7 + c) = nI (Wn hc sh (2 ^ n - 1) p c) := by
  have p2 : 0 < 2 ^ n := Nat.two_pow_pos n
  have p6 : 2 ^ n ≤ 2 ^ 6 := Nat.pow_le_pow_right (by decide) hn
  unfold ar_U
  rw [show ((2 ^ n - 1) * 7 + p) * 7 + c = (2 ^ n - 1) * 7 * 7 + p * 7 + c by omega]
  refine ar_ways_ok (hc := hc) (sh := sh) hn (by omega) (fun k h1 h2 => ar_P_ok hn y z h1 h2) (fun k h1 h2 => ar_R_ok hn hsh y z g h1 h2) (2 ^ n - 1) 1 _ (by omega) (by omega) (fun s' hs' p c hp hc' => ?_) (fun s' p c a b hp hc' => ?_) (2 ^ n - 1) (by omega) p c hp hc'
  · have e : s' = 0 := by omega
    subst e
    rw [Wn_0 (by omega)]
    by_cases q : p = 0 ∧ c = 0
    · rw [if_pos q, q.1, q.2]
      exact pk_us
    · rw [if_neg q, pk_un (by omega)]
      exact if_pos (by omega)
  · rw [pk_un (by omega)]
    exact if_pos (by omega)
