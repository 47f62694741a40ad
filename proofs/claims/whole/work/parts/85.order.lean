/-! the class's Order against the model's -/
/-- in how many ways row i and those below go on to a stand of K, columns s taken -/
def oE (c : Nat → Nat) (w h K i s : Nat) : Nat := if bc s ≤ K then tO c w (h - i) i s (K - bc s) else 0
/-- of these, those with column j in row i -/
def oT (c : Nat → Nat) (w h K i s j : Nat) : Nat := if ((c i).testBit j && !s.testBit j) = true then oE c w h K (i + 1) (s ||| 2 ^ j) else 0
theorem oE_lt (c : Nat → Nat) {w h : Nat} (hw : w ≤ 6) (hh : h ≤ 6) (K i s : Nat) : oE c w h K i s < 2 ^ 20 := by
  unfold oE
  by_cases e : bc s ≤ K
  · rw [if_pos e]; exact tO_lt c hw (by omega) _ _ _
  · rw [if_neg e]; decide
theorem oT_lt (c : Nat → Nat) {w h : Nat} (hw : w ≤ 6) (hh : h ≤ 6) (K i s j : Nat) : oT c w h K i s j < 2 ^ 20 := by
  unfold oT
  by_cases e : ((c i).testBit j && !s.testBit j) = true
  · rw [if_pos e]; exact oE_lt c hw hh K _ _
  · rw [if_neg e]; decide
/-- the model's terms -/
theorem oT_eq {c : Nat → Nat} {w h K i s j : Nat} (hs : s < 64) (hj : j < 6) (hb : bc s ≤ K) : (if (decide (0 < K - bc s) && ((c i).testBit j && !s.testBit j)) = true then tO c w (h - (i + 1)) (i + 1) (s ||| 2 ^ j) (K - bc s - 1) else 0) = oT c w h K i s j := by
  unfold oT
  by_cases e : ((c i).testBit j && !s.testBit j) = true
  · rw [if_pos e]
    unfold oE
    have ub : s.testBit j = false := by
      rw [Bool.and_eq_true] at e
      simpa using e.2
    rw [bc_or s hs j hj ub]
    by_cases e2 : bc s + 1 ≤ K
    · rw [if_pos e2, if_pos (by rw [Bool.and_eq_true]; exact ⟨decide_eq_true (by omega), e⟩), Nat.sub_sub]
    · rw [if_neg e2, if_neg (by rw [Bool.and_eq_true]; exact fun z => absurd (of_decide_eq_true z.1) (by omega))]
  · rw [if_neg e, if_neg (by rw [Bool.and_eq_true]; exact fun z => e z.2)]
theorem oE_step {c : Nat → Nat} {w h K i s : Nat} (hw : w ≤ 6) (hc : c i < 2 ^ w) (hi : i < h) (hs : s < 64) : oE c w h K i s = fb_sm (oT c w h K i s) 6 + oE c w h K (i + 1) s := by
  have cut : fb_sm (oT c w h K i s) 6 = fb_sm (oT c w h K i s) w := fb_sm_cut hw (fun j hj _ => by
    have : (c i).testBit j = false := Nat.testBit_lt_two_pow (Nat.lt_of_lt_of_le hc (Nat.pow_le_pow_right (by omega) hj))
    unfold oT
    rw [this]
    exact if_neg (by simp))
  rw [cut]
  by_cases b : bc s ≤ K
  · have e1 : h - i = (h - (i + 1)) + 1 := by omega
    have e2 : oE c w h K i s = tO c w (h - (i + 1)) (i + 1) s (K - bc s) + fb_sm (oT c w h K i s) w := by
      unfold oE
      rw [if_pos b, e1, tO]
      congr 1
      exact fb_sm_cong (fun j hj => oT_eq hs (by omega) b)
    rw [e2]
    unfold oE
    rw [if_pos b, Nat.add_comm]
  · have : fb_sm (oT c w h K i s) w = 0 := fb_sm_0 (fun j hj => by
      unfold oT
      by_cases e : ((c i).testBit j && !s.testBit j) = true
      · rw [if_pos e]
        unfold oE
        have ub : s.testBit j = false := by
          rw [Bool.and_eq_true] at e
          simpa using e.2
        rw [bc_or s hs j (by omega) ub, if_neg (by omega)]
      · rw [if_neg e])
    rw [this]
    unfold oE
    rw [if_neg b, if_neg b]
theorem od_ca_ok {c : Nat → Nat} {w h K i s : Nat} {W : Nat → Int32} (hc : c i < 64) (hs : s < 64) (hW : ∀ s, s < 64 → W ((i + 1) * 64 + s) = nI (oE c w h K (i + 1) s)) : ∀ m j (R : Nat), j + m ≤ 6 → R = fb_sm (oT c w h K i s) j → od_ca W (nI (c i)) i s m j (nI R) = nI (fb_sm (oT c w h K i s) (j + m))
  | 0, j, R, _, e => by
    rw [od_ca, e]
    rfl
  | m + 1, j, R, h6, e => by
    rw [od_ca, zb_not _ hc _ hs]
    have hq := qb_open (c i) hc s hs j (by omega)
    have hT : fb_sm (oT c w h K i s) (j + 1) = R + oT c w h K i s j := by rw [fb_sm_succ, e]
    have ih := od_ca_ok hc hs hW m (j + 1) (R + oT c w h K i s j) (by omega) hT.symm
    rw [show j + (m + 1) = j + 1 + m by omega, ← ih]
    congr 1
    by_cases c1 : (c i).testBit j = true ∧ s.testBit j = false
    · rw [if_neg (fun z => hq.mp z c1), hW _ (zb_or_lt hs (by omega)), nI_add]
      congr 2
      unfold oT
      rw [if_pos (by rw [c1.1, c1.2]; rfl)]
    · rw [if_pos (hq.mpr c1)]
      have : oT c w h K i s j = 0 := by
        unfold oT
        rw [if_neg]
        intro z
        rw [Bool.and_eq_true] at z
        exact c1 ⟨z.1, by simpa using z.2⟩
      rw [this, Nat.add_zero]
theorem od_p1_ok (K : Nat) (hK : K < 2 ^ 31) (hh : Nat) : ∀ m s (W : Nat → Int32), s + m = 64 → (∀ t, t < s → W (hh * 64 + t) = nI (if bc t = K then 1 else 0)) → ∀ t, t < 64 → od_p1 (nI K) hh m s W (hh * 64 + t) = nI (if bc t = K then 1 else 0)
  | 0, s, W, e, h, t, ht => by rw [od_p1]; exact h t (by omega)
  | m + 1, s, W, e, h, t, ht => by
    rw [od_p1]
    refine od_p1_ok K hK hh m (s + 1) _ (by omega) (fun q hq => ?_) t ht
    by_cases c : q = s
    · subst c
      rw [pk_us, ← bc_pc q (by omega)]
      have := bc_le6 (s := q) (by omega)
      by_cases c2 : bc q = K
      · rw [if_pos c2, if_pos (by rw [c2])]; rfl
      · rw [if_neg c2, if_neg (fun z => c2 ((nI_eq (by omega) (by omega)).mp z))]; rfl
    · rw [pk_un (by omega)]
      exact h q (by omega)
theorem od_p2i_ok {c : Nat → Nat} {w h K i : Nat} {p : Nat → Int32} (hw : w ≤ 6) (hi : i < h) (hc : c i < 2 ^ w ∧ p i = nI (c i)) : ∀ m s (W : Nat → Int32), s + m = 64 → (∀ t, t < 64 → W ((i + 1) * 64 + t) = nI (oE c w h K (i + 1) t)) → (∀ t, t < s → W (i * 64 + t) = nI (oE c w h K i t)) → (∀ t, t < 64 → od_p2i p i m s W (i * 64 + t) = nI (oE c w h K i t)) ∧ ∀ q, (i + 1) * 64 ≤ q → od_p2i p i m s W q = W q
  | 0, s, W, e, h1, h2 => by
    rw [od_p2i]
    exact ⟨fun t ht => h2 t (by omega), fun _ _ => rfl⟩
  | m + 1, s, W, e, h1, h2 => by
    have hca := od_ca_ok (c := c) (w := w) (h := h) (K := K) (i := i) (s := s) (W := W) (mz_c64 hw hc.1) (by omega) h1 6 0 0 (by omega) rfl
    rw [show nI 0 = 0 from rfl, show 0 + 6 = 6 from rfl] at hca
    rw [od_p2i, hc.2, hca, h1 s (by omega), nI_add, ← oE_step hw hc.1 hi (by omega)]
    obtain ⟨r1, r2⟩ := od_p2i_ok (K := K) hw hi hc m (s + 1) (upd W (i * 64 + s) (nI (oE c w h K i s))) (by omega) (fun t ht => by rw [pk_un (by omega)]; exact h1 t ht) (fun t ht => by
      by_cases e2 : t = s
      · rw [e2, pk_us]
      · rw [pk_un (by omega)]; exact h2 t (by omega))
    exact ⟨r1, fun q hq => by rw [r2 q hq, pk_un (by omega)]⟩
theorem od_p2_ok {c : Nat → Nat} {w h K : Nat} {p : Nat → Int32} (hw : w ≤ 6) (hc : ∀ i, i < h → c i < 2 ^ w ∧ p i = nI (c i)) : ∀ i (W : Nat → Int32), i ≤ h → (∀ q, i ≤ q → q ≤ h → ∀ t, t < 64 → W (q * 64 + t) = nI (oE c w h K q t)) → ∀ q, q ≤ h → ∀ t, t < 64 → od_p2 p i W (q * 64 + t) = nI (oE c w h K q t)
  | 0, W, _, h1, q, hq, t, ht => by
    rw [od_p2]
    exact h1 q (by omega) hq t ht
  | i + 1, W, hi, h1, q, hq, t, ht => by
    rw [od_p2]
    obtain ⟨r1, r2⟩ := od_p2i_ok (K := K) hw (show i < h by omega) (hc i (by omega)) 64 0 W (by omega) (fun t ht => h1 (i + 1) (by omega) hi t ht) (fun t ht => by omega)
    refine od_p2_ok hw hc i _ (by omega) (fun q hq1 hq2 t ht => ?_) q hq t ht
    by_cases e : q = i
    · rw [e]; exact r1 t ht
    · rw [r2 _ (by omega)]
      exact h1 q (by omega) hq2 t ht
/-- the class's endings -/
theorem od_ok {c : Nat → Nat} {w h K : Nat} {p : Nat → Int32} (hw : w ≤ 6) (hK : K < 2 ^ 31) (hc : ∀ i, i < h → c i < 2 ^ w ∧ p i = nI (c i)) (W : Nat → Int32) : ∀ q, q ≤ h → ∀ t, t < 64 → od_p2 p h (od_p1 (nI K) h 64 0 W) (q * 64 + t) = nI (oE c w h K q t) :=
  od_p2_ok hw hc h _ (Nat.le_refl _) (fun q hq1 hq2 t ht => by
    have e : q = h := by omega
    subst e
    rw [od_p1_ok K hK q 64 0 W (by omega) (fun t ht => by omega) t ht]
    unfold oE
    rw [Nat.sub_self, tO]
    by_cases e1 : bc t = K
    · rw [if_pos e1, if_pos (by omega), if_pos (by omega)]
    · rw [if_neg e1]
      by_cases e2 : bc t ≤ K
      · rw [if_pos e2, if_neg (by omega)]
      · rw [if_neg e2])
/-- the column of number p: cumulated -/
def cO (T : Nat → Nat) (p : Nat) : Nat → Nat → Nat
  | 0, _ => 6
  | m + 1, j => if p < fb_sm T (j + 1) then j else cO T p m (j + 1)
theorem cO_le (T : Nat → Nat) (p : Nat) : ∀ m j, j + m ≤ 6 → cO T p m j ≤ 6
  | 0, _, _ => Nat.le_refl _
  | m + 1, j, h => by
    rw [cO]
    split
    · omega
    · exact cO_le T p m (j + 1) (by omega)
theorem cO_none {T : Nat → Nat} {p : Nat} : ∀ m j, j + m = 6 → fb_sm T 6 ≤ p → (∀ t, j ≤ t → t < 6 → T t = 0) → fb_sm T j ≤ p → cO T p m j = 6
  | 0, _, _, _, _, _ => rfl
  | m + 1, j, h, h6, h0, hp => by
    have e : fb_sm T (j + 1) = fb_sm T j := by rw [fb_sm_succ, h0 j (Nat.le_refl _) (by omega), Nat.add_zero]
    rw [cO, if_neg (by omega)]
    exact cO_none m (j + 1) (by omega) h6 (fun t h1 h2 => h0 t (by omega) h2) (by omega)
theorem yJ_cO {c : Nat → Nat} {w h K i s : Nat} (hw : w ≤ 6) (hc : c i < 2 ^ w) (hs : s < 64) (hb : bc s ≤ K) (p : Nat) : ∀ m j, j + m = w → fb_sm (oT c w h K i s) j ≤ p → yJ c w (h - (i + 1)) i s (K - bc s) m j (p - fb_sm (oT c w h K i s) j) = (if cO (oT c w h K i s) p (6 - j) j < 6 then cO (oT c w h K i s) p (6 - j) j else 9, p - fb_sm (oT c w h K i s) (cO (oT c w h K i s) p (6 - j) j))
  | 0, j, e, hp => by
    have e' : j = w := by omega
    subst e'
    have h0 : ∀ t, j ≤ t → t < 6 → oT c j h K i s t = 0 := fun t h1 _ => by
      have : (c i).testBit t = false := Nat.testBit_lt_two_pow (Nat.lt_of_lt_of_le hc (Nat.pow_le_pow_right (by omega) h1))
      unfold oT
      rw [this]
      exact if_neg (by simp)
    have h6 : fb_sm (oT c j h K i s) 6 = fb_sm (oT c j h K i s) j := fb_sm_cut hw (fun t h1 h2 => h0 t h1 h2)
    rw [yJ, cO_none (6 - j) j (by omega) (by omega) h0 hp, if_neg (by omega), h6]
  | m + 1, j, e, hp => by
    have hT := oT_eq (c := c) (w := w) (h := h) (i := i) hs (show j < 6 by omega) hb
    have e6 : 6 - j = (6 - (j + 1)) + 1 := by omega
    have ih := yJ_cO (h := h) hw hc hs hb p m (j + 1) (by omega)
    rw [fb_sm_succ] at ih
    rw [yJ, e6, cO, fb_sm_succ]
    by_cases c1 : (decide (0 < K - bc s) && ((c i).testBit j && !s.testBit j)) = true
    · rw [if_pos c1] at hT ⊢
      rw [hT]
      by_cases c2 : p < fb_sm (oT c w h K i s) j + oT c w h K i s j
      · rw [if_pos c2, if_pos (by omega), if_pos (by omega)]
      · rw [if_neg c2, if_neg (by omega), Nat.sub_sub]
        exact ih (by omega)
    · rw [if_neg c1] at hT ⊢
      rw [← hT, Nat.add_zero] at ih
      have c3 : ¬ p < fb_sm (oT c w h K i s) j + oT c w h K i s j := by omega
      simp only [c3, ↓reduceIte]
      exact ih (by omega)
/-- the class's column -/
theorem od_col_ok {c : Nat → Nat} {w h K i s : Nat} {W : Nat → Int32} (hw : w ≤ 6) (hh : h ≤ 6) (hc : c i < 64) (hs : s < 64) (hW : ∀ s, s < 64 → W ((i + 1) * 64 + s) = nI (oE c w h K (i + 1) s)) {p : Nat} (hp : p < 2 ^ 31) : ∀ m j, j + m = 6 → od_col W (nI (c i)) i s (nI p) m j = cO (oT c w h K i s) p m j
  | 0, _, _ => rfl
  | m + 1, j, e => by
    have hca := od_ca_ok (c := c) (w := w) (h := h) (K := K) (i := i) (s := s) (W := W) hc hs hW (j + 1) 0 0 (by omega) rfl
    rw [show nI 0 = 0 from rfl, Nat.zero_add] at hca
    have hb : fb_sm (oT c w h K i s) (j + 1) ≤ (j + 1) * 2 ^ 20 := fb_sm_bound (fun t _ => Nat.le_of_lt (oT_lt c hw hh K i s t))
    have hb2 : (j + 1) * 2 ^ 20 ≤ 6 * 2 ^ 20 := Nat.mul_le_mul_right _ (by omega)
    rw [od_col, cO, hca, od_col_ok hw hh hc hs hW hp m (j + 1) (by omega)]
    by_cases c1 : p < fb_sm (oT c w h K i s) (j + 1)
    · rw [if_pos c1, if_pos (nI_lt c1 (by omega))]
    · rw [if_neg c1, if_neg (nI_nlt (by omega) (by omega))]
theorem fb_sm_le2 (T : Nat → Nat) {a b : Nat} (h : a ≤ b) : fb_sm T a ≤ fb_sm T b := by
  have := fb_sm_mono T a (b - a)
  rw [show a + (b - a) = b by omega] at this
  exact this
theorem cO_bound {T : Nat → Nat} {p : Nat} : ∀ m j, j + m = 6 → fb_sm T j ≤ p → fb_sm T (cO T p m j) ≤ p ∨ (cO T p m j = 6)
  | 0, _, _, _ => Or.inr rfl
  | m + 1, j, e, h => by
    rw [cO]
    by_cases c : p < fb_sm T (j + 1)
    · rw [if_pos c]; exact Or.inl h
    · rw [if_neg c]; exact cO_bound m (j + 1) (by omega) (by omega)
theorem cO_six {T : Nat → Nat} {p : Nat} : ∀ m j, j + m = 6 → fb_sm T j ≤ p → cO T p m j = 6 → fb_sm T 6 ≤ p
  | 0, j, e, h, _ => by
    have : j = 6 := by omega
    subst this
    exact h
  | m + 1, j, e, h, z => by
    rw [cO] at z
    by_cases c : p < fb_sm T (j + 1)
    · rw [if_pos c] at z; omega
    · rw [if_neg c] at z; exact cO_six m (j + 1) (by omega) (by omega) z
/-- the class writes the model's stand -/
theorem od_wr_ok {c : Nat → Nat} {w h K : Nat} {pb W : Nat → Int32} (hw : w ≤ 6) (hh : h ≤ 6) (hc : ∀ i, i < h → c i < 2 ^ w ∧ pb i = nI (c i)) (hW : ∀ q, q ≤ h → ∀ t, t < 64 → W (q * 64 + t) = nI (oE c w h K q t)) : ∀ m i s p (z : Nat → Int32), i + m = h → s < 64 → bc s ≤ K → p < 2 ^ 31 → ∀ q, od_wr W pb m i (nI p) s z q = if i ≤ q ∧ q < h then nC ((yR c w m i s (K - bc s) p).getD (q - i) 9) else z q
  | 0, i, s, p, z, e, hs, hb, hp, q => by
    rw [od_wr, if_neg (by omega)]
  | m + 1, i, s, p, z, e, hs, hb, hp, q => by
    have h64 := mz_c64 hw (hc i (by omega)).1
    have hWi := hW (i + 1) (by omega)
    have hcol := od_col_ok (c := c) (w := w) (h := h) (K := K) (i := i) (s := s) (W := W) hw hh h64 hs hWi hp 6 0 (by omega)
    have hyJ := yJ_cO (c := c) (w := w) (h := h) (K := K) (i := i) (s := s) hw (hc i (by omega)).1 hs hb p w 0 (by omega) (Nat.zero_le _)
    have h0 : fb_sm (oT c w h K i s) 0 = 0 := rfl
    rw [h0, Nat.sub_zero, Nat.sub_zero] at hyJ
    have hle := cO_le (oT c w h K i s) p 6 0 (by omega)
    have hbd := cO_bound (T := oT c w h K i s) (p := p) 6 0 (by omega) (Nat.zero_le _)
    have h6' := cO_six (T := oT c w h K i s) (p := p) 6 0 (by omega) (Nat.zero_le _)
    have hca := od_ca_ok (c := c) (w := w) (h := h) (K := K) (i := i) (s := s) (W := W) h64 hs hWi (cO (oT c w h K i s) p 6 0) 0 0 (by omega) rfl
    rw [show nI 0 = 0 from rfl, Nat.zero_add] at hca
    have hbl : fb_sm (oT c w h K i s) (cO (oT c w h K i s) p 6 0) ≤ p := by
      rcases hbd with z1 | z1
      · exact z1
      · rw [z1]; exact h6' z1
    have hem : h - (i + 1) = m := by omega
    rw [hem] at hyJ
    rw [od_wr, (hc i (by omega)).2, hcol, hca, pk_sub hbl, yR, hyJ]
    generalize hJ : cO (oT c w h K i s) p 6 0 = J at *
    by_cases j6 : J < 6
    · rw [if_pos j6, if_pos j6, if_pos j6]
      have hT : ((c i).testBit J && !s.testBit J) = true := by
        -- a column that is chosen has ways
        have key : ∀ m j, j + m = 6 → fb_sm (oT c w h K i s) j ≤ p → cO (oT c w h K i s) p m j = J → J < 6 → oT c w h K i s J ≠ 0 := fun m => by
          induction m with
          | zero =>
            intro j _ _ z1 z2
            rw [cO] at z1
            omega
          | succ m ih =>
            intro j ej hj z1 z2
            rw [cO] at z1
            by_cases c1 : p < fb_sm (oT c w h K i s) (j + 1)
            · rw [if_pos c1] at z1
              rw [fb_sm_succ, z1] at c1
              rw [z1] at hj
              omega
            · rw [if_neg c1] at z1
              exact ih (j + 1) (by omega) (by omega) z1 z2
        have := key 6 0 (by omega) (Nat.zero_le _) hJ j6
        by_cases c1 : ((c i).testBit J && !s.testBit J) = true
        · exact c1
        · exfalso
          apply this
          unfold oT
          rw [if_neg c1]
      have ub : s.testBit J = false := by
        rw [Bool.and_eq_true] at hT
        simpa using hT.2
      have hbb := bc_or s hs J j6 ub
      have hb1 : bc s + 1 ≤ K := by
        by_cases c1 : bc s + 1 ≤ K
        · exact c1
        · exfalso
          have key : ∀ m j, j + m = 6 → fb_sm (oT c w h K i s) j ≤ p → cO (oT c w h K i s) p m j = J → J < 6 → oT c w h K i s J ≠ 0 := fun m => by
            induction m with
            | zero =>
              intro j _ _ z1 z2
              rw [cO] at z1
              omega
            | succ m ih =>
              intro j ej hj z1 z2
              rw [cO] at z1
              by_cases c1 : p < fb_sm (oT c w h K i s) (j + 1)
              · rw [if_pos c1] at z1
                rw [fb_sm_succ, z1] at c1
                rw [z1] at hj
                omega
              · rw [if_neg c1] at z1
                exact ih (j + 1) (by omega) (by omega) z1 z2
          apply key 6 0 (by omega) (Nat.zero_le _) hJ j6
          unfold oT
          rw [if_pos hT]
          unfold oE
          rw [hbb, if_neg c1]
      have ih := od_wr_ok (K := K) hw hh hc hW m (i + 1) (s ||| 2 ^ J) (p - fb_sm (oT c w h K i s) J) (upd z i (nI J)) (by omega) (zb_or_lt hs j6) (by omega) (by omega) q
      rw [ih, hbb]
      have j9 : ¬ J = 9 := by omega
      simp only [j9, ↓reduceIte]
      by_cases q0 : q = i
      · subst q0
        rw [if_neg (by omega), if_pos (by omega), Nat.sub_self, pk_us]
        exact (nC_lt (by omega)).symm
      · by_cases q1 : i + 1 ≤ q ∧ q < h
        · rw [if_pos q1, if_pos (by omega), show q - i = (q - (i + 1)) + 1 by omega, List.getD_cons_succ, show K - bc s - 1 = K - (bc s + 1) by omega]
        · rw [if_neg q1, if_neg (by omega), pk_un q0]
    · have j6' : J = 6 := by omega
      rw [if_neg j6, if_neg j6, if_neg j6]
      have ih := od_wr_ok (K := K) hw hh hc hW m (i + 1) s (p - fb_sm (oT c w h K i s) J) (upd z i (-9)) (by omega) hs hb (by omega) q
      rw [ih]
      simp only [↓reduceIte]
      by_cases q0 : q = i
      · subst q0
        rw [if_neg (by omega), if_pos (by omega), Nat.sub_self, pk_us]
        rfl
      · by_cases q1 : i + 1 ≤ q ∧ q < h
        · rw [if_pos q1, if_pos (by omega), show q - i = (q - (i + 1)) + 1 by omega, List.getD_cons_succ]
        · rw [if_neg q1, if_neg (by omega), pk_un q0]
