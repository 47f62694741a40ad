/-! what every call keeps -/
def ssK (o : ss_A) : Prop := (∃ v, o.1 = .int v) ∧ ss_I o.2.1 o.2.2.1
section KI
variable {r : ss_R} {b : ss_B} {t : ss_T}
theorem kk_bad (I : ss_I r b) : ssK (ss_bad r b t) := ⟨⟨_, rfl⟩, I⟩
theorem kk_no (I : ss_I r b) (x : Int32) : ssK (ss_no r b t x) := ⟨⟨_, rfl⟩, I⟩
theorem ssI_row (I : ss_I r b) {l n : Nat} (hn : n ≤ 36) (q : Nat → Nat → Int32) : ss_I (va_up r.1 l (nI n), q) b := by
  refine ⟨fun k hk => ?_, I.2⟩
  by_cases e : k = l
  · subst e
    exact Or.inr ⟨n, hn, va_up_self _ _ _⟩
  · show va_up r.1 l (nI n) k = -1 ∨ ∃ m, m ≤ 36 ∧ va_up r.1 l (nI n) k = nI m
    rw [va_up_ne _ _ e]
    exact I.1 k hk
theorem ssI_tear (I : ss_I r b) (l : Nat) : ss_I (va_up r.1 l (-1), r.2) b := by
  refine ⟨fun k hk => ?_, I.2⟩
  by_cases e : k = l
  · subst e
    exact Or.inl (va_up_self _ _ _)
  · show va_up r.1 l (-1) k = -1 ∨ ∃ m, m ≤ 36 ∧ va_up r.1 l (-1) k = nI m
    rw [va_up_ne _ _ e]
    exact I.1 k hk
theorem ssI_drop (I : ss_I r b) (l : Nat) : ss_I r (va_up b.1 l (-1), b.2) := by
  refine ⟨I.1, fun k hk => ?_⟩
  obtain ⟨a1, a2, a3⟩ := I.2 k hk
  refine ⟨a1, a2, fun h => ?_⟩
  by_cases e : k = l
  · subst e
    exact absurd (va_up_self _ _ _) h
  · have : va_up b.1 l (-1) k = b.1 k := va_up_ne _ _ e
    show (va_up b.1 l (-1) k = 0 ∨ va_up b.1 l (-1) k = 1 ∨ va_up b.1 l (-1) k = 2 ∨ va_up b.1 l (-1) k = 3) ∧ _
    rw [this]
    exact a3 (by rw [← this]; exact h)
theorem ki_is (I : ss_I r b) (x w : Int32) : ssK (op_is x w r b t) := by
  unfold op_is
  (repeat' split) <;> exact ⟨⟨_, rfl⟩, I⟩
theorem ki_cell (I : ss_I r b) (x i j : Int32) : ssK (op_cell x i j r b t) := by
  unfold op_cell
  (repeat' split) <;> exact ⟨⟨_, rfl⟩, I⟩
theorem ki_told (I : ss_I r b) (x w : Int32) : ssK (op_told x w r b t) := by
  unfold op_told
  (repeat' split) <;> exact ⟨⟨_, rfl⟩, I⟩
theorem ki_mark (I : ss_I r b) (x w : Int32) : ssK (op_mark x w r b t) := by
  unfold op_mark
  (repeat' split) <;> exact ⟨⟨_, rfl⟩, I⟩
theorem ki_towers (I : ss_I r b) (x w : Int32) : ssK (op_towers x w r b t) := by
  unfold op_towers
  (repeat' split) <;> exact ⟨⟨_, rfl⟩, I⟩
theorem ki_most (I : ss_I r b) (x : Int32) : ssK (op_most x r b t) := by
  unfold op_most
  (repeat' split) <;> exact ⟨⟨_, rfl⟩, I⟩
theorem ki_hits (I : ss_I r b) (x w : Int32) : ssK (op_hits x w r b t) := by
  unfold op_hits
  (repeat' split) <;> exact ⟨⟨_, rfl⟩, I⟩
theorem ki_sum (I : ss_I r b) (x w : Int32) : ssK (op_sum x w r b t) := by
  unfold op_sum
  (repeat' split) <;> exact ⟨⟨_, rfl⟩, I⟩
theorem ki_spread (I : ss_I r b) (x w m : Int32) : ssK (op_spread x w m r b t) := by
  unfold op_spread
  (repeat' split) <;> exact ⟨⟨_, rfl⟩, I⟩
theorem ki_findings (I : ss_I r b) (x : Int32) : ssK (op_findings x r b t) := by
  unfold op_findings
  (repeat' split) <;> exact ⟨⟨_, rfl⟩, I⟩
theorem ki_root (I : ss_I r b) (x i : Int32) : ssK (op_root x i r b t) := by
  unfold op_root
  (repeat' split) <;> exact ⟨⟨_, rfl⟩, I⟩
theorem ki_mean (I : ss_I r b) (x : Int32) : ssK (op_mean x r b t) := by
  unfold op_mean
  (repeat' split) <;> exact ⟨⟨_, rfl⟩, I⟩
theorem ki_alike (I : ss_I r b) (x y : Int32) : ssK (op_alike x y r b t) := by
  unfold op_alike
  (repeat' split) <;> exact ⟨⟨_, rfl⟩, I⟩
theorem ki_meanHits (I : ss_I r b) (x : Int32) : ssK (op_meanHits x r b t) := by
  unfold op_meanHits
  (repeat' split) <;> exact ⟨⟨_, rfl⟩, I⟩
theorem ki_need (I : ss_I r b) (x i j : Int32) : ssK (op_need x i j r b t) := by
  unfold op_need
  (repeat' split) <;> exact ⟨⟨_, rfl⟩, I⟩
theorem ki_slants (I : ss_I r b) (x w : Int32) : ssK (op_slants x w r b t) := by
  unfold op_slants
  (repeat' split) <;> exact ⟨⟨_, rfl⟩, I⟩
theorem ki_count (I : ss_I r b) (x : Int32) : ssK (op_count x r b t) := by
  unfold op_count
  (repeat' split) <;> exact ⟨⟨_, rfl⟩, I⟩
theorem ki_cover (I : ss_I r b) (x : Int32) : ssK (op_cover x r b t) := by
  unfold op_cover
  (repeat' split) <;> exact ⟨⟨_, rfl⟩, I⟩
theorem ki_rounds (I : ss_I r b) (x w v : Int32) : ssK (op_rounds x w v r b t) := by
  unfold op_rounds
  (repeat' split) <;> exact ⟨⟨_, rfl⟩, I⟩
theorem ki_longRings (I : ss_I r b) (x w : Int32) : ssK (op_longRings x w r b t) := by
  unfold op_longRings
  (repeat' split) <;> exact ⟨⟨_, rfl⟩, I⟩
theorem ki_std (I : ss_I r b) (x y : Int32) (F : Nat → Nat → ss_A) (hF : ∀ k l, k < 12 → ssK (F k l)) : ssK (op_std x y r b t F) := by
  unfold op_std
  by_cases h1 : ¬ (0 ≤ x ∧ x ≤ 11) ∨ ¬ (0 ≤ y ∧ y ≤ 7)
  · rw [if_pos h1]; exact kk_bad I
  · rw [if_neg h1]
    have h2 : 0 ≤ x ∧ x ≤ 11 := Classical.not_not.mp (fun z => h1 (Or.inl z))
    obtain ⟨k, hk, ek⟩ := nI_of2 (x := x) (M := 11) (n := 11) (by decide) (Int32.not_lt.mpr h2.1) h2.2
    have hk2 : x.toNatClampNeg < 12 := by rw [ek, nI_clamp (by omega)]; omega
    (repeat' split) <;> first | exact kk_no I _ | exact hF _ _ hk2
theorem ki_wts (I : ss_I r b) (x y : Int32) (F : Nat → Nat → ss_A) (hF : ∀ k l, ssK (F k l)) : ssK (op_wts x y r b t F) := by
  unfold op_wts
  (repeat' split) <;> first | exact kk_bad I | exact kk_no I _ | exact hF _ _
theorem ki_rank (I : ss_I r b) (x y : Int32) : ssK (op_rank x y r b t) := ki_std I x y _ (fun _ _ _ => ⟨⟨_, rfl⟩, I⟩)
theorem ki_next (I : ss_I r b) (x y : Int32) : ssK (op_next x y r b t) := ki_std I x y _ (fun k l hk => by
  split
  · exact ⟨⟨_, rfl⟩, I⟩
  · exact ⟨⟨_, rfl⟩, ssI_row I (by have := (I.2 k hk).1; omega) _⟩)
theorem ki_ringOf (I : ss_I r b) (x y c : Int32) : ssK (op_ringOf x y c r b t) := ki_std I x y _ (fun k l _ => by
  split
  · exact kk_no I _
  · cases rgA (yb (b.2.1 k) (xs (r.2 l))) (b.2.1 k) c (b.2.1 k) 0 0
    · exact ⟨⟨_, rfl⟩, I⟩
    · exact ⟨⟨_, rfl⟩, I⟩)
theorem ki_least (I : ss_I r b) (x y : Int32) : ssK (op_least x y r b t) := ki_wts I x y _ (fun _ _ => ⟨⟨_, rfl⟩, I⟩)
theorem ki_lack (I : ss_I r b) (x y i j : Int32) : ssK (op_lack x y i j r b t) := ki_wts I x y _ (fun _ _ => by
  split
  · exact kk_no I _
  · exact ⟨⟨_, rfl⟩, I⟩)
theorem ki_row (I : ss_I r b) (x n : Int32) : ssK (op_row x n r b t) := by
  unfold op_row
  by_cases h1 : ¬ (0 ≤ x ∧ x ≤ 7) ∨ 36 < n
  · rw [if_pos h1]; exact kk_bad I
  · rw [if_neg h1]
    by_cases h2 : n < 0
    · rw [if_pos h2]; exact kk_no I _
    · rw [if_neg h2]
      obtain ⟨k, hk, ek⟩ := nI_of2 (x := n) (M := 36) (n := 36) (by decide) h2 (Int32.not_lt.mp (fun z => h1 (Or.inr z)))
      refine ⟨⟨_, rfl⟩, ?_⟩
      subst ek
      exact ssI_row I hk _
theorem ki_drop (I : ss_I r b) (x : Int32) : ssK (op_drop x r b t) := by
  unfold op_drop
  (repeat' split) <;> first | exact ⟨⟨_, rfl⟩, I⟩ | exact ⟨⟨_, rfl⟩, ssI_drop I _⟩
theorem ki_tear (I : ss_I r b) (x : Int32) : ssK (op_tear x r b t) := by
  unfold op_tear
  (repeat' split) <;> first | exact ⟨⟨_, rfl⟩, I⟩ | exact ⟨⟨_, rfl⟩, ssI_tear I _⟩
theorem ki_lay (I : ss_I r b) (x i v : Int32) : ssK (op_lay x i v r b t) := by
  unfold op_lay
  (repeat' split) <;> first | exact ⟨⟨_, rfl⟩, I⟩ | exact ⟨⟨_, rfl⟩, I.1, I.2⟩
theorem ki_copy (I : ss_I r b) (x i y j n : Int32) : ssK (op_copy x i y j n r b t) := by
  unfold op_copy
  (repeat' split) <;> first | exact ⟨⟨_, rfl⟩, I⟩ | exact ⟨⟨_, rfl⟩, I.1, I.2⟩
/-- a number of so many bits -/
def nbt (x : Int32) (w : Nat) : Prop := x.toNatClampNeg < 2 ^ w ∧ x = nI x.toNatClampNeg
theorem nbt_ex {x : Int32} {w : Nat} (h : nbt x w) : ∃ c, c < 2 ^ w ∧ x = nI c := ⟨_, h.1, h.2⟩
theorem nbt_of {c w : Nat} (h : c < 2 ^ w) (hw : w ≤ 6) : nbt (nI c) w := by
  have : 2 ^ w ≤ 2 ^ 6 := Nat.pow_le_pow_right (by decide) hw
  have e : (nI c).toNatClampNeg = c := nI_clamp (by omega)
  unfold nbt
  rw [e]
  exact ⟨h, rfl⟩
theorem q_ot : ∀ w, w < 7 → ∀ c, c < 64 → (((1 : Int32) <<< (nI w &&& 31) - 1) &&& (nI c ^^^ (-1))).toNatClampNeg < 2 ^ w ∧ ((1 : Int32) <<< (nI w &&& 31) - 1) &&& (nI c ^^^ (-1)) = nI (((1 : Int32) <<< (nI w &&& 31) - 1) &&& (nI c ^^^ (-1))).toNatClampNeg := by decide +kernel
theorem q_wo : ∀ w, w < 7 → ∀ j, j < w → ∀ c, c < 2 ^ w → ((nI c &&& ((1 : Int32) <<< (nI j &&& 31) - 1)) ||| ((nI c >>> ((1 : Int32) &&& 31)) &&& (((1 : Int32) <<< (nI j &&& 31) - 1) ^^^ (-1)))).toNatClampNeg < 2 ^ (w - 1) ∧ ((nI c &&& ((1 : Int32) <<< (nI j &&& 31) - 1)) ||| ((nI c >>> ((1 : Int32) &&& 31)) &&& (((1 : Int32) <<< (nI j &&& 31) - 1) ^^^ (-1)))) = nI ((nI c &&& ((1 : Int32) <<< (nI j &&& 31) - 1)) ||| ((nI c >>> ((1 : Int32) &&& 31)) &&& (((1 : Int32) <<< (nI j &&& 31) - 1) ^^^ (-1)))).toNatClampNeg := by decide +kernel
theorem q_ri : ∀ n, n < 7 → ∀ i, i < n → ∀ s, s < 2 ^ n → ((nI s <<< (nI i &&& 31) ||| nI s >>> ((nI n - nI i) &&& 31)) &&& ((1 : Int32) <<< (nI n &&& 31) - 1)).toNatClampNeg < 2 ^ n ∧ (nI s <<< (nI i &&& 31) ||| nI s >>> ((nI n - nI i) &&& 31)) &&& ((1 : Int32) <<< (nI n &&& 31) - 1) = nI ((nI s <<< (nI i &&& 31) ||| nI s >>> ((nI n - nI i) &&& 31)) &&& ((1 : Int32) <<< (nI n &&& 31) - 1)).toNatClampNeg := by decide +kernel
theorem q_jo : ∀ w, w < 7 → ∀ u, u < 7 - w → ∀ c, c < 2 ^ u → (nI c <<< (nI w &&& 31)).toNatClampNeg < 2 ^ (w + u) ∧ nI c <<< (nI w &&& 31) = nI (nI c <<< (nI w &&& 31)).toNatClampNeg := by decide +kernel
theorem q_st : ∀ v, v < 7 → ∀ l, l < v + 1 → ((1 : Int32) <<< (nI l &&& 31) - 1).toNatClampNeg < 2 ^ v ∧ (1 : Int32) <<< (nI l &&& 31) - 1 = nI ((1 : Int32) <<< (nI l &&& 31) - 1).toNatClampNeg := by decide +kernel
theorem q_al : ∀ v, v < 7 → (1 : Int32) <<< (nI v &&& 31) - 1 = nI (2 ^ v - 1) := by decide +kernel
theorem mk_at {G : Nat → Int32} {n i : Nat} (h : i < n) : zf_mk G n i = G i := if_pos h
theorem ki_set (I : ss_I r b) (x i j e : Int32) : ssK (op_set x i j e r b t) := by
  unfold op_set
  by_cases h1 : 0 ≤ x ∧ x ≤ 11
  · rw [if_neg (not_not_intro h1)]
    obtain ⟨k, hk, ek⟩ := nI_of2 (x := x) (M := 11) (n := 11) (by decide) (Int32.not_lt.mpr h1.1) h1.2
    subst ek
    rw [nI_clamp (show k < 2 ^ 31 by omega)]
    by_cases h2 : b.1 k = -1
    · rw [if_pos h2]; exact kk_no I _
    · rw [if_neg h2]
      by_cases h3 : b.1 k = 0
      · rw [if_neg (not_not_intro h3)]
        by_cases h4 : 0 ≤ i ∧ i < nI (b.2.1 k) ∧ 0 ≤ j ∧ j < nI (b.2.2.1 k)
        · rw [if_neg (not_not_intro h4)]
          have hI := I.2 k (by omega)
          obtain ⟨i', j', hi, hj, ei, ej⟩ := place_nat hI.1 hI.2.1 h4
          subst ei ej
          rw [nI_clamp (show i' < 2 ^ 31 by omega)]
          refine ⟨⟨_, rfl⟩, I.1, fun q hq => ?_⟩
          by_cases eq : q = k
          · subst eq
            obtain ⟨a1, a2, a3⟩ := hI
            refine ⟨a1, a2, fun h => ?_⟩
            obtain ⟨a4, a5, a6, a7⟩ := a3 h
            refine ⟨a4, a5, a6, fun m hm => ?_⟩
            show ∃ c, c < 2 ^ b.2.2.1 q ∧ va_up b.2.2.2 q _ q m = nI c
            rw [va_up_self]
            by_cases em : m = i'
            · rw [em, pk_us]
              obtain ⟨c, c1, c2⟩ := a7 i' hi
              have p6 : 2 ^ b.2.2.1 q ≤ 2 ^ 6 := Nat.pow_le_pow_right (by decide) a2
              have pj : 2 ^ j' < 2 ^ 6 := Nat.pow_lt_pow_right (by decide) (by omega)
              have pj2 : 2 ^ j' < 2 ^ b.2.2.1 q := Nat.pow_lt_pow_right (by decide) hj
              rw [c2, zb_1shl j' (by omega)]
              by_cases ee : e = 0
              · rw [if_pos ee, zb_not c (by omega) (2 ^ j') (by omega)]
                exact ⟨_, Nat.lt_of_le_of_lt Nat.and_le_left c1, rfl⟩
              · rw [if_neg ee, fa_or]
                exact ⟨_, Nat.or_lt_two_pow c1 pj2, rfl⟩
            · rw [pk_un em]
              exact a7 m hm
          · have e1 : va_up b.2.2.2 k (upd (b.2.2.2 k) i' (if e = 0 then b.2.2.2 k i' &&& (((1 : Int32) <<< (nI j' &&& 31)) ^^^ (-1)) else b.2.2.2 k i' ||| ((1 : Int32) <<< (nI j' &&& 31)))) q = b.2.2.2 q := va_up_ne _ _ eq
            obtain ⟨a1, a2, a3⟩ := I.2 q hq
            refine ⟨a1, a2, fun h => ?_⟩
            obtain ⟨a4, a5, a6, a7⟩ := a3 h
            refine ⟨a4, a5, a6, fun m hm => ?_⟩
            obtain ⟨c, c1, c2⟩ := a7 m hm
            exact ⟨c, c1, (congrFun e1 m).trans c2⟩
        · rw [if_pos h4]; exact kk_no I _
      · rw [if_pos h3]; exact kk_no I _
  · rw [if_pos h1]; exact kk_bad I
theorem ki_other (I : ss_I r b) (x y : Int32) : ssK (op_other x y r b t) := by
  unfold op_other
  by_cases h1 : ¬ (0 ≤ x ∧ x ≤ 11) ∨ ¬ (0 ≤ y ∧ y ≤ 11)
  · rw [if_pos h1]; exact kk_bad I
  · rw [if_neg h1]
    have h2 : 0 ≤ x ∧ x ≤ 11 := Classical.not_not.mp (fun z => h1 (Or.inl z))
    have h3 : 0 ≤ y ∧ y ≤ 11 := Classical.not_not.mp (fun z => h1 (Or.inr z))
    obtain ⟨k, hk, ek⟩ := nI_of2 (x := x) (M := 11) (n := 11) (by decide) (Int32.not_lt.mpr h2.1) h2.2
    obtain ⟨l, hl, el⟩ := nI_of2 (x := y) (M := 11) (n := 11) (by decide) (Int32.not_lt.mpr h3.1) h3.2
    subst ek el
    rw [nI_clamp (show k < 2 ^ 31 by omega), nI_clamp (show l < 2 ^ 31 by omega)]
    by_cases h4 : b.1 k = -1
    · rw [if_pos h4]; exact kk_no I _
    · rw [if_neg h4]
      obtain ⟨a1, a2, a3⟩ := I.2 k (by omega)
      obtain ⟨a4, a5, a6, a7⟩ := a3 h4
      refine ⟨⟨_, rfl⟩, ssI_put I (by omega) (Or.inl rfl) a5 a1 a6 a2 (fun i hi => ?_)⟩
      obtain ⟨c1, c2, c3⟩ := ss_c_ok I (by omega) h4 hi
      rw [mk_at hi, ot_G, c3]
      exact nbt_ex (q_ot _ (by omega) _ c2)
theorem ki_turn (I : ss_I r b) (x y : Int32) : ssK (op_turn x y r b t) := by
  unfold op_turn
  by_cases h1 : ¬ (0 ≤ x ∧ x ≤ 11) ∨ ¬ (0 ≤ y ∧ y ≤ 11)
  · rw [if_pos h1]; exact kk_bad I
  · rw [if_neg h1]
    have h2 : 0 ≤ x ∧ x ≤ 11 := Classical.not_not.mp (fun z => h1 (Or.inl z))
    have h3 : 0 ≤ y ∧ y ≤ 11 := Classical.not_not.mp (fun z => h1 (Or.inr z))
    obtain ⟨k, hk, ek⟩ := nI_of2 (x := x) (M := 11) (n := 11) (by decide) (Int32.not_lt.mpr h2.1) h2.2
    obtain ⟨l, hl, el⟩ := nI_of2 (x := y) (M := 11) (n := 11) (by decide) (Int32.not_lt.mpr h3.1) h3.2
    subst ek el
    rw [nI_clamp (show k < 2 ^ 31 by omega), nI_clamp (show l < 2 ^ 31 by omega)]
    by_cases h4 : b.1 k = -1
    · rw [if_pos h4]; exact kk_no I _
    · rw [if_neg h4]
      obtain ⟨a1, a2, a3⟩ := I.2 k (by omega)
      obtain ⟨a4, a5, a6, a7⟩ := a3 h4
      refine ⟨⟨_, rfl⟩, ssI_put I (by omega) (Or.inl rfl) a6 a2 a5 a1 (fun i hi => ?_)⟩
      rw [mk_at hi, tu_G]
      exact ⟨_, tuN_lt _ _ _, rfl⟩
theorem ki_without (I : ss_I r b) (x i j y : Int32) : ssK (op_without x i j y r b t) := by
  unfold op_without
  by_cases h1 : ¬ (0 ≤ x ∧ x ≤ 11) ∨ ¬ (0 ≤ y ∧ y ≤ 11)
  · rw [if_pos h1]; exact kk_bad I
  · rw [if_neg h1]
    have h2 : 0 ≤ x ∧ x ≤ 11 := Classical.not_not.mp (fun z => h1 (Or.inl z))
    have h3 : 0 ≤ y ∧ y ≤ 11 := Classical.not_not.mp (fun z => h1 (Or.inr z))
    obtain ⟨k, hk, ek⟩ := nI_of2 (x := x) (M := 11) (n := 11) (by decide) (Int32.not_lt.mpr h2.1) h2.2
    obtain ⟨l, hl, el⟩ := nI_of2 (x := y) (M := 11) (n := 11) (by decide) (Int32.not_lt.mpr h3.1) h3.2
    subst ek el
    rw [nI_clamp (show k < 2 ^ 31 by omega), nI_clamp (show l < 2 ^ 31 by omega)]
    by_cases h4 : b.1 k = -1
    · rw [if_pos h4]; exact kk_no I _
    · rw [if_neg h4]
      by_cases h5 : 0 ≤ i ∧ i < nI (b.2.1 k) ∧ 0 ≤ j ∧ j < nI (b.2.2.1 k)
      · rw [if_neg (not_not_intro h5)]
        by_cases h6 : b.2.1 k = 1 ∨ b.2.2.1 k = 1
        · rw [if_pos h6]; exact kk_no I _
        · rw [if_neg h6]
          obtain ⟨a1, a2, a3⟩ := I.2 k (by omega)
          obtain ⟨a4, a5, a6, a7⟩ := a3 h4
          obtain ⟨i', j', hi', hj', ei, ej⟩ := place_nat a1 a2 h5
          subst ei ej
          have n1 : b.2.1 k ≠ 1 := fun z => h6 (Or.inl z)
          have n2 : b.2.2.1 k ≠ 1 := fun z => h6 (Or.inr z)
          refine ⟨⟨_, rfl⟩, ssI_put I (by omega) (Or.inl rfl) (by omega) (by omega) (by omega) (by omega) (fun m hm => ?_)⟩
          have hcc : ∃ c, c < 2 ^ b.2.2.1 k ∧ wo_c (b.2.2.2 k) (nI i') m = nI c := by
            unfold wo_c
            split
            · exact a7 (m + 1) (by omega)
            · exact a7 m (by omega)
          obtain ⟨c, c1, c2⟩ := hcc
          rw [mk_at hm, wo_G, c2]
          exact nbt_ex (q_wo _ (by omega) j' hj' c c1)
      · rw [if_pos h5]; exact kk_no I _
theorem ki_join (I : ss_I r b) (x y w : Int32) : ssK (op_join x y w r b t) := by
  unfold op_join
  by_cases h1 : ¬ (0 ≤ x ∧ x ≤ 11) ∨ ¬ (0 ≤ y ∧ y ≤ 11) ∨ ¬ (0 ≤ w ∧ w ≤ 11)
  · rw [if_pos h1]; exact kk_bad I
  · rw [if_neg h1]
    have h2 : 0 ≤ x ∧ x ≤ 11 := Classical.not_not.mp (fun z => h1 (Or.inl z))
    have h3 : 0 ≤ y ∧ y ≤ 11 := Classical.not_not.mp (fun z => h1 (Or.inr (Or.inl z)))
    have h3b : 0 ≤ w ∧ w ≤ 11 := Classical.not_not.mp (fun z => h1 (Or.inr (Or.inr z)))
    obtain ⟨k, hk, ek⟩ := nI_of2 (x := x) (M := 11) (n := 11) (by decide) (Int32.not_lt.mpr h2.1) h2.2
    obtain ⟨l, hl, el⟩ := nI_of2 (x := y) (M := 11) (n := 11) (by decide) (Int32.not_lt.mpr h3.1) h3.2
    obtain ⟨q, hq, eq⟩ := nI_of2 (x := w) (M := 11) (n := 11) (by decide) (Int32.not_lt.mpr h3b.1) h3b.2
    subst ek el eq
    rw [nI_clamp (show k < 2 ^ 31 by omega), nI_clamp (show l < 2 ^ 31 by omega), nI_clamp (show q < 2 ^ 31 by omega)]
    by_cases h4 : b.1 k = -1 ∨ b.1 l = -1
    · rw [if_pos h4]; exact kk_no I _
    · rw [if_neg h4]
      by_cases h5 : 6 < b.2.1 k + b.2.1 l ∨ 6 < b.2.2.1 k + b.2.2.1 l
      · rw [if_pos h5]; exact kk_no I _
      · rw [if_neg h5]
        obtain ⟨a1, a2, a3⟩ := I.2 k (by omega)
        obtain ⟨a4, a5, a6, a7⟩ := a3 (fun z => h4 (Or.inl z))
        obtain ⟨b1, b2, b3⟩ := I.2 l (by omega)
        obtain ⟨b4, b5, b6, b7⟩ := b3 (fun z => h4 (Or.inr z))
        refine ⟨⟨_, rfl⟩, ssI_put I (by omega) (Or.inl rfl) (by omega) (by omega) (by omega) (by omega) (fun m hm => ?_)⟩
        rw [mk_at hm, jo_G]
        by_cases h6 : m < b.2.1 k
        · rw [if_pos h6]
          obtain ⟨c, c1, c2⟩ := a7 m h6
          exact ⟨c, Nat.lt_of_lt_of_le c1 (Nat.pow_le_pow_right (by decide) (by omega)), c2⟩
        · rw [if_neg h6]
          obtain ⟨c, c1, c2⟩ := b7 (m - b.2.1 k) (by omega)
          rw [c2]
          exact nbt_ex (q_jo _ (by omega) _ (by omega) c c1)
theorem ki_ring (I : ss_I r b) (x n s : Int32) : ssK (op_ring x n s r b t) := by
  unfold op_ring
  by_cases h1 : ¬ (0 ≤ x ∧ x ≤ 11) ∨ ¬ (1 ≤ n ∧ n ≤ 6) ∨ ¬ (0 ≤ s ∧ s ≤ (1 : Int32) <<< (n &&& 31) - 1)
  · rw [if_pos h1]; exact kk_bad I
  · rw [if_neg h1]
    have h2 : 0 ≤ x ∧ x ≤ 11 := Classical.not_not.mp (fun z => h1 (Or.inl z))
    have h3 : 1 ≤ n ∧ n ≤ 6 := Classical.not_not.mp (fun z => h1 (Or.inr (Or.inl z)))
    have h4 : 0 ≤ s ∧ s ≤ (1 : Int32) <<< (n &&& 31) - 1 := Classical.not_not.mp (fun z => h1 (Or.inr (Or.inr z)))
    obtain ⟨k, hk, ek⟩ := nI_of2 (x := x) (M := 11) (n := 11) (by decide) (Int32.not_lt.mpr h2.1) h2.2
    obtain ⟨q, hq, eq⟩ := nI_of2 (x := n) (M := 6) (n := 6) (by decide) (Int32.not_lt.mpr (Int32.le_trans (by decide) h3.1)) h3.2
    subst ek eq
    have q1 : 1 ≤ q := Classical.not_not.mp (fun z => nI_ge (a := q) (b := 1) (by omega) (by omega) h3.1)
    rw [q_al q (by omega)] at h4
    have p0 : 0 < 2 ^ q := Nat.two_pow_pos q
    have p6 : 2 ^ q ≤ 2 ^ 6 := Nat.pow_le_pow_right (by decide) hq
    obtain ⟨c, hc, ec⟩ := nI_of2 (x := s) (M := nI (2 ^ q - 1)) (n := 2 ^ q - 1) (by rw [nI_toInt (by omega)]) (Int32.not_lt.mpr h4.1) h4.2
    subst ec
    rw [nI_clamp (show k < 2 ^ 31 by omega), nI_clamp (show q < 2 ^ 31 by omega)]
    refine ⟨⟨_, rfl⟩, ssI_put I (by omega) ?_ q1 hq q1 hq (fun i hi => ?_)⟩
    · unfold ring_k
      split
      · exact Or.inr (Or.inr (Or.inr rfl))
      · exact Or.inr (Or.inr (Or.inl rfl))
    · rw [mk_at hi, ring_G]
      exact nbt_ex (q_ri q (by omega) i hi c (by omega))
theorem ki_board (I : ss_I r b) (x v y : Int32) : ssK (op_board x v y r b t) := by
  unfold op_board
  by_cases h1 : ¬ (0 ≤ x ∧ x ≤ 11) ∨ ¬ (1 ≤ v ∧ v ≤ 6) ∨ ¬ (0 ≤ y ∧ y ≤ 7)
  · rw [if_pos h1]; exact kk_bad I
  · rw [if_neg h1]
    have h2 : 0 ≤ x ∧ x ≤ 11 := Classical.not_not.mp (fun z => h1 (Or.inl z))
    have h3 : 1 ≤ v ∧ v ≤ 6 := Classical.not_not.mp (fun z => h1 (Or.inr (Or.inl z)))
    have h4 : 0 ≤ y ∧ y ≤ 7 := Classical.not_not.mp (fun z => h1 (Or.inr (Or.inr z)))
    obtain ⟨k, hk, ek⟩ := nI_of2 (x := x) (M := 11) (n := 11) (by decide) (Int32.not_lt.mpr h2.1) h2.2
    obtain ⟨q, hq, eq⟩ := nI_of2 (x := v) (M := 6) (n := 6) (by decide) (Int32.not_lt.mpr (Int32.le_trans (by decide) h3.1)) h3.2
    obtain ⟨l, hl, el⟩ := nI_of2 (x := y) (M := 7) (n := 7) (by decide) (Int32.not_lt.mpr h4.1) h4.2
    subst ek eq el
    have q1 : 1 ≤ q := Classical.not_not.mp (fun z => nI_ge (a := q) (b := 1) (by omega) (by omega) h3.1)
    have p0 : 0 < 2 ^ q := Nat.two_pow_pos q
    have p6 : 2 ^ q ≤ 2 ^ 6 := Nat.pow_le_pow_right (by decide) hq
    rw [nI_clamp (show k < 2 ^ 31 by omega), nI_clamp (show q < 2 ^ 31 by omega), nI_clamp (show l < 2 ^ 31 by omega), q_al q (by omega)]
    by_cases h5 : r.1 l = -1
    · rw [if_pos h5]; exact kk_no I _
    · rw [if_neg h5]
      by_cases h6 : 1 ≤ r.1 l ∧ r.1 l ≤ 6
      · rw [if_neg (not_not_intro h6)]
        obtain ⟨m, hm, em⟩ := nI_of2 (x := r.1 l) (M := 6) (n := 6) (by decide) (Int32.not_lt.mpr (Int32.le_trans (by decide) h6.1)) h6.2
        rw [em] at h6
        have m1 : 1 ≤ m := Classical.not_not.mp (fun z => nI_ge (a := m) (b := 1) (by omega) (by omega) h6.1)
        rw [em, nI_clamp (show m < 2 ^ 31 by omega)]
        by_cases h7 : ∀ j, j < m → 0 ≤ r.2 l j ∧ r.2 l j ≤ nI (2 ^ q - 1)
        · rw [if_neg (not_not_intro h7)]
          refine ⟨⟨_, rfl⟩, ssI_put I (by omega) (Or.inl rfl) m1 hm q1 hq (fun i hi => ?_)⟩
          rw [mk_at hi, board_G]
          obtain ⟨c, hc, ec⟩ := nI_of2 (x := r.2 l i) (M := nI (2 ^ q - 1)) (n := 2 ^ q - 1) (by rw [nI_toInt (by omega)]) (Int32.not_lt.mpr (h7 i hi).1) (h7 i hi).2
          exact ⟨c, by omega, ec⟩
        · rw [if_pos h7]; exact kk_no I _
      · rw [if_pos h6]; exact kk_no I _
theorem ki_stairs (I : ss_I r b) (x v y : Int32) : ssK (op_stairs x v y r b t) := by
  unfold op_stairs
  by_cases h1 : ¬ (0 ≤ x ∧ x ≤ 11) ∨ ¬ (1 ≤ v ∧ v ≤ 6) ∨ ¬ (0 ≤ y ∧ y ≤ 7)
  · rw [if_pos h1]; exact kk_bad I
  · rw [if_neg h1]
    have h2 : 0 ≤ x ∧ x ≤ 11 := Classical.not_not.mp (fun z => h1 (Or.inl z))
    have h3 : 1 ≤ v ∧ v ≤ 6 := Classical.not_not.mp (fun z => h1 (Or.inr (Or.inl z)))
    have h4 : 0 ≤ y ∧ y ≤ 7 := Classical.not_not.mp (fun z => h1 (Or.inr (Or.inr z)))
    obtain ⟨k, hk, ek⟩ := nI_of2 (x := x) (M := 11) (n := 11) (by decide) (Int32.not_lt.mpr h2.1) h2.2
    obtain ⟨q, hq, eq⟩ := nI_of2 (x := v) (M := 6) (n := 6) (by decide) (Int32.not_lt.mpr (Int32.le_trans (by decide) h3.1)) h3.2
    obtain ⟨l, hl, el⟩ := nI_of2 (x := y) (M := 7) (n := 7) (by decide) (Int32.not_lt.mpr h4.1) h4.2
    subst ek eq el
    have q1 : 1 ≤ q := Classical.not_not.mp (fun z => nI_ge (a := q) (b := 1) (by omega) (by omega) h3.1)
    rw [nI_clamp (show k < 2 ^ 31 by omega), nI_clamp (show q < 2 ^ 31 by omega), nI_clamp (show l < 2 ^ 31 by omega)]
    by_cases h5 : r.1 l = -1
    · rw [if_pos h5]; exact kk_no I _
    · rw [if_neg h5]
      by_cases h6 : 1 ≤ r.1 l ∧ r.1 l ≤ 6
      · rw [if_neg (not_not_intro h6)]
        obtain ⟨m, hm, em⟩ := nI_of2 (x := r.1 l) (M := 6) (n := 6) (by decide) (Int32.not_lt.mpr (Int32.le_trans (by decide) h6.1)) h6.2
        rw [em] at h6
        have m1 : 1 ≤ m := Classical.not_not.mp (fun z => nI_ge (a := m) (b := 1) (by omega) (by omega) h6.1)
        rw [em, nI_clamp (show m < 2 ^ 31 by omega)]
        split
        · exact kk_no I _
        · rename_i h7
          have h8 : ∀ j, j < m → 0 ≤ r.2 l j ∧ r.2 l j ≤ nI q := Classical.not_not.mp (fun z => h7 (Or.inl z))
          refine ⟨⟨_, rfl⟩, ssI_put I (by omega) (Or.inr (Or.inl rfl)) m1 hm q1 hq (fun i hi => ?_)⟩
          rw [mk_at hi, stairs_G]
          obtain ⟨c, hc, ec⟩ := nI_of2 (x := r.2 l i) (M := nI q) (n := q) (by rw [nI_toInt (by omega)]) (Int32.not_lt.mpr (h8 i hi).1) (h8 i hi).2
          rw [ec]
          exact nbt_ex (q_st q (by omega) c (by omega))
      · rw [if_pos h6]; exact kk_no I _
theorem ki_stand (I : ss_I r b) (x k p y : Int32) : ssK (op_stand x k p y r b t) := by
  unfold op_stand
  by_cases h1 : ¬ (0 ≤ x ∧ x ≤ 11) ∨ ¬ (0 ≤ k ∧ k ≤ 36) ∨ p < 0 ∨ ¬ (0 ≤ y ∧ y ≤ 7)
  · rw [if_pos h1]; exact kk_bad I
  · rw [if_neg h1]
    have h2 : 0 ≤ x ∧ x ≤ 11 := Classical.not_not.mp (fun z => h1 (Or.inl z))
    obtain ⟨q, hq, eq⟩ := nI_of2 (x := x) (M := 11) (n := 11) (by decide) (Int32.not_lt.mpr h2.1) h2.2
    have hk2 : x.toNatClampNeg < 12 := by rw [eq, nI_clamp (by omega)]; omega
    have := (I.2 _ hk2).1
    (repeat' split) <;> first | exact kk_no I _ | exact ⟨⟨_, rfl⟩, ssI_row I (by omega) _⟩
theorem ki_stairsLike (I : ss_I r b) (x y : Int32) : ssK (op_stairsLike x y r b t) := by
  unfold op_stairsLike
  by_cases h1 : ¬ (0 ≤ x ∧ x ≤ 11) ∨ ¬ (0 ≤ y ∧ y ≤ 7)
  · rw [if_pos h1]; exact kk_bad I
  · rw [if_neg h1]
    have h2 : 0 ≤ x ∧ x ≤ 11 := Classical.not_not.mp (fun z => h1 (Or.inl z))
    obtain ⟨q, hq, eq⟩ := nI_of2 (x := x) (M := 11) (n := 11) (by decide) (Int32.not_lt.mpr h2.1) h2.2
    have hk2 : x.toNatClampNeg < 12 := by rw [eq, nI_clamp (by omega)]; omega
    have := (ss_sdd I hk2).1
    by_cases h3 : b.1 x.toNatClampNeg = -1
    · rw [if_pos h3]; exact kk_no I _
    · rw [if_neg h3]
      refine ⟨⟨_, rfl⟩, ?_⟩
      show ss_I (sR r y.toNatClampNeg (ss_side b x.toNatClampNeg) (st_A b x.toNatClampNeg)) b
      unfold sR
      split
      · exact I
      · exact ssI_row I (by omega) _
end KI
