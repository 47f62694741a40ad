/-! the class's stand, rank, next -/
def xs (pr : Nat → Int32) (q : Nat) : Nat := if pr q = -9 then 9 else (pr q).toNatClampNeg
/-- what a row that tells a stand is like -/
theorem std_ok {pb pr : Nat → Int32} {c : Nat → Nat} {h w : Nat} (hw : w ≤ 6) (hc : ∀ i, i < h → c i < 2 ^ w ∧ pb i = nI (c i)) : ∀ q t, q ≤ h → zf_std pb pr h w q = some t → t = nI (fA (xs pr) q) ∧ fA (xs pr) q < 64 ∧ (∀ i, i < q → (xs pr i = 9 ∧ pr i = -9) ∨ (xs pr i < w ∧ pr i = nI (xs pr i) ∧ (c i).testBit (xs pr i) = true ∧ (fA (xs pr) i).testBit (xs pr i) = false)) ∧ bc (fA (xs pr) q) = fb_ct (fun i => decide (¬ xs pr i = 9)) q
  | 0, t, _, e => by
    rw [zf_std] at e
    cases e
    exact ⟨rfl, by show 0 < 64; decide, fun i hi => by omega, by show bc 0 = 0; decide⟩
  | q + 1, t, hq, e => by
    rw [zf_std] at e
    cases h1 : zf_std pb pr h w q with
    | none => rw [h1] at e; cases e
    | some u =>
      rw [h1] at e
      obtain ⟨r1, r2, r3, r4⟩ := std_ok hw hc q u (by omega) h1
      by_cases e1 : pr q = -9
      · simp only [e1, ↓reduceIte] at e
        cases e
        have x9 : xs pr q = 9 := if_pos e1
        have hf : fA (xs pr) (q + 1) = fA (xs pr) q := if_pos x9
        rw [hf]
        refine ⟨r1, r2, fun i hi => ?_, ?_⟩
        · by_cases ei : i = q
          · rw [ei]; exact Or.inl ⟨x9, e1⟩
          · exact r3 i (by omega)
        · rw [fb_ct_succ, if_neg (by simp [x9]), Nat.add_zero]; exact r4
      · simp only [e1, ↓reduceIte] at e
        by_cases e2 : ((0 ≤ pr q ∧ pr q < nI w) ∧ ¬ pb q &&& ((1 : Int32) <<< (pr q &&& 31)) = 0) ∧ u &&& ((1 : Int32) <<< (pr q &&& 31)) = 0
        · rw [if_pos e2] at e
          obtain ⟨j, j1, j2⟩ := zi_nat (n := w) (by omega) e2.1.1.1 e2.1.1.2
          have xj : xs pr q = j := by
            unfold xs
            rw [if_neg e1, j2, nI_clamp (by omega)]
          rw [j2, r1, (hc q (by omega)).2] at e2
          have b1 : (c q).testBit j = true := by
            have := e2.1.2
            rw [cell_bit (by omega)] at this
            simpa using this
          have b2 : (fA (xs pr) q).testBit j = false := (cell_bit (by omega)).mp e2.2
          have hf : fA (xs pr) (q + 1) = fA (xs pr) q ||| 2 ^ j := by
            rw [fA, xj, if_neg (by omega)]
          cases e
          rw [hf, r1, j2, zb_1shl j (by omega), fa_or]
          refine ⟨rfl, zb_or_lt r2 (by omega), fun i hi => ?_, ?_⟩
          · by_cases ei : i = q
            · rw [ei, xj]; exact Or.inr ⟨j1, j2, b1, b2⟩
            · exact r3 i (by omega)
          · rw [bc_or _ r2 j (by omega) b2, fb_ct_succ, if_pos (by rw [xj]; simp; omega), r4]
        · rw [if_neg e2] at e
          cases e
theorem zf_ct_xs {pr : Nat → Int32} {h : Nat} (hx : ∀ i, i < h → (xs pr i = 9 ∧ pr i = -9) ∨ (xs pr i < 9 ∧ ¬ pr i = -9)) : ∀ q, q ≤ h → zf_ct pr q = fb_ct (fun i => decide (¬ xs pr i = 9)) q
  | 0, _ => rfl
  | q + 1, hq => by
    rw [zf_ct, fb_ct_succ, zf_ct_xs hx q (by omega)]
    rcases hx q (by omega) with z | z
    · rw [if_pos z.2, if_neg (by simp [z.1])]
    · rw [if_neg z.2, if_pos (by simp; omega)]
theorem od_num_ok {c : Nat → Nat} {w h K : Nat} {pb pr W : Nat → Int32} (hw : w ≤ 6) (hh : h ≤ 6) (hc : ∀ i, i < h → c i < 2 ^ w ∧ pb i = nI (c i)) (hW : ∀ q, q ≤ h → ∀ t, t < 64 → W (q * 64 + t) = nI (oE c w h K q t)) (hx : ∀ i, i < h → (xs pr i = 9 ∧ pr i = -9) ∨ (xs pr i < w ∧ pr i = nI (xs pr i) ∧ (c i).testBit (xs pr i) = true ∧ (fA (xs pr) i).testBit (xs pr i) = false)) (hK : K = fb_ct (fun i => decide (¬ xs pr i = 9)) h) (hb : ∀ q, q ≤ h → fA (xs pr) q < 64 ∧ bc (fA (xs pr) q) = fb_ct (fun i => decide (¬ xs pr i = 9)) q) : ∀ m i, i + m = h → od_num W pb pr m i (nI (kR c w h (xs pr) K i)) (fA (xs pr) i) = nI (kR c w h (xs pr) K h)
  | 0, i, e => by
    have e' : i = h := by omega
    subst e'
    rfl
  | m + 1, i, e => by
    have ih := od_num_ok hw hh hc hW hx hK hb m (i + 1) (by omega)
    obtain ⟨s64, sb⟩ := hb i (by omega)
    have hmo := fb_ct_mono (fun i => decide (¬ xs pr i = 9)) (show i ≤ h by omega)
    have hbK : bc (fA (xs pr) i) ≤ K := by omega
    have hkL : kL (xs pr) K i = K - bc (fA (xs pr) i) := by unfold kL; omega
    have h64 := mz_c64 hw (hc i (by omega)).1
    have hca := fun n (hn : n ≤ 6) => od_ca_ok (c := c) (w := w) (h := h) (K := K) (i := i) (s := fA (xs pr) i) (W := W) h64 s64 (hW (i + 1) (by omega)) n 0 0 (by omega) rfl
    have hk : kR c w h (xs pr) K (i + 1) = kR c w h (xs pr) K i + fb_sm (oT c w h K i (fA (xs pr) i)) (if xs pr i = 9 then w else xs pr i) := by
      rw [kR, hkL]
      congr 1
      refine fb_sm_cong (fun j hj => oT_eq s64 ?_ hbK)
      rcases hx i (by omega) with z | z
      · rw [if_pos z.1] at hj; omega
      · rw [if_neg (by omega)] at hj; omega
    rw [od_num, (hc i (by omega)).2]
    rcases hx i (by omega) with z | z
    · have z2 : ¬ (0 ≤ pr i ∧ pr i ≤ 5) := by rw [z.2]; decide
      have hf : fA (xs pr) (i + 1) = fA (xs pr) i := if_pos z.1
      have cut : fb_sm (oT c w h K i (fA (xs pr) i)) 6 = fb_sm (oT c w h K i (fA (xs pr) i)) w := fb_sm_cut hw (fun j hj _ => by
        have : (c i).testBit j = false := Nat.testBit_lt_two_pow (Nat.lt_of_lt_of_le (hc i (by omega)).1 (Nat.pow_le_pow_right (by omega) hj))
        unfold oT
        rw [this]
        exact if_neg (by simp))
      have h6 := hca 6 (by omega)
      rw [show nI 0 = 0 from rfl, Nat.zero_add] at h6
      rw [if_neg z2, h6, nI_add, cut, ← ih, hk, hf, if_pos z.1]
    · have z2 : 0 ≤ pr i ∧ pr i ≤ 5 := by
        rw [z.2.1]
        exact ⟨nI_pos' (by omega), nI_le (b := 5) (by omega) (by omega)⟩
      have hf : fA (xs pr) (i + 1) = fA (xs pr) i ||| 2 ^ xs pr i := if_neg (by omega)
      have z3 : (pr i).toNatClampNeg = xs pr i := by rw [z.2.1, nI_clamp (by omega)]
      have h6 := hca (xs pr i) (by omega)
      rw [show nI 0 = 0 from rfl, Nat.zero_add] at h6
      rw [if_pos z2, z3, h6, nI_add, ← ih, hk, hf, if_neg (by omega)]
def st_P (r : ss_R) (y h : Nat) (L : List Nat) : Nat → Int32 := fun q => if q < h then nC (L.getD q 9) else zf_fill (r.2 y) 0 36 q
def op_stand (x k p y : Int32) (r : ss_R) (b : ss_B) (t : ss_T) : ss_A := if ¬ (0 ≤ x ∧ x ≤ 11) ∨ ¬ (0 ≤ k ∧ k ≤ 36) ∨ p < 0 ∨ ¬ (0 ≤ y ∧ y ≤ 7) then ss_bad r b t else if b.1 x.toNatClampNeg = -1 then ss_no r b t 1 else if ¬ p.toNatClampNeg < tO (ss_c b x.toNatClampNeg) (b.2.2.1 x.toNatClampNeg) (b.2.1 x.toNatClampNeg) 0 0 k.toNatClampNeg then ss_no r b t 2 else (.int 1, (va_up r.1 y.toNatClampNeg (nI (b.2.1 x.toNatClampNeg)), va_up r.2 y.toNatClampNeg (st_P r y.toNatClampNeg (b.2.1 x.toNatClampNeg) (yR (ss_c b x.toNatClampNeg) (b.2.2.1 x.toNatClampNeg) (b.2.1 x.toNatClampNeg) 0 0 k.toNatClampNeg p.toNatClampNeg))), b, t)
/-- the number of a stand that a row tells -/
def rk_n (r : ss_R) (b : ss_B) (k l : Nat) : Nat := kR (ss_c b k) (b.2.2.1 k) (b.2.1 k) (xs (r.2 l)) (fb_ct (fun i => decide (¬ xs (r.2 l) i = 9)) (b.2.1 k)) (b.2.1 k)
def rk_all (r : ss_R) (b : ss_B) (k l : Nat) : Nat := tO (ss_c b k) (b.2.2.1 k) (b.2.1 k) 0 0 (fb_ct (fun i => decide (¬ xs (r.2 l) i = 9)) (b.2.1 k))
def op_std (x y : Int32) (r : ss_R) (b : ss_B) (t : ss_T) (F : Nat → Nat → ss_A) : ss_A := if ¬ (0 ≤ x ∧ x ≤ 11) ∨ ¬ (0 ≤ y ∧ y ≤ 7) then ss_bad r b t else if b.1 x.toNatClampNeg = -1 ∨ r.1 y.toNatClampNeg = -1 then ss_no r b t 1 else if ¬ r.1 y.toNatClampNeg = nI (b.2.1 x.toNatClampNeg) then ss_no r b t 5 else if zf_std (b.2.2.2 x.toNatClampNeg) (r.2 y.toNatClampNeg) (b.2.1 x.toNatClampNeg) (b.2.2.1 x.toNatClampNeg) (b.2.1 x.toNatClampNeg) = none then ss_no r b t 3 else F x.toNatClampNeg y.toNatClampNeg
def op_rank (x y : Int32) (r : ss_R) (b : ss_B) (t : ss_T) : ss_A := op_std x y r b t (fun k l => (.int (nI (rk_n r b k l)), r, b, t))
def op_next (x y : Int32) (r : ss_R) (b : ss_B) (t : ss_T) : ss_A := op_std x y r b t (fun k l => if ¬ rk_n r b k l + 1 < rk_all r b k l then (.int (-9), r, b, t) else (.int 1, (va_up r.1 l (nI (b.2.1 k)), va_up r.2 l (st_P r l (b.2.1 k) (yR (ss_c b k) (b.2.2.1 k) (b.2.1 k) 0 0 (fb_ct (fun i => decide (¬ xs (r.2 l) i = 9)) (b.2.1 k)) (rk_n r b k l + 1)))), b, t))
theorem fb_sm_T_lt (c : Nat → Nat) {w h : Nat} (hw : w ≤ 6) (hh : h ≤ 6) (K i s : Nat) {n : Nat} (hn : n ≤ 6) : fb_sm (oT c w h K i s) n ≤ 6 * 2 ^ 20 := by
  have hb : fb_sm (oT c w h K i s) n ≤ n * 2 ^ 20 := fb_sm_bound (fun t _ => Nat.le_of_lt (oT_lt c hw hh K i s t))
  exact Nat.le_trans hb (Nat.mul_le_mul_right _ hn)
theorem kR_lt (c : Nat → Nat) {w h : Nat} (hw : w ≤ 6) (hh : h ≤ 6) (x : Nat → Nat) (l : Nat) : ∀ q, q ≤ h → (∀ i, i < q → x i = 9 ∨ x i < 6) → kR c w h x l q ≤ q * (6 * 2 ^ 20)
  | 0, _, _ => Nat.le_refl _
  | q + 1, hq, hx => by
    have ih := kR_lt c hw hh x l q (by omega) (fun i hi => hx i (by omega))
    have hen : (if x q = 9 then w else x q) ≤ 6 := by
      rcases hx q (by omega) with z | z
      · rw [if_pos z]; exact hw
      · rw [if_neg (by omega)]; omega
    have hb : fb_sm (fun j => if (decide (0 < kL x l q) && ((c q).testBit j && !(fA x q).testBit j)) = true then tO c w (h - (q + 1)) (q + 1) (fA x q ||| 2 ^ j) (kL x l q - 1) else 0) (if x q = 9 then w else x q) ≤ (if x q = 9 then w else x q) * 2 ^ 20 := fb_sm_bound (fun j _ => by
      show (if (decide (0 < kL x l q) && ((c q).testBit j && !(fA x q).testBit j)) = true then tO c w (h - (q + 1)) (q + 1) (fA x q ||| 2 ^ j) (kL x l q - 1) else 0) ≤ 2 ^ 20
      split
      · exact Nat.le_of_lt (tO_lt c hw (by omega) _ _ _)
      · exact Nat.zero_le _)
    have hb2 : (if x q = 9 then w else x q) * 2 ^ 20 ≤ 6 * 2 ^ 20 := Nat.mul_le_mul_right _ hen
    rw [kR, Nat.add_mul, Nat.one_mul]
    omega
section TB20
variable (X : qm_X) (d N S : Nat)
variable {z : Nat} {g f : Nat → qm_C} {r : ss_R} {b : ss_B} {t : ss_T}
theorem tk_12 (h : TBk z g r b t f) : f (z + 12) = .inr (6, [.ref (z + 13)]) := h.1 12 (by omega)
/-- the endings for K towers on board k -/
theorem tb_prep (h : TBk z g r b t f) (I : ss_I r b) {k : Nat} (hk : k < 12) (h2 : ¬ b.1 k = -1) {K : Nat} (hK : K < 2 ^ 31) : ∃ W : Nat → Int32, qm_ex qm_M X (d + 2) 53 [.ref (z + 12), .ref (z + 42 + 2 * k), .int (nI K)] (N, S, f) = some (none, (N, S, va_up f (z + 13) (.inl (0, 448, .inl W)))) ∧ TBk z g r b t (va_up f (z + 13) (.inl (0, 448, .inl W))) ∧ ∀ q, q ≤ b.2.1 k → ∀ u, u < 64 → W (q * 64 + u) = nI (oE (ss_c b k) (b.2.2.1 k) (b.2.1 k) K q u) := by
  obtain ⟨v, hv⟩ := h.1 13 (by omega)
  have hI := I.2 k hk
  have e := od_prepare X d N S f v (nI K) hI.1 (by omega) (by omega) (by omega) (tk_12 h) hv (tk_brd h hk) (tk_cl h hk)
  exact ⟨_, e, tk_s 13 h (by omega) ⟨_, rfl⟩, od_ok hI.2.1 hK (fun i hi => ⟨(ss_c_ok I hk h2 hi).1, (ss_c_ok I hk h2 hi).2.2⟩) v⟩
/-- a stand is written into row l -/
theorem tb_write (h : TBk z g r b t f) (I : ss_I r b) {k l : Nat} (hk : k < 12) (hl : l < 8) (h2 : ¬ b.1 k = -1) {K p : Nat} {W : Nat → Int32} (hp : p < 2 ^ 31) (h13 : f (z + 13) = .inl (0, 448, .inl W)) (hW : ∀ q, q ≤ b.2.1 k → ∀ u, u < 64 → W (q * 64 + u) = nI (oE (ss_c b k) (b.2.2.1 k) (b.2.1 k) K q u)) : ∃ f', qm_ex qm_M X (d + 3) 57 [.ref (z + 12), .ref (z + 26 + 2 * l), .ref (z + 42 + 2 * k), .int (nI p)] (N, S, f) = some (none, (N, S, f')) ∧ TBk z g (va_up r.1 l (nI (b.2.1 k)), va_up r.2 l (st_P r l (b.2.1 k) (yR (ss_c b k) (b.2.2.1 k) (b.2.1 k) 0 0 K p))) b t f' := by
  have hI := I.2 k hk
  have e := od_writeTo X d N S f (nI p) (r.1 l) (r.2 l) (a := z + 12) (qe := z + 13) (b := z + 42 + 2 * k) (qb := z + 43 + 2 * k) (ar := z + 26 + 2 * l) (qr := z + 27 + 2 * l) hI.1 (by omega) (by omega) (by omega) (by omega) (by omega) (by omega) (by omega) (by omega) (by omega) (by omega) (tk_12 h) h13 (tk_brd h hk) (tk_cl h hk) (tk_row h hl) (tk_pl h hl)
  refine ⟨_, e, ?_⟩
  have e2 : od_wr W (b.2.2.2 k) (b.2.1 k) 0 (nI p) 0 (zf_fill (r.2 l) 0 36) = st_P r l (b.2.1 k) (yR (ss_c b k) (b.2.2.1 k) (b.2.1 k) 0 0 K p) := by
    funext q
    have hb0 : bc 0 = 0 := by decide
    have := od_wr_ok (c := ss_c b k) (w := b.2.2.1 k) (h := b.2.1 k) (K := K) (pb := b.2.2.2 k) (W := W) hI.2.1 hI.1 (fun i hi => ⟨(ss_c_ok I hk h2 hi).1, (ss_c_ok I hk h2 hi).2.2⟩) hW (b.2.1 k) 0 0 p (zf_fill (r.2 l) 0 36) (by omega) (by omega) (by omega) hp q
    rw [this, hb0]
    unfold st_P
    simp only [Nat.zero_le, true_and, Nat.sub_zero]
  rw [e2]
  exact tk_rp l _ hl (tk_rs l _ hl h)
theorem tb_stand (h : TBk z g r b t f) (I : ss_I r b) (x k p y : Int32) : TBo X N S (d + 4) z g 98 [.ref z, .int x, .int k, .int p, .int y] f (op_stand x k p y r b t) := by
  have h0 := tk_0 h
  rw [op_stand]
  by_cases h1 : 0 ≤ x ∧ x ≤ 11
  · by_cases h2 : 0 ≤ k ∧ k ≤ 36
    · by_cases h3 : p < 0
      · rw [if_pos (Or.inr (Or.inr (Or.inl h3)))]
        refine ⟨f, ?_, h⟩
        simp only [ke_98, kk_98_0, kk_98_29, kk_98_31, kk_98_49, kk_98_76, kl_98_0, kl_98_29, kl_98_31, kl_98_49, kl_98_76, ge_iconst, ge_lconst, ge_null, ge_iload, ge_lload, ge_aload, ge_istore, ge_lstore, ge_astore, ge_astoreN, ge_iinc, ge_iadd, ge_isub, ge_imul, ge_iand, ge_ior, ge_ixor, ge_ishl, ge_ishr, ge_iushr, ge_ladd, ge_lsub, ge_lmul, ge_lcmp, ge_idiv, ge_irem, ge_ldiv, ge_ineg, ge_i2l, ge_l2i, ge_lneg, ge_dupI, ge_dupR, ge_popI, ge_dup2, ge_goto, ge_if_eq, ge_if_ne, ge_if_lt, ge_if_ge, ge_if_gt, ge_if_le, ge_ic_eq, ge_ic_ne, ge_ic_lt, ge_ic_ge, ge_ic_gt, ge_ic_le, ge_ifnullN, ge_ifnullR, ge_ifnnN, ge_ifnnR, ge_switch, ge_getf, ge_putfI, ge_putfL, ge_putfR, ge_iald, ge_lald, ge_aald, ge_iast, ge_last, ge_aast, ge_alen, ge_new, ge_newI, ge_newL, ge_newQ, ge_oi, ge_copy, ge_max, ge_is0, ge_is1, ge_iv1, ge_is2, ge_iv2, ge_is3, ge_iv3, ge_is4, ge_iv4, ge_is5, ge_iv5, ge_iv6, ge_ret, ge_iret, ge_zret, ge_lret, ge_aretR, ge_aretN, ge_ld0, ge_lds, ge_sum0, ge_sumI, ge_sumL, ge_sumR, ge_sumN, ge_st0, ge_st1, ge_st2, ge_su0, ge_su1, ge_su2, ge_ap1, ge_ap0, qm_gf, qm_pf, qm_ia, qm_is, qm_la, qm_ls, qm_aa, qm_al, qm_isK, qm_kv, qm_cp, List.getElem?_cons_zero, List.getElem?_cons_succ, List.length_cons, List.length_nil, List.set_cons_zero, List.set_cons_succ, decide_true, if_true, if_false, eq_self, and_true, true_and, or_true, true_or, and_false, false_and, or_false, false_or, ↓reduceIte, Nat.reduceLT, Nat.reduceLeDiff, Nat.reduceAdd, Nat.zero_lt_succ, zi_eq0, zi_01, zi_eq1, zi_or, Nat.reduceEqDiff, not_true_eq_false, not_false_eq_true, va_up_self, zi_0ne1, zi_1ne0, tb_isBoardNumber, tb_isWithin, tb_isRowNumber, h1, h2, h3, ss_bad]
      · by_cases h4 : 0 ≤ y ∧ y ≤ 7
        · rw [if_neg (not_or.mpr ⟨not_not_intro h1, not_or.mpr ⟨not_not_intro h2, not_or.mpr ⟨h3, not_not_intro h4⟩⟩⟩)]
          obtain ⟨k1, hk1, ek⟩ := nI_of2 (x := x) (M := 11) (n := 11) (by decide) (Int32.not_lt.mpr h1.1) h1.2
          obtain ⟨K, hK, eK⟩ := nI_of2 (x := k) (M := 36) (n := 36) (by decide) (Int32.not_lt.mpr h2.1) h2.2
          obtain ⟨l, hl, el⟩ := nI_of2 (x := y) (M := 7) (n := 7) (by decide) (Int32.not_lt.mpr h4.1) h4.2
          obtain ⟨P, hP, eP⟩ := nI_of h3
          subst ek eK el eP
          rw [nI_clamp (show k1 < 2 ^ 31 by omega), nI_clamp (show K < 2 ^ 31 by omega), nI_clamp (show l < 2 ^ 31 by omega), nI_clamp hP]
          have hat := tb_boardAt X d N S h (k := k1) (by omega)
          by_cases h5 : b.1 k1 = -1
          · rw [if_pos h5]
            obtain ⟨f1, e1, kk1⟩ := tb_refused X (d + 2) N S h 1 (by decide)
            refine ⟨f1, ?_, kk1⟩
            simp only [ke_98, kk_98_0, kk_98_29, kk_98_31, kk_98_49, kk_98_76, kl_98_0, kl_98_29, kl_98_31, kl_98_49, kl_98_76, ge_iconst, ge_lconst, ge_null, ge_iload, ge_lload, ge_aload, ge_istore, ge_lstore, ge_astore, ge_astoreN, ge_iinc, ge_iadd, ge_isub, ge_imul, ge_iand, ge_ior, ge_ixor, ge_ishl, ge_ishr, ge_iushr, ge_ladd, ge_lsub, ge_lmul, ge_lcmp, ge_idiv, ge_irem, ge_ldiv, ge_ineg, ge_i2l, ge_l2i, ge_lneg, ge_dupI, ge_dupR, ge_popI, ge_dup2, ge_goto, ge_if_eq, ge_if_ne, ge_if_lt, ge_if_ge, ge_if_gt, ge_if_le, ge_ic_eq, ge_ic_ne, ge_ic_lt, ge_ic_ge, ge_ic_gt, ge_ic_le, ge_ifnullN, ge_ifnullR, ge_ifnnN, ge_ifnnR, ge_switch, ge_getf, ge_putfI, ge_putfL, ge_putfR, ge_iald, ge_lald, ge_aald, ge_iast, ge_last, ge_aast, ge_alen, ge_new, ge_newI, ge_newL, ge_newQ, ge_oi, ge_copy, ge_max, ge_is0, ge_is1, ge_iv1, ge_is2, ge_iv2, ge_is3, ge_iv3, ge_is4, ge_iv4, ge_is5, ge_iv5, ge_iv6, ge_ret, ge_iret, ge_zret, ge_lret, ge_aretR, ge_aretN, ge_ld0, ge_lds, ge_sum0, ge_sumI, ge_sumL, ge_sumR, ge_sumN, ge_st0, ge_st1, ge_st2, ge_su0, ge_su1, ge_su2, ge_ap1, ge_ap0, qm_gf, qm_pf, qm_ia, qm_is, qm_la, qm_ls, qm_aa, qm_al, qm_isK, qm_kv, qm_cp, List.getElem?_cons_zero, List.getElem?_cons_succ, List.length_cons, List.length_nil, List.set_cons_zero, List.set_cons_succ, decide_true, if_true, if_false, eq_self, and_true, true_and, or_true, true_or, and_false, false_and, or_false, false_or, ↓reduceIte, Nat.reduceLT, Nat.reduceLeDiff, Nat.reduceAdd, Nat.zero_lt_succ, zi_eq0, zi_01, zi_eq1, zi_or, Nat.reduceEqDiff, not_true_eq_false, not_false_eq_true, va_up_self, zi_0ne1, zi_1ne0, tb_isBoardNumber, tb_isWithin, tb_isRowNumber, h1, h2, h3, h4, h0, hat, h5, e1, ss_no]
          · rw [if_neg h5]
            rw [if_neg h5] at hat
            have hI := I.2 k1 (by omega)
            have h12 := tk_12 h
            obtain ⟨W, e1, kk, hW⟩ := tb_prep X (d + 1) N S h I (k := k1) (by omega) h5 (K := K) (by omega)
            have m0 := tk_0 kk
            have m12 := tk_12 kk
            have m13 : (va_up f (z + 13) (.inl (0, 448, .inl W))) (z + 13) = .inl (0, 448, .inl W) := va_up_self _ _ _
            generalize va_up f (z + 13) (.inl (0, 448, .inl W)) = f1 at e1 kk m0 m12 m13
            have ha := od_all X (d + 2) N S f1 m12 m13
            have hb0 : bc 0 = 0 := by decide
            have hW0 := hW 0 (by omega) 0 (by omega)
            have hoE : oE (ss_c b k1) (b.2.2.1 k1) (b.2.1 k1) K 0 0 = tO (ss_c b k1) (b.2.2.1 k1) (b.2.1 k1) 0 0 K := by
              unfold oE
              rw [hb0, if_pos (Nat.zero_le _)]
              rfl
            rw [show 0 * 64 + 0 = 0 from rfl, hoE] at hW0
            rw [hW0] at ha
            have hlt := tO_lt (ss_c b k1) hI.2.1 (r := b.2.1 k1) hI.1 0 0 K
            by_cases h6 : P < tO (ss_c b k1) (b.2.2.1 k1) (b.2.1 k1) 0 0 K
            · rw [if_neg (not_not_intro h6)]
              have h6' : nI P < nI (tO (ss_c b k1) (b.2.2.1 k1) (b.2.1 k1) 0 0 K) := nI_lt h6 (by omega)
              obtain ⟨G, hG, m1⟩ := kk.1 1 (by omega)
              have hg := hG l (by omega)
              have a1 : qm_in (nI l) 8 = true := zi_in (by omega) (by omega)
              have a2 : (nI l).toNatClampNeg = l := nI_clamp (by omega)
              obtain ⟨f2, e2, k2⟩ := tb_write X d N S kk I (k := k1) (l := l) (by omega) (by omega) h5 (K := K) hP m13 hW
              refine ⟨f2, ?_, k2⟩
              simp only [ke_98, kk_98_0, kk_98_29, kk_98_31, kk_98_49, kk_98_76, kl_98_0, kl_98_29, kl_98_31, kl_98_49, kl_98_76, ge_iconst, ge_lconst, ge_null, ge_iload, ge_lload, ge_aload, ge_istore, ge_lstore, ge_astore, ge_astoreN, ge_iinc, ge_iadd, ge_isub, ge_imul, ge_iand, ge_ior, ge_ixor, ge_ishl, ge_ishr, ge_iushr, ge_ladd, ge_lsub, ge_lmul, ge_lcmp, ge_idiv, ge_irem, ge_ldiv, ge_ineg, ge_i2l, ge_l2i, ge_lneg, ge_dupI, ge_dupR, ge_popI, ge_dup2, ge_goto, ge_if_eq, ge_if_ne, ge_if_lt, ge_if_ge, ge_if_gt, ge_if_le, ge_ic_eq, ge_ic_ne, ge_ic_lt, ge_ic_ge, ge_ic_gt, ge_ic_le, ge_ifnullN, ge_ifnullR, ge_ifnnN, ge_ifnnR, ge_switch, ge_getf, ge_putfI, ge_putfL, ge_putfR, ge_iald, ge_lald, ge_aald, ge_iast, ge_last, ge_aast, ge_alen, ge_new, ge_newI, ge_newL, ge_newQ, ge_oi, ge_copy, ge_max, ge_is0, ge_is1, ge_iv1, ge_is2, ge_iv2, ge_is3, ge_iv3, ge_is4, ge_iv4, ge_is5, ge_iv5, ge_iv6, ge_ret, ge_iret, ge_zret, ge_lret, ge_aretR, ge_aretN, ge_ld0, ge_lds, ge_sum0, ge_sumI, ge_sumL, ge_sumR, ge_sumN, ge_st0, ge_st1, ge_st2, ge_su0, ge_su1, ge_su2, ge_ap1, ge_ap0, qm_gf, qm_pf, qm_ia, qm_is, qm_la, qm_ls, qm_aa, qm_al, qm_isK, qm_kv, qm_cp, List.getElem?_cons_zero, List.getElem?_cons_succ, List.length_cons, List.length_nil, List.set_cons_zero, List.set_cons_succ, decide_true, if_true, if_false, eq_self, and_true, true_and, or_true, true_or, and_false, false_and, or_false, false_or, ↓reduceIte, Nat.reduceLT, Nat.reduceLeDiff, Nat.reduceAdd, Nat.zero_lt_succ, zi_eq0, zi_01, zi_eq1, zi_or, Nat.reduceEqDiff, not_true_eq_false, not_false_eq_true, va_up_self, zi_0ne1, zi_1ne0, tb_isBoardNumber, tb_isWithin, tb_isRowNumber, h1, h2, h3, h4, h0, hat, h12, e1, m0, m12, ha, h6', m1, a1, a2, hg, va_rf, e2]
            · rw [if_pos h6]
              have h6' : ¬ nI P < nI (tO (ss_c b k1) (b.2.2.1 k1) (b.2.1 k1) 0 0 K) := nI_nlt (by omega) hP
              obtain ⟨f2, e2, k2⟩ := tb_refused X (d + 2) N S kk 2 (by decide)
              refine ⟨f2, ?_, k2⟩
              simp only [ke_98, kk_98_0, kk_98_29, kk_98_31, kk_98_49, kk_98_76, kl_98_0, kl_98_29, kl_98_31, kl_98_49, kl_98_76, ge_iconst, ge_lconst, ge_null, ge_iload, ge_lload, ge_aload, ge_istore, ge_lstore, ge_astore, ge_astoreN, ge_iinc, ge_iadd, ge_isub, ge_imul, ge_iand, ge_ior, ge_ixor, ge_ishl, ge_ishr, ge_iushr, ge_ladd, ge_lsub, ge_lmul, ge_lcmp, ge_idiv, ge_irem, ge_ldiv, ge_ineg, ge_i2l, ge_l2i, ge_lneg, ge_dupI, ge_dupR, ge_popI, ge_dup2, ge_goto, ge_if_eq, ge_if_ne, ge_if_lt, ge_if_ge, ge_if_gt, ge_if_le, ge_ic_eq, ge_ic_ne, ge_ic_lt, ge_ic_ge, ge_ic_gt, ge_ic_le, ge_ifnullN, ge_ifnullR, ge_ifnnN, ge_ifnnR, ge_switch, ge_getf, ge_putfI, ge_putfL, ge_putfR, ge_iald, ge_lald, ge_aald, ge_iast, ge_last, ge_aast, ge_alen, ge_new, ge_newI, ge_newL, ge_newQ, ge_oi, ge_copy, ge_max, ge_is0, ge_is1, ge_iv1, ge_is2, ge_iv2, ge_is3, ge_iv3, ge_is4, ge_iv4, ge_is5, ge_iv5, ge_iv6, ge_ret, ge_iret, ge_zret, ge_lret, ge_aretR, ge_aretN, ge_ld0, ge_lds, ge_sum0, ge_sumI, ge_sumL, ge_sumR, ge_sumN, ge_st0, ge_st1, ge_st2, ge_su0, ge_su1, ge_su2, ge_ap1, ge_ap0, qm_gf, qm_pf, qm_ia, qm_is, qm_la, qm_ls, qm_aa, qm_al, qm_isK, qm_kv, qm_cp, List.getElem?_cons_zero, List.getElem?_cons_succ, List.length_cons, List.length_nil, List.set_cons_zero, List.set_cons_succ, decide_true, if_true, if_false, eq_self, and_true, true_and, or_true, true_or, and_false, false_and, or_false, false_or, ↓reduceIte, Nat.reduceLT, Nat.reduceLeDiff, Nat.reduceAdd, Nat.zero_lt_succ, zi_eq0, zi_01, zi_eq1, zi_or, Nat.reduceEqDiff, not_true_eq_false, not_false_eq_true, va_up_self, zi_0ne1, zi_1ne0, tb_isBoardNumber, tb_isWithin, tb_isRowNumber, h1, h2, h3, h4, h0, hat, h12, e1, m0, m12, ha, h6', e2, ss_no]
        · rw [if_pos (Or.inr (Or.inr (Or.inr h4)))]
          refine ⟨f, ?_, h⟩
          simp only [ke_98, kk_98_0, kk_98_29, kk_98_31, kk_98_49, kk_98_76, kl_98_0, kl_98_29, kl_98_31, kl_98_49, kl_98_76, ge_iconst, ge_lconst, ge_null, ge_iload, ge_lload, ge_aload, ge_istore, ge_lstore, ge_astore, ge_astoreN, ge_iinc, ge_iadd, ge_isub, ge_imul, ge_iand, ge_ior, ge_ixor, ge_ishl, ge_ishr, ge_iushr, ge_ladd, ge_lsub, ge_lmul, ge_lcmp, ge_idiv, ge_irem, ge_ldiv, ge_ineg, ge_i2l, ge_l2i, ge_lneg, ge_dupI, ge_dupR, ge_popI, ge_dup2, ge_goto, ge_if_eq, ge_if_ne, ge_if_lt, ge_if_ge, ge_if_gt, ge_if_le, ge_ic_eq, ge_ic_ne, ge_ic_lt, ge_ic_ge, ge_ic_gt, ge_ic_le, ge_ifnullN, ge_ifnullR, ge_ifnnN, ge_ifnnR, ge_switch, ge_getf, ge_putfI, ge_putfL, ge_putfR, ge_iald, ge_lald, ge_aald, ge_iast, ge_last, ge_aast, ge_alen, ge_new, ge_newI, ge_newL, ge_newQ, ge_oi, ge_copy, ge_max, ge_is0, ge_is1, ge_iv1, ge_is2, ge_iv2, ge_is3, ge_iv3, ge_is4, ge_iv4, ge_is5, ge_iv5, ge_iv6, ge_ret, ge_iret, ge_zret, ge_lret, ge_aretR, ge_aretN, ge_ld0, ge_lds, ge_sum0, ge_sumI, ge_sumL, ge_sumR, ge_sumN, ge_st0, ge_st1, ge_st2, ge_su0, ge_su1, ge_su2, ge_ap1, ge_ap0, qm_gf, qm_pf, qm_ia, qm_is, qm_la, qm_ls, qm_aa, qm_al, qm_isK, qm_kv, qm_cp, List.getElem?_cons_zero, List.getElem?_cons_succ, List.length_cons, List.length_nil, List.set_cons_zero, List.set_cons_succ, decide_true, if_true, if_false, eq_self, and_true, true_and, or_true, true_or, and_false, false_and, or_false, false_or, ↓reduceIte, Nat.reduceLT, Nat.reduceLeDiff, Nat.reduceAdd, Nat.zero_lt_succ, zi_eq0, zi_01, zi_eq1, zi_or, Nat.reduceEqDiff, not_true_eq_false, not_false_eq_true, va_up_self, zi_0ne1, zi_1ne0, tb_isBoardNumber, tb_isWithin, tb_isRowNumber, h1, h2, h3, h4, ss_bad]
    · rw [if_pos (Or.inr (Or.inl h2))]
      refine ⟨f, ?_, h⟩
      simp only [ke_98, kk_98_0, kk_98_29, kk_98_31, kk_98_49, kk_98_76, kl_98_0, kl_98_29, kl_98_31, kl_98_49, kl_98_76, ge_iconst, ge_lconst, ge_null, ge_iload, ge_lload, ge_aload, ge_istore, ge_lstore, ge_astore, ge_astoreN, ge_iinc, ge_iadd, ge_isub, ge_imul, ge_iand, ge_ior, ge_ixor, ge_ishl, ge_ishr, ge_iushr, ge_ladd, ge_lsub, ge_lmul, ge_lcmp, ge_idiv, ge_irem, ge_ldiv, ge_ineg, ge_i2l, ge_l2i, ge_lneg, ge_dupI, ge_dupR, ge_popI, ge_dup2, ge_goto, ge_if_eq, ge_if_ne, ge_if_lt, ge_if_ge, ge_if_gt, ge_if_le, ge_ic_eq, ge_ic_ne, ge_ic_lt, ge_ic_ge, ge_ic_gt, ge_ic_le, ge_ifnullN, ge_ifnullR, ge_ifnnN, ge_ifnnR, ge_switch, ge_getf, ge_putfI, ge_putfL, ge_putfR, ge_iald, ge_lald, ge_aald, ge_iast, ge_last, ge_aast, ge_alen, ge_new, ge_newI, ge_newL, ge_newQ, ge_oi, ge_copy, ge_max, ge_is0, ge_is1, ge_iv1, ge_is2, ge_iv2, ge_is3, ge_iv3, ge_is4, ge_iv4, ge_is5, ge_iv5, ge_iv6, ge_ret, ge_iret, ge_zret, ge_lret, ge_aretR, ge_aretN, ge_ld0, ge_lds, ge_sum0, ge_sumI, ge_sumL, ge_sumR, ge_sumN, ge_st0, ge_st1, ge_st2, ge_su0, ge_su1, ge_su2, ge_ap1, ge_ap0, qm_gf, qm_pf, qm_ia, qm_is, qm_la, qm_ls, qm_aa, qm_al, qm_isK, qm_kv, qm_cp, List.getElem?_cons_zero, List.getElem?_cons_succ, List.length_cons, List.length_nil, List.set_cons_zero, List.set_cons_succ, decide_true, if_true, if_false, eq_self, and_true, true_and, or_true, true_or, and_false, false_and, or_false, false_or, ↓reduceIte, Nat.reduceLT, Nat.reduceLeDiff, Nat.reduceAdd, Nat.zero_lt_succ, zi_eq0, zi_01, zi_eq1, zi_or, Nat.reduceEqDiff, not_true_eq_false, not_false_eq_true, va_up_self, zi_0ne1, zi_1ne0, tb_isBoardNumber, tb_isWithin, tb_isRowNumber, h1, h2, ss_bad]
  · rw [if_pos (Or.inl h1)]
    refine ⟨f, ?_, h⟩
    simp only [ke_98, kk_98_0, kk_98_29, kk_98_31, kk_98_49, kk_98_76, kl_98_0, kl_98_29, kl_98_31, kl_98_49, kl_98_76, ge_iconst, ge_lconst, ge_null, ge_iload, ge_lload, ge_aload, ge_istore, ge_lstore, ge_astore, ge_astoreN, ge_iinc, ge_iadd, ge_isub, ge_imul, ge_iand, ge_ior, ge_ixor, ge_ishl, ge_ishr, ge_iushr, ge_ladd, ge_lsub, ge_lmul, ge_lcmp, ge_idiv, ge_irem, ge_ldiv, ge_ineg, ge_i2l, ge_l2i, ge_lneg, ge_dupI, ge_dupR, ge_popI, ge_dup2, ge_goto, ge_if_eq, ge_if_ne, ge_if_lt, ge_if_ge, ge_if_gt, ge_if_le, ge_ic_eq, ge_ic_ne, ge_ic_lt, ge_ic_ge, ge_ic_gt, ge_ic_le, ge_ifnullN, ge_ifnullR, ge_ifnnN, ge_ifnnR, ge_switch, ge_getf, ge_putfI, ge_putfL, ge_putfR, ge_iald, ge_lald, ge_aald, ge_iast, ge_last, ge_aast, ge_alen, ge_new, ge_newI, ge_newL, ge_newQ, ge_oi, ge_copy, ge_max, ge_is0, ge_is1, ge_iv1, ge_is2, ge_iv2, ge_is3, ge_iv3, ge_is4, ge_iv4, ge_is5, ge_iv5, ge_iv6, ge_ret, ge_iret, ge_zret, ge_lret, ge_aretR, ge_aretN, ge_ld0, ge_lds, ge_sum0, ge_sumI, ge_sumL, ge_sumR, ge_sumN, ge_st0, ge_st1, ge_st2, ge_su0, ge_su1, ge_su2, ge_ap1, ge_ap0, qm_gf, qm_pf, qm_ia, qm_is, qm_la, qm_ls, qm_aa, qm_al, qm_isK, qm_kv, qm_cp, List.getElem?_cons_zero, List.getElem?_cons_succ, List.length_cons, List.length_nil, List.set_cons_zero, List.set_cons_succ, decide_true, if_true, if_false, eq_self, and_true, true_and, or_true, true_or, and_false, false_and, or_false, false_or, ↓reduceIte, Nat.reduceLT, Nat.reduceLeDiff, Nat.reduceAdd, Nat.zero_lt_succ, zi_eq0, zi_01, zi_eq1, zi_or, Nat.reduceEqDiff, not_true_eq_false, not_false_eq_true, va_up_self, zi_0ne1, zi_1ne0, tb_isBoardNumber, h1, ss_bad]
/-- the head of the calls on a board and a row -/
theorem tb_two (h : TBk z g r b t f) {k l : Nat} (hk : k < 12) (hl : l < 8) : qm_ex qm_M X (d + 3) 122 [.ref z, .int (nI k)] (N, S, f) = some (some (if b.1 k = -1 then .null else .ref (z + 42 + 2 * k)), (N, S, f)) ∧ qm_ex qm_M X (d + 3) 121 [.ref z, .int (nI l)] (N, S, f) = some (some (if r.1 l = -1 then .null else .ref (z + 26 + 2 * l)), (N, S, f)) := ⟨tb_boardAt X d N S h hk, tb_rowAt X d N S h hl⟩
theorem tb_rank (h : TBk z g r b t f) (I : ss_I r b) (x y : Int32) : TBo X N S (d + 4) z g 99 [.ref z, .int x, .int y] f (op_rank x y r b t) := by
  have h0 := tk_0 h
  rw [op_rank, op_std]
  by_cases h1 : 0 ≤ x ∧ x ≤ 11
  · by_cases h2 : 0 ≤ y ∧ y ≤ 7
    · rw [if_neg (not_or.mpr ⟨not_not_intro h1, not_not_intro h2⟩)]
      obtain ⟨k, hk, ek⟩ := nI_of2 (x := x) (M := 11) (n := 11) (by decide) (Int32.not_lt.mpr h1.1) h1.2
      obtain ⟨l, hl, el⟩ := nI_of2 (x := y) (M := 7) (n := 7) (by decide) (Int32.not_lt.mpr h2.1) h2.2
      subst ek el
      rw [nI_clamp (show k < 2 ^ 31 by omega), nI_clamp (show l < 2 ^ 31 by omega)]
      obtain ⟨hat, hat2⟩ := tb_two X d N S h (k := k) (l := l) (by omega) (by omega)
      obtain ⟨f1, e1, kk1⟩ := tb_refused X (d + 2) N S h 1 (by decide)
      by_cases h3 : b.1 k = -1
      · rw [if_pos (Or.inl h3)]
        refine ⟨f1, ?_, kk1⟩
        by_cases h4 : r.1 l = -1 <;> simp only [ke_99, kk_99_0, kk_99_14, kk_99_16, kk_99_38, kk_99_44, kk_99_64, kl_99_0, kl_99_14, kl_99_16, kl_99_38, kl_99_44, kl_99_64, ge_iconst, ge_lconst, ge_null, ge_iload, ge_lload, ge_aload, ge_istore, ge_lstore, ge_astore, ge_astoreN, ge_iinc, ge_iadd, ge_isub, ge_imul, ge_iand, ge_ior, ge_ixor, ge_ishl, ge_ishr, ge_iushr, ge_ladd, ge_lsub, ge_lmul, ge_lcmp, ge_idiv, ge_irem, ge_ldiv, ge_ineg, ge_i2l, ge_l2i, ge_lneg, ge_dupI, ge_dupR, ge_popI, ge_dup2, ge_goto, ge_if_eq, ge_if_ne, ge_if_lt, ge_if_ge, ge_if_gt, ge_if_le, ge_ic_eq, ge_ic_ne, ge_ic_lt, ge_ic_ge, ge_ic_gt, ge_ic_le, ge_ifnullN, ge_ifnullR, ge_ifnnN, ge_ifnnR, ge_switch, ge_getf, ge_putfI, ge_putfL, ge_putfR, ge_iald, ge_lald, ge_aald, ge_iast, ge_last, ge_aast, ge_alen, ge_new, ge_newI, ge_newL, ge_newQ, ge_oi, ge_copy, ge_max, ge_is0, ge_is1, ge_iv1, ge_is2, ge_iv2, ge_is3, ge_iv3, ge_is4, ge_iv4, ge_is5, ge_iv5, ge_iv6, ge_ret, ge_iret, ge_zret, ge_lret, ge_aretR, ge_aretN, ge_ld0, ge_lds, ge_sum0, ge_sumI, ge_sumL, ge_sumR, ge_sumN, ge_st0, ge_st1, ge_st2, ge_su0, ge_su1, ge_su2, ge_ap1, ge_ap0, qm_gf, qm_pf, qm_ia, qm_is, qm_la, qm_ls, qm_aa, qm_al, qm_isK, qm_kv, qm_cp, List.getElem?_cons_zero, List.getElem?_cons_succ, List.length_cons, List.length_nil, List.set_cons_zero, List.set_cons_succ, decide_true, if_true, if_false, eq_self, and_true, true_and, or_true, true_or, and_false, false_and, or_false, false_or, ↓reduceIte, Nat.reduceLT, Nat.reduceLeDiff, Nat.reduceAdd, Nat.zero_lt_succ, zi_eq0, zi_01, zi_eq1, zi_or, Nat.reduceEqDiff, not_true_eq_false, not_false_eq_true, va_up_self, zi_0ne1, zi_1ne0, tb_isBoardNumber, tb_isRowNumber, h1, h2, h0, hat, hat2, h3, h4, e1, ss_no]
      · by_cases h4 : r.1 l = -1
        · rw [if_pos (Or.inr h4)]
          refine ⟨f1, ?_, kk1⟩
          simp only [ke_99, kk_99_0, kk_99_14, kk_99_16, kk_99_38, kk_99_44, kk_99_64, kl_99_0, kl_99_14, kl_99_16, kl_99_38, kl_99_44, kl_99_64, ge_iconst, ge_lconst, ge_null, ge_iload, ge_lload, ge_aload, ge_istore, ge_lstore, ge_astore, ge_astoreN, ge_iinc, ge_iadd, ge_isub, ge_imul, ge_iand, ge_ior, ge_ixor, ge_ishl, ge_ishr, ge_iushr, ge_ladd, ge_lsub, ge_lmul, ge_lcmp, ge_idiv, ge_irem, ge_ldiv, ge_ineg, ge_i2l, ge_l2i, ge_lneg, ge_dupI, ge_dupR, ge_popI, ge_dup2, ge_goto, ge_if_eq, ge_if_ne, ge_if_lt, ge_if_ge, ge_if_gt, ge_if_le, ge_ic_eq, ge_ic_ne, ge_ic_lt, ge_ic_ge, ge_ic_gt, ge_ic_le, ge_ifnullN, ge_ifnullR, ge_ifnnN, ge_ifnnR, ge_switch, ge_getf, ge_putfI, ge_putfL, ge_putfR, ge_iald, ge_lald, ge_aald, ge_iast, ge_last, ge_aast, ge_alen, ge_new, ge_newI, ge_newL, ge_newQ, ge_oi, ge_copy, ge_max, ge_is0, ge_is1, ge_iv1, ge_is2, ge_iv2, ge_is3, ge_iv3, ge_is4, ge_iv4, ge_is5, ge_iv5, ge_iv6, ge_ret, ge_iret, ge_zret, ge_lret, ge_aretR, ge_aretN, ge_ld0, ge_lds, ge_sum0, ge_sumI, ge_sumL, ge_sumR, ge_sumN, ge_st0, ge_st1, ge_st2, ge_su0, ge_su1, ge_su2, ge_ap1, ge_ap0, qm_gf, qm_pf, qm_ia, qm_is, qm_la, qm_ls, qm_aa, qm_al, qm_isK, qm_kv, qm_cp, List.getElem?_cons_zero, List.getElem?_cons_succ, List.length_cons, List.length_nil, List.set_cons_zero, List.set_cons_succ, decide_true, if_true, if_false, eq_self, and_true, true_and, or_true, true_or, and_false, false_and, or_false, false_or, ↓reduceIte, Nat.reduceLT, Nat.reduceLeDiff, Nat.reduceAdd, Nat.zero_lt_succ, zi_eq0, zi_01, zi_eq1, zi_or, Nat.reduceEqDiff, not_true_eq_false, not_false_eq_true, va_up_self, zi_0ne1, zi_1ne0, tb_isBoardNumber, tb_isRowNumber, h1, h2, h0, hat, hat2, h3, h4, e1, ss_no]
        · rw [if_neg (not_or.mpr ⟨h3, h4⟩)]
          rw [if_neg h3] at hat
          rw [if_neg h4] at hat2
          have hI := I.2 k (by omega)
          obtain ⟨n1, n2⟩ := ss_n_ok I (k := l) (by omega) h4
          have hr := tk_brd h (k := k) (by omega)
          have hq := tk_cl h (k := k) (by omega)
          have hrr := tk_row h (k := l) (by omega)
          have hrq := tk_pl h (k := l) (by omega)
          rw [n2] at hrr
          have hfa := bd_faultOfStand X d N S f hr hq hrr hrq hI.1 n1
          by_cases h5 : r.1 l = nI (b.2.1 k)
          · have h5' : (r.1 l).toNatClampNeg = b.2.1 k := by rw [h5, nI_clamp (by omega)]
            rw [if_neg (not_not_intro h5)]
            rw [if_pos h5'] at hfa
            rw [h5'] at hrr
            cases hs : zf_std (b.2.2.2 k) (r.2 l) (b.2.1 k) (b.2.2.1 k) (b.2.1 k) with
            | none =>
              rw [hs] at hfa
              rw [if_pos rfl]
              obtain ⟨f2, e2, kk2⟩ := tb_refused X (d + 2) N S h 3 (by decide)
              have n3 : ¬ (3 : Int32) = 0 := by decide
              refine ⟨f2, ?_, kk2⟩
              simp only [ke_99, kk_99_0, kk_99_14, kk_99_16, kk_99_38, kk_99_44, kk_99_64, kl_99_0, kl_99_14, kl_99_16, kl_99_38, kl_99_44, kl_99_64, ge_iconst, ge_lconst, ge_null, ge_iload, ge_lload, ge_aload, ge_istore, ge_lstore, ge_astore, ge_astoreN, ge_iinc, ge_iadd, ge_isub, ge_imul, ge_iand, ge_ior, ge_ixor, ge_ishl, ge_ishr, ge_iushr, ge_ladd, ge_lsub, ge_lmul, ge_lcmp, ge_idiv, ge_irem, ge_ldiv, ge_ineg, ge_i2l, ge_l2i, ge_lneg, ge_dupI, ge_dupR, ge_popI, ge_dup2, ge_goto, ge_if_eq, ge_if_ne, ge_if_lt, ge_if_ge, ge_if_gt, ge_if_le, ge_ic_eq, ge_ic_ne, ge_ic_lt, ge_ic_ge, ge_ic_gt, ge_ic_le, ge_ifnullN, ge_ifnullR, ge_ifnnN, ge_ifnnR, ge_switch, ge_getf, ge_putfI, ge_putfL, ge_putfR, ge_iald, ge_lald, ge_aald, ge_iast, ge_last, ge_aast, ge_alen, ge_new, ge_newI, ge_newL, ge_newQ, ge_oi, ge_copy, ge_max, ge_is0, ge_is1, ge_iv1, ge_is2, ge_iv2, ge_is3, ge_iv3, ge_is4, ge_iv4, ge_is5, ge_iv5, ge_iv6, ge_ret, ge_iret, ge_zret, ge_lret, ge_aretR, ge_aretN, ge_ld0, ge_lds, ge_sum0, ge_sumI, ge_sumL, ge_sumR, ge_sumN, ge_st0, ge_st1, ge_st2, ge_su0, ge_su1, ge_su2, ge_ap1, ge_ap0, qm_gf, qm_pf, qm_ia, qm_is, qm_la, qm_ls, qm_aa, qm_al, qm_isK, qm_kv, qm_cp, List.getElem?_cons_zero, List.getElem?_cons_succ, List.length_cons, List.length_nil, List.set_cons_zero, List.set_cons_succ, decide_true, if_true, if_false, eq_self, and_true, true_and, or_true, true_or, and_false, false_and, or_false, false_or, ↓reduceIte, Nat.reduceLT, Nat.reduceLeDiff, Nat.reduceAdd, Nat.zero_lt_succ, zi_eq0, zi_01, zi_eq1, zi_or, Nat.reduceEqDiff, not_true_eq_false, not_false_eq_true, va_up_self, zi_0ne1, zi_1ne0, tb_isBoardNumber, tb_isRowNumber, h1, h2, h0, hat, hat2, hr, hfa, n3, e2, ss_no]
            | some u =>
              rw [hs] at hfa
              rw [if_neg (by intro z2; cases z2)]
              have hc := fun i (hi : i < b.2.1 k) => (⟨(ss_c_ok I (by omega) h3 hi).1, (ss_c_ok I (by omega) h3 hi).2.2⟩ : ss_c b k i < 2 ^ b.2.2.1 k ∧ b.2.2.2 k i = nI (ss_c b k i))
              obtain ⟨s1, s2, s3, s4⟩ := std_ok hI.2.1 hc (b.2.1 k) u (Nat.le_refl _) hs
              have hx9 : ∀ i, i < b.2.1 k → (xs (r.2 l) i = 9 ∧ r.2 l i = -9) ∨ (xs (r.2 l) i < 9 ∧ ¬ r.2 l i = -9) := fun i hi => by
                rcases s3 i hi with z1 | z1
                · exact Or.inl z1
                · exact Or.inr ⟨by omega, by rw [z1.2.1]; exact mz_ne9 _ (by omega)⟩
              have hct := rw_towerCount X (d + 2) N S f hrr hrq (by omega)
              rw [zf_ct_xs hx9 _ (Nat.le_refl _)] at hct
              have hctl := fb_ct_le (fun i => decide (¬ xs (r.2 l) i = 9)) (b.2.1 k)
              obtain ⟨W, e2, kk, hW⟩ := tb_prep X (d + 1) N S h I (k := k) (by omega) h3 (K := fb_ct (fun i => decide (¬ xs (r.2 l) i = 9)) (b.2.1 k)) (by omega)
              have h12 := tk_12 h
              have m0 := tk_0 kk
              have m12 := tk_12 kk
              have m13 : (va_up f (z + 13) (.inl (0, 448, .inl W))) (z + 13) = .inl (0, 448, .inl W) := va_up_self _ _ _
              have mr := tk_brd kk (k := k) (by omega)
              have mq := tk_cl kk (k := k) (by omega)
              have mrr := tk_row kk (k := l) (by omega)
              have mrq := tk_pl kk (k := l) (by omega)
              rw [h5] at mrr
              generalize va_up f (z + 13) (.inl (0, 448, .inl W)) = f2 at e2 kk m0 m12 m13 mr mq mrr mrq
              have hnum := od_numberOf X d N S f2 hI.1 m12 m13 mr mq mrr mrq
              have hon := od_num_ok (c := ss_c b k) (w := b.2.2.1 k) (h := b.2.1 k) (pb := b.2.2.2 k) (pr := r.2 l) (W := W) hI.2.1 hI.1 hc hW s3 rfl (fun q hq => by
                obtain ⟨u', hu'⟩ : ∃ u', zf_std (b.2.2.2 k) (r.2 l) (b.2.1 k) (b.2.2.1 k) q = some u' := by
                  cases hz : zf_std (b.2.2.2 k) (r.2 l) (b.2.1 k) (b.2.2.1 k) q with
                  | none =>
                    have := zf_std_none _ _ _ _ q hz (b.2.1 k - q)
                    rw [show q + (b.2.1 k - q) = b.2.1 k by omega, hs] at this
                    cases this
                  | some u' => exact ⟨u', rfl⟩
                obtain ⟨t1, t2, t3, t4⟩ := std_ok hI.2.1 hc q u' hq hu'
                exact ⟨t2, t4⟩) (b.2.1 k) 0 (by omega)
              rw [show kR (ss_c b k) (b.2.2.1 k) (b.2.1 k) (xs (r.2 l)) (fb_ct (fun i => decide (¬ xs (r.2 l) i = 9)) (b.2.1 k)) 0 = 0 from rfl, show fA (xs (r.2 l)) 0 = 0 from rfl, show nI 0 = 0 from rfl] at hon
              rw [hon] at hnum
              refine ⟨f2, ?_, kk⟩
              simp only [ke_99, kk_99_0, kk_99_14, kk_99_16, kk_99_38, kk_99_44, kk_99_64, kl_99_0, kl_99_14, kl_99_16, kl_99_38, kl_99_44, kl_99_64, ge_iconst, ge_lconst, ge_null, ge_iload, ge_lload, ge_aload, ge_istore, ge_lstore, ge_astore, ge_astoreN, ge_iinc, ge_iadd, ge_isub, ge_imul, ge_iand, ge_ior, ge_ixor, ge_ishl, ge_ishr, ge_iushr, ge_ladd, ge_lsub, ge_lmul, ge_lcmp, ge_idiv, ge_irem, ge_ldiv, ge_ineg, ge_i2l, ge_l2i, ge_lneg, ge_dupI, ge_dupR, ge_popI, ge_dup2, ge_goto, ge_if_eq, ge_if_ne, ge_if_lt, ge_if_ge, ge_if_gt, ge_if_le, ge_ic_eq, ge_ic_ne, ge_ic_lt, ge_ic_ge, ge_ic_gt, ge_ic_le, ge_ifnullN, ge_ifnullR, ge_ifnnN, ge_ifnnR, ge_switch, ge_getf, ge_putfI, ge_putfL, ge_putfR, ge_iald, ge_lald, ge_aald, ge_iast, ge_last, ge_aast, ge_alen, ge_new, ge_newI, ge_newL, ge_newQ, ge_oi, ge_copy, ge_max, ge_is0, ge_is1, ge_iv1, ge_is2, ge_iv2, ge_is3, ge_iv3, ge_is4, ge_iv4, ge_is5, ge_iv5, ge_iv6, ge_ret, ge_iret, ge_zret, ge_lret, ge_aretR, ge_aretN, ge_ld0, ge_lds, ge_sum0, ge_sumI, ge_sumL, ge_sumR, ge_sumN, ge_st0, ge_st1, ge_st2, ge_su0, ge_su1, ge_su2, ge_ap1, ge_ap0, qm_gf, qm_pf, qm_ia, qm_is, qm_la, qm_ls, qm_aa, qm_al, qm_isK, qm_kv, qm_cp, List.getElem?_cons_zero, List.getElem?_cons_succ, List.length_cons, List.length_nil, List.set_cons_zero, List.set_cons_succ, decide_true, if_true, if_false, eq_self, and_true, true_and, or_true, true_or, and_false, false_and, or_false, false_or, ↓reduceIte, Nat.reduceLT, Nat.reduceLeDiff, Nat.reduceAdd, Nat.zero_lt_succ, zi_eq0, zi_01, zi_eq1, zi_or, Nat.reduceEqDiff, not_true_eq_false, not_false_eq_true, va_up_self, zi_0ne1, zi_1ne0, tb_isBoardNumber, tb_isRowNumber, h1, h2, h0, hat, hat2, hr, hfa, hrr, hct, h12, e2, m0, m12, hnum, rk_n]
          · have h5' : ¬ (r.1 l).toNatClampNeg = b.2.1 k := fun z1 => h5 (by rw [n2, z1])
            rw [if_pos h5]
            rw [if_neg h5'] at hfa
            obtain ⟨f2, e2, kk2⟩ := tb_refused X (d + 2) N S h 5 (by decide)
            have n5 : ¬ (5 : Int32) = 0 := by decide
            refine ⟨f2, ?_, kk2⟩
            simp only [ke_99, kk_99_0, kk_99_14, kk_99_16, kk_99_38, kk_99_44, kk_99_64, kl_99_0, kl_99_14, kl_99_16, kl_99_38, kl_99_44, kl_99_64, ge_iconst, ge_lconst, ge_null, ge_iload, ge_lload, ge_aload, ge_istore, ge_lstore, ge_astore, ge_astoreN, ge_iinc, ge_iadd, ge_isub, ge_imul, ge_iand, ge_ior, ge_ixor, ge_ishl, ge_ishr, ge_iushr, ge_ladd, ge_lsub, ge_lmul, ge_lcmp, ge_idiv, ge_irem, ge_ldiv, ge_ineg, ge_i2l, ge_l2i, ge_lneg, ge_dupI, ge_dupR, ge_popI, ge_dup2, ge_goto, ge_if_eq, ge_if_ne, ge_if_lt, ge_if_ge, ge_if_gt, ge_if_le, ge_ic_eq, ge_ic_ne, ge_ic_lt, ge_ic_ge, ge_ic_gt, ge_ic_le, ge_ifnullN, ge_ifnullR, ge_ifnnN, ge_ifnnR, ge_switch, ge_getf, ge_putfI, ge_putfL, ge_putfR, ge_iald, ge_lald, ge_aald, ge_iast, ge_last, ge_aast, ge_alen, ge_new, ge_newI, ge_newL, ge_newQ, ge_oi, ge_copy, ge_max, ge_is0, ge_is1, ge_iv1, ge_is2, ge_iv2, ge_is3, ge_iv3, ge_is4, ge_iv4, ge_is5, ge_iv5, ge_iv6, ge_ret, ge_iret, ge_zret, ge_lret, ge_aretR, ge_aretN, ge_ld0, ge_lds, ge_sum0, ge_sumI, ge_sumL, ge_sumR, ge_sumN, ge_st0, ge_st1, ge_st2, ge_su0, ge_su1, ge_su2, ge_ap1, ge_ap0, qm_gf, qm_pf, qm_ia, qm_is, qm_la, qm_ls, qm_aa, qm_al, qm_isK, qm_kv, qm_cp, List.getElem?_cons_zero, List.getElem?_cons_succ, List.length_cons, List.length_nil, List.set_cons_zero, List.set_cons_succ, decide_true, if_true, if_false, eq_self, and_true, true_and, or_true, true_or, and_false, false_and, or_false, false_or, ↓reduceIte, Nat.reduceLT, Nat.reduceLeDiff, Nat.reduceAdd, Nat.zero_lt_succ, zi_eq0, zi_01, zi_eq1, zi_or, Nat.reduceEqDiff, not_true_eq_false, not_false_eq_true, va_up_self, zi_0ne1, zi_1ne0, tb_isBoardNumber, tb_isRowNumber, h1, h2, h0, hat, hat2, hr, hfa, n5, e2, ss_no]
    · rw [if_pos (Or.inr h2)]
      refine ⟨f, ?_, h⟩
      simp only [ke_99, kk_99_0, kk_99_14, kk_99_16, kk_99_38, kk_99_44, kk_99_64, kl_99_0, kl_99_14, kl_99_16, kl_99_38, kl_99_44, kl_99_64, ge_iconst, ge_lconst, ge_null, ge_iload, ge_lload, ge_aload, ge_istore, ge_lstore, ge_astore, ge_astoreN, ge_iinc, ge_iadd, ge_isub, ge_imul, ge_iand, ge_ior, ge_ixor, ge_ishl, ge_ishr, ge_iushr, ge_ladd, ge_lsub, ge_lmul, ge_lcmp, ge_idiv, ge_irem, ge_ldiv, ge_ineg, ge_i2l, ge_l2i, ge_lneg, ge_dupI, ge_dupR, ge_popI, ge_dup2, ge_goto, ge_if_eq, ge_if_ne, ge_if_lt, ge_if_ge, ge_if_gt, ge_if_le, ge_ic_eq, ge_ic_ne, ge_ic_lt, ge_ic_ge, ge_ic_gt, ge_ic_le, ge_ifnullN, ge_ifnullR, ge_ifnnN, ge_ifnnR, ge_switch, ge_getf, ge_putfI, ge_putfL, ge_putfR, ge_iald, ge_lald, ge_aald, ge_iast, ge_last, ge_aast, ge_alen, ge_new, ge_newI, ge_newL, ge_newQ, ge_oi, ge_copy, ge_max, ge_is0, ge_is1, ge_iv1, ge_is2, ge_iv2, ge_is3, ge_iv3, ge_is4, ge_iv4, ge_is5, ge_iv5, ge_iv6, ge_ret, ge_iret, ge_zret, ge_lret, ge_aretR, ge_aretN, ge_ld0, ge_lds, ge_sum0, ge_sumI, ge_sumL, ge_sumR, ge_sumN, ge_st0, ge_st1, ge_st2, ge_su0, ge_su1, ge_su2, ge_ap1, ge_ap0, qm_gf, qm_pf, qm_ia, qm_is, qm_la, qm_ls, qm_aa, qm_al, qm_isK, qm_kv, qm_cp, List.getElem?_cons_zero, List.getElem?_cons_succ, List.length_cons, List.length_nil, List.set_cons_zero, List.set_cons_succ, decide_true, if_true, if_false, eq_self, and_true, true_and, or_true, true_or, and_false, false_and, or_false, false_or, ↓reduceIte, Nat.reduceLT, Nat.reduceLeDiff, Nat.reduceAdd, Nat.zero_lt_succ, zi_eq0, zi_01, zi_eq1, zi_or, Nat.reduceEqDiff, not_true_eq_false, not_false_eq_true, va_up_self, zi_0ne1, zi_1ne0, tb_isBoardNumber, tb_isRowNumber, h1, h2, ss_bad]
  · rw [if_pos (Or.inl h1)]
    refine ⟨f, ?_, h⟩
    simp only [ke_99, kk_99_0, kk_99_14, kk_99_16, kk_99_38, kk_99_44, kk_99_64, kl_99_0, kl_99_14, kl_99_16, kl_99_38, kl_99_44, kl_99_64, ge_iconst, ge_lconst, ge_null, ge_iload, ge_lload, ge_aload, ge_istore, ge_lstore, ge_astore, ge_astoreN, ge_iinc, ge_iadd, ge_isub, ge_imul, ge_iand, ge_ior, ge_ixor, ge_ishl, ge_ishr, ge_iushr, ge_ladd, ge_lsub, ge_lmul, ge_lcmp, ge_idiv, ge_irem, ge_ldiv, ge_ineg, ge_i2l, ge_l2i, ge_lneg, ge_dupI, ge_dupR, ge_popI, ge_dup2, ge_goto, ge_if_eq, ge_if_ne, ge_if_lt, ge_if_ge, ge_if_gt, ge_if_le, ge_ic_eq, ge_ic_ne, ge_ic_lt, ge_ic_ge, ge_ic_gt, ge_ic_le, ge_ifnullN, ge_ifnullR, ge_ifnnN, ge_ifnnR, ge_switch, ge_getf, ge_putfI, ge_putfL, ge_putfR, ge_iald, ge_lald, ge_aald, ge_iast, ge_last, ge_aast, ge_alen, ge_new, ge_newI, ge_newL, ge_newQ, ge_oi, ge_copy, ge_max, ge_is0, ge_is1, ge_iv1, ge_is2, ge_iv2, ge_is3, ge_iv3, ge_is4, ge_iv4, ge_is5, ge_iv5, ge_iv6, ge_ret, ge_iret, ge_zret, ge_lret, ge_aretR, ge_aretN, ge_ld0, ge_lds, ge_sum0, ge_sumI, ge_sumL, ge_sumR, ge_sumN, ge_st0, ge_st1, ge_st2, ge_su0, ge_su1, ge_su2, ge_ap1, ge_ap0, qm_gf, qm_pf, qm_ia, qm_is, qm_la, qm_ls, qm_aa, qm_al, qm_isK, qm_kv, qm_cp, List.getElem?_cons_zero, List.getElem?_cons_succ, List.length_cons, List.length_nil, List.set_cons_zero, List.set_cons_succ, decide_true, if_true, if_false, eq_self, and_true, true_and, or_true, true_or, and_false, false_and, or_false, false_or, ↓reduceIte, Nat.reduceLT, Nat.reduceLeDiff, Nat.reduceAdd, Nat.zero_lt_succ, zi_eq0, zi_01, zi_eq1, zi_or, Nat.reduceEqDiff, not_true_eq_false, not_false_eq_true, va_up_self, zi_0ne1, zi_1ne0, tb_isBoardNumber, h1, ss_bad]
theorem tb_next (h : TBk z g r b t f) (I : ss_I r b) (x y : Int32) : TBo X N S (d + 4) z g 100 [.ref z, .int x, .int y] f (op_next x y r b t) := by
  have h0 := tk_0 h
  rw [op_next, op_std]
  by_cases h1 : 0 ≤ x ∧ x ≤ 11
  · by_cases h2 : 0 ≤ y ∧ y ≤ 7
    · rw [if_neg (not_or.mpr ⟨not_not_intro h1, not_not_intro h2⟩)]
      obtain ⟨k, hk, ek⟩ := nI_of2 (x := x) (M := 11) (n := 11) (by decide) (Int32.not_lt.mpr h1.1) h1.2
      obtain ⟨l, hl, el⟩ := nI_of2 (x := y) (M := 7) (n := 7) (by decide) (Int32.not_lt.mpr h2.1) h2.2
      subst ek el
      rw [nI_clamp (show k < 2 ^ 31 by omega), nI_clamp (show l < 2 ^ 31 by omega)]
      obtain ⟨hat, hat2⟩ := tb_two X d N S h (k := k) (l := l) (by omega) (by omega)
      obtain ⟨f1, e1, kk1⟩ := tb_refused X (d + 2) N S h 1 (by decide)
      by_cases h3 : b.1 k = -1
      · rw [if_pos (Or.inl h3)]
        refine ⟨f1, ?_, kk1⟩
        by_cases h4 : r.1 l = -1 <;> simp only [ke_100, kk_100_0, kk_100_14, kk_100_16, kk_100_38, kk_100_44, kk_100_64, kk_100_106, kl_100_0, kl_100_14, kl_100_16, kl_100_38, kl_100_44, kl_100_64, kl_100_106, ge_iconst, ge_lconst, ge_null, ge_iload, ge_lload, ge_aload, ge_istore, ge_lstore, ge_astore, ge_astoreN, ge_iinc, ge_iadd, ge_isub, ge_imul, ge_iand, ge_ior, ge_ixor, ge_ishl, ge_ishr, ge_iushr, ge_ladd, ge_lsub, ge_lmul, ge_lcmp, ge_idiv, ge_irem, ge_ldiv, ge_ineg, ge_i2l, ge_l2i, ge_lneg, ge_dupI, ge_dupR, ge_popI, ge_dup2, ge_goto, ge_if_eq, ge_if_ne, ge_if_lt, ge_if_ge, ge_if_gt, ge_if_le, ge_ic_eq, ge_ic_ne, ge_ic_lt, ge_ic_ge, ge_ic_gt, ge_ic_le, ge_ifnullN, ge_ifnullR, ge_ifnnN, ge_ifnnR, ge_switch, ge_getf, ge_putfI, ge_putfL, ge_putfR, ge_iald, ge_lald, ge_aald, ge_iast, ge_last, ge_aast, ge_alen, ge_new, ge_newI, ge_newL, ge_newQ, ge_oi, ge_copy, ge_max, ge_is0, ge_is1, ge_iv1, ge_is2, ge_iv2, ge_is3, ge_iv3, ge_is4, ge_iv4, ge_is5, ge_iv5, ge_iv6, ge_ret, ge_iret, ge_zret, ge_lret, ge_aretR, ge_aretN, ge_ld0, ge_lds, ge_sum0, ge_sumI, ge_sumL, ge_sumR, ge_sumN, ge_st0, ge_st1, ge_st2, ge_su0, ge_su1, ge_su2, ge_ap1, ge_ap0, qm_gf, qm_pf, qm_ia, qm_is, qm_la, qm_ls, qm_aa, qm_al, qm_isK, qm_kv, qm_cp, List.getElem?_cons_zero, List.getElem?_cons_succ, List.length_cons, List.length_nil, List.set_cons_zero, List.set_cons_succ, decide_true, if_true, if_false, eq_self, and_true, true_and, or_true, true_or, and_false, false_and, or_false, false_or, ↓reduceIte, Nat.reduceLT, Nat.reduceLeDiff, Nat.reduceAdd, Nat.zero_lt_succ, zi_eq0, zi_01, zi_eq1, zi_or, Nat.reduceEqDiff, not_true_eq_false, not_false_eq_true, va_up_self, zi_0ne1, zi_1ne0, tb_isBoardNumber, tb_isRowNumber, h1, h2, h0, hat, hat2, h3, h4, e1, ss_no]
      · by_cases h4 : r.1 l = -1
        · rw [if_pos (Or.inr h4)]
          refine ⟨f1, ?_, kk1⟩
          simp only [ke_100, kk_100_0, kk_100_14, kk_100_16, kk_100_38, kk_100_44, kk_100_64, kk_100_106, kl_100_0, kl_100_14, kl_100_16, kl_100_38, kl_100_44, kl_100_64, kl_100_106, ge_iconst, ge_lconst, ge_null, ge_iload, ge_lload, ge_aload, ge_istore, ge_lstore, ge_astore, ge_astoreN, ge_iinc, ge_iadd, ge_isub, ge_imul, ge_iand, ge_ior, ge_ixor, ge_ishl, ge_ishr, ge_iushr, ge_ladd, ge_lsub, ge_lmul, ge_lcmp, ge_idiv, ge_irem, ge_ldiv, ge_ineg, ge_i2l, ge_l2i, ge_lneg, ge_dupI, ge_dupR, ge_popI, ge_dup2, ge_goto, ge_if_eq, ge_if_ne, ge_if_lt, ge_if_ge, ge_if_gt, ge_if_le, ge_ic_eq, ge_ic_ne, ge_ic_lt, ge_ic_ge, ge_ic_gt, ge_ic_le, ge_ifnullN, ge_ifnullR, ge_ifnnN, ge_ifnnR, ge_switch, ge_getf, ge_putfI, ge_putfL, ge_putfR, ge_iald, ge_lald, ge_aald, ge_iast, ge_last, ge_aast, ge_alen, ge_new, ge_newI, ge_newL, ge_newQ, ge_oi, ge_copy, ge_max, ge_is0, ge_is1, ge_iv1, ge_is2, ge_iv2, ge_is3, ge_iv3, ge_is4, ge_iv4, ge_is5, ge_iv5, ge_iv6, ge_ret, ge_iret, ge_zret, ge_lret, ge_aretR, ge_aretN, ge_ld0, ge_lds, ge_sum0, ge_sumI, ge_sumL, ge_sumR, ge_sumN, ge_st0, ge_st1, ge_st2, ge_su0, ge_su1, ge_su2, ge_ap1, ge_ap0, qm_gf, qm_pf, qm_ia, qm_is, qm_la, qm_ls, qm_aa, qm_al, qm_isK, qm_kv, qm_cp, List.getElem?_cons_zero, List.getElem?_cons_succ, List.length_cons, List.length_nil, List.set_cons_zero, List.set_cons_succ, decide_true, if_true, if_false, eq_self, and_true, true_and, or_true, true_or, and_false, false_and, or_false, false_or, ↓reduceIte, Nat.reduceLT, Nat.reduceLeDiff, Nat.reduceAdd, Nat.zero_lt_succ, zi_eq0, zi_01, zi_eq1, zi_or, Nat.reduceEqDiff, not_true_eq_false, not_false_eq_true, va_up_self, zi_0ne1, zi_1ne0, tb_isBoardNumber, tb_isRowNumber, h1, h2, h0, hat, hat2, h3, h4, e1, ss_no]
        · rw [if_neg (not_or.mpr ⟨h3, h4⟩)]
          rw [if_neg h3] at hat
          rw [if_neg h4] at hat2
          have hI := I.2 k (by omega)
          obtain ⟨n1, n2⟩ := ss_n_ok I (k := l) (by omega) h4
          have hr := tk_brd h (k := k) (by omega)
          have hq := tk_cl h (k := k) (by omega)
          have hrr := tk_row h (k := l) (by omega)
          have hrq := tk_pl h (k := l) (by omega)
          rw [n2] at hrr
          have hfa := bd_faultOfStand X d N S f hr hq hrr hrq hI.1 n1
          by_cases h5 : r.1 l = nI (b.2.1 k)
          · have h5' : (r.1 l).toNatClampNeg = b.2.1 k := by rw [h5, nI_clamp (by omega)]
            rw [if_neg (not_not_intro h5)]
            rw [if_pos h5'] at hfa
            rw [h5'] at hrr
            cases hs : zf_std (b.2.2.2 k) (r.2 l) (b.2.1 k) (b.2.2.1 k) (b.2.1 k) with
            | none =>
              rw [hs] at hfa
              rw [if_pos rfl]
              obtain ⟨f2, e2, kk2⟩ := tb_refused X (d + 2) N S h 3 (by decide)
              have n3 : ¬ (3 : Int32) = 0 := by decide
              refine ⟨f2, ?_, kk2⟩
              simp only [ke_100, kk_100_0, kk_100_14, kk_100_16, kk_100_38, kk_100_44, kk_100_64, kk_100_106, kl_100_0, kl_100_14, kl_100_16, kl_100_38, kl_100_44, kl_100_64, kl_100_106, ge_iconst, ge_lconst, ge_null, ge_iload, ge_lload, ge_aload, ge_istore, ge_lstore, ge_astore, ge_astoreN, ge_iinc, ge_iadd, ge_isub, ge_imul, ge_iand, ge_ior, ge_ixor, ge_ishl, ge_ishr, ge_iushr, ge_ladd, ge_lsub, ge_lmul, ge_lcmp, ge_idiv, ge_irem, ge_ldiv, ge_ineg, ge_i2l, ge_l2i, ge_lneg, ge_dupI, ge_dupR, ge_popI, ge_dup2, ge_goto, ge_if_eq, ge_if_ne, ge_if_lt, ge_if_ge, ge_if_gt, ge_if_le, ge_ic_eq, ge_ic_ne, ge_ic_lt, ge_ic_ge, ge_ic_gt, ge_ic_le, ge_ifnullN, ge_ifnullR, ge_ifnnN, ge_ifnnR, ge_switch, ge_getf, ge_putfI, ge_putfL, ge_putfR, ge_iald, ge_lald, ge_aald, ge_iast, ge_last, ge_aast, ge_alen, ge_new, ge_newI, ge_newL, ge_newQ, ge_oi, ge_copy, ge_max, ge_is0, ge_is1, ge_iv1, ge_is2, ge_iv2, ge_is3, ge_iv3, ge_is4, ge_iv4, ge_is5, ge_iv5, ge_iv6, ge_ret, ge_iret, ge_zret, ge_lret, ge_aretR, ge_aretN, ge_ld0, ge_lds, ge_sum0, ge_sumI, ge_sumL, ge_sumR, ge_sumN, ge_st0, ge_st1, ge_st2, ge_su0, ge_su1, ge_su2, ge_ap1, ge_ap0, qm_gf, qm_pf, qm_ia, qm_is, qm_la, qm_ls, qm_aa, qm_al, qm_isK, qm_kv, qm_cp, List.getElem?_cons_zero, List.getElem?_cons_succ, List.length_cons, List.length_nil, List.set_cons_zero, List.set_cons_succ, decide_true, if_true, if_false, eq_self, and_true, true_and, or_true, true_or, and_false, false_and, or_false, false_or, ↓reduceIte, Nat.reduceLT, Nat.reduceLeDiff, Nat.reduceAdd, Nat.zero_lt_succ, zi_eq0, zi_01, zi_eq1, zi_or, Nat.reduceEqDiff, not_true_eq_false, not_false_eq_true, va_up_self, zi_0ne1, zi_1ne0, tb_isBoardNumber, tb_isRowNumber, h1, h2, h0, hat, hat2, hr, hfa, n3, e2, ss_no]
            | some u =>
              rw [hs] at hfa
              rw [if_neg (by intro z2; cases z2)]
              have hc := fun i (hi : i < b.2.1 k) => (⟨(ss_c_ok I (by omega) h3 hi).1, (ss_c_ok I (by omega) h3 hi).2.2⟩ : ss_c b k i < 2 ^ b.2.2.1 k ∧ b.2.2.2 k i = nI (ss_c b k i))
              obtain ⟨s1, s2, s3, s4⟩ := std_ok hI.2.1 hc (b.2.1 k) u (Nat.le_refl _) hs
              have hx9 : ∀ i, i < b.2.1 k → (xs (r.2 l) i = 9 ∧ r.2 l i = -9) ∨ (xs (r.2 l) i < 9 ∧ ¬ r.2 l i = -9) := fun i hi => by
                rcases s3 i hi with z1 | z1
                · exact Or.inl z1
                · exact Or.inr ⟨by omega, by rw [z1.2.1]; exact mz_ne9 _ (by omega)⟩
              have hct := rw_towerCount X (d + 2) N S f hrr hrq (by omega)
              rw [zf_ct_xs hx9 _ (Nat.le_refl _)] at hct
              have hctl := fb_ct_le (fun i => decide (¬ xs (r.2 l) i = 9)) (b.2.1 k)
              obtain ⟨W, e2, kk, hW⟩ := tb_prep X (d + 1) N S h I (k := k) (by omega) h3 (K := fb_ct (fun i => decide (¬ xs (r.2 l) i = 9)) (b.2.1 k)) (by omega)
              have h12 := tk_12 h
              have m0 := tk_0 kk
              have m12 := tk_12 kk
              have m13 : (va_up f (z + 13) (.inl (0, 448, .inl W))) (z + 13) = .inl (0, 448, .inl W) := va_up_self _ _ _
              have mr := tk_brd kk (k := k) (by omega)
              have mq := tk_cl kk (k := k) (by omega)
              have mrr := tk_row kk (k := l) (by omega)
              have mrq := tk_pl kk (k := l) (by omega)
              rw [h5] at mrr
              generalize va_up f (z + 13) (.inl (0, 448, .inl W)) = f2 at e2 kk m0 m12 m13 mr mq mrr mrq
              have hnum := od_numberOf X d N S f2 hI.1 m12 m13 mr mq mrr mrq
              have hon := od_num_ok (c := ss_c b k) (w := b.2.2.1 k) (h := b.2.1 k) (pb := b.2.2.2 k) (pr := r.2 l) (W := W) hI.2.1 hI.1 hc hW s3 rfl (fun q hq => by
                obtain ⟨u', hu'⟩ : ∃ u', zf_std (b.2.2.2 k) (r.2 l) (b.2.1 k) (b.2.2.1 k) q = some u' := by
                  cases hz : zf_std (b.2.2.2 k) (r.2 l) (b.2.1 k) (b.2.2.1 k) q with
                  | none =>
                    have := zf_std_none _ _ _ _ q hz (b.2.1 k - q)
                    rw [show q + (b.2.1 k - q) = b.2.1 k by omega, hs] at this
                    cases this
                  | some u' => exact ⟨u', rfl⟩
                obtain ⟨t1, t2, t3, t4⟩ := std_ok hI.2.1 hc q u' hq hu'
                exact ⟨t2, t4⟩) (b.2.1 k) 0 (by omega)
              rw [show kR (ss_c b k) (b.2.2.1 k) (b.2.1 k) (xs (r.2 l)) (fb_ct (fun i => decide (¬ xs (r.2 l) i = 9)) (b.2.1 k)) 0 = 0 from rfl, show fA (xs (r.2 l)) 0 = 0 from rfl, show nI 0 = 0 from rfl] at hon
              rw [hon] at hnum
              have ha := od_all X (d + 2) N S f2 m12 m13
              have hb0 : bc 0 = 0 := by decide
              have hW0 := hW 0 (by omega) 0 (by omega)
              have hoE : oE (ss_c b k) (b.2.2.1 k) (b.2.1 k) (fb_ct (fun i => decide (¬ xs (r.2 l) i = 9)) (b.2.1 k)) 0 0 = tO (ss_c b k) (b.2.2.1 k) (b.2.1 k) 0 0 (fb_ct (fun i => decide (¬ xs (r.2 l) i = 9)) (b.2.1 k)) := by
                unfold oE
                rw [hb0, if_pos (Nat.zero_le _)]
                rfl
              rw [show 0 * 64 + 0 = 0 from rfl, hoE] at hW0
              rw [hW0] at ha
              have hlt := tO_lt (ss_c b k) hI.2.1 (r := b.2.1 k) hI.1 0 0 (fb_ct (fun i => decide (¬ xs (r.2 l) i = 9)) (b.2.1 k))
              have hkl := kR_lt (ss_c b k) hI.2.1 hI.1 (xs (r.2 l)) (fb_ct (fun i => decide (¬ xs (r.2 l) i = 9)) (b.2.1 k)) (b.2.1 k) (Nat.le_refl _) (fun i hi => by
                rcases s3 i hi with z1 | z1
                · exact Or.inl z1.1
                · exact Or.inr (by omega))
              have hkl2 : b.2.1 k * (6 * 2 ^ 20) ≤ 6 * (6 * 2 ^ 20) := Nat.mul_le_mul_right _ hI.1
              have hkl3 : (6 * (6 * 2 ^ 20) : Nat) = 37748736 := by decide
              have hkl4 : rk_n r b k l ≤ 37748736 := by
                rw [← hkl3]
                exact Nat.le_trans hkl hkl2
              rw [← rk_n] at hnum
              rw [← rk_all] at ha hlt
              by_cases h6 : rk_n r b k l + 1 < rk_all r b k l
              · rw [if_neg (not_not_intro h6)]
                have h6' : nI (rk_n r b k l + 1) < nI (rk_all r b k l) := nI_lt h6 (by omega)
                obtain ⟨f3, e3, k3⟩ := tb_write X d N S kk I (k := k) (l := l) (by omega) (by omega) h3 (K := fb_ct (fun i => decide (¬ xs (r.2 l) i = 9)) (b.2.1 k)) (p := rk_n r b k l + 1) (by omega) m13 hW
                refine ⟨f3, ?_, k3⟩
                simp only [ke_100, kk_100_0, kk_100_14, kk_100_16, kk_100_38, kk_100_44, kk_100_64, kk_100_106, kl_100_0, kl_100_14, kl_100_16, kl_100_38, kl_100_44, kl_100_64, kl_100_106, ge_iconst, ge_lconst, ge_null, ge_iload, ge_lload, ge_aload, ge_istore, ge_lstore, ge_astore, ge_astoreN, ge_iinc, ge_iadd, ge_isub, ge_imul, ge_iand, ge_ior, ge_ixor, ge_ishl, ge_ishr, ge_iushr, ge_ladd, ge_lsub, ge_lmul, ge_lcmp, ge_idiv, ge_irem, ge_ldiv, ge_ineg, ge_i2l, ge_l2i, ge_lneg, ge_dupI, ge_dupR, ge_popI, ge_dup2, ge_goto, ge_if_eq, ge_if_ne, ge_if_lt, ge_if_ge, ge_if_gt, ge_if_le, ge_ic_eq, ge_ic_ne, ge_ic_lt, ge_ic_ge, ge_ic_gt, ge_ic_le, ge_ifnullN, ge_ifnullR, ge_ifnnN, ge_ifnnR, ge_switch, ge_getf, ge_putfI, ge_putfL, ge_putfR, ge_iald, ge_lald, ge_aald, ge_iast, ge_last, ge_aast, ge_alen, ge_new, ge_newI, ge_newL, ge_newQ, ge_oi, ge_copy, ge_max, ge_is0, ge_is1, ge_iv1, ge_is2, ge_iv2, ge_is3, ge_iv3, ge_is4, ge_iv4, ge_is5, ge_iv5, ge_iv6, ge_ret, ge_iret, ge_zret, ge_lret, ge_aretR, ge_aretN, ge_ld0, ge_lds, ge_sum0, ge_sumI, ge_sumL, ge_sumR, ge_sumN, ge_st0, ge_st1, ge_st2, ge_su0, ge_su1, ge_su2, ge_ap1, ge_ap0, qm_gf, qm_pf, qm_ia, qm_is, qm_la, qm_ls, qm_aa, qm_al, qm_isK, qm_kv, qm_cp, List.getElem?_cons_zero, List.getElem?_cons_succ, List.length_cons, List.length_nil, List.set_cons_zero, List.set_cons_succ, decide_true, if_true, if_false, eq_self, and_true, true_and, or_true, true_or, and_false, false_and, or_false, false_or, ↓reduceIte, Nat.reduceLT, Nat.reduceLeDiff, Nat.reduceAdd, Nat.zero_lt_succ, zi_eq0, zi_01, zi_eq1, zi_or, Nat.reduceEqDiff, not_true_eq_false, not_false_eq_true, va_up_self, zi_0ne1, zi_1ne0, tb_isBoardNumber, tb_isRowNumber, h1, h2, h0, hat, hat2, hr, hfa, hrr, hct, h12, e2, m0, m12, hnum, nI_1, ha, h6', e3]
              · rw [if_pos h6]
                have h6' : ¬ nI (rk_n r b k l + 1) < nI (rk_all r b k l) := nI_nlt (by omega) (by omega)
                refine ⟨f2, ?_, kk⟩
                simp only [ke_100, kk_100_0, kk_100_14, kk_100_16, kk_100_38, kk_100_44, kk_100_64, kk_100_106, kl_100_0, kl_100_14, kl_100_16, kl_100_38, kl_100_44, kl_100_64, kl_100_106, ge_iconst, ge_lconst, ge_null, ge_iload, ge_lload, ge_aload, ge_istore, ge_lstore, ge_astore, ge_astoreN, ge_iinc, ge_iadd, ge_isub, ge_imul, ge_iand, ge_ior, ge_ixor, ge_ishl, ge_ishr, ge_iushr, ge_ladd, ge_lsub, ge_lmul, ge_lcmp, ge_idiv, ge_irem, ge_ldiv, ge_ineg, ge_i2l, ge_l2i, ge_lneg, ge_dupI, ge_dupR, ge_popI, ge_dup2, ge_goto, ge_if_eq, ge_if_ne, ge_if_lt, ge_if_ge, ge_if_gt, ge_if_le, ge_ic_eq, ge_ic_ne, ge_ic_lt, ge_ic_ge, ge_ic_gt, ge_ic_le, ge_ifnullN, ge_ifnullR, ge_ifnnN, ge_ifnnR, ge_switch, ge_getf, ge_putfI, ge_putfL, ge_putfR, ge_iald, ge_lald, ge_aald, ge_iast, ge_last, ge_aast, ge_alen, ge_new, ge_newI, ge_newL, ge_newQ, ge_oi, ge_copy, ge_max, ge_is0, ge_is1, ge_iv1, ge_is2, ge_iv2, ge_is3, ge_iv3, ge_is4, ge_iv4, ge_is5, ge_iv5, ge_iv6, ge_ret, ge_iret, ge_zret, ge_lret, ge_aretR, ge_aretN, ge_ld0, ge_lds, ge_sum0, ge_sumI, ge_sumL, ge_sumR, ge_sumN, ge_st0, ge_st1, ge_st2, ge_su0, ge_su1, ge_su2, ge_ap1, ge_ap0, qm_gf, qm_pf, qm_ia, qm_is, qm_la, qm_ls, qm_aa, qm_al, qm_isK, qm_kv, qm_cp, List.getElem?_cons_zero, List.getElem?_cons_succ, List.length_cons, List.length_nil, List.set_cons_zero, List.set_cons_succ, decide_true, if_true, if_false, eq_self, and_true, true_and, or_true, true_or, and_false, false_and, or_false, false_or, ↓reduceIte, Nat.reduceLT, Nat.reduceLeDiff, Nat.reduceAdd, Nat.zero_lt_succ, zi_eq0, zi_01, zi_eq1, zi_or, Nat.reduceEqDiff, not_true_eq_false, not_false_eq_true, va_up_self, zi_0ne1, zi_1ne0, tb_isBoardNumber, tb_isRowNumber, h1, h2, h0, hat, hat2, hr, hfa, hrr, hct, h12, e2, m0, m12, hnum, nI_1, ha, h6']
          · have h5' : ¬ (r.1 l).toNatClampNeg = b.2.1 k := fun z1 => h5 (by rw [n2, z1])
            rw [if_pos h5]
            rw [if_neg h5'] at hfa
            obtain ⟨f2, e2, kk2⟩ := tb_refused X (d + 2) N S h 5 (by decide)
            have n5 : ¬ (5 : Int32) = 0 := by decide
            refine ⟨f2, ?_, kk2⟩
            simp only [ke_100, kk_100_0, kk_100_14, kk_100_16, kk_100_38, kk_100_44, kk_100_64, kk_100_106, kl_100_0, kl_100_14, kl_100_16, kl_100_38, kl_100_44, kl_100_64, kl_100_106, ge_iconst, ge_lconst, ge_null, ge_iload, ge_lload, ge_aload, ge_istore, ge_lstore, ge_astore, ge_astoreN, ge_iinc, ge_iadd, ge_isub, ge_imul, ge_iand, ge_ior, ge_ixor, ge_ishl, ge_ishr, ge_iushr, ge_ladd, ge_lsub, ge_lmul, ge_lcmp, ge_idiv, ge_irem, ge_ldiv, ge_ineg, ge_i2l, ge_l2i, ge_lneg, ge_dupI, ge_dupR, ge_popI, ge_dup2, ge_goto, ge_if_eq, ge_if_ne, ge_if_lt, ge_if_ge, ge_if_gt, ge_if_le, ge_ic_eq, ge_ic_ne, ge_ic_lt, ge_ic_ge, ge_ic_gt, ge_ic_le, ge_ifnullN, ge_ifnullR, ge_ifnnN, ge_ifnnR, ge_switch, ge_getf, ge_putfI, ge_putfL, ge_putfR, ge_iald, ge_lald, ge_aald, ge_iast, ge_last, ge_aast, ge_alen, ge_new, ge_newI, ge_newL, ge_newQ, ge_oi, ge_copy, ge_max, ge_is0, ge_is1, ge_iv1, ge_is2, ge_iv2, ge_is3, ge_iv3, ge_is4, ge_iv4, ge_is5, ge_iv5, ge_iv6, ge_ret, ge_iret, ge_zret, ge_lret, ge_aretR, ge_aretN, ge_ld0, ge_lds, ge_sum0, ge_sumI, ge_sumL, ge_sumR, ge_sumN, ge_st0, ge_st1, ge_st2, ge_su0, ge_su1, ge_su2, ge_ap1, ge_ap0, qm_gf, qm_pf, qm_ia, qm_is, qm_la, qm_ls, qm_aa, qm_al, qm_isK, qm_kv, qm_cp, List.getElem?_cons_zero, List.getElem?_cons_succ, List.length_cons, List.length_nil, List.set_cons_zero, List.set_cons_succ, decide_true, if_true, if_false, eq_self, and_true, true_and, or_true, true_or, and_false, false_and, or_false, false_or, ↓reduceIte, Nat.reduceLT, Nat.reduceLeDiff, Nat.reduceAdd, Nat.zero_lt_succ, zi_eq0, zi_01, zi_eq1, zi_or, Nat.reduceEqDiff, not_true_eq_false, not_false_eq_true, va_up_self, zi_0ne1, zi_1ne0, tb_isBoardNumber, tb_isRowNumber, h1, h2, h0, hat, hat2, hr, hfa, n5, e2, ss_no]
    · rw [if_pos (Or.inr h2)]
      refine ⟨f, ?_, h⟩
      simp only [ke_100, kk_100_0, kk_100_14, kk_100_16, kk_100_38, kk_100_44, kk_100_64, kk_100_106, kl_100_0, kl_100_14, kl_100_16, kl_100_38, kl_100_44, kl_100_64, kl_100_106, ge_iconst, ge_lconst, ge_null, ge_iload, ge_lload, ge_aload, ge_istore, ge_lstore, ge_astore, ge_astoreN, ge_iinc, ge_iadd, ge_isub, ge_imul, ge_iand, ge_ior, ge_ixor, ge_ishl, ge_ishr, ge_iushr, ge_ladd, ge_lsub, ge_lmul, ge_lcmp, ge_idiv, ge_irem, ge_ldiv, ge_ineg, ge_i2l, ge_l2i, ge_lneg, ge_dupI, ge_dupR, ge_popI, ge_dup2, ge_goto, ge_if_eq, ge_if_ne, ge_if_lt, ge_if_ge, ge_if_gt, ge_if_le, ge_ic_eq, ge_ic_ne, ge_ic_lt, ge_ic_ge, ge_ic_gt, ge_ic_le, ge_ifnullN, ge_ifnullR, ge_ifnnN, ge_ifnnR, ge_switch, ge_getf, ge_putfI, ge_putfL, ge_putfR, ge_iald, ge_lald, ge_aald, ge_iast, ge_last, ge_aast, ge_alen, ge_new, ge_newI, ge_newL, ge_newQ, ge_oi, ge_copy, ge_max, ge_is0, ge_is1, ge_iv1, ge_is2, ge_iv2, ge_is3, ge_iv3, ge_is4, ge_iv4, ge_is5, ge_iv5, ge_iv6, ge_ret, ge_iret, ge_zret, ge_lret, ge_aretR, ge_aretN, ge_ld0, ge_lds, ge_sum0, ge_sumI, ge_sumL, ge_sumR, ge_sumN, ge_st0, ge_st1, ge_st2, ge_su0, ge_su1, ge_su2, ge_ap1, ge_ap0, qm_gf, qm_pf, qm_ia, qm_is, qm_la, qm_ls, qm_aa, qm_al, qm_isK, qm_kv, qm_cp, List.getElem?_cons_zero, List.getElem?_cons_succ, List.length_cons, List.length_nil, List.set_cons_zero, List.set_cons_succ, decide_true, if_true, if_false, eq_self, and_true, true_and, or_true, true_or, and_false, false_and, or_false, false_or, ↓reduceIte, Nat.reduceLT, Nat.reduceLeDiff, Nat.reduceAdd, Nat.zero_lt_succ, zi_eq0, zi_01, zi_eq1, zi_or, Nat.reduceEqDiff, not_true_eq_false, not_false_eq_true, va_up_self, zi_0ne1, zi_1ne0, tb_isBoardNumber, tb_isRowNumber, h1, h2, ss_bad]
  · rw [if_pos (Or.inl h1)]
    refine ⟨f, ?_, h⟩
    simp only [ke_100, kk_100_0, kk_100_14, kk_100_16, kk_100_38, kk_100_44, kk_100_64, kk_100_106, kl_100_0, kl_100_14, kl_100_16, kl_100_38, kl_100_44, kl_100_64, kl_100_106, ge_iconst, ge_lconst, ge_null, ge_iload, ge_lload, ge_aload, ge_istore, ge_lstore, ge_astore, ge_astoreN, ge_iinc, ge_iadd, ge_isub, ge_imul, ge_iand, ge_ior, ge_ixor, ge_ishl, ge_ishr, ge_iushr, ge_ladd, ge_lsub, ge_lmul, ge_lcmp, ge_idiv, ge_irem, ge_ldiv, ge_ineg, ge_i2l, ge_l2i, ge_lneg, ge_dupI, ge_dupR, ge_popI, ge_dup2, ge_goto, ge_if_eq, ge_if_ne, ge_if_lt, ge_if_ge, ge_if_gt, ge_if_le, ge_ic_eq, ge_ic_ne, ge_ic_lt, ge_ic_ge, ge_ic_gt, ge_ic_le, ge_ifnullN, ge_ifnullR, ge_ifnnN, ge_ifnnR, ge_switch, ge_getf, ge_putfI, ge_putfL, ge_putfR, ge_iald, ge_lald, ge_aald, ge_iast, ge_last, ge_aast, ge_alen, ge_new, ge_newI, ge_newL, ge_newQ, ge_oi, ge_copy, ge_max, ge_is0, ge_is1, ge_iv1, ge_is2, ge_iv2, ge_is3, ge_iv3, ge_is4, ge_iv4, ge_is5, ge_iv5, ge_iv6, ge_ret, ge_iret, ge_zret, ge_lret, ge_aretR, ge_aretN, ge_ld0, ge_lds, ge_sum0, ge_sumI, ge_sumL, ge_sumR, ge_sumN, ge_st0, ge_st1, ge_st2, ge_su0, ge_su1, ge_su2, ge_ap1, ge_ap0, qm_gf, qm_pf, qm_ia, qm_is, qm_la, qm_ls, qm_aa, qm_al, qm_isK, qm_kv, qm_cp, List.getElem?_cons_zero, List.getElem?_cons_succ, List.length_cons, List.length_nil, List.set_cons_zero, List.set_cons_succ, decide_true, if_true, if_false, eq_self, and_true, true_and, or_true, true_or, and_false, false_and, or_false, false_or, ↓reduceIte, Nat.reduceLT, Nat.reduceLeDiff, Nat.reduceAdd, Nat.zero_lt_succ, zi_eq0, zi_01, zi_eq1, zi_or, Nat.reduceEqDiff, not_true_eq_false, not_false_eq_true, va_up_self, zi_0ne1, zi_1ne0, tb_isBoardNumber, h1, ss_bad]
end TB20
