/-! free cells: nothing depends on what lay in the array before -/
theorem fr_give_ag (s fr : Nat) (m : Int32) {u v : Nat → Int32} (hs : s < 64) (h : ag 2368 u v) : ag 2368 (fr_give s fr m u) (fr_give s fr m v) := by
  unfold fr_give
  split
  · exact ag_upd h _ (by rw [h _ (by omega)])
  · exact h
theorem fr_in_ag (o s fr : Nat) (bf : Int32) (hs : s < 64) : ∀ m j (u v : Nat → Int32), j + m ≤ 6 → ag 2368 u v → ag 2368 (fr_in o s fr bf m j u) (fr_in o s fr bf m j v)
  | 0, _, _, _, _, h => h
  | m + 1, j, u, v, hj, h => by
    rw [fr_in, fr_in]
    refine fr_in_ag o s fr bf hs m (j + 1) _ _ (by omega) ?_
    split
    · exact h
    · exact fr_give_ag _ _ _ (zb_or_lt hs (show j < 6 by omega)) h
theorem fr_add_ag (o s fr : Nat) {u v : Nat → Int32} (hs : s < 64) (hf : fr < 37) (h : ag 2368 u v) : ag 2368 (fr_add o s fr u) (fr_add o s fr v) := by
  have e := h (s * 37 + fr) (by omega)
  unfold fr_add
  rw [e]
  split
  · exact h
  · exact fr_in_ag o s fr _ hs 6 0 _ _ (by omega) (fr_give_ag _ _ _ hs (ag_upd h _ rfl))
theorem fr_fl_ag (c s : Nat) (hs : s < 64) : ∀ k (u v : Nat → Int32), k ≤ 37 → ag 2368 u v → ag 2368 (fr_fl c s k u) (fr_fl c s k v)
  | 0, _, _, _, h => h
  | k + 1, u, v, hk, h => by
    rw [fr_fl, fr_fl]
    exact fr_fl_ag c s hs k _ _ (by omega) (fr_add_ag _ s k hs (by omega) h)
theorem fr_sets_ag (c : Nat) : ∀ s (u v : Nat → Int32), s ≤ 64 → ag 2368 u v → ag 2368 (fr_sets c s u) (fr_sets c s v)
  | 0, _, _, _, h => h
  | s + 1, u, v, hs, h => by
    rw [fr_sets, fr_sets]
    exact fr_sets_ag c s _ _ (by omega) (fr_fl_ag c s (by omega) 37 _ _ (by omega) h)
theorem fr_rows_ag (c : Nat → Nat) : ∀ m k (u v : Nat → Int32), ag 2368 u v → ag 2368 (fr_rows c m k u) (fr_rows c m k v)
  | 0, _, _, _, h => h
  | m + 1, k, u, v, h => by
    rw [fr_rows, fr_rows]
    exact fr_rows_ag c m (k + 1) _ _ (fr_sets_ag _ 64 _ _ (by omega) h)
def fr_N (c : Nat → Nat) (hh : Nat) : Nat → Int32 := fr_W c hh (fun _ => 0)
theorem fr_W_ag (c : Nat → Nat) (hh : Nat) (w : Nat → Int32) : ag 2368 (fr_W c hh w) (fr_N c hh) := fr_rows_ag c hh 0 _ _ (ag_upd (ag_fill 2368 _ _ 0) 0 rfl)
theorem fr_sum_ag (k : Int32) (fr : Nat) {u v : Nat → Int32} (hf : fr < 37) (h : ag 2368 u v) : ∀ m s x, s + m ≤ 64 → fr_sum k fr u m s x = fr_sum k fr v m s x
  | 0, _, _, _ => rfl
  | m + 1, s, x, hs => by rw [fr_sum, fr_sum, h _ (by omega), fr_sum_ag k fr hf h m (s + 1) _ (by omega)]
section TB4
variable (X : qm_X) (d N S : Nat)
variable {z : Nat} {g f : Nat → qm_C} {r : ss_R} {b : ss_B} {t : ss_T}
theorem tk_14 (h : TBk z g r b t f) : f (z + 14) = .inr (2, [.ref (z + 15)]) := h.1 14 (by omega)
/-- the cells of a row as a number -/
def ss_c (b : ss_B) (k i : Nat) : Nat := (b.2.2.2 k i).toNatClampNeg
theorem ss_c_ok (I : ss_I r b) {k : Nat} (hk : k < 12) (h2 : ¬ b.1 k = -1) {i : Nat} (hi : i < b.2.1 k) : ss_c b k i < 2 ^ b.2.2.1 k ∧ ss_c b k i < 64 ∧ b.2.2.2 k i = nI (ss_c b k i) := by
  obtain ⟨c, hc, ec⟩ := ((I.2 k hk).2.2 h2).2.2.2 i hi
  have hp : 2 ^ b.2.2.1 k ≤ 2 ^ 6 := Nat.pow_le_pow_right (by decide) (I.2 k hk).2.1
  unfold ss_c
  rw [ec, nI_clamp (show c < 2 ^ 31 by omega)]
  exact ⟨hc, by omega, rfl⟩
def op_spread (x : Int32) (w : Int32) (m : Int32) (r : ss_R) (b : ss_B) (t : ss_T) : ss_A := if ¬ (0 ≤ x ∧ x ≤ 11) ∨ ¬ (0 ≤ w ∧ w ≤ 36) ∨ ¬ (0 ≤ m ∧ m ≤ 36) then ss_bad r b t else if b.1 x.toNatClampNeg = -1 then ss_no r b t 1 else (.int 1, r, b, ss_way t (fr_sum w m.toNatClampNeg (fr_N (ss_c b x.toNatClampNeg) (b.2.1 x.toNatClampNeg)) 64 0 0).toInt64)
theorem tb_spread (h : TBk z g r b t f) (I : ss_I r b) (x : Int32) (w : Int32) (m : Int32) : TBo X N S (d + 4) z g 97 [.ref z, .int x, .int w, .int m] f (op_spread x w m r b t) := by
  have h0 := tk_0 h
  rw [op_spread]
  by_cases h1 : 0 ≤ x ∧ x ≤ 11
  · skip
    by_cases hE0 : 0 ≤ w ∧ w ≤ 36
    · skip
      by_cases hE1 : 0 ≤ m ∧ m ≤ 36
      · skip
        rw [if_neg (not_or.mpr ⟨not_not_intro h1, (not_or.mpr ⟨not_not_intro hE0, (not_not_intro hE1)⟩)⟩)]
        obtain ⟨k, hk, ek⟩ := nI_of2 (x := x) (M := 11) (n := 11) (by decide) (Int32.not_lt.mpr h1.1) h1.2
        subst ek
        rw [nI_clamp (show k < 2 ^ 31 by omega)]
        have hat := tb_boardAt X (d + 0) N S h (k := k) (by omega)
        by_cases h2 : b.1 k = -1
        · rw [if_pos h2]
          obtain ⟨f1, e1, k1⟩ := tb_refused X (d + 2) N S h 1 (by decide)
          refine ⟨f1, ?_, k1⟩
          simp only [ke_97, kk_97_0, kk_97_27, kk_97_29, kk_97_47, kl_97_0, kl_97_27, kl_97_29, kl_97_47, ge_iconst, ge_lconst, ge_null, ge_iload, ge_lload, ge_aload, ge_istore, ge_lstore, ge_astore, ge_astoreN, ge_iinc, ge_iadd, ge_isub, ge_imul, ge_iand, ge_ior, ge_ixor, ge_ishl, ge_ishr, ge_iushr, ge_ladd, ge_lsub, ge_lmul, ge_lcmp, ge_idiv, ge_irem, ge_ldiv, ge_ineg, ge_i2l, ge_l2i, ge_lneg, ge_dupI, ge_dupR, ge_popI, ge_dup2, ge_goto, ge_if_eq, ge_if_ne, ge_if_lt, ge_if_ge, ge_if_gt, ge_if_le, ge_ic_eq, ge_ic_ne, ge_ic_lt, ge_ic_ge, ge_ic_gt, ge_ic_le, ge_ifnullN, ge_ifnullR, ge_ifnnN, ge_ifnnR, ge_switch, ge_getf, ge_putfI, ge_putfL, ge_putfR, ge_iald, ge_lald, ge_aald, ge_iast, ge_last, ge_aast, ge_alen, ge_new, ge_newI, ge_newL, ge_newQ, ge_oi, ge_copy, ge_max, ge_is0, ge_is1, ge_iv1, ge_is2, ge_iv2, ge_is3, ge_iv3, ge_is4, ge_iv4, ge_is5, ge_iv5, ge_iv6, ge_ret, ge_iret, ge_zret, ge_lret, ge_aretR, ge_aretN, ge_ld0, ge_lds, ge_sum0, ge_sumI, ge_sumL, ge_sumR, ge_sumN, ge_st0, ge_st1, ge_st2, ge_su0, ge_su1, ge_su2, ge_ap1, ge_ap0, qm_gf, qm_pf, qm_ia, qm_is, qm_la, qm_ls, qm_aa, qm_al, qm_isK, qm_kv, qm_cp, List.getElem?_cons_zero, List.getElem?_cons_succ, List.length_cons, List.length_nil, List.set_cons_zero, List.set_cons_succ, decide_true, if_true, if_false, eq_self, and_true, true_and, or_true, true_or, and_false, false_and, or_false, false_or, ↓reduceIte, Nat.reduceLT, Nat.reduceLeDiff, Nat.reduceAdd, Nat.zero_lt_succ, zi_eq0, zi_01, zi_eq1, zi_or, Nat.reduceEqDiff, not_true_eq_false, not_false_eq_true, va_up_self, zi_0ne1, zi_1ne0, tb_isBoardNumber, tb_isWithin, tb_isRowNumber, h1, hE0, hE1, h0, hat, h2, e1, ss_no]
        · rw [if_neg h2]
          rw [if_neg h2] at hat
          have hr := tk_brd h (k := k) (by omega)
          have hq := tk_cl h (k := k) (by omega)
          have hI := I.2 k (by omega)
          have h14 := tk_14 h
          obtain ⟨w0, hw0⟩ := h.1 15 (by omega)
          have e1 := fr_findFor X d N S (c := ss_c b k) f w0 hI.1 (fun i hi => (ss_c_ok I (by omega) h2 hi).2.1) (fun i hi => (ss_c_ok I (by omega) h2 hi).2.2) (by omega) (by omega) (by omega) h14 hw0 hr hq
          have k1 : TBk z g r b t (va_up f (z + 15) (.inl (0, 2368, .inl (fr_W (ss_c b k) (b.2.1 k) w0)))) := tk_s 15 h (by omega) ⟨_, rfl⟩
          have hv := fr_W_ag (ss_c b k) (b.2.1 k) w0
          have m0 := tk_0 k1
          have m14 := tk_14 k1
          have m15 : (va_up f (z + 15) (.inl (0, 2368, .inl (fr_W (ss_c b k) (b.2.1 k) w0)))) (z + 15) = .inl (0, 2368, .inl (fr_W (ss_c b k) (b.2.1 k) w0)) := va_up_self _ _ _
          generalize va_up f (z + 15) (.inl (0, 2368, .inl (fr_W (ss_c b k) (b.2.1 k) w0))) = f1 at e1 k1 m0 m14 m15
          obtain ⟨i, hi, ei⟩ := nI_of2 (x := m) (M := 36) (n := 36) (by decide) (Int32.not_lt.mpr hE1.1) hE1.2
          subst ei
          rw [nI_clamp (show i < 2 ^ 31 by omega)]
          have hA := fr_standsThatLeave X (d + 1) N S f1 w i _ (by omega) m14 m15
          rw [fr_sum_ag w i (by omega) hv 64 0 0 (by omega)] at hA
          refine ⟨_, ?_, tk_way _ k1⟩
          simp only [ke_97, kk_97_0, kk_97_27, kk_97_29, kk_97_47, kl_97_0, kl_97_27, kl_97_29, kl_97_47, ge_iconst, ge_lconst, ge_null, ge_iload, ge_lload, ge_aload, ge_istore, ge_lstore, ge_astore, ge_astoreN, ge_iinc, ge_iadd, ge_isub, ge_imul, ge_iand, ge_ior, ge_ixor, ge_ishl, ge_ishr, ge_iushr, ge_ladd, ge_lsub, ge_lmul, ge_lcmp, ge_idiv, ge_irem, ge_ldiv, ge_ineg, ge_i2l, ge_l2i, ge_lneg, ge_dupI, ge_dupR, ge_popI, ge_dup2, ge_goto, ge_if_eq, ge_if_ne, ge_if_lt, ge_if_ge, ge_if_gt, ge_if_le, ge_ic_eq, ge_ic_ne, ge_ic_lt, ge_ic_ge, ge_ic_gt, ge_ic_le, ge_ifnullN, ge_ifnullR, ge_ifnnN, ge_ifnnR, ge_switch, ge_getf, ge_putfI, ge_putfL, ge_putfR, ge_iald, ge_lald, ge_aald, ge_iast, ge_last, ge_aast, ge_alen, ge_new, ge_newI, ge_newL, ge_newQ, ge_oi, ge_copy, ge_max, ge_is0, ge_is1, ge_iv1, ge_is2, ge_iv2, ge_is3, ge_iv3, ge_is4, ge_iv4, ge_is5, ge_iv5, ge_iv6, ge_ret, ge_iret, ge_zret, ge_lret, ge_aretR, ge_aretN, ge_ld0, ge_lds, ge_sum0, ge_sumI, ge_sumL, ge_sumR, ge_sumN, ge_st0, ge_st1, ge_st2, ge_su0, ge_su1, ge_su2, ge_ap1, ge_ap0, qm_gf, qm_pf, qm_ia, qm_is, qm_la, qm_ls, qm_aa, qm_al, qm_isK, qm_kv, qm_cp, List.getElem?_cons_zero, List.getElem?_cons_succ, List.length_cons, List.length_nil, List.set_cons_zero, List.set_cons_succ, decide_true, if_true, if_false, eq_self, and_true, true_and, or_true, true_or, and_false, false_and, or_false, false_or, ↓reduceIte, Nat.reduceLT, Nat.reduceLeDiff, Nat.reduceAdd, Nat.zero_lt_succ, zi_eq0, zi_01, zi_eq1, zi_or, Nat.reduceEqDiff, not_true_eq_false, not_false_eq_true, va_up_self, zi_0ne1, zi_1ne0, tb_isBoardNumber, tb_isWithin, tb_isRowNumber, h1, hE0, hE1, h0, hat, h2, hr, h14, e1, m0, m14, hA]
      · rw [if_pos (Or.inr (Or.inr hE1))]
        refine ⟨f, ?_, h⟩
        simp only [ke_97, kk_97_0, kk_97_27, kk_97_29, kk_97_47, kl_97_0, kl_97_27, kl_97_29, kl_97_47, ge_iconst, ge_lconst, ge_null, ge_iload, ge_lload, ge_aload, ge_istore, ge_lstore, ge_astore, ge_astoreN, ge_iinc, ge_iadd, ge_isub, ge_imul, ge_iand, ge_ior, ge_ixor, ge_ishl, ge_ishr, ge_iushr, ge_ladd, ge_lsub, ge_lmul, ge_lcmp, ge_idiv, ge_irem, ge_ldiv, ge_ineg, ge_i2l, ge_l2i, ge_lneg, ge_dupI, ge_dupR, ge_popI, ge_dup2, ge_goto, ge_if_eq, ge_if_ne, ge_if_lt, ge_if_ge, ge_if_gt, ge_if_le, ge_ic_eq, ge_ic_ne, ge_ic_lt, ge_ic_ge, ge_ic_gt, ge_ic_le, ge_ifnullN, ge_ifnullR, ge_ifnnN, ge_ifnnR, ge_switch, ge_getf, ge_putfI, ge_putfL, ge_putfR, ge_iald, ge_lald, ge_aald, ge_iast, ge_last, ge_aast, ge_alen, ge_new, ge_newI, ge_newL, ge_newQ, ge_oi, ge_copy, ge_max, ge_is0, ge_is1, ge_iv1, ge_is2, ge_iv2, ge_is3, ge_iv3, ge_is4, ge_iv4, ge_is5, ge_iv5, ge_iv6, ge_ret, ge_iret, ge_zret, ge_lret, ge_aretR, ge_aretN, ge_ld0, ge_lds, ge_sum0, ge_sumI, ge_sumL, ge_sumR, ge_sumN, ge_st0, ge_st1, ge_st2, ge_su0, ge_su1, ge_su2, ge_ap1, ge_ap0, qm_gf, qm_pf, qm_ia, qm_is, qm_la, qm_ls, qm_aa, qm_al, qm_isK, qm_kv, qm_cp, List.getElem?_cons_zero, List.getElem?_cons_succ, List.length_cons, List.length_nil, List.set_cons_zero, List.set_cons_succ, decide_true, if_true, if_false, eq_self, and_true, true_and, or_true, true_or, and_false, false_and, or_false, false_or, ↓reduceIte, Nat.reduceLT, Nat.reduceLeDiff, Nat.reduceAdd, Nat.zero_lt_succ, zi_eq0, zi_01, zi_eq1, zi_or, Nat.reduceEqDiff, not_true_eq_false, not_false_eq_true, va_up_self, zi_0ne1, zi_1ne0, tb_isBoardNumber, tb_isWithin, tb_isRowNumber, h1, hE0, hE1, ss_bad]
    · rw [if_pos (Or.inr (Or.inl hE0))]
      refine ⟨f, ?_, h⟩
      simp only [ke_97, kk_97_0, kk_97_27, kk_97_29, kk_97_47, kl_97_0, kl_97_27, kl_97_29, kl_97_47, ge_iconst, ge_lconst, ge_null, ge_iload, ge_lload, ge_aload, ge_istore, ge_lstore, ge_astore, ge_astoreN, ge_iinc, ge_iadd, ge_isub, ge_imul, ge_iand, ge_ior, ge_ixor, ge_ishl, ge_ishr, ge_iushr, ge_ladd, ge_lsub, ge_lmul, ge_lcmp, ge_idiv, ge_irem, ge_ldiv, ge_ineg, ge_i2l, ge_l2i, ge_lneg, ge_dupI, ge_dupR, ge_popI, ge_dup2, ge_goto, ge_if_eq, ge_if_ne, ge_if_lt, ge_if_ge, ge_if_gt, ge_if_le, ge_ic_eq, ge_ic_ne, ge_ic_lt, ge_ic_ge, ge_ic_gt, ge_ic_le, ge_ifnullN, ge_ifnullR, ge_ifnnN, ge_ifnnR, ge_switch, ge_getf, ge_putfI, ge_putfL, ge_putfR, ge_iald, ge_lald, ge_aald, ge_iast, ge_last, ge_aast, ge_alen, ge_new, ge_newI, ge_newL, ge_newQ, ge_oi, ge_copy, ge_max, ge_is0, ge_is1, ge_iv1, ge_is2, ge_iv2, ge_is3, ge_iv3, ge_is4, ge_iv4, ge_is5, ge_iv5, ge_iv6, ge_ret, ge_iret, ge_zret, ge_lret, ge_aretR, ge_aretN, ge_ld0, ge_lds, ge_sum0, ge_sumI, ge_sumL, ge_sumR, ge_sumN, ge_st0, ge_st1, ge_st2, ge_su0, ge_su1, ge_su2, ge_ap1, ge_ap0, qm_gf, qm_pf, qm_ia, qm_is, qm_la, qm_ls, qm_aa, qm_al, qm_isK, qm_kv, qm_cp, List.getElem?_cons_zero, List.getElem?_cons_succ, List.length_cons, List.length_nil, List.set_cons_zero, List.set_cons_succ, decide_true, if_true, if_false, eq_self, and_true, true_and, or_true, true_or, and_false, false_and, or_false, false_or, ↓reduceIte, Nat.reduceLT, Nat.reduceLeDiff, Nat.reduceAdd, Nat.zero_lt_succ, zi_eq0, zi_01, zi_eq1, zi_or, Nat.reduceEqDiff, not_true_eq_false, not_false_eq_true, va_up_self, zi_0ne1, zi_1ne0, tb_isBoardNumber, tb_isWithin, tb_isRowNumber, h1, hE0, ss_bad]
  · rw [if_pos (Or.inl h1)]
    refine ⟨f, ?_, h⟩
    simp only [ke_97, kk_97_0, kk_97_27, kk_97_29, kk_97_47, kl_97_0, kl_97_27, kl_97_29, kl_97_47, ge_iconst, ge_lconst, ge_null, ge_iload, ge_lload, ge_aload, ge_istore, ge_lstore, ge_astore, ge_astoreN, ge_iinc, ge_iadd, ge_isub, ge_imul, ge_iand, ge_ior, ge_ixor, ge_ishl, ge_ishr, ge_iushr, ge_ladd, ge_lsub, ge_lmul, ge_lcmp, ge_idiv, ge_irem, ge_ldiv, ge_ineg, ge_i2l, ge_l2i, ge_lneg, ge_dupI, ge_dupR, ge_popI, ge_dup2, ge_goto, ge_if_eq, ge_if_ne, ge_if_lt, ge_if_ge, ge_if_gt, ge_if_le, ge_ic_eq, ge_ic_ne, ge_ic_lt, ge_ic_ge, ge_ic_gt, ge_ic_le, ge_ifnullN, ge_ifnullR, ge_ifnnN, ge_ifnnR, ge_switch, ge_getf, ge_putfI, ge_putfL, ge_putfR, ge_iald, ge_lald, ge_aald, ge_iast, ge_last, ge_aast, ge_alen, ge_new, ge_newI, ge_newL, ge_newQ, ge_oi, ge_copy, ge_max, ge_is0, ge_is1, ge_iv1, ge_is2, ge_iv2, ge_is3, ge_iv3, ge_is4, ge_iv4, ge_is5, ge_iv5, ge_iv6, ge_ret, ge_iret, ge_zret, ge_lret, ge_aretR, ge_aretN, ge_ld0, ge_lds, ge_sum0, ge_sumI, ge_sumL, ge_sumR, ge_sumN, ge_st0, ge_st1, ge_st2, ge_su0, ge_su1, ge_su2, ge_ap1, ge_ap0, qm_gf, qm_pf, qm_ia, qm_is, qm_la, qm_ls, qm_aa, qm_al, qm_isK, qm_kv, qm_cp, List.getElem?_cons_zero, List.getElem?_cons_succ, List.length_cons, List.length_nil, List.set_cons_zero, List.set_cons_succ, decide_true, if_true, if_false, eq_self, and_true, true_and, or_true, true_or, and_false, false_and, or_false, false_or, ↓reduceIte, Nat.reduceLT, Nat.reduceLeDiff, Nat.reduceAdd, Nat.zero_lt_succ, zi_eq0, zi_01, zi_eq1, zi_or, Nat.reduceEqDiff, not_true_eq_false, not_false_eq_true, va_up_self, zi_0ne1, zi_1ne0, tb_isBoardNumber, tb_isWithin, tb_isRowNumber, h1, ss_bad]
end TB4
