/-! the model's slants: loops -/
section MD9
variable (X : qm_X) (d N S m : Nat) (g : Nat → qm_C) (s : md_S)
theorem sB_BB (s : md_S) (k : Nat) (p q : Nat → Int64) : sB (sB s k p) k q = sB s k q := sB_B s k p q
theorem lN_add' (a b : Nat) : lN a + lN b = lN (a + b) := by
  rw [lN_ofInt, lN_ofInt, lN_ofInt, ← Int64.ofInt_add]
  rfl
/-- one diagonal, one set -/
theorem md_sl_in {k h w dd sv : Nat} {c : Nat → Nat} (B : mB s k h w c) (hd : dd < 11) (hs : 0 < sv) (hs2 : sv < 2048) (i2 : Int32) (t6 t7 : Slot) (v : Nat → Int64) (hv : ∀ x, x < 2048 → v x = lN (if sv < x then sW (mcell h w c) (dd + 1) x else sW (mcell h w c) dd x)) : ∃ v' t6' t7', qm_go (qm_ex qm_M X (d + 19)) X kt_215 kk_215_68 [.val (.ref (m)), .val (.int (nI k)), .val (.int (i2)), .val (.int (0)), .val (.int (nI dd)), .val (.int (nI sv)), t6, t7] [] (N, S, mh m g (sB s 18 v)) = qm_go (qm_ex qm_M X (d + 19)) X kt_215 kk_215_68 [.val (.ref (m)), .val (.int (nI k)), .val (.int (i2)), .val (.int (0)), .val (.int (nI dd)), .val (.int (nI (sv - 1))), t6', t7'] [] (N, S, mh m g (sB s 18 v')) ∧ (∀ x, x < 2048 → v' x = lN (if sv - 1 < x then sW (mcell h w c) (dd + 1) x else sW (mcell h w c) dd x)) := by
  have b5 : 1 ≤ h ∧ h ≤ 6 ∧ w ≤ 6 := ⟨B.2.1, B.2.2.1, B.2.2.2.2.1⟩
  obtain ⟨⟨v', t7'⟩, e, P⟩ := gl0 (fun q (a : (Nat → Int64) × Slot) => qm_go (qm_ex qm_M X (d + 19)) X kt_215 kk_215_76 [.val (.ref (m)), .val (.int (nI k)), .val (.int (i2)), .val (.int (0)), .val (.int (nI dd)), .val (.int (nI sv)), .val (.int (nI q)), a.2] [] (N, S, mh m g (sB s 18 a.1))) (fun q a => ∀ x, x < 2048 → a.1 x = lN (if x = sv then sW (mcell h w c) dd sv + fb_sm (fun i => if (mcell h w c i (dd - i) && sv.testBit (2 * i + 5 - dd)) = true then sW (mcell h w c) dd (sv - 2 ^ (2 * i + 5 - dd)) else 0) q else if sv < x then sW (mcell h w c) (dd + 1) x else sW (mcell h w c) dd x)) (dd + 1) (v, t7) (fun x hx => by
    show v x = _
    rw [hv x hx]
    by_cases e : x = sv
    · subst e
      rw [if_neg (Nat.lt_irrefl _), if_pos rfl]
      rfl
    · rw [if_neg e]) (fun q a hq hP => by
    obtain ⟨v, t7⟩ := a
    dsimp only at hP
    have hc : ¬ nI dd < nI q := nI_nlt (by omega) (by omega)
    have hsub : nI dd - nI q = nI (dd - q) := pk_sub (by omega)
    have Bv : mB (sB s 18 v) k h w c := mB_of B rfl rfl rfl
    have hce := md_isCell X (d + 16) N S m g (sB s 18 v) Bv (i := q) (j := dd - q) (by omega) (by omega)
    have vs := hP sv hs2
    rw [if_pos rfl] at vs
    by_cases z : mcell h w c q (dd - q) = true
    · rw [if_pos z] at hce
      have hq6 : q < h ∧ dd - q < w := by
        unfold mcell at z
        simp only [Bool.and_eq_true, decide_eq_true_eq] at z
        omega
      have ho : (2 : Int32) * nI q - nI dd + 5 = nI (2 * q + 5 - dd) := by
        have : ∀ q, q < 6 → ∀ dd, dd < 11 → dd ≤ q + 5 → (2 : Int32) * nI q - nI dd + 5 = nI (2 * q + 5 - dd) := by decide
        exact this q (by omega) dd hd (by omega)
      have hh := md_has X (d + 18) (N, S, mh m g (sB s 18 v)) sv (2 * q + 5 - dd) (by omega) (by omega)
      by_cases y : sv.testBit (2 * q + 5 - dd) = true
      · rw [if_pos y] at hh
        obtain ⟨ix, ile⟩ := sl_ix sv hs2 (2 * q + 5 - dd) (by omega) y
        have p2 : 0 < 2 ^ (2 * q + 5 - dd) := Nat.two_pow_pos _
        have vr := hP (sv - 2 ^ (2 * q + 5 - dd)) (by omega)
        rw [if_neg (by omega), if_neg (by omega)] at vr
        have j1 : qm_in (nI sv) 2048 = true := zi_in (by omega) (by omega)
        have j2 : (nI sv).toNatClampNeg = sv := nI_clamp (by omega)
        have j3 : qm_in (nI (sv - 2 ^ (2 * q + 5 - dd))) 2048 = true := zi_in (by omega) (by omega)
        have j4 : (nI (sv - 2 ^ (2 * q + 5 - dd))).toNatClampNeg = sv - 2 ^ (2 * q + 5 - dd) := nI_clamp (by omega)
        refine ⟨(vp_updL v sv (v sv + v (sv - 2 ^ (2 * q + 5 - dd))), .val (.int (nI (2 * q + 5 - dd)))), ?_, fun x hx => ?_⟩
        · dsimp only
          conv => lhs; rw [kk_215_76]
          simp only [kk_215_143, kl_215_0, kl_215_19, kl_215_22, kl_215_45, kl_215_46, kl_215_53, kl_215_56, kl_215_68, kl_215_76, kl_215_143, kl_215_149, kl_215_155, kl_215_161, kl_215_167, kl_215_196, kl_215_197, kl_215_206, ge_iconst, ge_lconst, ge_null, ge_iload, ge_lload, ge_aload, ge_istore, ge_lstore, ge_astore, ge_astoreN, ge_iinc, ge_iadd, ge_isub, ge_imul, ge_iand, ge_ior, ge_ixor, ge_ishl, ge_ishr, ge_iushr, ge_ladd, ge_lsub, ge_lmul, ge_lcmp, ge_idiv, ge_irem, ge_ldiv, ge_ineg, ge_i2l, ge_l2i, ge_lneg, ge_dupI, ge_dupR, ge_popI, ge_dup2, ge_goto, ge_if_eq, ge_if_ne, ge_if_lt, ge_if_ge, ge_if_gt, ge_if_le, ge_ic_eq, ge_ic_ne, ge_ic_lt, ge_ic_ge, ge_ic_gt, ge_ic_le, ge_ifnullN, ge_ifnullR, ge_ifnnN, ge_ifnnR, ge_switch, ge_getf, ge_putfI, ge_putfL, ge_putfR, ge_iald, ge_lald, ge_aald, ge_iast, ge_last, ge_aast, ge_alen, ge_new, ge_newI, ge_newL, ge_newQ, ge_oi, ge_copy, ge_max, ge_is0, ge_is1, ge_iv1, ge_is2, ge_iv2, ge_is3, ge_iv3, ge_is4, ge_iv4, ge_is5, ge_iv5, ge_iv6, ge_ret, ge_iret, ge_zret, ge_lret, ge_aretR, ge_aretN, ge_ld0, ge_lds, ge_sum0, ge_sumI, ge_sumL, ge_sumR, ge_sumN, ge_st0, ge_st1, ge_st2, ge_su0, ge_su1, ge_su2, ge_ap1, ge_ap0, decide_false, Bool.and_false, Bool.false_and, Bool.and_true, Bool.true_and, Bool.false_eq_true, List.getElem?_cons_zero, List.getElem?_cons_succ, List.length_cons, List.length_nil, List.set_cons_zero, List.set_cons_succ, decide_true, if_true, if_false, eq_self, and_true, true_and, or_true, true_or, and_false, false_and, or_false, false_or, ↓reduceIte, Nat.reduceLT, Nat.reduceLeDiff, Nat.reduceAdd, Nat.zero_lt_succ, zi_eq0, zi_01, zi_eq1, zi_or, Nat.reduceEqDiff, not_true_eq_false, not_false_eq_true, va_up_self, zi_0ne1, zi_1ne0, mh_K, mg_0, mg_1, mg_2, mg_3, mg_4, mg_5, mg_6, mg_7, mg_8, mg_9, mg_10, mg_11, mg_12, mg_13, mg_14, mg_15, mg_16, mg_17, mg_18, mg_19, mg_20, mg_21, mg_22, mg_23, mg_24, mg_25, mg_26, mg_27, mg_28, mg_29, mg_30, mg_31, mg_32, mg_33, mp_0, mp_2, mp_21, mp_23, mp_24, mp_25, mp_26, mp_27, mp_30, mp_31, mp_32, mp_3, mp_4, mp_5, mp_28, mp_29, ma_1, mas_1, ma_2, mas_2, ma_3, mas_3, ma_4, mas_4, ma_5, mas_5, ma_6, mas_6, ma_7, mas_7, ma_8, mas_8, ma_9, mas_9, ma_10, mas_10, ml_11, mls_11, ml_12, mls_12, ml_13, mls_13, ma_14, mas_14, ma_15, mas_15, ma_16, mas_16, ma_17, mas_17, ml_18, mls_18, gs_II, gs_IL, gs_IA, gs_IB, gs_LI, gs_LL, gs_LA, gs_LB, gs_AI, gs_AL, gs_AA, gs_AB, gs_BI, gs_BL, gs_BA, gs_BB, Int32.reduceLE, Int32.reduceLT, mqe_01, mqe_02, mqe_03, mqe_04, mqe_10, mqe_12, mqe_13, mqe_14, mqe_20, mqe_21, mqe_23, mqe_24, mqe_30, mqe_31, mqe_32, mqe_34, mqe_40, mqe_41, mqe_42, mqe_43, hc, hsub, hce, ho, hh, ix, j1, j2, j3, j4, sB_BB, nI_1]
        · by_cases e : x = sv
          · subst e
            rw [if_pos rfl, fb_sm_succ, if_pos (show (mcell h w c q (dd - q) && x.testBit (2 * q + 5 - dd)) = true by rw [z, y]; rfl), ← Nat.add_assoc]
            show vp_updL v x _ x = _
            rw [vp_updL, if_pos rfl, vs, vr]
            exact (lN_add' _ _)
          · rw [if_neg e]
            show vp_updL v sv _ x = _
            rw [vp_updL, if_neg e]
            have := hP x hx
            rw [if_neg e] at this
            exact this
      · rw [if_neg y] at hh
        refine ⟨(v, .val (.int (nI (2 * q + 5 - dd)))), ?_, fun x hx => ?_⟩
        · dsimp only
          conv => lhs; rw [kk_215_76]
          simp only [kk_215_143, kl_215_0, kl_215_19, kl_215_22, kl_215_45, kl_215_46, kl_215_53, kl_215_56, kl_215_68, kl_215_76, kl_215_143, kl_215_149, kl_215_155, kl_215_161, kl_215_167, kl_215_196, kl_215_197, kl_215_206, ge_iconst, ge_lconst, ge_null, ge_iload, ge_lload, ge_aload, ge_istore, ge_lstore, ge_astore, ge_astoreN, ge_iinc, ge_iadd, ge_isub, ge_imul, ge_iand, ge_ior, ge_ixor, ge_ishl, ge_ishr, ge_iushr, ge_ladd, ge_lsub, ge_lmul, ge_lcmp, ge_idiv, ge_irem, ge_ldiv, ge_ineg, ge_i2l, ge_l2i, ge_lneg, ge_dupI, ge_dupR, ge_popI, ge_dup2, ge_goto, ge_if_eq, ge_if_ne, ge_if_lt, ge_if_ge, ge_if_gt, ge_if_le, ge_ic_eq, ge_ic_ne, ge_ic_lt, ge_ic_ge, ge_ic_gt, ge_ic_le, ge_ifnullN, ge_ifnullR, ge_ifnnN, ge_ifnnR, ge_switch, ge_getf, ge_putfI, ge_putfL, ge_putfR, ge_iald, ge_lald, ge_aald, ge_iast, ge_last, ge_aast, ge_alen, ge_new, ge_newI, ge_newL, ge_newQ, ge_oi, ge_copy, ge_max, ge_is0, ge_is1, ge_iv1, ge_is2, ge_iv2, ge_is3, ge_iv3, ge_is4, ge_iv4, ge_is5, ge_iv5, ge_iv6, ge_ret, ge_iret, ge_zret, ge_lret, ge_aretR, ge_aretN, ge_ld0, ge_lds, ge_sum0, ge_sumI, ge_sumL, ge_sumR, ge_sumN, ge_st0, ge_st1, ge_st2, ge_su0, ge_su1, ge_su2, ge_ap1, ge_ap0, decide_false, Bool.and_false, Bool.false_and, Bool.and_true, Bool.true_and, Bool.false_eq_true, List.getElem?_cons_zero, List.getElem?_cons_succ, List.length_cons, List.length_nil, List.set_cons_zero, List.set_cons_succ, decide_true, if_true, if_false, eq_self, and_true, true_and, or_true, true_or, and_false, false_and, or_false, false_or, ↓reduceIte, Nat.reduceLT, Nat.reduceLeDiff, Nat.reduceAdd, Nat.zero_lt_succ, zi_eq0, zi_01, zi_eq1, zi_or, Nat.reduceEqDiff, not_true_eq_false, not_false_eq_true, va_up_self, zi_0ne1, zi_1ne0, mh_K, mg_0, mg_1, mg_2, mg_3, mg_4, mg_5, mg_6, mg_7, mg_8, mg_9, mg_10, mg_11, mg_12, mg_13, mg_14, mg_15, mg_16, mg_17, mg_18, mg_19, mg_20, mg_21, mg_22, mg_23, mg_24, mg_25, mg_26, mg_27, mg_28, mg_29, mg_30, mg_31, mg_32, mg_33, mp_0, mp_2, mp_21, mp_23, mp_24, mp_25, mp_26, mp_27, mp_30, mp_31, mp_32, mp_3, mp_4, mp_5, mp_28, mp_29, ma_1, mas_1, ma_2, mas_2, ma_3, mas_3, ma_4, mas_4, ma_5, mas_5, ma_6, mas_6, ma_7, mas_7, ma_8, mas_8, ma_9, mas_9, ma_10, mas_10, ml_11, mls_11, ml_12, mls_12, ml_13, mls_13, ma_14, mas_14, ma_15, mas_15, ma_16, mas_16, ma_17, mas_17, ml_18, mls_18, gs_II, gs_IL, gs_IA, gs_IB, gs_LI, gs_LL, gs_LA, gs_LB, gs_AI, gs_AL, gs_AA, gs_AB, gs_BI, gs_BL, gs_BA, gs_BB, Int32.reduceLE, Int32.reduceLT, mqe_01, mqe_02, mqe_03, mqe_04, mqe_10, mqe_12, mqe_13, mqe_14, mqe_20, mqe_21, mqe_23, mqe_24, mqe_30, mqe_31, mqe_32, mqe_34, mqe_40, mqe_41, mqe_42, mqe_43, hc, hsub, hce, ho, hh, nI_1]
        · rw [fb_sm_succ, if_neg (show ¬ (mcell h w c q (dd - q) && sv.testBit (2 * q + 5 - dd)) = true by rw [z]; simpa using y), Nat.add_zero]
          exact hP x hx
    · rw [if_neg z] at hce
      refine ⟨(v, .val (.int ((2 : Int32) * nI q - nI dd + 5))), ?_, fun x hx => ?_⟩
      · dsimp only
        conv => lhs; rw [kk_215_76]
        simp only [kk_215_143, kl_215_0, kl_215_19, kl_215_22, kl_215_45, kl_215_46, kl_215_53, kl_215_56, kl_215_68, kl_215_76, kl_215_143, kl_215_149, kl_215_155, kl_215_161, kl_215_167, kl_215_196, kl_215_197, kl_215_206, ge_iconst, ge_lconst, ge_null, ge_iload, ge_lload, ge_aload, ge_istore, ge_lstore, ge_astore, ge_astoreN, ge_iinc, ge_iadd, ge_isub, ge_imul, ge_iand, ge_ior, ge_ixor, ge_ishl, ge_ishr, ge_iushr, ge_ladd, ge_lsub, ge_lmul, ge_lcmp, ge_idiv, ge_irem, ge_ldiv, ge_ineg, ge_i2l, ge_l2i, ge_lneg, ge_dupI, ge_dupR, ge_popI, ge_dup2, ge_goto, ge_if_eq, ge_if_ne, ge_if_lt, ge_if_ge, ge_if_gt, ge_if_le, ge_ic_eq, ge_ic_ne, ge_ic_lt, ge_ic_ge, ge_ic_gt, ge_ic_le, ge_ifnullN, ge_ifnullR, ge_ifnnN, ge_ifnnR, ge_switch, ge_getf, ge_putfI, ge_putfL, ge_putfR, ge_iald, ge_lald, ge_aald, ge_iast, ge_last, ge_aast, ge_alen, ge_new, ge_newI, ge_newL, ge_newQ, ge_oi, ge_copy, ge_max, ge_is0, ge_is1, ge_iv1, ge_is2, ge_iv2, ge_is3, ge_iv3, ge_is4, ge_iv4, ge_is5, ge_iv5, ge_iv6, ge_ret, ge_iret, ge_zret, ge_lret, ge_aretR, ge_aretN, ge_ld0, ge_lds, ge_sum0, ge_sumI, ge_sumL, ge_sumR, ge_sumN, ge_st0, ge_st1, ge_st2, ge_su0, ge_su1, ge_su2, ge_ap1, ge_ap0, decide_false, Bool.and_false, Bool.false_and, Bool.and_true, Bool.true_and, Bool.false_eq_true, List.getElem?_cons_zero, List.getElem?_cons_succ, List.length_cons, List.length_nil, List.set_cons_zero, List.set_cons_succ, decide_true, if_true, if_false, eq_self, and_true, true_and, or_true, true_or, and_false, false_and, or_false, false_or, ↓reduceIte, Nat.reduceLT, Nat.reduceLeDiff, Nat.reduceAdd, Nat.zero_lt_succ, zi_eq0, zi_01, zi_eq1, zi_or, Nat.reduceEqDiff, not_true_eq_false, not_false_eq_true, va_up_self, zi_0ne1, zi_1ne0, mh_K, mg_0, mg_1, mg_2, mg_3, mg_4, mg_5, mg_6, mg_7, mg_8, mg_9, mg_10, mg_11, mg_12, mg_13, mg_14, mg_15, mg_16, mg_17, mg_18, mg_19, mg_20, mg_21, mg_22, mg_23, mg_24, mg_25, mg_26, mg_27, mg_28, mg_29, mg_30, mg_31, mg_32, mg_33, mp_0, mp_2, mp_21, mp_23, mp_24, mp_25, mp_26, mp_27, mp_30, mp_31, mp_32, mp_3, mp_4, mp_5, mp_28, mp_29, ma_1, mas_1, ma_2, mas_2, ma_3, mas_3, ma_4, mas_4, ma_5, mas_5, ma_6, mas_6, ma_7, mas_7, ma_8, mas_8, ma_9, mas_9, ma_10, mas_10, ml_11, mls_11, ml_12, mls_12, ml_13, mls_13, ma_14, mas_14, ma_15, mas_15, ma_16, mas_16, ma_17, mas_17, ml_18, mls_18, gs_II, gs_IL, gs_IA, gs_IB, gs_LI, gs_LL, gs_LA, gs_LB, gs_AI, gs_AL, gs_AA, gs_AB, gs_BI, gs_BL, gs_BA, gs_BB, Int32.reduceLE, Int32.reduceLT, mqe_01, mqe_02, mqe_03, mqe_04, mqe_10, mqe_12, mqe_13, mqe_14, mqe_20, mqe_21, mqe_23, mqe_24, mqe_30, mqe_31, mqe_32, mqe_34, mqe_40, mqe_41, mqe_42, mqe_43, hc, hsub, hce, nI_1]
      · have z' : mcell h w c q (dd - q) = false := by simpa using z
        rw [fb_sm_succ, if_neg (show ¬ (mcell h w c q (dd - q) && sv.testBit (2 * q + 5 - dd)) = true by rw [z', Bool.false_and]; decide), Nat.add_zero]
        exact hP x hx)
  refine ⟨v', .val (.int (nI (dd + 1))), t7', ?_, fun x hx => ?_⟩
  · have hc0 : ¬ nI sv ≤ 0 := nI_ge (a := 0) (by omega) (by omega)
    have hc1 : nI dd < nI (dd + 1) := nI_lt (by omega) (by omega)
    have hdn : nI sv + (-1) = nI (sv - 1) := by
      have := mz_down (sv - 1)
      rwa [Nat.sub_add_cancel hs] at this
    dsimp only at e
    conv => lhs; rw [kk_215_68]
    simp only [kl_215_0, kl_215_19, kl_215_22, kl_215_45, kl_215_46, kl_215_53, kl_215_56, kl_215_68, kl_215_76, kl_215_143, kl_215_149, kl_215_155, kl_215_161, kl_215_167, kl_215_196, kl_215_197, kl_215_206, ge_iconst, ge_lconst, ge_null, ge_iload, ge_lload, ge_aload, ge_istore, ge_lstore, ge_astore, ge_astoreN, ge_iinc, ge_iadd, ge_isub, ge_imul, ge_iand, ge_ior, ge_ixor, ge_ishl, ge_ishr, ge_iushr, ge_ladd, ge_lsub, ge_lmul, ge_lcmp, ge_idiv, ge_irem, ge_ldiv, ge_ineg, ge_i2l, ge_l2i, ge_lneg, ge_dupI, ge_dupR, ge_popI, ge_dup2, ge_goto, ge_if_eq, ge_if_ne, ge_if_lt, ge_if_ge, ge_if_gt, ge_if_le, ge_ic_eq, ge_ic_ne, ge_ic_lt, ge_ic_ge, ge_ic_gt, ge_ic_le, ge_ifnullN, ge_ifnullR, ge_ifnnN, ge_ifnnR, ge_switch, ge_getf, ge_putfI, ge_putfL, ge_putfR, ge_iald, ge_lald, ge_aald, ge_iast, ge_last, ge_aast, ge_alen, ge_new, ge_newI, ge_newL, ge_newQ, ge_oi, ge_copy, ge_max, ge_is0, ge_is1, ge_iv1, ge_is2, ge_iv2, ge_is3, ge_iv3, ge_is4, ge_iv4, ge_is5, ge_iv5, ge_iv6, ge_ret, ge_iret, ge_zret, ge_lret, ge_aretR, ge_aretN, ge_ld0, ge_lds, ge_sum0, ge_sumI, ge_sumL, ge_sumR, ge_sumN, ge_st0, ge_st1, ge_st2, ge_su0, ge_su1, ge_su2, ge_ap1, ge_ap0, decide_false, Bool.and_false, Bool.false_and, Bool.and_true, Bool.true_and, Bool.false_eq_true, List.getElem?_cons_zero, List.getElem?_cons_succ, List.length_cons, List.length_nil, List.set_cons_zero, List.set_cons_succ, decide_true, if_true, if_false, eq_self, and_true, true_and, or_true, true_or, and_false, false_and, or_false, false_or, ↓reduceIte, Nat.reduceLT, Nat.reduceLeDiff, Nat.reduceAdd, Nat.zero_lt_succ, zi_eq0, zi_01, zi_eq1, zi_or, Nat.reduceEqDiff, not_true_eq_false, not_false_eq_true, va_up_self, zi_0ne1, zi_1ne0, mh_K, mg_0, mg_1, mg_2, mg_3, mg_4, mg_5, mg_6, mg_7, mg_8, mg_9, mg_10, mg_11, mg_12, mg_13, mg_14, mg_15, mg_16, mg_17, mg_18, mg_19, mg_20, mg_21, mg_22, mg_23, mg_24, mg_25, mg_26, mg_27, mg_28, mg_29, mg_30, mg_31, mg_32, mg_33, mp_0, mp_2, mp_21, mp_23, mp_24, mp_25, mp_26, mp_27, mp_30, mp_31, mp_32, mp_3, mp_4, mp_5, mp_28, mp_29, ma_1, mas_1, ma_2, mas_2, ma_3, mas_3, ma_4, mas_4, ma_5, mas_5, ma_6, mas_6, ma_7, mas_7, ma_8, mas_8, ma_9, mas_9, ma_10, mas_10, ml_11, mls_11, ml_12, mls_12, ml_13, mls_13, ma_14, mas_14, ma_15, mas_15, ma_16, mas_16, ma_17, mas_17, ml_18, mls_18, gs_II, gs_IL, gs_IA, gs_IB, gs_LI, gs_LL, gs_LA, gs_LB, gs_AI, gs_AL, gs_AA, gs_AB, gs_BI, gs_BL, gs_BA, gs_BB, Int32.reduceLE, Int32.reduceLT, mqe_01, mqe_02, mqe_03, mqe_04, mqe_10, mqe_12, mqe_13, mqe_14, mqe_20, mqe_21, mqe_23, mqe_24, mqe_30, mqe_31, mqe_32, mqe_34, mqe_40, mqe_41, mqe_42, mqe_43, hc0]
    rw [show nI 0 = (0 : Int32) from rfl] at e
    rw [e]
    conv => lhs; rw [kk_215_76]
    simp only [kk_215_149, kl_215_0, kl_215_19, kl_215_22, kl_215_45, kl_215_46, kl_215_53, kl_215_56, kl_215_68, kl_215_76, kl_215_143, kl_215_149, kl_215_155, kl_215_161, kl_215_167, kl_215_196, kl_215_197, kl_215_206, ge_iconst, ge_lconst, ge_null, ge_iload, ge_lload, ge_aload, ge_istore, ge_lstore, ge_astore, ge_astoreN, ge_iinc, ge_iadd, ge_isub, ge_imul, ge_iand, ge_ior, ge_ixor, ge_ishl, ge_ishr, ge_iushr, ge_ladd, ge_lsub, ge_lmul, ge_lcmp, ge_idiv, ge_irem, ge_ldiv, ge_ineg, ge_i2l, ge_l2i, ge_lneg, ge_dupI, ge_dupR, ge_popI, ge_dup2, ge_goto, ge_if_eq, ge_if_ne, ge_if_lt, ge_if_ge, ge_if_gt, ge_if_le, ge_ic_eq, ge_ic_ne, ge_ic_lt, ge_ic_ge, ge_ic_gt, ge_ic_le, ge_ifnullN, ge_ifnullR, ge_ifnnN, ge_ifnnR, ge_switch, ge_getf, ge_putfI, ge_putfL, ge_putfR, ge_iald, ge_lald, ge_aald, ge_iast, ge_last, ge_aast, ge_alen, ge_new, ge_newI, ge_newL, ge_newQ, ge_oi, ge_copy, ge_max, ge_is0, ge_is1, ge_iv1, ge_is2, ge_iv2, ge_is3, ge_iv3, ge_is4, ge_iv4, ge_is5, ge_iv5, ge_iv6, ge_ret, ge_iret, ge_zret, ge_lret, ge_aretR, ge_aretN, ge_ld0, ge_lds, ge_sum0, ge_sumI, ge_sumL, ge_sumR, ge_sumN, ge_st0, ge_st1, ge_st2, ge_su0, ge_su1, ge_su2, ge_ap1, ge_ap0, decide_false, Bool.and_false, Bool.false_and, Bool.and_true, Bool.true_and, Bool.false_eq_true, List.getElem?_cons_zero, List.getElem?_cons_succ, List.length_cons, List.length_nil, List.set_cons_zero, List.set_cons_succ, decide_true, if_true, if_false, eq_self, and_true, true_and, or_true, true_or, and_false, false_and, or_false, false_or, ↓reduceIte, Nat.reduceLT, Nat.reduceLeDiff, Nat.reduceAdd, Nat.zero_lt_succ, zi_eq0, zi_01, zi_eq1, zi_or, Nat.reduceEqDiff, not_true_eq_false, not_false_eq_true, va_up_self, zi_0ne1, zi_1ne0, mh_K, mg_0, mg_1, mg_2, mg_3, mg_4, mg_5, mg_6, mg_7, mg_8, mg_9, mg_10, mg_11, mg_12, mg_13, mg_14, mg_15, mg_16, mg_17, mg_18, mg_19, mg_20, mg_21, mg_22, mg_23, mg_24, mg_25, mg_26, mg_27, mg_28, mg_29, mg_30, mg_31, mg_32, mg_33, mp_0, mp_2, mp_21, mp_23, mp_24, mp_25, mp_26, mp_27, mp_30, mp_31, mp_32, mp_3, mp_4, mp_5, mp_28, mp_29, ma_1, mas_1, ma_2, mas_2, ma_3, mas_3, ma_4, mas_4, ma_5, mas_5, ma_6, mas_6, ma_7, mas_7, ma_8, mas_8, ma_9, mas_9, ma_10, mas_10, ml_11, mls_11, ml_12, mls_12, ml_13, mls_13, ma_14, mas_14, ma_15, mas_15, ma_16, mas_16, ma_17, mas_17, ml_18, mls_18, gs_II, gs_IL, gs_IA, gs_IB, gs_LI, gs_LL, gs_LA, gs_LB, gs_AI, gs_AL, gs_AA, gs_AB, gs_BI, gs_BL, gs_BA, gs_BB, Int32.reduceLE, Int32.reduceLT, mqe_01, mqe_02, mqe_03, mqe_04, mqe_10, mqe_12, mqe_13, mqe_14, mqe_20, mqe_21, mqe_23, mqe_24, mqe_30, mqe_31, mqe_32, mqe_34, mqe_40, mqe_41, mqe_42, mqe_43, hc1, hdn]
  · have := P x hx
    dsimp only at this
    rw [this]
    by_cases e : x = sv
    · subst e
      rw [if_pos rfl, if_pos (by omega)]
      rfl
    · rw [if_neg e, ifc (show sv < x ↔ sv - 1 < x by omega)]
end MD9
