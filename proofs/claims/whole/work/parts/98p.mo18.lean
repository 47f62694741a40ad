/-! the model's slants against the class's -/
theorem sl_D_ok {r : ss_R} {b : ss_B} (I : ss_I r b) {k : Nat} (hk : k < 12) (h3 : ¬ b.1 k = -1) {par : Nat} (hp : par < 2) : ∀ a, a < 6 → cD (mcell (b.2.1 k) (b.2.2.1 k) (ss_c b k)) par a < 64 ∧ sl_D b k (nI par) a = nI (cD (mcell (b.2.1 k) (b.2.2.1 k) (ss_c b k)) par a) := fun a ha => by
  have hI := I.2 k hk
  refine ⟨lb_lt _, ?_⟩
  unfold sl_D
  refine bd_dg_ok (C := mcell (b.2.1 k) (b.2.2.1 k) (ss_c b k)) hp hI.1 hI.2.1 (fun i hi j hj => ?_) (fun i j h => ?_) (b.2.1 k) 0 _ (by omega) (fun x hx => ?_) a ha
  · have e3 := cell_bit (c := ss_c b k i) (j := j) (by omega)
    rw [← (ss_c_ok I hk h3 hi).2.2] at e3
    unfold bd_hc mcell
    rw [decide_eq_true_eq, decide_eq_true hi, decide_eq_true hj, Bool.true_and, Bool.true_and, e3]
    constructor
    · intro q
      cases h : (ss_c b k i).testBit j
      · exact absurd h q.2
      · rfl
    · intro q
      exact ⟨⟨nI_le (a := 0) (Nat.zero_le _) (by omega), nI_lt hi (by omega), nI_le (a := 0) (Nat.zero_le _) (by omega), nI_lt hj (by omega)⟩, by rw [q]; decide⟩
  · unfold mcell at h
    simp only [Bool.and_eq_true, decide_eq_true_eq] at h
    exact ⟨h.1, h.2.1⟩
  · show (0 : Int32) = _
    have : cD (pC (mcell (b.2.1 k) (b.2.2.1 k) (ss_c b k)) 0 0) par x = 0 := by
      refine Nat.eq_of_testBit_eq (fun t => ?_)
      unfold cD dcell pC
      rw [lb_bit, Nat.zero_testBit]
      simp
    rw [this]
    rfl
section MO18
variable (X : qm_X) (d N S m : Nat) (g : Nat → qm_C) {s : md_S} {r : ss_R} {b : ss_B} {t : ss_T}
theorem mo_slants (R : mR s r b t) (I : ss_I r b) (x : Int32) (w : Int32) : MDo X N S (d + 20) m g 215 [.ref m, .int x, .int w] s (op_slants x w r b t) := by
  rw [op_slants]
  by_cases h1 : 0 ≤ x ∧ x ≤ 11
  · by_cases c1 : 0 ≤ w ∧ w ≤ 11
    · rw [if_neg (not_or.mpr ⟨not_not_intro h1, not_not_intro c1⟩)]
      obtain ⟨k, hk, ek⟩ := nI_of2 (x := x) (M := 11) (n := 11) (by decide) (Int32.not_lt.mpr h1.1) h1.2
      subst ek
      rw [nI_clamp (show k < 2 ^ 31 by omega)]
      have a1 : qm_in (nI k) 12 = true := zi_in (by omega) (by omega)
      have a2 : (nI k).toNatClampNeg = k := nI_clamp (by omega)
      by_cases h3 : b.1 k = -1
      · rw [if_pos h3]
        have hn := md_need_no X (d + 16) N S m g s (k := k) (by omega) ((mR_k R (by omega)).trans h3)
        refine ⟨mt s 1, ?_, mR_no R (by decide)⟩
        simp only [ke_215, kk_215_0, kk_215_19, kk_215_22, kk_215_45, kk_215_46, kk_215_53, kk_215_56, kk_215_68, kk_215_76, kk_215_143, kk_215_149, kk_215_155, kk_215_161, kk_215_167, kk_215_196, kk_215_197, kk_215_206, kl_215_0, kl_215_19, kl_215_22, kl_215_45, kl_215_46, kl_215_53, kl_215_56, kl_215_68, kl_215_76, kl_215_143, kl_215_149, kl_215_155, kl_215_161, kl_215_167, kl_215_196, kl_215_197, kl_215_206, ge_iconst, ge_lconst, ge_null, ge_iload, ge_lload, ge_aload, ge_istore, ge_lstore, ge_astore, ge_astoreN, ge_iinc, ge_iadd, ge_isub, ge_imul, ge_iand, ge_ior, ge_ixor, ge_ishl, ge_ishr, ge_iushr, ge_ladd, ge_lsub, ge_lmul, ge_lcmp, ge_idiv, ge_irem, ge_ldiv, ge_ineg, ge_i2l, ge_l2i, ge_lneg, ge_dupI, ge_dupR, ge_popI, ge_dup2, ge_goto, ge_if_eq, ge_if_ne, ge_if_lt, ge_if_ge, ge_if_gt, ge_if_le, ge_ic_eq, ge_ic_ne, ge_ic_lt, ge_ic_ge, ge_ic_gt, ge_ic_le, ge_ifnullN, ge_ifnullR, ge_ifnnN, ge_ifnnR, ge_switch, ge_getf, ge_putfI, ge_putfL, ge_putfR, ge_iald, ge_lald, ge_aald, ge_iast, ge_last, ge_aast, ge_alen, ge_new, ge_newI, ge_newL, ge_newQ, ge_oi, ge_copy, ge_max, ge_is0, ge_is1, ge_iv1, ge_is2, ge_iv2, ge_is3, ge_iv3, ge_is4, ge_iv4, ge_is5, ge_iv5, ge_iv6, ge_ret, ge_iret, ge_zret, ge_lret, ge_aretR, ge_aretN, ge_ld0, ge_lds, ge_sum0, ge_sumI, ge_sumL, ge_sumR, ge_sumN, ge_st0, ge_st1, ge_st2, ge_su0, ge_su1, ge_su2, ge_ap1, ge_ap0, decide_false, Bool.and_false, Bool.false_and, Bool.and_true, Bool.true_and, Bool.false_eq_true, List.getElem?_cons_zero, List.getElem?_cons_succ, List.length_cons, List.length_nil, List.set_cons_zero, List.set_cons_succ, decide_true, if_true, if_false, eq_self, and_true, true_and, or_true, true_or, and_false, false_and, or_false, false_or, ↓reduceIte, Nat.reduceLT, Nat.reduceLeDiff, Nat.reduceAdd, Nat.zero_lt_succ, zi_eq0, zi_01, zi_eq1, zi_or, Nat.reduceEqDiff, not_true_eq_false, not_false_eq_true, va_up_self, zi_0ne1, zi_1ne0, mh_K, mg_0, mg_1, mg_2, mg_3, mg_4, mg_5, mg_6, mg_7, mg_8, mg_9, mg_10, mg_11, mg_12, mg_13, mg_14, mg_15, mg_16, mg_17, mg_18, mg_19, mg_20, mg_21, mg_22, mg_23, mg_24, mg_25, mg_26, mg_27, mg_28, mg_29, mg_30, mg_31, mg_32, mg_33, mp_0, mp_2, mp_21, mp_23, mp_24, mp_25, mp_26, mp_27, mp_30, mp_31, mp_32, mp_3, mp_4, mp_5, mp_28, mp_29, ma_1, mas_1, ma_2, mas_2, ma_3, mas_3, ma_4, mas_4, ma_5, mas_5, ma_6, mas_6, ma_7, mas_7, ma_8, mas_8, ma_9, mas_9, ma_10, mas_10, ml_11, mls_11, ml_12, mls_12, ml_13, mls_13, ma_14, mas_14, ma_15, mas_15, ma_16, mas_16, ma_17, mas_17, ml_18, mls_18, gs_II, gs_IL, gs_IA, gs_IB, gs_LI, gs_LL, gs_LA, gs_LB, gs_AI, gs_AL, gs_AA, gs_AB, gs_BI, gs_BL, gs_BA, gs_BB, Int32.reduceLE, Int32.reduceLT, mqe_01, mqe_02, mqe_03, mqe_04, mqe_10, mqe_12, mqe_13, mqe_14, mqe_20, mqe_21, mqe_23, mqe_24, mqe_30, mqe_31, mqe_32, mqe_34, mqe_40, mqe_41, mqe_42, mqe_43, md_in, md_isBoard, md_isRow, mq_1, mq_3, mq_0, h1, c1, hn, ss_no]
      · rw [if_neg h3]
        have B := mR_B R I (k := k) (by omega) h3
        have K5 : gA s 5 k = b.1 k := mR_k R (by omega)
        have hn := md_need_ok X (d + 16) N S m g s (k := k) (by omega) (by rw [K5]; exact ss_kpos I (by omega) h3)
        obtain ⟨K, hK, eK⟩ := nI_of2 (x := w) (M := 11) (n := 11) (by decide) (Int32.not_lt.mpr c1.1) c1.2
        subst eK
        rw [nI_clamp (show K < 2 ^ 31 by omega)]
        obtain ⟨v, e⟩ := md_slants X d N S m g s (K := K) B (by omega) hn
        have hC : ∀ i j, mcell (b.2.1 k) (b.2.2.1 k) (ss_c b k) i j = true → i < 6 ∧ j < 6 := fun i j h => by
          unfold mcell at h
          simp only [Bool.and_eq_true, decide_eq_true_eq] at h
          have := B.2.2.1
          have := B.2.2.2.2.1
          omega
        have hg := sl_g_ok (sl_D_ok I (k := k) (by omega) h3 (par := 0) (by omega)) (sl_D_ok I (k := k) (by omega) h3 (par := 1) (by omega)) (K := K) (by omega) (K + 1) 0 0 (by omega) rfl
        rw [← sl_sum hC K, show nI 0 = (0 : Int32) from rfl, show nI 1 = (1 : Int32) from rfl] at hg
        rw [hg]
        have R1 : mR (sB s 18 v) r b t := mR_of R rfl rfl rfl rfl rfl rfl rfl rfl rfl rfl rfl rfl rfl R.2.2.2
        exact ⟨_, e, mR_way R1 _⟩
    · rw [if_pos (Or.inr c1)]
      refine ⟨s, ?_, R⟩
      have hn := md_need_bad X (d + 16) N S m g s 0 x (Or.inr rfl)
      simp only [ke_215, kk_215_0, kk_215_19, kk_215_22, kk_215_45, kk_215_46, kk_215_53, kk_215_56, kk_215_68, kk_215_76, kk_215_143, kk_215_149, kk_215_155, kk_215_161, kk_215_167, kk_215_196, kk_215_197, kk_215_206, kl_215_0, kl_215_19, kl_215_22, kl_215_45, kl_215_46, kl_215_53, kl_215_56, kl_215_68, kl_215_76, kl_215_143, kl_215_149, kl_215_155, kl_215_161, kl_215_167, kl_215_196, kl_215_197, kl_215_206, ge_iconst, ge_lconst, ge_null, ge_iload, ge_lload, ge_aload, ge_istore, ge_lstore, ge_astore, ge_astoreN, ge_iinc, ge_iadd, ge_isub, ge_imul, ge_iand, ge_ior, ge_ixor, ge_ishl, ge_ishr, ge_iushr, ge_ladd, ge_lsub, ge_lmul, ge_lcmp, ge_idiv, ge_irem, ge_ldiv, ge_ineg, ge_i2l, ge_l2i, ge_lneg, ge_dupI, ge_dupR, ge_popI, ge_dup2, ge_goto, ge_if_eq, ge_if_ne, ge_if_lt, ge_if_ge, ge_if_gt, ge_if_le, ge_ic_eq, ge_ic_ne, ge_ic_lt, ge_ic_ge, ge_ic_gt, ge_ic_le, ge_ifnullN, ge_ifnullR, ge_ifnnN, ge_ifnnR, ge_switch, ge_getf, ge_putfI, ge_putfL, ge_putfR, ge_iald, ge_lald, ge_aald, ge_iast, ge_last, ge_aast, ge_alen, ge_new, ge_newI, ge_newL, ge_newQ, ge_oi, ge_copy, ge_max, ge_is0, ge_is1, ge_iv1, ge_is2, ge_iv2, ge_is3, ge_iv3, ge_is4, ge_iv4, ge_is5, ge_iv5, ge_iv6, ge_ret, ge_iret, ge_zret, ge_lret, ge_aretR, ge_aretN, ge_ld0, ge_lds, ge_sum0, ge_sumI, ge_sumL, ge_sumR, ge_sumN, ge_st0, ge_st1, ge_st2, ge_su0, ge_su1, ge_su2, ge_ap1, ge_ap0, decide_false, Bool.and_false, Bool.false_and, Bool.and_true, Bool.true_and, Bool.false_eq_true, List.getElem?_cons_zero, List.getElem?_cons_succ, List.length_cons, List.length_nil, List.set_cons_zero, List.set_cons_succ, decide_true, if_true, if_false, eq_self, and_true, true_and, or_true, true_or, and_false, false_and, or_false, false_or, ↓reduceIte, Nat.reduceLT, Nat.reduceLeDiff, Nat.reduceAdd, Nat.zero_lt_succ, zi_eq0, zi_01, zi_eq1, zi_or, Nat.reduceEqDiff, not_true_eq_false, not_false_eq_true, va_up_self, zi_0ne1, zi_1ne0, mh_K, mg_0, mg_1, mg_2, mg_3, mg_4, mg_5, mg_6, mg_7, mg_8, mg_9, mg_10, mg_11, mg_12, mg_13, mg_14, mg_15, mg_16, mg_17, mg_18, mg_19, mg_20, mg_21, mg_22, mg_23, mg_24, mg_25, mg_26, mg_27, mg_28, mg_29, mg_30, mg_31, mg_32, mg_33, mp_0, mp_2, mp_21, mp_23, mp_24, mp_25, mp_26, mp_27, mp_30, mp_31, mp_32, mp_3, mp_4, mp_5, mp_28, mp_29, ma_1, mas_1, ma_2, mas_2, ma_3, mas_3, ma_4, mas_4, ma_5, mas_5, ma_6, mas_6, ma_7, mas_7, ma_8, mas_8, ma_9, mas_9, ma_10, mas_10, ml_11, mls_11, ml_12, mls_12, ml_13, mls_13, ma_14, mas_14, ma_15, mas_15, ma_16, mas_16, ma_17, mas_17, ml_18, mls_18, gs_II, gs_IL, gs_IA, gs_IB, gs_LI, gs_LL, gs_LA, gs_LB, gs_AI, gs_AL, gs_AA, gs_AB, gs_BI, gs_BL, gs_BA, gs_BB, Int32.reduceLE, Int32.reduceLT, mqe_01, mqe_02, mqe_03, mqe_04, mqe_10, mqe_12, mqe_13, mqe_14, mqe_20, mqe_21, mqe_23, mqe_24, mqe_30, mqe_31, mqe_32, mqe_34, mqe_40, mqe_41, mqe_42, mqe_43, md_in, md_isBoard, md_isRow, mq_1, mq_3, mq_0, hn, ss_bad, h1, c1]
  · rw [if_pos (Or.inl h1)]
    refine ⟨s, ?_, R⟩
    have hn := fun gd => md_need_bad X (d + 16) N S m g s gd x (Or.inl h1)
    by_cases c1 : 0 ≤ w ∧ w ≤ 11 <;> simp only [ke_215, kk_215_0, kk_215_19, kk_215_22, kk_215_45, kk_215_46, kk_215_53, kk_215_56, kk_215_68, kk_215_76, kk_215_143, kk_215_149, kk_215_155, kk_215_161, kk_215_167, kk_215_196, kk_215_197, kk_215_206, kl_215_0, kl_215_19, kl_215_22, kl_215_45, kl_215_46, kl_215_53, kl_215_56, kl_215_68, kl_215_76, kl_215_143, kl_215_149, kl_215_155, kl_215_161, kl_215_167, kl_215_196, kl_215_197, kl_215_206, ge_iconst, ge_lconst, ge_null, ge_iload, ge_lload, ge_aload, ge_istore, ge_lstore, ge_astore, ge_astoreN, ge_iinc, ge_iadd, ge_isub, ge_imul, ge_iand, ge_ior, ge_ixor, ge_ishl, ge_ishr, ge_iushr, ge_ladd, ge_lsub, ge_lmul, ge_lcmp, ge_idiv, ge_irem, ge_ldiv, ge_ineg, ge_i2l, ge_l2i, ge_lneg, ge_dupI, ge_dupR, ge_popI, ge_dup2, ge_goto, ge_if_eq, ge_if_ne, ge_if_lt, ge_if_ge, ge_if_gt, ge_if_le, ge_ic_eq, ge_ic_ne, ge_ic_lt, ge_ic_ge, ge_ic_gt, ge_ic_le, ge_ifnullN, ge_ifnullR, ge_ifnnN, ge_ifnnR, ge_switch, ge_getf, ge_putfI, ge_putfL, ge_putfR, ge_iald, ge_lald, ge_aald, ge_iast, ge_last, ge_aast, ge_alen, ge_new, ge_newI, ge_newL, ge_newQ, ge_oi, ge_copy, ge_max, ge_is0, ge_is1, ge_iv1, ge_is2, ge_iv2, ge_is3, ge_iv3, ge_is4, ge_iv4, ge_is5, ge_iv5, ge_iv6, ge_ret, ge_iret, ge_zret, ge_lret, ge_aretR, ge_aretN, ge_ld0, ge_lds, ge_sum0, ge_sumI, ge_sumL, ge_sumR, ge_sumN, ge_st0, ge_st1, ge_st2, ge_su0, ge_su1, ge_su2, ge_ap1, ge_ap0, decide_false, Bool.and_false, Bool.false_and, Bool.and_true, Bool.true_and, Bool.false_eq_true, List.getElem?_cons_zero, List.getElem?_cons_succ, List.length_cons, List.length_nil, List.set_cons_zero, List.set_cons_succ, decide_true, if_true, if_false, eq_self, and_true, true_and, or_true, true_or, and_false, false_and, or_false, false_or, ↓reduceIte, Nat.reduceLT, Nat.reduceLeDiff, Nat.reduceAdd, Nat.zero_lt_succ, zi_eq0, zi_01, zi_eq1, zi_or, Nat.reduceEqDiff, not_true_eq_false, not_false_eq_true, va_up_self, zi_0ne1, zi_1ne0, mh_K, mg_0, mg_1, mg_2, mg_3, mg_4, mg_5, mg_6, mg_7, mg_8, mg_9, mg_10, mg_11, mg_12, mg_13, mg_14, mg_15, mg_16, mg_17, mg_18, mg_19, mg_20, mg_21, mg_22, mg_23, mg_24, mg_25, mg_26, mg_27, mg_28, mg_29, mg_30, mg_31, mg_32, mg_33, mp_0, mp_2, mp_21, mp_23, mp_24, mp_25, mp_26, mp_27, mp_30, mp_31, mp_32, mp_3, mp_4, mp_5, mp_28, mp_29, ma_1, mas_1, ma_2, mas_2, ma_3, mas_3, ma_4, mas_4, ma_5, mas_5, ma_6, mas_6, ma_7, mas_7, ma_8, mas_8, ma_9, mas_9, ma_10, mas_10, ml_11, mls_11, ml_12, mls_12, ml_13, mls_13, ma_14, mas_14, ma_15, mas_15, ma_16, mas_16, ma_17, mas_17, ml_18, mls_18, gs_II, gs_IL, gs_IA, gs_IB, gs_LI, gs_LL, gs_LA, gs_LB, gs_AI, gs_AL, gs_AA, gs_AB, gs_BI, gs_BL, gs_BA, gs_BB, Int32.reduceLE, Int32.reduceLT, mqe_01, mqe_02, mqe_03, mqe_04, mqe_10, mqe_12, mqe_13, mqe_14, mqe_20, mqe_21, mqe_23, mqe_24, mqe_30, mqe_31, mqe_32, mqe_34, mqe_40, mqe_41, mqe_42, mqe_43, md_in, md_isBoard, md_isRow, mq_1, mq_3, mq_0, hn, ss_bad, h1, c1]
end MO18
