/-! the model's need -/
theorem unt_ok : ∀ c, c < 64 → ∀ j, j < 6 → nI c &&& (((1 : Int32) <<< (nI j &&& 31)) ^^^ (-1)) = nI (c &&& (63 - 2 ^ j)) := by decide +kernel
theorem zf_unt_ok {c : Nat → Nat} {p : Nat → Int32} {h i j : Nat} (hh : h ≤ 6) (hi : i < h) (hj : j < 6) (hc : ∀ q, q < h → c q < 64 ∧ p q = nI (c q)) : ∀ q, q < h → un c i j q < 64 ∧ zf_unt p (nI i) (nI j) q = nI (un c i j q) := fun q hq => by
  unfold un zf_unt
  by_cases z : q = i
  · rw [if_pos z, if_pos (by rw [z])]
    exact ⟨by omega, rfl⟩
  · rw [if_neg z, if_neg (fun y => z ((nI_eq (by omega) (by omega)).mp y)), (hc q hq).2, unt_ok _ (hc q hq).1 j hj]
    exact ⟨Nat.lt_of_le_of_lt Nat.and_le_left (hc q hq).1, rfl⟩
theorem lN_iff {a b : Nat} (ha : a < 2 ^ 31) (hb : b < 2 ^ 31) : lN a = lN b ↔ a = b := by
  constructor
  · intro h
    have := congrArg Int64.toInt h
    rw [lN_toInt ha, lN_toInt hb] at this
    omega
  · intro h; rw [h]
theorem lN_le0 {a : Nat} (ha : a < 2 ^ 31) : lN a ≤ 0 ↔ a = 0 := by
  rw [← lN_0, Int64.le_iff_toInt_le, lN_toInt ha, lN_toInt (show 0 < 2 ^ 31 by omega)]
  omega
theorem tG_pos {n : Nat → Nat} : ∀ k, ¬ tG n k = 0 → ¬ n (tG n k) = 0
  | 0, h => absurd rfl h
  | k + 1, h => by
    rw [tG] at h ⊢
    by_cases e : n (k + 1) = 0
    · rw [if_pos e] at h ⊢
      exact tG_pos k h
    · rw [if_neg e]
      exact e
theorem tG_one {n : Nat → Nat} (h1 : ¬ n 1 = 0) : ∀ k, 1 ≤ k → 1 ≤ tG n k
  | 0, h => absurd h (by omega)
  | k + 1, _ => by
    rw [tG]
    by_cases e : n (k + 1) = 0
    · rw [if_pos e]
      by_cases k0 : k = 0
      · subst k0
        exact absurd e h1
      · exact tG_one h1 k (by omega)
    · rw [if_neg e]; omega
/-- a board with a cell has a stand of one -/
theorem most_pos {c : Nat → Nat} {w h i j : Nat} (hw : w ≤ 6) (hj : j < w) (hi : i < h) (hc : ∀ q, q < h → c q < 2 ^ w) (hb : (c i).testBit j = true) : 1 ≤ tG (tN c h) 6 := by
  refine tG_one (fun z => ?_) 6 (by omega)
  have e1 := tE_withN hw hj hi hc hb 0
  have e0 := tN_0 (un c i j) h
  rw [← e1] at e0
  have e2 := List.countP_le_length (p := fun x => decide (xf x i = j)) (l := tE c w h 0 0 (0 + 1))
  rw [tN_cnt hw hc 1] at z
  have : (0 + 1 : Nat) = 1 := rfl
  rw [this] at e0 e2
  omega
theorem nb_a_ok {c : Nat → Nat} {p : Nat → Int32} {h : Nat} (hh : h ≤ 6) (hc : ∀ i, i < h → c i < 64 ∧ p i = nI (c i)) {q : Nat} (hq : q ≤ 6) : nb_a (nb_N p h) (nI q) = nI (tN c h q) := by
  unfold nb_a
  rw [if_pos ⟨nI_le (a := 0) (Nat.zero_le _) (by omega), nI_le (b := 6) hq (by omega)⟩, nI_clamp (by omega), nb_N_ok hh hc (by omega)]
theorem mR_25 {s : md_S} {r : ss_R} {b : ss_B} {t : ss_T} (h : mR s r b t) {i : Nat} (hi : i < 6) (j : Int32) : mR (sI (sI s 25 (nI i)) 26 j) r b t := mR_of h rfl rfl rfl rfl rfl rfl rfl rfl rfl rfl rfl rfl rfl (zi_in (by omega) (by omega))
section MO15
variable (X : qm_X) (d N S m : Nat) (g : Nat → qm_C) {s : md_S} {r : ss_R} {b : ss_B} {t : ss_T}
theorem mo_need (R : mR s r b t) (I : ss_I r b) (x : Int32) (i : Int32) (j : Int32) : MDo X N S (d + 20) m g 207 [.ref m, .int x, .int i, .int j] s (op_need x i j r b t) := by
  rw [op_need]
  by_cases h1 : 0 ≤ x ∧ x ≤ 11
  · rw [if_neg (not_not_intro h1)]
    obtain ⟨k, hk, ek⟩ := nI_of2 (x := x) (M := 11) (n := 11) (by decide) (Int32.not_lt.mpr h1.1) h1.2
    subst ek
    rw [nI_clamp (show k < 2 ^ 31 by omega)]
    have a1 : qm_in (nI k) 12 = true := zi_in (by omega) (by omega)
    have a2 : (nI k).toNatClampNeg = k := nI_clamp (by omega)
    by_cases h3 : b.1 k = -1
    · rw [if_pos h3]
      have hn := md_need_no X (d + 16) N S m g s (k := k) (by omega) ((mR_k R (by omega)).trans h3)
      refine ⟨mt s 1, ?_, mR_no R (by decide)⟩
      simp only [ke_207, kk_207_0, kk_207_16, kk_207_32, kk_207_70, kk_207_83, kk_207_84, kl_207_0, kl_207_16, kl_207_32, kl_207_70, kl_207_83, kl_207_84, ge_iconst, ge_lconst, ge_null, ge_iload, ge_lload, ge_aload, ge_istore, ge_lstore, ge_astore, ge_astoreN, ge_iinc, ge_iadd, ge_isub, ge_imul, ge_iand, ge_ior, ge_ixor, ge_ishl, ge_ishr, ge_iushr, ge_ladd, ge_lsub, ge_lmul, ge_lcmp, ge_idiv, ge_irem, ge_ldiv, ge_ineg, ge_i2l, ge_l2i, ge_lneg, ge_dupI, ge_dupR, ge_popI, ge_dup2, ge_goto, ge_if_eq, ge_if_ne, ge_if_lt, ge_if_ge, ge_if_gt, ge_if_le, ge_ic_eq, ge_ic_ne, ge_ic_lt, ge_ic_ge, ge_ic_gt, ge_ic_le, ge_ifnullN, ge_ifnullR, ge_ifnnN, ge_ifnnR, ge_switch, ge_getf, ge_putfI, ge_putfL, ge_putfR, ge_iald, ge_lald, ge_aald, ge_iast, ge_last, ge_aast, ge_alen, ge_new, ge_newI, ge_newL, ge_newQ, ge_oi, ge_copy, ge_max, ge_is0, ge_is1, ge_iv1, ge_is2, ge_iv2, ge_is3, ge_iv3, ge_is4, ge_iv4, ge_is5, ge_iv5, ge_iv6, ge_ret, ge_iret, ge_zret, ge_lret, ge_aretR, ge_aretN, ge_ld0, ge_lds, ge_sum0, ge_sumI, ge_sumL, ge_sumR, ge_sumN, ge_st0, ge_st1, ge_st2, ge_su0, ge_su1, ge_su2, ge_ap1, ge_ap0, decide_false, Bool.and_false, Bool.false_and, Bool.and_true, Bool.true_and, Bool.false_eq_true, List.getElem?_cons_zero, List.getElem?_cons_succ, List.length_cons, List.length_nil, List.set_cons_zero, List.set_cons_succ, decide_true, if_true, if_false, eq_self, and_true, true_and, or_true, true_or, and_false, false_and, or_false, false_or, ↓reduceIte, Nat.reduceLT, Nat.reduceLeDiff, Nat.reduceAdd, Nat.zero_lt_succ, zi_eq0, zi_01, zi_eq1, zi_or, Nat.reduceEqDiff, not_true_eq_false, not_false_eq_true, va_up_self, zi_0ne1, zi_1ne0, mh_K, mg_0, mg_1, mg_2, mg_3, mg_4, mg_5, mg_6, mg_7, mg_8, mg_9, mg_10, mg_11, mg_12, mg_13, mg_14, mg_15, mg_16, mg_17, mg_18, mg_19, mg_20, mg_21, mg_22, mg_23, mg_24, mg_25, mg_26, mg_27, mg_28, mg_29, mg_30, mg_31, mg_32, mg_33, mp_0, mp_2, mp_21, mp_23, mp_24, mp_25, mp_26, mp_27, mp_30, mp_31, mp_32, mp_3, mp_4, mp_5, mp_28, mp_29, ma_1, mas_1, ma_2, mas_2, ma_3, mas_3, ma_4, mas_4, ma_5, mas_5, ma_6, mas_6, ma_7, mas_7, ma_8, mas_8, ma_9, mas_9, ma_10, mas_10, ml_11, mls_11, ml_12, mls_12, ml_13, mls_13, ma_14, mas_14, ma_15, mas_15, ma_16, mas_16, ma_17, mas_17, ml_18, mls_18, gs_II, gs_IL, gs_IA, gs_IB, gs_LI, gs_LL, gs_LA, gs_LB, gs_AI, gs_AL, gs_AA, gs_AB, gs_BI, gs_BL, gs_BA, gs_BB, Int32.reduceLE, Int32.reduceLT, mqe_01, mqe_02, mqe_03, mqe_04, mqe_10, mqe_12, mqe_13, mqe_14, mqe_20, mqe_21, mqe_23, mqe_24, mqe_30, mqe_31, mqe_32, mqe_34, mqe_40, mqe_41, mqe_42, mqe_43, md_in, md_isBoard, md_isRow, mq_1, mq_3, mq_0, h1, hn, ss_no]
    · rw [if_neg h3]
      have B := mR_B R I (k := k) (by omega) h3
      have K5 : gA s 5 k = b.1 k := mR_k R (by omega)
      have hn := md_need_ok X (d + 16) N S m g s (k := k) (by omega) (by rw [K5]; exact ss_kpos I (by omega) h3)
      obtain ⟨B1, B2, B3, B4, B5, B6, B7, B8⟩ := id B
      have hm2 := md_meets X (d + 18) N S m g s 2 (by decide)
      have hpi := place_iff B2 B3 B4 B5 i j
      by_cases z : 0 ≤ i ∧ i < nI (b.2.1 k) ∧ 0 ≤ j ∧ j < nI (b.2.2.1 k)
      · obtain ⟨i', j', hi, hj, ei, ej⟩ := place_nat B3 B5 z
        subst ei ej
        have hce := md_isCell X (d + 16) N S m g s B (i := i') (j := j') (by omega) (by omega)
        have e2 : mcell (b.2.1 k) (b.2.2.1 k) (ss_c b k) i' j' = (ss_c b k i').testBit j' := by simp [mcell, hi, hj]
        have e3 := cell_bit (c := ss_c b k i') (j := j') (by omega)
        rw [← (ss_c_ok I (by omega) h3 hi).2.2] at e3
        rw [e2] at hce
        rw [nI_clamp (show i' < 2 ^ 31 by omega)]
        by_cases y : (ss_c b k i').testBit j' = true
        · have e4 : ¬ b.2.2.2 k i' &&& ((1 : Int32) <<< (nI j' &&& 31)) = 0 := fun y2 => by rw [e3.mp y2] at y; exact absurd y (by decide)
          rw [if_pos y] at hce
          rw [if_neg (not_not_intro ⟨z, e4⟩)]
          have hc2 : ∀ q, q < b.2.1 k → ss_c b k q < 2 ^ b.2.2.1 k := fun q hq => (ss_c_ok I (by omega) h3 hq).1
          have hcp := ss_cp I (k := k) (by omega) h3
          have hK1 := most_pos B5 hj hi hc2 y
          have hK6 := tG_le (tN (ss_c b k) (b.2.1 k)) 6
          have hKp := tG_pos (n := tN (ss_c b k) (b.2.1 k)) 6 (by omega)
          have hgr := nb_gr_ok B3 hcp 6 (by omega)
          have R1 := mR_25 R (show i' < 6 by omega) (nI j')
          have Bs := mR_B R1 I (k := k) (by omega) h3
          have hm := md_mostOf X (d + 15) N S m g (sI (sI s 25 (nI i')) 26 (nI j')) Bs
          have R2 := mR_lay R1 (ss_c b k) (b.2.1 k)
          have Bl := mR_B R2 I (k := k) (by omega) h3
          obtain ⟨col, hg⟩ := md_goOver_with X (d + 12 - b.2.1 k) N S m g (mlay (sI (sI s 25 (nI i')) 26 (nI j')) (ss_c b k) (b.2.1 k)) (K := tG (tN (ss_c b k) (b.2.1 k)) 6) Bl hi hj rfl rfl (by omega)
          rw [show d + 12 - b.2.1 k + b.2.1 k + 7 = d + 19 by omega] at hg
          rw [hgr]
          have hun := nb_a_ok B3 (zf_unt_ok B3 hi (show j' < 6 by omega) hcp) (q := tG (tN (ss_c b k) (b.2.1 k)) 6 - 1) (by omega)
          have hso := nb_a_ok B3 hcp hK6
          have hw1 := tE_withN B5 hj hi hc2 y (tG (tN (ss_c b k) (b.2.1 k)) 6 - 1)
          have hle := List.countP_le_length (p := fun x => decide (xf x i' = j')) (l := tE (ss_c b k) (b.2.2.1 k) (b.2.1 k) 0 0 (tG (tN (ss_c b k) (b.2.1 k)) 6))
          rw [Nat.sub_add_cancel hK1] at hw1
          have hkk : nI (tG (tN (ss_c b k) (b.2.1 k)) 6) - 1 = nI (tG (tN (ss_c b k) (b.2.1 k)) 6 - 1) := by
            generalize tG (tN (ss_c b k) (b.2.1 k)) 6 = K at hK1 hK6
            have : ∀ K, K < 7 → 1 ≤ K → nI K - 1 = nI (K - 1) := by decide
            exact this K (by omega) hK1
          rw [hkk, hun, hso]
          rw [← tN_cnt B5 hc2, hw1] at hg hle
          have hb1 := tN_le (ss_c b k) B3 (tG (tN (ss_c b k) (b.2.1 k)) 6)
          generalize tN (un (ss_c b k) i' j') (b.2.1 k) (tG (tN (ss_c b k) (b.2.1 k)) 6 - 1) = W at *
          generalize hA : tN (ss_c b k) (b.2.1 k) (tG (tN (ss_c b k) (b.2.1 k)) 6) = A at *
          generalize tG (tN (ss_c b k) (b.2.1 k)) 6 = K at *
          have R3 : mR (sA (e2w (mov (mlay (sI (sI s 25 (nI i')) 26 (nI j')) (ss_c b k) (b.2.1 k)) 3 0) (A, W)) 17 col) r b t := mR_of (mR_ov R2 3 0) rfl rfl rfl rfl rfl rfl rfl rfl rfl rfl rfl rfl rfl R1.2.2.2
          have g28 : gL (sA (e2w (mov (mlay (sI (sI s 25 (nI i')) 26 (nI j')) (ss_c b k) (b.2.1 k)) 3 0) (A, W)) 17 col) 28 = lN A := rfl
          have g29 : gL (sA (e2w (mov (mlay (sI (sI s 25 (nI i')) 26 (nI j')) (ss_c b k) (b.2.1 k)) 3 0) (A, W)) 17 col) 29 = lN W := rfl
          refine ⟨_, ?_, R3⟩
          generalize sA (e2w (mov (mlay (sI (sI s 25 (nI i')) 26 (nI j')) (ss_c b k) (b.2.1 k)) 3 0) (A, W)) 17 col = s3 at *
          have q1 : lN W = lN A ↔ W = A := lN_iff (by omega) (by omega)
          have q2 : lN W ≤ 0 ↔ W = 0 := lN_le0 (by omega)
          have q3 : nI W = nI A ↔ W = A := nI_eq (by omega) (by omega)
          have q4 : nI W = 0 ↔ W = 0 := nI_eq (b := 0) (by omega) (by omega)
          unfold ne_o
          by_cases c1 : W = A
          · have c0 : ¬ W = 0 := by omega
            rw [if_neg (fun y => c0 (q4.mp y)), if_pos (q3.mpr c1)]
            simp only [ke_207, kk_207_0, kk_207_16, kk_207_32, kk_207_70, kk_207_83, kk_207_84, kl_207_0, kl_207_16, kl_207_32, kl_207_70, kl_207_83, kl_207_84, ge_iconst, ge_lconst, ge_null, ge_iload, ge_lload, ge_aload, ge_istore, ge_lstore, ge_astore, ge_astoreN, ge_iinc, ge_iadd, ge_isub, ge_imul, ge_iand, ge_ior, ge_ixor, ge_ishl, ge_ishr, ge_iushr, ge_ladd, ge_lsub, ge_lmul, ge_lcmp, ge_idiv, ge_irem, ge_ldiv, ge_ineg, ge_i2l, ge_l2i, ge_lneg, ge_dupI, ge_dupR, ge_popI, ge_dup2, ge_goto, ge_if_eq, ge_if_ne, ge_if_lt, ge_if_ge, ge_if_gt, ge_if_le, ge_ic_eq, ge_ic_ne, ge_ic_lt, ge_ic_ge, ge_ic_gt, ge_ic_le, ge_ifnullN, ge_ifnullR, ge_ifnnN, ge_ifnnR, ge_switch, ge_getf, ge_putfI, ge_putfL, ge_putfR, ge_iald, ge_lald, ge_aald, ge_iast, ge_last, ge_aast, ge_alen, ge_new, ge_newI, ge_newL, ge_newQ, ge_oi, ge_copy, ge_max, ge_is0, ge_is1, ge_iv1, ge_is2, ge_iv2, ge_is3, ge_iv3, ge_is4, ge_iv4, ge_is5, ge_iv5, ge_iv6, ge_ret, ge_iret, ge_zret, ge_lret, ge_aretR, ge_aretN, ge_ld0, ge_lds, ge_sum0, ge_sumI, ge_sumL, ge_sumR, ge_sumN, ge_st0, ge_st1, ge_st2, ge_su0, ge_su1, ge_su2, ge_ap1, ge_ap0, decide_false, Bool.and_false, Bool.false_and, Bool.and_true, Bool.true_and, Bool.false_eq_true, List.getElem?_cons_zero, List.getElem?_cons_succ, List.length_cons, List.length_nil, List.set_cons_zero, List.set_cons_succ, decide_true, if_true, if_false, eq_self, and_true, true_and, or_true, true_or, and_false, false_and, or_false, false_or, ↓reduceIte, Nat.reduceLT, Nat.reduceLeDiff, Nat.reduceAdd, Nat.zero_lt_succ, zi_eq0, zi_01, zi_eq1, zi_or, Nat.reduceEqDiff, not_true_eq_false, not_false_eq_true, va_up_self, zi_0ne1, zi_1ne0, mh_K, mg_0, mg_1, mg_2, mg_3, mg_4, mg_5, mg_6, mg_7, mg_8, mg_9, mg_10, mg_11, mg_12, mg_13, mg_14, mg_15, mg_16, mg_17, mg_18, mg_19, mg_20, mg_21, mg_22, mg_23, mg_24, mg_25, mg_26, mg_27, mg_28, mg_29, mg_30, mg_31, mg_32, mg_33, mp_0, mp_2, mp_21, mp_23, mp_24, mp_25, mp_26, mp_27, mp_30, mp_31, mp_32, mp_3, mp_4, mp_5, mp_28, mp_29, ma_1, mas_1, ma_2, mas_2, ma_3, mas_3, ma_4, mas_4, ma_5, mas_5, ma_6, mas_6, ma_7, mas_7, ma_8, mas_8, ma_9, mas_9, ma_10, mas_10, ml_11, mls_11, ml_12, mls_12, ml_13, mls_13, ma_14, mas_14, ma_15, mas_15, ma_16, mas_16, ma_17, mas_17, ml_18, mls_18, gs_II, gs_IL, gs_IA, gs_IB, gs_LI, gs_LL, gs_LA, gs_LB, gs_AI, gs_AL, gs_AA, gs_AB, gs_BI, gs_BL, gs_BA, gs_BB, Int32.reduceLE, Int32.reduceLT, mqe_01, mqe_02, mqe_03, mqe_04, mqe_10, mqe_12, mqe_13, mqe_14, mqe_20, mqe_21, mqe_23, mqe_24, mqe_30, mqe_31, mqe_32, mqe_34, mqe_40, mqe_41, mqe_42, mqe_43, md_in, md_isBoard, md_isRow, mq_1, mq_3, mq_0, h1, hn, a1, a2, hce, hm, hg, g28, g29, lg_cmp_eq, q1.mpr c1]
          · by_cases c0 : W = 0
            · rw [if_pos (q4.mpr c0)]
              have q1' : ¬ lN W = lN A := fun y => c1 (q1.mp y)
              simp only [ke_207, kk_207_0, kk_207_16, kk_207_32, kk_207_70, kk_207_83, kk_207_84, kl_207_0, kl_207_16, kl_207_32, kl_207_70, kl_207_83, kl_207_84, ge_iconst, ge_lconst, ge_null, ge_iload, ge_lload, ge_aload, ge_istore, ge_lstore, ge_astore, ge_astoreN, ge_iinc, ge_iadd, ge_isub, ge_imul, ge_iand, ge_ior, ge_ixor, ge_ishl, ge_ishr, ge_iushr, ge_ladd, ge_lsub, ge_lmul, ge_lcmp, ge_idiv, ge_irem, ge_ldiv, ge_ineg, ge_i2l, ge_l2i, ge_lneg, ge_dupI, ge_dupR, ge_popI, ge_dup2, ge_goto, ge_if_eq, ge_if_ne, ge_if_lt, ge_if_ge, ge_if_gt, ge_if_le, ge_ic_eq, ge_ic_ne, ge_ic_lt, ge_ic_ge, ge_ic_gt, ge_ic_le, ge_ifnullN, ge_ifnullR, ge_ifnnN, ge_ifnnR, ge_switch, ge_getf, ge_putfI, ge_putfL, ge_putfR, ge_iald, ge_lald, ge_aald, ge_iast, ge_last, ge_aast, ge_alen, ge_new, ge_newI, ge_newL, ge_newQ, ge_oi, ge_copy, ge_max, ge_is0, ge_is1, ge_iv1, ge_is2, ge_iv2, ge_is3, ge_iv3, ge_is4, ge_iv4, ge_is5, ge_iv5, ge_iv6, ge_ret, ge_iret, ge_zret, ge_lret, ge_aretR, ge_aretN, ge_ld0, ge_lds, ge_sum0, ge_sumI, ge_sumL, ge_sumR, ge_sumN, ge_st0, ge_st1, ge_st2, ge_su0, ge_su1, ge_su2, ge_ap1, ge_ap0, decide_false, Bool.and_false, Bool.false_and, Bool.and_true, Bool.true_and, Bool.false_eq_true, List.getElem?_cons_zero, List.getElem?_cons_succ, List.length_cons, List.length_nil, List.set_cons_zero, List.set_cons_succ, decide_true, if_true, if_false, eq_self, and_true, true_and, or_true, true_or, and_false, false_and, or_false, false_or, ↓reduceIte, Nat.reduceLT, Nat.reduceLeDiff, Nat.reduceAdd, Nat.zero_lt_succ, zi_eq0, zi_01, zi_eq1, zi_or, Nat.reduceEqDiff, not_true_eq_false, not_false_eq_true, va_up_self, zi_0ne1, zi_1ne0, mh_K, mg_0, mg_1, mg_2, mg_3, mg_4, mg_5, mg_6, mg_7, mg_8, mg_9, mg_10, mg_11, mg_12, mg_13, mg_14, mg_15, mg_16, mg_17, mg_18, mg_19, mg_20, mg_21, mg_22, mg_23, mg_24, mg_25, mg_26, mg_27, mg_28, mg_29, mg_30, mg_31, mg_32, mg_33, mp_0, mp_2, mp_21, mp_23, mp_24, mp_25, mp_26, mp_27, mp_30, mp_31, mp_32, mp_3, mp_4, mp_5, mp_28, mp_29, ma_1, mas_1, ma_2, mas_2, ma_3, mas_3, ma_4, mas_4, ma_5, mas_5, ma_6, mas_6, ma_7, mas_7, ma_8, mas_8, ma_9, mas_9, ma_10, mas_10, ml_11, mls_11, ml_12, mls_12, ml_13, mls_13, ma_14, mas_14, ma_15, mas_15, ma_16, mas_16, ma_17, mas_17, ml_18, mls_18, gs_II, gs_IL, gs_IA, gs_IB, gs_LI, gs_LL, gs_LA, gs_LB, gs_AI, gs_AL, gs_AA, gs_AB, gs_BI, gs_BL, gs_BA, gs_BB, Int32.reduceLE, Int32.reduceLT, mqe_01, mqe_02, mqe_03, mqe_04, mqe_10, mqe_12, mqe_13, mqe_14, mqe_20, mqe_21, mqe_23, mqe_24, mqe_30, mqe_31, mqe_32, mqe_34, mqe_40, mqe_41, mqe_42, mqe_43, md_in, md_isBoard, md_isRow, mq_1, mq_3, mq_0, h1, hn, a1, a2, hce, hm, hg, g28, g29, lg_cmp_eq, lg_cmp_le, zi_l0, q1', q2.mpr c0]
            · rw [if_neg (fun y => c0 (q4.mp y)), if_neg (fun y => c1 (q3.mp y))]
              have q1' : ¬ lN W = lN A := fun y => c1 (q1.mp y)
              have q2' : ¬ lN W ≤ 0 := fun y => c0 (q2.mp y)
              simp only [ke_207, kk_207_0, kk_207_16, kk_207_32, kk_207_70, kk_207_83, kk_207_84, kl_207_0, kl_207_16, kl_207_32, kl_207_70, kl_207_83, kl_207_84, ge_iconst, ge_lconst, ge_null, ge_iload, ge_lload, ge_aload, ge_istore, ge_lstore, ge_astore, ge_astoreN, ge_iinc, ge_iadd, ge_isub, ge_imul, ge_iand, ge_ior, ge_ixor, ge_ishl, ge_ishr, ge_iushr, ge_ladd, ge_lsub, ge_lmul, ge_lcmp, ge_idiv, ge_irem, ge_ldiv, ge_ineg, ge_i2l, ge_l2i, ge_lneg, ge_dupI, ge_dupR, ge_popI, ge_dup2, ge_goto, ge_if_eq, ge_if_ne, ge_if_lt, ge_if_ge, ge_if_gt, ge_if_le, ge_ic_eq, ge_ic_ne, ge_ic_lt, ge_ic_ge, ge_ic_gt, ge_ic_le, ge_ifnullN, ge_ifnullR, ge_ifnnN, ge_ifnnR, ge_switch, ge_getf, ge_putfI, ge_putfL, ge_putfR, ge_iald, ge_lald, ge_aald, ge_iast, ge_last, ge_aast, ge_alen, ge_new, ge_newI, ge_newL, ge_newQ, ge_oi, ge_copy, ge_max, ge_is0, ge_is1, ge_iv1, ge_is2, ge_iv2, ge_is3, ge_iv3, ge_is4, ge_iv4, ge_is5, ge_iv5, ge_iv6, ge_ret, ge_iret, ge_zret, ge_lret, ge_aretR, ge_aretN, ge_ld0, ge_lds, ge_sum0, ge_sumI, ge_sumL, ge_sumR, ge_sumN, ge_st0, ge_st1, ge_st2, ge_su0, ge_su1, ge_su2, ge_ap1, ge_ap0, decide_false, Bool.and_false, Bool.false_and, Bool.and_true, Bool.true_and, Bool.false_eq_true, List.getElem?_cons_zero, List.getElem?_cons_succ, List.length_cons, List.length_nil, List.set_cons_zero, List.set_cons_succ, decide_true, if_true, if_false, eq_self, and_true, true_and, or_true, true_or, and_false, false_and, or_false, false_or, ↓reduceIte, Nat.reduceLT, Nat.reduceLeDiff, Nat.reduceAdd, Nat.zero_lt_succ, zi_eq0, zi_01, zi_eq1, zi_or, Nat.reduceEqDiff, not_true_eq_false, not_false_eq_true, va_up_self, zi_0ne1, zi_1ne0, mh_K, mg_0, mg_1, mg_2, mg_3, mg_4, mg_5, mg_6, mg_7, mg_8, mg_9, mg_10, mg_11, mg_12, mg_13, mg_14, mg_15, mg_16, mg_17, mg_18, mg_19, mg_20, mg_21, mg_22, mg_23, mg_24, mg_25, mg_26, mg_27, mg_28, mg_29, mg_30, mg_31, mg_32, mg_33, mp_0, mp_2, mp_21, mp_23, mp_24, mp_25, mp_26, mp_27, mp_30, mp_31, mp_32, mp_3, mp_4, mp_5, mp_28, mp_29, ma_1, mas_1, ma_2, mas_2, ma_3, mas_3, ma_4, mas_4, ma_5, mas_5, ma_6, mas_6, ma_7, mas_7, ma_8, mas_8, ma_9, mas_9, ma_10, mas_10, ml_11, mls_11, ml_12, mls_12, ml_13, mls_13, ma_14, mas_14, ma_15, mas_15, ma_16, mas_16, ma_17, mas_17, ml_18, mls_18, gs_II, gs_IL, gs_IA, gs_IB, gs_LI, gs_LL, gs_LA, gs_LB, gs_AI, gs_AL, gs_AA, gs_AB, gs_BI, gs_BL, gs_BA, gs_BB, Int32.reduceLE, Int32.reduceLT, mqe_01, mqe_02, mqe_03, mqe_04, mqe_10, mqe_12, mqe_13, mqe_14, mqe_20, mqe_21, mqe_23, mqe_24, mqe_30, mqe_31, mqe_32, mqe_34, mqe_40, mqe_41, mqe_42, mqe_43, md_in, md_isBoard, md_isRow, mq_1, mq_3, mq_0, h1, hn, a1, a2, hce, hm, hg, g28, g29, lg_cmp_eq, lg_cmp_le, zi_l0, q1', q2']
        · have e4 : b.2.2.2 k i' &&& ((1 : Int32) <<< (nI j' &&& 31)) = 0 := e3.mpr (by simpa using y)
          rw [if_neg y] at hce
          rw [if_pos (fun q => q.2 e4)]
          refine ⟨mt s 2, ?_, mR_no R (by decide)⟩
          simp only [ke_207, kk_207_0, kk_207_16, kk_207_32, kk_207_70, kk_207_83, kk_207_84, kl_207_0, kl_207_16, kl_207_32, kl_207_70, kl_207_83, kl_207_84, ge_iconst, ge_lconst, ge_null, ge_iload, ge_lload, ge_aload, ge_istore, ge_lstore, ge_astore, ge_astoreN, ge_iinc, ge_iadd, ge_isub, ge_imul, ge_iand, ge_ior, ge_ixor, ge_ishl, ge_ishr, ge_iushr, ge_ladd, ge_lsub, ge_lmul, ge_lcmp, ge_idiv, ge_irem, ge_ldiv, ge_ineg, ge_i2l, ge_l2i, ge_lneg, ge_dupI, ge_dupR, ge_popI, ge_dup2, ge_goto, ge_if_eq, ge_if_ne, ge_if_lt, ge_if_ge, ge_if_gt, ge_if_le, ge_ic_eq, ge_ic_ne, ge_ic_lt, ge_ic_ge, ge_ic_gt, ge_ic_le, ge_ifnullN, ge_ifnullR, ge_ifnnN, ge_ifnnR, ge_switch, ge_getf, ge_putfI, ge_putfL, ge_putfR, ge_iald, ge_lald, ge_aald, ge_iast, ge_last, ge_aast, ge_alen, ge_new, ge_newI, ge_newL, ge_newQ, ge_oi, ge_copy, ge_max, ge_is0, ge_is1, ge_iv1, ge_is2, ge_iv2, ge_is3, ge_iv3, ge_is4, ge_iv4, ge_is5, ge_iv5, ge_iv6, ge_ret, ge_iret, ge_zret, ge_lret, ge_aretR, ge_aretN, ge_ld0, ge_lds, ge_sum0, ge_sumI, ge_sumL, ge_sumR, ge_sumN, ge_st0, ge_st1, ge_st2, ge_su0, ge_su1, ge_su2, ge_ap1, ge_ap0, decide_false, Bool.and_false, Bool.false_and, Bool.and_true, Bool.true_and, Bool.false_eq_true, List.getElem?_cons_zero, List.getElem?_cons_succ, List.length_cons, List.length_nil, List.set_cons_zero, List.set_cons_succ, decide_true, if_true, if_false, eq_self, and_true, true_and, or_true, true_or, and_false, false_and, or_false, false_or, ↓reduceIte, Nat.reduceLT, Nat.reduceLeDiff, Nat.reduceAdd, Nat.zero_lt_succ, zi_eq0, zi_01, zi_eq1, zi_or, Nat.reduceEqDiff, not_true_eq_false, not_false_eq_true, va_up_self, zi_0ne1, zi_1ne0, mh_K, mg_0, mg_1, mg_2, mg_3, mg_4, mg_5, mg_6, mg_7, mg_8, mg_9, mg_10, mg_11, mg_12, mg_13, mg_14, mg_15, mg_16, mg_17, mg_18, mg_19, mg_20, mg_21, mg_22, mg_23, mg_24, mg_25, mg_26, mg_27, mg_28, mg_29, mg_30, mg_31, mg_32, mg_33, mp_0, mp_2, mp_21, mp_23, mp_24, mp_25, mp_26, mp_27, mp_30, mp_31, mp_32, mp_3, mp_4, mp_5, mp_28, mp_29, ma_1, mas_1, ma_2, mas_2, ma_3, mas_3, ma_4, mas_4, ma_5, mas_5, ma_6, mas_6, ma_7, mas_7, ma_8, mas_8, ma_9, mas_9, ma_10, mas_10, ml_11, mls_11, ml_12, mls_12, ml_13, mls_13, ma_14, mas_14, ma_15, mas_15, ma_16, mas_16, ma_17, mas_17, ml_18, mls_18, gs_II, gs_IL, gs_IA, gs_IB, gs_LI, gs_LL, gs_LA, gs_LB, gs_AI, gs_AL, gs_AA, gs_AB, gs_BI, gs_BL, gs_BA, gs_BB, Int32.reduceLE, Int32.reduceLT, mqe_01, mqe_02, mqe_03, mqe_04, mqe_10, mqe_12, mqe_13, mqe_14, mqe_20, mqe_21, mqe_23, mqe_24, mqe_30, mqe_31, mqe_32, mqe_34, mqe_40, mqe_41, mqe_42, mqe_43, md_in, md_isBoard, md_isRow, mq_1, mq_3, mq_0, h1, hn, a1, a2, hce, hm2, ss_no]
      · rw [if_pos (fun q => z q.1)]
        have hce := md_isCellN X (d + 16) N S m g s B (i := i) (j := j) (fun y => z (hpi.mp y))
        refine ⟨mt s 2, ?_, mR_no R (by decide)⟩
        simp only [ke_207, kk_207_0, kk_207_16, kk_207_32, kk_207_70, kk_207_83, kk_207_84, kl_207_0, kl_207_16, kl_207_32, kl_207_70, kl_207_83, kl_207_84, ge_iconst, ge_lconst, ge_null, ge_iload, ge_lload, ge_aload, ge_istore, ge_lstore, ge_astore, ge_astoreN, ge_iinc, ge_iadd, ge_isub, ge_imul, ge_iand, ge_ior, ge_ixor, ge_ishl, ge_ishr, ge_iushr, ge_ladd, ge_lsub, ge_lmul, ge_lcmp, ge_idiv, ge_irem, ge_ldiv, ge_ineg, ge_i2l, ge_l2i, ge_lneg, ge_dupI, ge_dupR, ge_popI, ge_dup2, ge_goto, ge_if_eq, ge_if_ne, ge_if_lt, ge_if_ge, ge_if_gt, ge_if_le, ge_ic_eq, ge_ic_ne, ge_ic_lt, ge_ic_ge, ge_ic_gt, ge_ic_le, ge_ifnullN, ge_ifnullR, ge_ifnnN, ge_ifnnR, ge_switch, ge_getf, ge_putfI, ge_putfL, ge_putfR, ge_iald, ge_lald, ge_aald, ge_iast, ge_last, ge_aast, ge_alen, ge_new, ge_newI, ge_newL, ge_newQ, ge_oi, ge_copy, ge_max, ge_is0, ge_is1, ge_iv1, ge_is2, ge_iv2, ge_is3, ge_iv3, ge_is4, ge_iv4, ge_is5, ge_iv5, ge_iv6, ge_ret, ge_iret, ge_zret, ge_lret, ge_aretR, ge_aretN, ge_ld0, ge_lds, ge_sum0, ge_sumI, ge_sumL, ge_sumR, ge_sumN, ge_st0, ge_st1, ge_st2, ge_su0, ge_su1, ge_su2, ge_ap1, ge_ap0, decide_false, Bool.and_false, Bool.false_and, Bool.and_true, Bool.true_and, Bool.false_eq_true, List.getElem?_cons_zero, List.getElem?_cons_succ, List.length_cons, List.length_nil, List.set_cons_zero, List.set_cons_succ, decide_true, if_true, if_false, eq_self, and_true, true_and, or_true, true_or, and_false, false_and, or_false, false_or, ↓reduceIte, Nat.reduceLT, Nat.reduceLeDiff, Nat.reduceAdd, Nat.zero_lt_succ, zi_eq0, zi_01, zi_eq1, zi_or, Nat.reduceEqDiff, not_true_eq_false, not_false_eq_true, va_up_self, zi_0ne1, zi_1ne0, mh_K, mg_0, mg_1, mg_2, mg_3, mg_4, mg_5, mg_6, mg_7, mg_8, mg_9, mg_10, mg_11, mg_12, mg_13, mg_14, mg_15, mg_16, mg_17, mg_18, mg_19, mg_20, mg_21, mg_22, mg_23, mg_24, mg_25, mg_26, mg_27, mg_28, mg_29, mg_30, mg_31, mg_32, mg_33, mp_0, mp_2, mp_21, mp_23, mp_24, mp_25, mp_26, mp_27, mp_30, mp_31, mp_32, mp_3, mp_4, mp_5, mp_28, mp_29, ma_1, mas_1, ma_2, mas_2, ma_3, mas_3, ma_4, mas_4, ma_5, mas_5, ma_6, mas_6, ma_7, mas_7, ma_8, mas_8, ma_9, mas_9, ma_10, mas_10, ml_11, mls_11, ml_12, mls_12, ml_13, mls_13, ma_14, mas_14, ma_15, mas_15, ma_16, mas_16, ma_17, mas_17, ml_18, mls_18, gs_II, gs_IL, gs_IA, gs_IB, gs_LI, gs_LL, gs_LA, gs_LB, gs_AI, gs_AL, gs_AA, gs_AB, gs_BI, gs_BL, gs_BA, gs_BB, Int32.reduceLE, Int32.reduceLT, mqe_01, mqe_02, mqe_03, mqe_04, mqe_10, mqe_12, mqe_13, mqe_14, mqe_20, mqe_21, mqe_23, mqe_24, mqe_30, mqe_31, mqe_32, mqe_34, mqe_40, mqe_41, mqe_42, mqe_43, md_in, md_isBoard, md_isRow, mq_1, mq_3, mq_0, h1, hn, a1, a2, hce, hm2, ss_no]
  · rw [if_pos h1]
    refine ⟨s, ?_, R⟩
    have hn := fun gd => md_need_bad X (d + 16) N S m g s gd x (Or.inl h1)
    simp only [ke_207, kk_207_0, kk_207_16, kk_207_32, kk_207_70, kk_207_83, kk_207_84, kl_207_0, kl_207_16, kl_207_32, kl_207_70, kl_207_83, kl_207_84, ge_iconst, ge_lconst, ge_null, ge_iload, ge_lload, ge_aload, ge_istore, ge_lstore, ge_astore, ge_astoreN, ge_iinc, ge_iadd, ge_isub, ge_imul, ge_iand, ge_ior, ge_ixor, ge_ishl, ge_ishr, ge_iushr, ge_ladd, ge_lsub, ge_lmul, ge_lcmp, ge_idiv, ge_irem, ge_ldiv, ge_ineg, ge_i2l, ge_l2i, ge_lneg, ge_dupI, ge_dupR, ge_popI, ge_dup2, ge_goto, ge_if_eq, ge_if_ne, ge_if_lt, ge_if_ge, ge_if_gt, ge_if_le, ge_ic_eq, ge_ic_ne, ge_ic_lt, ge_ic_ge, ge_ic_gt, ge_ic_le, ge_ifnullN, ge_ifnullR, ge_ifnnN, ge_ifnnR, ge_switch, ge_getf, ge_putfI, ge_putfL, ge_putfR, ge_iald, ge_lald, ge_aald, ge_iast, ge_last, ge_aast, ge_alen, ge_new, ge_newI, ge_newL, ge_newQ, ge_oi, ge_copy, ge_max, ge_is0, ge_is1, ge_iv1, ge_is2, ge_iv2, ge_is3, ge_iv3, ge_is4, ge_iv4, ge_is5, ge_iv5, ge_iv6, ge_ret, ge_iret, ge_zret, ge_lret, ge_aretR, ge_aretN, ge_ld0, ge_lds, ge_sum0, ge_sumI, ge_sumL, ge_sumR, ge_sumN, ge_st0, ge_st1, ge_st2, ge_su0, ge_su1, ge_su2, ge_ap1, ge_ap0, decide_false, Bool.and_false, Bool.false_and, Bool.and_true, Bool.true_and, Bool.false_eq_true, List.getElem?_cons_zero, List.getElem?_cons_succ, List.length_cons, List.length_nil, List.set_cons_zero, List.set_cons_succ, decide_true, if_true, if_false, eq_self, and_true, true_and, or_true, true_or, and_false, false_and, or_false, false_or, ↓reduceIte, Nat.reduceLT, Nat.reduceLeDiff, Nat.reduceAdd, Nat.zero_lt_succ, zi_eq0, zi_01, zi_eq1, zi_or, Nat.reduceEqDiff, not_true_eq_false, not_false_eq_true, va_up_self, zi_0ne1, zi_1ne0, mh_K, mg_0, mg_1, mg_2, mg_3, mg_4, mg_5, mg_6, mg_7, mg_8, mg_9, mg_10, mg_11, mg_12, mg_13, mg_14, mg_15, mg_16, mg_17, mg_18, mg_19, mg_20, mg_21, mg_22, mg_23, mg_24, mg_25, mg_26, mg_27, mg_28, mg_29, mg_30, mg_31, mg_32, mg_33, mp_0, mp_2, mp_21, mp_23, mp_24, mp_25, mp_26, mp_27, mp_30, mp_31, mp_32, mp_3, mp_4, mp_5, mp_28, mp_29, ma_1, mas_1, ma_2, mas_2, ma_3, mas_3, ma_4, mas_4, ma_5, mas_5, ma_6, mas_6, ma_7, mas_7, ma_8, mas_8, ma_9, mas_9, ma_10, mas_10, ml_11, mls_11, ml_12, mls_12, ml_13, mls_13, ma_14, mas_14, ma_15, mas_15, ma_16, mas_16, ma_17, mas_17, ml_18, mls_18, gs_II, gs_IL, gs_IA, gs_IB, gs_LI, gs_LL, gs_LA, gs_LB, gs_AI, gs_AL, gs_AA, gs_AB, gs_BI, gs_BL, gs_BA, gs_BB, Int32.reduceLE, Int32.reduceLT, mqe_01, mqe_02, mqe_03, mqe_04, mqe_10, mqe_12, mqe_13, mqe_14, mqe_20, mqe_21, mqe_23, mqe_24, mqe_30, mqe_31, mqe_32, mqe_34, mqe_40, mqe_41, mqe_42, mqe_43, md_in, md_isBoard, md_isRow, mq_1, mq_3, mq_0, hn, ss_bad, h1]
end MO15
