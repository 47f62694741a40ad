/-! the class's need -/
def nb_a (v : Nat → Int32) (k : Int32) : Int32 := if 0 ≤ k ∧ k ≤ 6 then v k.toNatClampNeg else 0
theorem nb_a_ag {u v : Nat → Int32} (h : ag 7 u v) (k : Int32) : nb_a u k = nb_a v k := by
  unfold nb_a
  split
  · rename_i c
    obtain ⟨i, hi, ei⟩ := nI_of2 (x := k) (M := 6) (n := 6) (by decide) (Int32.not_lt.mpr c.1) c.2
    subst ei
    rw [nI_clamp (show i < 2 ^ 31 by omega)]
    exact h i (by omega)
  · rfl
def ne_o (A W : Int32) : Int32 := if W = 0 then 0 else if W = A then 2 else 1
section TB13
variable (X : qm_X) (d N S : Nat)
variable {z : Nat} {g f : Nat → qm_C} {r : ss_R} {b : ss_B} {t : ss_T}
def op_need (x : Int32) (i : Int32) (j : Int32) (r : ss_R) (b : ss_B) (t : ss_T) : ss_A := if ¬ (0 ≤ x ∧ x ≤ 11) then ss_bad r b t else if b.1 x.toNatClampNeg = -1 then ss_no r b t 1 else if ¬ ((0 ≤ i ∧ i < nI (b.2.1 x.toNatClampNeg) ∧ 0 ≤ j ∧ j < nI (b.2.2.1 x.toNatClampNeg)) ∧ ¬ b.2.2.2 x.toNatClampNeg i.toNatClampNeg &&& ((1 : Int32) <<< (j &&& 31)) = 0) then ss_no r b t 2 else (.int (ne_o (nb_a (nb_N (b.2.2.2 x.toNatClampNeg) (b.2.1 x.toNatClampNeg)) (nI (nb_gr (nb_N (b.2.2.2 x.toNatClampNeg) (b.2.1 x.toNatClampNeg)) 6))) (nb_a (nb_N (zf_unt (b.2.2.2 x.toNatClampNeg) i j) (b.2.1 x.toNatClampNeg)) (nI (nb_gr (nb_N (b.2.2.2 x.toNatClampNeg) (b.2.1 x.toNatClampNeg)) 6) - 1))), r, b, t)
theorem tb_need (h : TBk z g r b t f) (I : ss_I r b) (x : Int32) (i : Int32) (j : Int32) : TBo X N S (d + 4) z g 103 [.ref z, .int x, .int i, .int j] f (op_need x i j r b t) := by
  have h0 := tk_0 h
  rw [op_need]
  by_cases h1 : 0 ≤ x ∧ x ≤ 11
  · skip
    rw [if_neg (not_not_intro h1)]
    obtain ⟨k, hk, ek⟩ := nI_of2 (x := x) (M := 11) (n := 11) (by decide) (Int32.not_lt.mpr h1.1) h1.2
    subst ek
    rw [nI_clamp (show k < 2 ^ 31 by omega)]
    have hat := tb_boardAt X (d + 0) N S h (k := k) (by omega)
    by_cases h2 : b.1 k = -1
    · rw [if_pos h2]
      obtain ⟨f1, e1, k1⟩ := tb_refused X (d + 2) N S h 1 (by decide)
      refine ⟨f1, ?_, k1⟩
      simp only [ke_103, kk_103_0, kk_103_9, kk_103_27, kk_103_43, kk_103_114, kk_103_125, kk_103_126, kl_103_0, kl_103_9, kl_103_27, kl_103_43, kl_103_114, kl_103_125, kl_103_126, ge_iconst, ge_lconst, ge_null, ge_iload, ge_lload, ge_aload, ge_istore, ge_lstore, ge_astore, ge_astoreN, ge_iinc, ge_iadd, ge_isub, ge_imul, ge_iand, ge_ior, ge_ixor, ge_ishl, ge_ishr, ge_iushr, ge_ladd, ge_lsub, ge_lmul, ge_lcmp, ge_idiv, ge_irem, ge_ldiv, ge_ineg, ge_i2l, ge_l2i, ge_lneg, ge_dupI, ge_dupR, ge_popI, ge_dup2, ge_goto, ge_if_eq, ge_if_ne, ge_if_lt, ge_if_ge, ge_if_gt, ge_if_le, ge_ic_eq, ge_ic_ne, ge_ic_lt, ge_ic_ge, ge_ic_gt, ge_ic_le, ge_ifnullN, ge_ifnullR, ge_ifnnN, ge_ifnnR, ge_switch, ge_getf, ge_putfI, ge_putfL, ge_putfR, ge_iald, ge_lald, ge_aald, ge_iast, ge_last, ge_aast, ge_alen, ge_new, ge_newI, ge_newL, ge_newQ, ge_oi, ge_copy, ge_max, ge_is0, ge_is1, ge_iv1, ge_is2, ge_iv2, ge_is3, ge_iv3, ge_is4, ge_iv4, ge_is5, ge_iv5, ge_iv6, ge_ret, ge_iret, ge_zret, ge_lret, ge_aretR, ge_aretN, ge_ld0, ge_lds, ge_sum0, ge_sumI, ge_sumL, ge_sumR, ge_sumN, ge_st0, ge_st1, ge_st2, ge_su0, ge_su1, ge_su2, ge_ap1, ge_ap0, qm_gf, qm_pf, qm_ia, qm_is, qm_la, qm_ls, qm_aa, qm_al, qm_isK, qm_kv, qm_cp, List.getElem?_cons_zero, List.getElem?_cons_succ, List.length_cons, List.length_nil, List.set_cons_zero, List.set_cons_succ, decide_true, if_true, if_false, eq_self, and_true, true_and, or_true, true_or, and_false, false_and, or_false, false_or, ↓reduceIte, Nat.reduceLT, Nat.reduceLeDiff, Nat.reduceAdd, Nat.zero_lt_succ, zi_eq0, zi_01, zi_eq1, zi_or, Nat.reduceEqDiff, not_true_eq_false, not_false_eq_true, va_up_self, zi_0ne1, zi_1ne0, tb_isBoardNumber, tb_isWithin, tb_isRowNumber, h1, h0, hat, h2, e1, ss_no]
    · rw [if_neg h2]
      rw [if_neg h2] at hat
      have hr := tk_brd h (k := k) (by omega)
      have hq := tk_cl h (k := k) (by omega)
      have hI := I.2 k (by omega)
      have hce := bd_hasCell X (d + 1) N S f hr hq (nI_le (b := 6) hI.1 (by omega)) i j
      by_cases h3 : (0 ≤ i ∧ i < nI (b.2.1 k) ∧ 0 ≤ j ∧ j < nI (b.2.2.1 k)) ∧ ¬ b.2.2.2 k i.toNatClampNeg &&& ((1 : Int32) <<< (j &&& 31)) = 0
      · rw [if_neg (not_not_intro h3)]
        rw [if_pos h3] at hce
        have h6 := tk_6 h
        obtain ⟨w1, v1, e1, hv, k1⟩ := tb_num X (d + 1) N S h hr hq (by omega) (by omega) hI.1
        have m0 := tk_0 k1
        have m6 := tk_6 k1
        have m8 : (va_up (va_up f (z + 7) (.inl (0, 64, .inl w1))) (z + 8) (.inl (0, 7, .inl v1))) (z + 8) = .inl (0, 7, .inl v1) := va_up_self _ _ _
        have mr := tk_brd k1 (k := k) (by omega)
        have mq := tk_cl k1 (k := k) (by omega)
        generalize va_up (va_up f (z + 7) (.inl (0, 64, .inl w1))) (z + 8) (.inl (0, 7, .inl v1)) = f1 at e1 k1 m0 m6 m8 mr mq
        have hg := nb_greatest X (d + 2) N S f1 m6 m8
        rw [nb_gr_ag hv 6 (by omega)] at hg
        have hA := nb_at X (d + 1) N S f1 m6 m8 (nI (nb_gr (nb_N (b.2.2.2 k) (b.2.1 k)) 6))
        rw [← nb_a, nb_a_ag hv] at hA
        obtain ⟨x4, y4, w4, m4⟩ := k1.1 4 (by omega)
        obtain ⟨v5, m5⟩ := k1.1 5 (by omega)
        have hu := bd_takeUntouched X d N S f1 i j m4 m5 mr mq (by omega) (by omega) (by omega) (by omega) (by omega) (by omega) hI.1
        have k2 : TBk z g r b t (va_up (va_up f1 (z + 4) (.inr (1, [.int 0, .int (nI (b.2.1 k)), .int (nI (b.2.2.1 k)), .ref (z + 5)]))) (z + 5) (.inl (0, 6, .inl (zf_put (zf_fill v5 0 6) (zf_unt (b.2.2.2 k) i j) (b.2.1 k))))) := tk_s 5 (tk_s 4 k1 (by omega) ⟨_, _, _, rfl⟩) (by omega) ⟨_, rfl⟩
        have o0 := tk_0 k2
        have o9 := tk_9 k2
        have o4 : (va_up (va_up f1 (z + 4) (.inr (1, [.int 0, .int (nI (b.2.1 k)), .int (nI (b.2.2.1 k)), .ref (z + 5)]))) (z + 5) (.inl (0, 6, .inl (zf_put (zf_fill v5 0 6) (zf_unt (b.2.2.2 k) i j) (b.2.1 k))))) (z + 4) = .inr (1, [.int 0, .int (nI (b.2.1 k)), .int (nI (b.2.2.1 k)), .ref (z + 5)]) := by rw [va_up_ne _ _ (by omega)]; exact va_up_self f1 (z + 4) _
        have o5 : (va_up (va_up f1 (z + 4) (.inr (1, [.int 0, .int (nI (b.2.1 k)), .int (nI (b.2.2.1 k)), .ref (z + 5)]))) (z + 5) (.inl (0, 6, .inl (zf_put (zf_fill v5 0 6) (zf_unt (b.2.2.2 k) i j) (b.2.1 k))))) (z + 5) = .inl (0, 6, .inl (zf_put (zf_fill v5 0 6) (zf_unt (b.2.2.2 k) i j) (b.2.1 k))) := va_up_self _ _ _
        generalize va_up (va_up f1 (z + 4) (.inr (1, [.int 0, .int (nI (b.2.1 k)), .int (nI (b.2.2.1 k)), .ref (z + 5)]))) (z + 5) (.inl (0, 6, .inl (zf_put (zf_fill v5 0 6) (zf_unt (b.2.2.2 k) i j) (b.2.1 k)))) = f2 at hu k2 o0 o9 o4 o5
        obtain ⟨w2, v2, e2, hv2, k3⟩ := tb_num2 X (d + 1) N S k2 o4 o5 (by omega) (by omega) hI.1
        have q0 := tk_0 k3
        have q9 := tk_9 k3
        have q11 : (va_up (va_up f2 (z + 10) (.inl (0, 64, .inl w2))) (z + 11) (.inl (0, 7, .inl v2))) (z + 11) = .inl (0, 7, .inl v2) := va_up_self _ _ _
        generalize va_up (va_up f2 (z + 10) (.inl (0, 64, .inl w2))) (z + 11) (.inl (0, 7, .inl v2)) = f3 at e2 k3 q0 q9 q11
        have hv3 : ag 7 (nb_N (zf_put (zf_fill v5 0 6) (zf_unt (b.2.2.2 k) i j) (b.2.1 k)) (b.2.1 k)) (nb_N (zf_unt (b.2.2.2 k) i j) (b.2.1 k)) := nb_Z_ag _ _ _ _ _ (fun m hm => if_pos hm)
        have hB := nb_at X (d + 1) N S f3 q9 q11 (nI (nb_gr (nb_N (b.2.2.2 k) (b.2.1 k)) 6) - 1)
        rw [← nb_a, nb_a_ag hv2, nb_a_ag hv3] at hB
        refine ⟨f3, ?_, k3⟩
        generalize nb_a (nb_N (b.2.2.2 k) (b.2.1 k)) (nI (nb_gr (nb_N (b.2.2.2 k) (b.2.1 k)) 6)) = A at hA ⊢
        generalize nb_a (nb_N (zf_unt (b.2.2.2 k) i j) (b.2.1 k)) (nI (nb_gr (nb_N (b.2.2.2 k) (b.2.1 k)) 6) - 1) = B at hB ⊢
        by_cases c1 : B = 0
        · subst c1
          simp only [ke_103, kk_103_0, kk_103_9, kk_103_27, kk_103_43, kk_103_114, kk_103_125, kk_103_126, kl_103_0, kl_103_9, kl_103_27, kl_103_43, kl_103_114, kl_103_125, kl_103_126, ge_iconst, ge_lconst, ge_null, ge_iload, ge_lload, ge_aload, ge_istore, ge_lstore, ge_astore, ge_astoreN, ge_iinc, ge_iadd, ge_isub, ge_imul, ge_iand, ge_ior, ge_ixor, ge_ishl, ge_ishr, ge_iushr, ge_ladd, ge_lsub, ge_lmul, ge_lcmp, ge_idiv, ge_irem, ge_ldiv, ge_ineg, ge_i2l, ge_l2i, ge_lneg, ge_dupI, ge_dupR, ge_popI, ge_dup2, ge_goto, ge_if_eq, ge_if_ne, ge_if_lt, ge_if_ge, ge_if_gt, ge_if_le, ge_ic_eq, ge_ic_ne, ge_ic_lt, ge_ic_ge, ge_ic_gt, ge_ic_le, ge_ifnullN, ge_ifnullR, ge_ifnnN, ge_ifnnR, ge_switch, ge_getf, ge_putfI, ge_putfL, ge_putfR, ge_iald, ge_lald, ge_aald, ge_iast, ge_last, ge_aast, ge_alen, ge_new, ge_newI, ge_newL, ge_newQ, ge_oi, ge_copy, ge_max, ge_is0, ge_is1, ge_iv1, ge_is2, ge_iv2, ge_is3, ge_iv3, ge_is4, ge_iv4, ge_is5, ge_iv5, ge_iv6, ge_ret, ge_iret, ge_zret, ge_lret, ge_aretR, ge_aretN, ge_ld0, ge_lds, ge_sum0, ge_sumI, ge_sumL, ge_sumR, ge_sumN, ge_st0, ge_st1, ge_st2, ge_su0, ge_su1, ge_su2, ge_ap1, ge_ap0, qm_gf, qm_pf, qm_ia, qm_is, qm_la, qm_ls, qm_aa, qm_al, qm_isK, qm_kv, qm_cp, List.getElem?_cons_zero, List.getElem?_cons_succ, List.length_cons, List.length_nil, List.set_cons_zero, List.set_cons_succ, decide_true, if_true, if_false, eq_self, and_true, true_and, or_true, true_or, and_false, false_and, or_false, false_or, ↓reduceIte, Nat.reduceLT, Nat.reduceLeDiff, Nat.reduceAdd, Nat.zero_lt_succ, zi_eq0, zi_01, zi_eq1, zi_or, Nat.reduceEqDiff, not_true_eq_false, not_false_eq_true, va_up_self, zi_0ne1, zi_1ne0, tb_isBoardNumber, tb_isWithin, tb_isRowNumber, h1, h0, hat, h2, hr, hce, h6, e1, m0, m6, hg, hA, m4, mr, hu, o0, o9, e2, q0, q9, hB, ne_o]
        · by_cases c2 : B = A
          · subst c2
            simp only [ke_103, kk_103_0, kk_103_9, kk_103_27, kk_103_43, kk_103_114, kk_103_125, kk_103_126, kl_103_0, kl_103_9, kl_103_27, kl_103_43, kl_103_114, kl_103_125, kl_103_126, ge_iconst, ge_lconst, ge_null, ge_iload, ge_lload, ge_aload, ge_istore, ge_lstore, ge_astore, ge_astoreN, ge_iinc, ge_iadd, ge_isub, ge_imul, ge_iand, ge_ior, ge_ixor, ge_ishl, ge_ishr, ge_iushr, ge_ladd, ge_lsub, ge_lmul, ge_lcmp, ge_idiv, ge_irem, ge_ldiv, ge_ineg, ge_i2l, ge_l2i, ge_lneg, ge_dupI, ge_dupR, ge_popI, ge_dup2, ge_goto, ge_if_eq, ge_if_ne, ge_if_lt, ge_if_ge, ge_if_gt, ge_if_le, ge_ic_eq, ge_ic_ne, ge_ic_lt, ge_ic_ge, ge_ic_gt, ge_ic_le, ge_ifnullN, ge_ifnullR, ge_ifnnN, ge_ifnnR, ge_switch, ge_getf, ge_putfI, ge_putfL, ge_putfR, ge_iald, ge_lald, ge_aald, ge_iast, ge_last, ge_aast, ge_alen, ge_new, ge_newI, ge_newL, ge_newQ, ge_oi, ge_copy, ge_max, ge_is0, ge_is1, ge_iv1, ge_is2, ge_iv2, ge_is3, ge_iv3, ge_is4, ge_iv4, ge_is5, ge_iv5, ge_iv6, ge_ret, ge_iret, ge_zret, ge_lret, ge_aretR, ge_aretN, ge_ld0, ge_lds, ge_sum0, ge_sumI, ge_sumL, ge_sumR, ge_sumN, ge_st0, ge_st1, ge_st2, ge_su0, ge_su1, ge_su2, ge_ap1, ge_ap0, qm_gf, qm_pf, qm_ia, qm_is, qm_la, qm_ls, qm_aa, qm_al, qm_isK, qm_kv, qm_cp, List.getElem?_cons_zero, List.getElem?_cons_succ, List.length_cons, List.length_nil, List.set_cons_zero, List.set_cons_succ, decide_true, if_true, if_false, eq_self, and_true, true_and, or_true, true_or, and_false, false_and, or_false, false_or, ↓reduceIte, Nat.reduceLT, Nat.reduceLeDiff, Nat.reduceAdd, Nat.zero_lt_succ, zi_eq0, zi_01, zi_eq1, zi_or, Nat.reduceEqDiff, not_true_eq_false, not_false_eq_true, va_up_self, zi_0ne1, zi_1ne0, tb_isBoardNumber, tb_isWithin, tb_isRowNumber, h1, h0, hat, h2, hr, hce, h6, e1, m0, m6, hg, hA, m4, mr, hu, o0, o9, e2, q0, q9, hB, ne_o, c1]
          · simp only [ke_103, kk_103_0, kk_103_9, kk_103_27, kk_103_43, kk_103_114, kk_103_125, kk_103_126, kl_103_0, kl_103_9, kl_103_27, kl_103_43, kl_103_114, kl_103_125, kl_103_126, ge_iconst, ge_lconst, ge_null, ge_iload, ge_lload, ge_aload, ge_istore, ge_lstore, ge_astore, ge_astoreN, ge_iinc, ge_iadd, ge_isub, ge_imul, ge_iand, ge_ior, ge_ixor, ge_ishl, ge_ishr, ge_iushr, ge_ladd, ge_lsub, ge_lmul, ge_lcmp, ge_idiv, ge_irem, ge_ldiv, ge_ineg, ge_i2l, ge_l2i, ge_lneg, ge_dupI, ge_dupR, ge_popI, ge_dup2, ge_goto, ge_if_eq, ge_if_ne, ge_if_lt, ge_if_ge, ge_if_gt, ge_if_le, ge_ic_eq, ge_ic_ne, ge_ic_lt, ge_ic_ge, ge_ic_gt, ge_ic_le, ge_ifnullN, ge_ifnullR, ge_ifnnN, ge_ifnnR, ge_switch, ge_getf, ge_putfI, ge_putfL, ge_putfR, ge_iald, ge_lald, ge_aald, ge_iast, ge_last, ge_aast, ge_alen, ge_new, ge_newI, ge_newL, ge_newQ, ge_oi, ge_copy, ge_max, ge_is0, ge_is1, ge_iv1, ge_is2, ge_iv2, ge_is3, ge_iv3, ge_is4, ge_iv4, ge_is5, ge_iv5, ge_iv6, ge_ret, ge_iret, ge_zret, ge_lret, ge_aretR, ge_aretN, ge_ld0, ge_lds, ge_sum0, ge_sumI, ge_sumL, ge_sumR, ge_sumN, ge_st0, ge_st1, ge_st2, ge_su0, ge_su1, ge_su2, ge_ap1, ge_ap0, qm_gf, qm_pf, qm_ia, qm_is, qm_la, qm_ls, qm_aa, qm_al, qm_isK, qm_kv, qm_cp, List.getElem?_cons_zero, List.getElem?_cons_succ, List.length_cons, List.length_nil, List.set_cons_zero, List.set_cons_succ, decide_true, if_true, if_false, eq_self, and_true, true_and, or_true, true_or, and_false, false_and, or_false, false_or, ↓reduceIte, Nat.reduceLT, Nat.reduceLeDiff, Nat.reduceAdd, Nat.zero_lt_succ, zi_eq0, zi_01, zi_eq1, zi_or, Nat.reduceEqDiff, not_true_eq_false, not_false_eq_true, va_up_self, zi_0ne1, zi_1ne0, tb_isBoardNumber, tb_isWithin, tb_isRowNumber, h1, h0, hat, h2, hr, hce, h6, e1, m0, m6, hg, hA, m4, mr, hu, o0, o9, e2, q0, q9, hB, ne_o, c1, c2]
      · rw [if_pos h3]
        rw [if_neg h3] at hce
        obtain ⟨f1, e1, k1⟩ := tb_refused X (d + 2) N S h 2 (by decide)
        refine ⟨f1, ?_, k1⟩
        simp only [ke_103, kk_103_0, kk_103_9, kk_103_27, kk_103_43, kk_103_114, kk_103_125, kk_103_126, kl_103_0, kl_103_9, kl_103_27, kl_103_43, kl_103_114, kl_103_125, kl_103_126, ge_iconst, ge_lconst, ge_null, ge_iload, ge_lload, ge_aload, ge_istore, ge_lstore, ge_astore, ge_astoreN, ge_iinc, ge_iadd, ge_isub, ge_imul, ge_iand, ge_ior, ge_ixor, ge_ishl, ge_ishr, ge_iushr, ge_ladd, ge_lsub, ge_lmul, ge_lcmp, ge_idiv, ge_irem, ge_ldiv, ge_ineg, ge_i2l, ge_l2i, ge_lneg, ge_dupI, ge_dupR, ge_popI, ge_dup2, ge_goto, ge_if_eq, ge_if_ne, ge_if_lt, ge_if_ge, ge_if_gt, ge_if_le, ge_ic_eq, ge_ic_ne, ge_ic_lt, ge_ic_ge, ge_ic_gt, ge_ic_le, ge_ifnullN, ge_ifnullR, ge_ifnnN, ge_ifnnR, ge_switch, ge_getf, ge_putfI, ge_putfL, ge_putfR, ge_iald, ge_lald, ge_aald, ge_iast, ge_last, ge_aast, ge_alen, ge_new, ge_newI, ge_newL, ge_newQ, ge_oi, ge_copy, ge_max, ge_is0, ge_is1, ge_iv1, ge_is2, ge_iv2, ge_is3, ge_iv3, ge_is4, ge_iv4, ge_is5, ge_iv5, ge_iv6, ge_ret, ge_iret, ge_zret, ge_lret, ge_aretR, ge_aretN, ge_ld0, ge_lds, ge_sum0, ge_sumI, ge_sumL, ge_sumR, ge_sumN, ge_st0, ge_st1, ge_st2, ge_su0, ge_su1, ge_su2, ge_ap1, ge_ap0, qm_gf, qm_pf, qm_ia, qm_is, qm_la, qm_ls, qm_aa, qm_al, qm_isK, qm_kv, qm_cp, List.getElem?_cons_zero, List.getElem?_cons_succ, List.length_cons, List.length_nil, List.set_cons_zero, List.set_cons_succ, decide_true, if_true, if_false, eq_self, and_true, true_and, or_true, true_or, and_false, false_and, or_false, false_or, ↓reduceIte, Nat.reduceLT, Nat.reduceLeDiff, Nat.reduceAdd, Nat.zero_lt_succ, zi_eq0, zi_01, zi_eq1, zi_or, Nat.reduceEqDiff, not_true_eq_false, not_false_eq_true, va_up_self, zi_0ne1, zi_1ne0, tb_isBoardNumber, tb_isWithin, tb_isRowNumber, h1, h0, hat, h2, hr, hce, e1, ss_no]
  · rw [if_pos h1]
    refine ⟨f, ?_, h⟩
    simp only [ke_103, kk_103_0, kk_103_9, kk_103_27, kk_103_43, kk_103_114, kk_103_125, kk_103_126, kl_103_0, kl_103_9, kl_103_27, kl_103_43, kl_103_114, kl_103_125, kl_103_126, ge_iconst, ge_lconst, ge_null, ge_iload, ge_lload, ge_aload, ge_istore, ge_lstore, ge_astore, ge_astoreN, ge_iinc, ge_iadd, ge_isub, ge_imul, ge_iand, ge_ior, ge_ixor, ge_ishl, ge_ishr, ge_iushr, ge_ladd, ge_lsub, ge_lmul, ge_lcmp, ge_idiv, ge_irem, ge_ldiv, ge_ineg, ge_i2l, ge_l2i, ge_lneg, ge_dupI, ge_dupR, ge_popI, ge_dup2, ge_goto, ge_if_eq, ge_if_ne, ge_if_lt, ge_if_ge, ge_if_gt, ge_if_le, ge_ic_eq, ge_ic_ne, ge_ic_lt, ge_ic_ge, ge_ic_gt, ge_ic_le, ge_ifnullN, ge_ifnullR, ge_ifnnN, ge_ifnnR, ge_switch, ge_getf, ge_putfI, ge_putfL, ge_putfR, ge_iald, ge_lald, ge_aald, ge_iast, ge_last, ge_aast, ge_alen, ge_new, ge_newI, ge_newL, ge_newQ, ge_oi, ge_copy, ge_max, ge_is0, ge_is1, ge_iv1, ge_is2, ge_iv2, ge_is3, ge_iv3, ge_is4, ge_iv4, ge_is5, ge_iv5, ge_iv6, ge_ret, ge_iret, ge_zret, ge_lret, ge_aretR, ge_aretN, ge_ld0, ge_lds, ge_sum0, ge_sumI, ge_sumL, ge_sumR, ge_sumN, ge_st0, ge_st1, ge_st2, ge_su0, ge_su1, ge_su2, ge_ap1, ge_ap0, qm_gf, qm_pf, qm_ia, qm_is, qm_la, qm_ls, qm_aa, qm_al, qm_isK, qm_kv, qm_cp, List.getElem?_cons_zero, List.getElem?_cons_succ, List.length_cons, List.length_nil, List.set_cons_zero, List.set_cons_succ, decide_true, if_true, if_false, eq_self, and_true, true_and, or_true, true_or, and_false, false_and, or_false, false_or, ↓reduceIte, Nat.reduceLT, Nat.reduceLeDiff, Nat.reduceAdd, Nat.zero_lt_succ, zi_eq0, zi_01, zi_eq1, zi_or, Nat.reduceEqDiff, not_true_eq_false, not_false_eq_true, va_up_self, zi_0ne1, zi_1ne0, tb_isBoardNumber, tb_isWithin, tb_isRowNumber, h1, ss_bad]
end TB13
