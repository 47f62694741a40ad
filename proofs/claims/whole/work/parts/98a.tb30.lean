/-! the class's least and lack -/
def op_wts (x y : Int32) (r : ss_R) (b : ss_B) (t : ss_T) (F : Nat → Nat → ss_A) : ss_A := if ¬ (0 ≤ x ∧ x ≤ 11) ∨ ¬ (0 ≤ y ∧ y ≤ 7) then ss_bad r b t else if b.1 x.toNatClampNeg = -1 ∨ r.1 y.toNatClampNeg = -1 then ss_no r b t 1 else if ¬ r.1 y.toNatClampNeg = nI (b.2.1 x.toNatClampNeg * b.2.2.1 x.toNatClampNeg) then ss_no r b t 5 else if ¬ (∀ j, j < b.2.1 x.toNatClampNeg * b.2.2.1 x.toNatClampNeg → -1000 ≤ r.2 y.toNatClampNeg j ∧ r.2 y.toNatClampNeg j ≤ 1000) then ss_no r b t 3 else F x.toNatClampNeg y.toNatClampNeg
def ss_K (b : ss_B) (k : Nat) : Nat := tG (tN (ss_c b k) (b.2.1 k)) 6
def ss_L (r : ss_R) (b : ss_B) (k l : Nat) (P : List Nat → Bool) : ls_T := ls_f (r.2 l) (ss_c b k) (b.2.2.1 k) (b.2.1 k) (ss_K b k) P
def op_least (x y : Int32) (r : ss_R) (b : ss_B) (t : ss_T) : ss_A := op_wts x y r b t (fun k l => (.int 1, r, b, ss_way (ss_ask t (ss_L r b k l (fun _ => false)).2.2.1) (ss_L r b k l (fun _ => false)).1))
def op_lack (x y i j : Int32) (r : ss_R) (b : ss_B) (t : ss_T) : ss_A := op_wts x y r b t (fun k l => if ¬ ((0 ≤ i ∧ i < nI (b.2.1 k) ∧ 0 ≤ j ∧ j < nI (b.2.2.1 k)) ∧ ¬ b.2.2.2 k i.toNatClampNeg &&& ((1 : Int32) <<< (j &&& 31)) = 0) then ss_no r b t 2 else (.int (if (ss_L r b k l (fun x => decide (xf x i.toNatClampNeg = j.toNatClampNeg))).2.1 = 0 then -9 else (ss_L r b k l (fun x => decide (xf x i.toNatClampNeg = j.toNatClampNeg))).2.2.2 - (ss_L r b k l (fun x => decide (xf x i.toNatClampNeg = j.toNatClampNeg))).2.2.1), r, b, t))
section TB30
variable (X : qm_X) (d N S : Nat)
variable {z : Nat} {g f : Nat → qm_C} {r : ss_R} {b : ss_B} {t : ss_T}
/-- the least sum of K towers on the board at a1 -/
theorem tb_light (h : TBk z g r b t f) {a1 q1 hh ww l K : Nat} {kd : Int32} {p : Nat → Int32} {c : Nat → Nat} (hr : f a1 = .inr (1, [.int kd, .int (nI hh), .int (nI ww), .ref q1])) (hq : f q1 = .inl (0, 6, .inl p)) (h16 : a1 ≠ z + 16 ∧ a1 ≠ z + 17 ∧ a1 ≠ z + 18) (g16 : q1 ≠ z + 16 ∧ q1 ≠ z + 17 ∧ q1 ≠ z + 18) (hl : l < 8) (hn : hh ≤ 6) (hw : ww ≤ 6) (hs : r.1 l = nI (hh * ww)) (hc : ∀ i, i < hh → c i < 2 ^ ww ∧ p i = nI (c i)) (ok : wOK (r.2 l) (hh * ww)) (hK : K < 2 ^ 31) : ∃ f' v o, qm_ex qm_M X (d + 4) 38 [.ref (z + 16), .ref a1, .ref (z + 26 + 2 * l), .int (nI K)] (N, S, f) = some (none, (N, S, f')) ∧ TBk z g r b t f' ∧ f' (z + 16) = .inr (4, [.ref (z + 17), .ref (z + 18), .int v, .int o]) ∧ (∀ j, j ≠ z + 16 → j ≠ z + 17 → j ≠ z + 18 → f' j = f j) ∧ rp v o (tLK c (wtI (r.2 l) ww) hh K 64) := by
  obtain ⟨l0, o0, m16⟩ := h.1 16 (by omega)
  obtain ⟨u, m17⟩ := h.1 17 (by omega)
  obtain ⟨o, m18⟩ := h.1 18 (by omega)
  have mr := tk_row h hl
  have mp := tk_pl h hl
  rw [hs] at mr
  have h36 : hh * ww ≤ 36 := Nat.mul_le_mul hn hw
  have e := lt_findFor X d N S f (nI K) u o hn (nI_le (b := 36) h36 (by omega)) (a := z + 16) (qs := z + 17) (qo := z + 18) (b := a1) (qb := q1) (ar := z + 26 + 2 * l) (qr := z + 27 + 2 * l) (by omega) (by omega) (by omega) h16.2.1 h16.2.2 (by omega) (by omega) (by omega) (by omega) g16.2.1 g16.2.2 m16 m17 m18 hr hq mr mp
  refine ⟨_, _, _, e, tk_s 16 (tk_s 18 (tk_s 17 h (by omega) ⟨_, rfl⟩) (by omega) ⟨_, rfl⟩) (by omega) ⟨_, _, rfl⟩, va_up_self _ _ _, fun j j1 j2 j3 => ?_, lt_ok2 hw hn hc ok u o K hK⟩
  rw [va_up_ne _ _ j1, va_up_ne _ _ j3, va_up_ne _ _ j2]
/-- everything up to the weights' faults is shared -/
theorem tb_pre : True := trivial
theorem tb_least (h : TBk z g r b t f) (I : ss_I r b) (x y : Int32) : TBo X N S (d + 12) z g 104 [.ref z, .int x, .int y] f (op_least x y  r b t) := by
  have h0 := tk_0 h
  rw [op_least, op_wts]
  by_cases h1 : 0 ≤ x ∧ x ≤ 11
  · by_cases h2 : 0 ≤ y ∧ y ≤ 7
    · rw [if_neg (not_or.mpr ⟨not_not_intro h1, not_not_intro h2⟩)]
      obtain ⟨k, hk, ek⟩ := nI_of2 (x := x) (M := 11) (n := 11) (by decide) (Int32.not_lt.mpr h1.1) h1.2
      obtain ⟨l, hl, el⟩ := nI_of2 (x := y) (M := 7) (n := 7) (by decide) (Int32.not_lt.mpr h2.1) h2.2
      subst ek el
      rw [nI_clamp (show k < 2 ^ 31 by omega), nI_clamp (show l < 2 ^ 31 by omega)]
      have hat := tb_boardAt X (d + 8) N S h (k := k) (by omega)
      have hal := tb_rowAt X (d + 8) N S h (k := l) (by omega)
      by_cases h3 : b.1 k = -1
      · rw [if_pos (Or.inl h3)]
        rw [if_pos h3] at hat
        obtain ⟨f1, e1, k1⟩ := tb_refused X (d + 10) N S h 1 (by decide)
        refine ⟨f1, ?_, k1⟩
        by_cases h4 : r.1 l = -1
        · simp only [ke_104, kk_104_0, kk_104_14, kk_104_16, kk_104_38, kk_104_44, kk_104_64, kl_104_0, kl_104_14, kl_104_16, kl_104_38, kl_104_44, kl_104_64, ge_iconst, ge_lconst, ge_null, ge_iload, ge_lload, ge_aload, ge_istore, ge_lstore, ge_astore, ge_astoreN, ge_iinc, ge_iadd, ge_isub, ge_imul, ge_iand, ge_ior, ge_ixor, ge_ishl, ge_ishr, ge_iushr, ge_ladd, ge_lsub, ge_lmul, ge_lcmp, ge_idiv, ge_irem, ge_ldiv, ge_ineg, ge_i2l, ge_l2i, ge_lneg, ge_dupI, ge_dupR, ge_popI, ge_dup2, ge_goto, ge_if_eq, ge_if_ne, ge_if_lt, ge_if_ge, ge_if_gt, ge_if_le, ge_ic_eq, ge_ic_ne, ge_ic_lt, ge_ic_ge, ge_ic_gt, ge_ic_le, ge_ifnullN, ge_ifnullR, ge_ifnnN, ge_ifnnR, ge_switch, ge_getf, ge_putfI, ge_putfL, ge_putfR, ge_iald, ge_lald, ge_aald, ge_iast, ge_last, ge_aast, ge_alen, ge_new, ge_newI, ge_newL, ge_newQ, ge_oi, ge_copy, ge_max, ge_is0, ge_is1, ge_iv1, ge_is2, ge_iv2, ge_is3, ge_iv3, ge_is4, ge_iv4, ge_is5, ge_iv5, ge_iv6, ge_ret, ge_iret, ge_zret, ge_lret, ge_aretR, ge_aretN, ge_ld0, ge_lds, ge_sum0, ge_sumI, ge_sumL, ge_sumR, ge_sumN, ge_st0, ge_st1, ge_st2, ge_su0, ge_su1, ge_su2, ge_ap1, ge_ap0, qm_gf, qm_pf, qm_ia, qm_is, qm_la, qm_ls, qm_aa, qm_al, qm_isK, qm_kv, qm_cp, List.getElem?_cons_zero, List.getElem?_cons_succ, List.length_cons, List.length_nil, List.set_cons_zero, List.set_cons_succ, decide_true, if_true, if_false, eq_self, and_true, true_and, or_true, true_or, and_false, false_and, or_false, false_or, ↓reduceIte, Nat.reduceLT, Nat.reduceLeDiff, Nat.reduceAdd, Nat.zero_lt_succ, zi_eq0, zi_01, zi_eq1, zi_or, Nat.reduceEqDiff, not_true_eq_false, not_false_eq_true, va_up_self, zi_0ne1, zi_1ne0, tb_isBoardNumber, tb_isWithin, tb_isRowNumber, h1, h2, h0, hat, hal, h4, e1, ss_no]
        · simp only [ke_104, kk_104_0, kk_104_14, kk_104_16, kk_104_38, kk_104_44, kk_104_64, kl_104_0, kl_104_14, kl_104_16, kl_104_38, kl_104_44, kl_104_64, ge_iconst, ge_lconst, ge_null, ge_iload, ge_lload, ge_aload, ge_istore, ge_lstore, ge_astore, ge_astoreN, ge_iinc, ge_iadd, ge_isub, ge_imul, ge_iand, ge_ior, ge_ixor, ge_ishl, ge_ishr, ge_iushr, ge_ladd, ge_lsub, ge_lmul, ge_lcmp, ge_idiv, ge_irem, ge_ldiv, ge_ineg, ge_i2l, ge_l2i, ge_lneg, ge_dupI, ge_dupR, ge_popI, ge_dup2, ge_goto, ge_if_eq, ge_if_ne, ge_if_lt, ge_if_ge, ge_if_gt, ge_if_le, ge_ic_eq, ge_ic_ne, ge_ic_lt, ge_ic_ge, ge_ic_gt, ge_ic_le, ge_ifnullN, ge_ifnullR, ge_ifnnN, ge_ifnnR, ge_switch, ge_getf, ge_putfI, ge_putfL, ge_putfR, ge_iald, ge_lald, ge_aald, ge_iast, ge_last, ge_aast, ge_alen, ge_new, ge_newI, ge_newL, ge_newQ, ge_oi, ge_copy, ge_max, ge_is0, ge_is1, ge_iv1, ge_is2, ge_iv2, ge_is3, ge_iv3, ge_is4, ge_iv4, ge_is5, ge_iv5, ge_iv6, ge_ret, ge_iret, ge_zret, ge_lret, ge_aretR, ge_aretN, ge_ld0, ge_lds, ge_sum0, ge_sumI, ge_sumL, ge_sumR, ge_sumN, ge_st0, ge_st1, ge_st2, ge_su0, ge_su1, ge_su2, ge_ap1, ge_ap0, qm_gf, qm_pf, qm_ia, qm_is, qm_la, qm_ls, qm_aa, qm_al, qm_isK, qm_kv, qm_cp, List.getElem?_cons_zero, List.getElem?_cons_succ, List.length_cons, List.length_nil, List.set_cons_zero, List.set_cons_succ, decide_true, if_true, if_false, eq_self, and_true, true_and, or_true, true_or, and_false, false_and, or_false, false_or, ↓reduceIte, Nat.reduceLT, Nat.reduceLeDiff, Nat.reduceAdd, Nat.zero_lt_succ, zi_eq0, zi_01, zi_eq1, zi_or, Nat.reduceEqDiff, not_true_eq_false, not_false_eq_true, va_up_self, zi_0ne1, zi_1ne0, tb_isBoardNumber, tb_isWithin, tb_isRowNumber, h1, h2, h0, hat, hal, h4, e1, ss_no]
      · by_cases h4 : r.1 l = -1
        · rw [if_pos (Or.inr h4)]
          rw [if_neg h3] at hat
          rw [if_pos h4] at hal
          obtain ⟨f1, e1, k1⟩ := tb_refused X (d + 10) N S h 1 (by decide)
          refine ⟨f1, ?_, k1⟩
          simp only [ke_104, kk_104_0, kk_104_14, kk_104_16, kk_104_38, kk_104_44, kk_104_64, kl_104_0, kl_104_14, kl_104_16, kl_104_38, kl_104_44, kl_104_64, ge_iconst, ge_lconst, ge_null, ge_iload, ge_lload, ge_aload, ge_istore, ge_lstore, ge_astore, ge_astoreN, ge_iinc, ge_iadd, ge_isub, ge_imul, ge_iand, ge_ior, ge_ixor, ge_ishl, ge_ishr, ge_iushr, ge_ladd, ge_lsub, ge_lmul, ge_lcmp, ge_idiv, ge_irem, ge_ldiv, ge_ineg, ge_i2l, ge_l2i, ge_lneg, ge_dupI, ge_dupR, ge_popI, ge_dup2, ge_goto, ge_if_eq, ge_if_ne, ge_if_lt, ge_if_ge, ge_if_gt, ge_if_le, ge_ic_eq, ge_ic_ne, ge_ic_lt, ge_ic_ge, ge_ic_gt, ge_ic_le, ge_ifnullN, ge_ifnullR, ge_ifnnN, ge_ifnnR, ge_switch, ge_getf, ge_putfI, ge_putfL, ge_putfR, ge_iald, ge_lald, ge_aald, ge_iast, ge_last, ge_aast, ge_alen, ge_new, ge_newI, ge_newL, ge_newQ, ge_oi, ge_copy, ge_max, ge_is0, ge_is1, ge_iv1, ge_is2, ge_iv2, ge_is3, ge_iv3, ge_is4, ge_iv4, ge_is5, ge_iv5, ge_iv6, ge_ret, ge_iret, ge_zret, ge_lret, ge_aretR, ge_aretN, ge_ld0, ge_lds, ge_sum0, ge_sumI, ge_sumL, ge_sumR, ge_sumN, ge_st0, ge_st1, ge_st2, ge_su0, ge_su1, ge_su2, ge_ap1, ge_ap0, qm_gf, qm_pf, qm_ia, qm_is, qm_la, qm_ls, qm_aa, qm_al, qm_isK, qm_kv, qm_cp, List.getElem?_cons_zero, List.getElem?_cons_succ, List.length_cons, List.length_nil, List.set_cons_zero, List.set_cons_succ, decide_true, if_true, if_false, eq_self, and_true, true_and, or_true, true_or, and_false, false_and, or_false, false_or, ↓reduceIte, Nat.reduceLT, Nat.reduceLeDiff, Nat.reduceAdd, Nat.zero_lt_succ, zi_eq0, zi_01, zi_eq1, zi_or, Nat.reduceEqDiff, not_true_eq_false, not_false_eq_true, va_up_self, zi_0ne1, zi_1ne0, tb_isBoardNumber, tb_isWithin, tb_isRowNumber, h1, h2, h0, hat, hal, e1, ss_no]
        · rw [if_neg (not_or.mpr ⟨h3, h4⟩)]
          rw [if_neg h3] at hat
          rw [if_neg h4] at hal
          have hr := tk_brd h (k := k) (by omega)
          have hq := tk_cl h (k := k) (by omega)
          have hI := I.2 k (by omega)
          obtain ⟨n, hn, en⟩ := (I.1 l (by omega)).resolve_left h4
          have mr := tk_row h (k := l) (by omega)
          have mp := tk_pl h (k := l) (by omega)
          rw [en] at mr
          have hfw := bd_faultOfWeights X (d + 8) N S f hr mr mp hn hI.1 hI.2.1
          have h36 : b.2.1 k * b.2.2.1 k ≤ 36 := Nat.mul_le_mul hI.1 hI.2.1
          by_cases h5 : n = b.2.1 k * b.2.2.1 k
          · subst h5
            rw [if_neg (not_not_intro en)]
            rw [if_pos rfl] at hfw
            by_cases h6 : ∀ j, j < b.2.1 k * b.2.2.1 k → -1000 ≤ r.2 l j ∧ r.2 l j ≤ 1000
            · rw [if_neg (not_not_intro h6)]
              rw [if_pos h6] at hfw
              have m6 := tk_6 h
              have hcp := ss_cp I (k := k) (by omega) h3
              have hc2 : ∀ i, i < b.2.1 k → ss_c b k i < 2 ^ b.2.2.1 k := fun i hi => (ss_c_ok I (by omega) h3 hi).1
              obtain ⟨w1, v1, e1, hv, k1⟩ := tb_num X (d + 9) N S h hr hq (by omega) (by omega) hI.1
              have m0 := tk_0 k1
              have m6' := tk_6 k1
              have m8 : (va_up (va_up f (z + 7) (.inl (0, 64, .inl w1))) (z + 8) (.inl (0, 7, .inl v1))) (z + 8) = .inl (0, 7, .inl v1) := va_up_self _ _ _
              have mr1 := tk_brd k1 (k := k) (by omega)
              have mq1 := tk_cl k1 (k := k) (by omega)
              generalize va_up (va_up f (z + 7) (.inl (0, 64, .inl w1))) (z + 8) (.inl (0, 7, .inl v1)) = f1 at e1 k1 m0 m6' m8 mr1 mq1
              have hg := nb_greatest X (d + 10) N S f1 m6' m8
              rw [nb_gr_ag hv 6 (by omega), nb_gr_ok hI.1 hcp 6 (by omega)] at hg
              have hK6 := tG_le (tN (ss_c b k) (b.2.1 k)) 6
              obtain ⟨l0, o0, m16⟩ := k1.1 16 (by omega)
              obtain ⟨f2, v, o, e2, k2, n16, -, R⟩ := tb_light X (d + 7) N S k1 (l := l) (K := tG (tN (ss_c b k) (b.2.1 k)) 6) mr1 mq1 (by omega) (by omega) (by omega) hI.1 hI.2.1 en (fun i hi => ⟨hc2 i hi, (hcp i hi).2⟩) h6 (by omega)
              have q0 := tk_0 k2
              have ne0 : z + 16 ≠ z := by omega
              obtain ⟨s1, s2⟩ := ls_same hI.2.1 hI.1 hc2 h6 (tN_most (ss_c b k) (b.2.1 k)) (fun _ => false) R
              have e3 : ss_L r b k l (fun _ => false) = ls_f (r.2 l) (ss_c b k) (b.2.2.1 k) (b.2.1 k) (tG (tN (ss_c b k) (b.2.1 k)) 6) (fun _ => false) := rfl
              rw [e3, ← s1, ← s2]
              refine ⟨_, ?_, tk_t (ss_way (ss_ask t v) o.toInt64) k2 rfl⟩
              simp only [ke_104, kk_104_0, kk_104_14, kk_104_16, kk_104_38, kk_104_44, kk_104_64, kl_104_0, kl_104_14, kl_104_16, kl_104_38, kl_104_44, kl_104_64, ge_iconst, ge_lconst, ge_null, ge_iload, ge_lload, ge_aload, ge_istore, ge_lstore, ge_astore, ge_astoreN, ge_iinc, ge_iadd, ge_isub, ge_imul, ge_iand, ge_ior, ge_ixor, ge_ishl, ge_ishr, ge_iushr, ge_ladd, ge_lsub, ge_lmul, ge_lcmp, ge_idiv, ge_irem, ge_ldiv, ge_ineg, ge_i2l, ge_l2i, ge_lneg, ge_dupI, ge_dupR, ge_popI, ge_dup2, ge_goto, ge_if_eq, ge_if_ne, ge_if_lt, ge_if_ge, ge_if_gt, ge_if_le, ge_ic_eq, ge_ic_ne, ge_ic_lt, ge_ic_ge, ge_ic_gt, ge_ic_le, ge_ifnullN, ge_ifnullR, ge_ifnnN, ge_ifnnR, ge_switch, ge_getf, ge_putfI, ge_putfL, ge_putfR, ge_iald, ge_lald, ge_aald, ge_iast, ge_last, ge_aast, ge_alen, ge_new, ge_newI, ge_newL, ge_newQ, ge_oi, ge_copy, ge_max, ge_is0, ge_is1, ge_iv1, ge_is2, ge_iv2, ge_is3, ge_iv3, ge_is4, ge_iv4, ge_is5, ge_iv5, ge_iv6, ge_ret, ge_iret, ge_zret, ge_lret, ge_aretR, ge_aretN, ge_ld0, ge_lds, ge_sum0, ge_sumI, ge_sumL, ge_sumR, ge_sumN, ge_st0, ge_st1, ge_st2, ge_su0, ge_su1, ge_su2, ge_ap1, ge_ap0, qm_gf, qm_pf, qm_ia, qm_is, qm_la, qm_ls, qm_aa, qm_al, qm_isK, qm_kv, qm_cp, List.getElem?_cons_zero, List.getElem?_cons_succ, List.length_cons, List.length_nil, List.set_cons_zero, List.set_cons_succ, decide_true, if_true, if_false, eq_self, and_true, true_and, or_true, true_or, and_false, false_and, or_false, false_or, ↓reduceIte, Nat.reduceLT, Nat.reduceLeDiff, Nat.reduceAdd, Nat.zero_lt_succ, zi_eq0, zi_01, zi_eq1, zi_or, Nat.reduceEqDiff, not_true_eq_false, not_false_eq_true, va_up_self, zi_0ne1, zi_1ne0, tb_isBoardNumber, tb_isWithin, tb_isRowNumber, h1, h2, h0, hat, hal, hr, mr, hfw, m6, e1, m0, m6', hg, m16, e2, q0, n16, va_up_self, va_up_ne, ne_eq, ne0, va_up_up, ss_o, ss_way, ss_ask]
            · rw [if_pos h6]
              rw [if_neg h6] at hfw
              obtain ⟨f1, e1, k1⟩ := tb_refused X (d + 10) N S h 3 (by decide)
              have n3 : ¬ (3 : Int32) = 0 := by decide
              refine ⟨f1, ?_, k1⟩
              simp only [ke_104, kk_104_0, kk_104_14, kk_104_16, kk_104_38, kk_104_44, kk_104_64, kl_104_0, kl_104_14, kl_104_16, kl_104_38, kl_104_44, kl_104_64, ge_iconst, ge_lconst, ge_null, ge_iload, ge_lload, ge_aload, ge_istore, ge_lstore, ge_astore, ge_astoreN, ge_iinc, ge_iadd, ge_isub, ge_imul, ge_iand, ge_ior, ge_ixor, ge_ishl, ge_ishr, ge_iushr, ge_ladd, ge_lsub, ge_lmul, ge_lcmp, ge_idiv, ge_irem, ge_ldiv, ge_ineg, ge_i2l, ge_l2i, ge_lneg, ge_dupI, ge_dupR, ge_popI, ge_dup2, ge_goto, ge_if_eq, ge_if_ne, ge_if_lt, ge_if_ge, ge_if_gt, ge_if_le, ge_ic_eq, ge_ic_ne, ge_ic_lt, ge_ic_ge, ge_ic_gt, ge_ic_le, ge_ifnullN, ge_ifnullR, ge_ifnnN, ge_ifnnR, ge_switch, ge_getf, ge_putfI, ge_putfL, ge_putfR, ge_iald, ge_lald, ge_aald, ge_iast, ge_last, ge_aast, ge_alen, ge_new, ge_newI, ge_newL, ge_newQ, ge_oi, ge_copy, ge_max, ge_is0, ge_is1, ge_iv1, ge_is2, ge_iv2, ge_is3, ge_iv3, ge_is4, ge_iv4, ge_is5, ge_iv5, ge_iv6, ge_ret, ge_iret, ge_zret, ge_lret, ge_aretR, ge_aretN, ge_ld0, ge_lds, ge_sum0, ge_sumI, ge_sumL, ge_sumR, ge_sumN, ge_st0, ge_st1, ge_st2, ge_su0, ge_su1, ge_su2, ge_ap1, ge_ap0, qm_gf, qm_pf, qm_ia, qm_is, qm_la, qm_ls, qm_aa, qm_al, qm_isK, qm_kv, qm_cp, List.getElem?_cons_zero, List.getElem?_cons_succ, List.length_cons, List.length_nil, List.set_cons_zero, List.set_cons_succ, decide_true, if_true, if_false, eq_self, and_true, true_and, or_true, true_or, and_false, false_and, or_false, false_or, ↓reduceIte, Nat.reduceLT, Nat.reduceLeDiff, Nat.reduceAdd, Nat.zero_lt_succ, zi_eq0, zi_01, zi_eq1, zi_or, Nat.reduceEqDiff, not_true_eq_false, not_false_eq_true, va_up_self, zi_0ne1, zi_1ne0, tb_isBoardNumber, tb_isWithin, tb_isRowNumber, h1, h2, h0, hat, hal, hr, mr, hfw, n3, e1, ss_no]
          · rw [if_pos (show ¬ r.1 l = nI (b.2.1 k * b.2.2.1 k) from fun q => h5 ((nI_eq (by omega) (by omega)).mp (en.symm.trans q)))]
            rw [if_neg h5] at hfw
            obtain ⟨f1, e1, k1⟩ := tb_refused X (d + 10) N S h 5 (by decide)
            have n5 : ¬ (5 : Int32) = 0 := by decide
            refine ⟨f1, ?_, k1⟩
            simp only [ke_104, kk_104_0, kk_104_14, kk_104_16, kk_104_38, kk_104_44, kk_104_64, kl_104_0, kl_104_14, kl_104_16, kl_104_38, kl_104_44, kl_104_64, ge_iconst, ge_lconst, ge_null, ge_iload, ge_lload, ge_aload, ge_istore, ge_lstore, ge_astore, ge_astoreN, ge_iinc, ge_iadd, ge_isub, ge_imul, ge_iand, ge_ior, ge_ixor, ge_ishl, ge_ishr, ge_iushr, ge_ladd, ge_lsub, ge_lmul, ge_lcmp, ge_idiv, ge_irem, ge_ldiv, ge_ineg, ge_i2l, ge_l2i, ge_lneg, ge_dupI, ge_dupR, ge_popI, ge_dup2, ge_goto, ge_if_eq, ge_if_ne, ge_if_lt, ge_if_ge, ge_if_gt, ge_if_le, ge_ic_eq, ge_ic_ne, ge_ic_lt, ge_ic_ge, ge_ic_gt, ge_ic_le, ge_ifnullN, ge_ifnullR, ge_ifnnN, ge_ifnnR, ge_switch, ge_getf, ge_putfI, ge_putfL, ge_putfR, ge_iald, ge_lald, ge_aald, ge_iast, ge_last, ge_aast, ge_alen, ge_new, ge_newI, ge_newL, ge_newQ, ge_oi, ge_copy, ge_max, ge_is0, ge_is1, ge_iv1, ge_is2, ge_iv2, ge_is3, ge_iv3, ge_is4, ge_iv4, ge_is5, ge_iv5, ge_iv6, ge_ret, ge_iret, ge_zret, ge_lret, ge_aretR, ge_aretN, ge_ld0, ge_lds, ge_sum0, ge_sumI, ge_sumL, ge_sumR, ge_sumN, ge_st0, ge_st1, ge_st2, ge_su0, ge_su1, ge_su2, ge_ap1, ge_ap0, qm_gf, qm_pf, qm_ia, qm_is, qm_la, qm_ls, qm_aa, qm_al, qm_isK, qm_kv, qm_cp, List.getElem?_cons_zero, List.getElem?_cons_succ, List.length_cons, List.length_nil, List.set_cons_zero, List.set_cons_succ, decide_true, if_true, if_false, eq_self, and_true, true_and, or_true, true_or, and_false, false_and, or_false, false_or, ↓reduceIte, Nat.reduceLT, Nat.reduceLeDiff, Nat.reduceAdd, Nat.zero_lt_succ, zi_eq0, zi_01, zi_eq1, zi_or, Nat.reduceEqDiff, not_true_eq_false, not_false_eq_true, va_up_self, zi_0ne1, zi_1ne0, tb_isBoardNumber, tb_isWithin, tb_isRowNumber, h1, h2, h0, hat, hal, hr, mr, hfw, n5, e1, ss_no]
    · rw [if_pos (Or.inr h2)]
      refine ⟨f, ?_, h⟩
      simp only [ke_104, kk_104_0, kk_104_14, kk_104_16, kk_104_38, kk_104_44, kk_104_64, kl_104_0, kl_104_14, kl_104_16, kl_104_38, kl_104_44, kl_104_64, ge_iconst, ge_lconst, ge_null, ge_iload, ge_lload, ge_aload, ge_istore, ge_lstore, ge_astore, ge_astoreN, ge_iinc, ge_iadd, ge_isub, ge_imul, ge_iand, ge_ior, ge_ixor, ge_ishl, ge_ishr, ge_iushr, ge_ladd, ge_lsub, ge_lmul, ge_lcmp, ge_idiv, ge_irem, ge_ldiv, ge_ineg, ge_i2l, ge_l2i, ge_lneg, ge_dupI, ge_dupR, ge_popI, ge_dup2, ge_goto, ge_if_eq, ge_if_ne, ge_if_lt, ge_if_ge, ge_if_gt, ge_if_le, ge_ic_eq, ge_ic_ne, ge_ic_lt, ge_ic_ge, ge_ic_gt, ge_ic_le, ge_ifnullN, ge_ifnullR, ge_ifnnN, ge_ifnnR, ge_switch, ge_getf, ge_putfI, ge_putfL, ge_putfR, ge_iald, ge_lald, ge_aald, ge_iast, ge_last, ge_aast, ge_alen, ge_new, ge_newI, ge_newL, ge_newQ, ge_oi, ge_copy, ge_max, ge_is0, ge_is1, ge_iv1, ge_is2, ge_iv2, ge_is3, ge_iv3, ge_is4, ge_iv4, ge_is5, ge_iv5, ge_iv6, ge_ret, ge_iret, ge_zret, ge_lret, ge_aretR, ge_aretN, ge_ld0, ge_lds, ge_sum0, ge_sumI, ge_sumL, ge_sumR, ge_sumN, ge_st0, ge_st1, ge_st2, ge_su0, ge_su1, ge_su2, ge_ap1, ge_ap0, qm_gf, qm_pf, qm_ia, qm_is, qm_la, qm_ls, qm_aa, qm_al, qm_isK, qm_kv, qm_cp, List.getElem?_cons_zero, List.getElem?_cons_succ, List.length_cons, List.length_nil, List.set_cons_zero, List.set_cons_succ, decide_true, if_true, if_false, eq_self, and_true, true_and, or_true, true_or, and_false, false_and, or_false, false_or, ↓reduceIte, Nat.reduceLT, Nat.reduceLeDiff, Nat.reduceAdd, Nat.zero_lt_succ, zi_eq0, zi_01, zi_eq1, zi_or, Nat.reduceEqDiff, not_true_eq_false, not_false_eq_true, va_up_self, zi_0ne1, zi_1ne0, tb_isBoardNumber, tb_isWithin, tb_isRowNumber, h1, h2, ss_bad]
  · rw [if_pos (Or.inl h1)]
    refine ⟨f, ?_, h⟩
    simp only [ke_104, kk_104_0, kk_104_14, kk_104_16, kk_104_38, kk_104_44, kk_104_64, kl_104_0, kl_104_14, kl_104_16, kl_104_38, kl_104_44, kl_104_64, ge_iconst, ge_lconst, ge_null, ge_iload, ge_lload, ge_aload, ge_istore, ge_lstore, ge_astore, ge_astoreN, ge_iinc, ge_iadd, ge_isub, ge_imul, ge_iand, ge_ior, ge_ixor, ge_ishl, ge_ishr, ge_iushr, ge_ladd, ge_lsub, ge_lmul, ge_lcmp, ge_idiv, ge_irem, ge_ldiv, ge_ineg, ge_i2l, ge_l2i, ge_lneg, ge_dupI, ge_dupR, ge_popI, ge_dup2, ge_goto, ge_if_eq, ge_if_ne, ge_if_lt, ge_if_ge, ge_if_gt, ge_if_le, ge_ic_eq, ge_ic_ne, ge_ic_lt, ge_ic_ge, ge_ic_gt, ge_ic_le, ge_ifnullN, ge_ifnullR, ge_ifnnN, ge_ifnnR, ge_switch, ge_getf, ge_putfI, ge_putfL, ge_putfR, ge_iald, ge_lald, ge_aald, ge_iast, ge_last, ge_aast, ge_alen, ge_new, ge_newI, ge_newL, ge_newQ, ge_oi, ge_copy, ge_max, ge_is0, ge_is1, ge_iv1, ge_is2, ge_iv2, ge_is3, ge_iv3, ge_is4, ge_iv4, ge_is5, ge_iv5, ge_iv6, ge_ret, ge_iret, ge_zret, ge_lret, ge_aretR, ge_aretN, ge_ld0, ge_lds, ge_sum0, ge_sumI, ge_sumL, ge_sumR, ge_sumN, ge_st0, ge_st1, ge_st2, ge_su0, ge_su1, ge_su2, ge_ap1, ge_ap0, qm_gf, qm_pf, qm_ia, qm_is, qm_la, qm_ls, qm_aa, qm_al, qm_isK, qm_kv, qm_cp, List.getElem?_cons_zero, List.getElem?_cons_succ, List.length_cons, List.length_nil, List.set_cons_zero, List.set_cons_succ, decide_true, if_true, if_false, eq_self, and_true, true_and, or_true, true_or, and_false, false_and, or_false, false_or, ↓reduceIte, Nat.reduceLT, Nat.reduceLeDiff, Nat.reduceAdd, Nat.zero_lt_succ, zi_eq0, zi_01, zi_eq1, zi_or, Nat.reduceEqDiff, not_true_eq_false, not_false_eq_true, va_up_self, zi_0ne1, zi_1ne0, tb_isBoardNumber, tb_isWithin, tb_isRowNumber, h1, ss_bad]
theorem tb_lackOf (h : TBk z g r b t f) (I : ss_I r b) {k l i j : Nat} (hk : k < 12) (hl : l < 8) (h3 : ¬ b.1 k = -1) (en : r.1 l = nI (b.2.1 k * b.2.2.1 k)) (h6 : ∀ j, j < b.2.1 k * b.2.2.1 k → -1000 ≤ r.2 l j ∧ r.2 l j ≤ 1000) (hi : i < b.2.1 k) (hj : j < b.2.2.1 k) (hb : (ss_c b k i).testBit j = true) : ∃ f', qm_ex qm_M X (d + 11) 126 [.ref z, .ref (z + 42 + 2 * k), .ref (z + 26 + 2 * l), .int (nI i), .int (nI j)] (N, S, f) = some (some (.int (if (ss_L r b k l (fun x => decide (xf x i = j))).2.1 = 0 then -9 else (ss_L r b k l (fun x => decide (xf x i = j))).2.2.2 - (ss_L r b k l (fun x => decide (xf x i = j))).2.2.1)), (N, S, f')) ∧ TBk z g r b t f' := by
  have h0 := tk_0 h
  have hr := tk_brd h (k := k) (by omega)
  have hq := tk_cl h (k := k) (by omega)
  have hI := I.2 k (by omega)
  have m6 := tk_6 h
  have hcp := ss_cp I (k := k) (by omega) h3
  have hc2 : ∀ i, i < b.2.1 k → ss_c b k i < 2 ^ b.2.2.1 k := fun i hi => (ss_c_ok I (by omega) h3 hi).1
  obtain ⟨w1, v1, e1, hv, k1⟩ := tb_num X (d + 8) N S h hr hq (by omega) (by omega) hI.1
  have m0 := tk_0 k1
  have m6' := tk_6 k1
  have m8 : (va_up (va_up f (z + 7) (.inl (0, 64, .inl w1))) (z + 8) (.inl (0, 7, .inl v1))) (z + 8) = .inl (0, 7, .inl v1) := va_up_self _ _ _
  have mr1 := tk_brd k1 (k := k) (by omega)
  have mq1 := tk_cl k1 (k := k) (by omega)
  generalize va_up (va_up f (z + 7) (.inl (0, 64, .inl w1))) (z + 8) (.inl (0, 7, .inl v1)) = f1 at e1 k1 m0 m6' m8 mr1 mq1
  have hg := nb_greatest X (d + 9) N S f1 m6' m8
  rw [nb_gr_ag hv 6 (by omega), nb_gr_ok hI.1 hcp 6 (by omega)] at hg
  have hK6 := tG_le (tN (ss_c b k) (b.2.1 k)) 6
  obtain ⟨l0, o0, m16⟩ := k1.1 16 (by omega)
  obtain ⟨f2, v, o, e2, k2, n16, -, R⟩ := tb_light X (d + 6) N S k1 (l := l) (K := tG (tN (ss_c b k) (b.2.1 k)) 6) mr1 mq1 (by omega) (by omega) (by omega) hI.1 hI.2.1 en (fun i hi => ⟨hc2 i hi, (hcp i hi).2⟩) h6 (by omega)
  have q0 := tk_0 k2
  have ne0 : z + 16 ≠ z := by omega
  have h36 : b.2.1 k * b.2.2.1 k ≤ 36 := Nat.mul_le_mul hI.1 hI.2.1
  obtain ⟨s1, -⟩ := ls_same hI.2.1 hI.1 hc2 h6 (tN_most (ss_c b k) (b.2.1 k)) (fun x => decide (xf x i = j)) R
  have hK1 := most_pos hI.2.1 hj hi hc2 hb
  have mr2 := tk_brd k2 (k := k) (by omega)
  have mq2 := tk_cl k2 (k := k) (by omega)
  obtain ⟨x4, y4, w4, m4⟩ := k2.1 4 (by omega)
  obtain ⟨v5, m5⟩ := k2.1 5 (by omega)
  have hu := bd_takeUntouched X (d + 7) N S f2 (nI i) (nI j) m4 m5 mr2 mq2 (by omega) (by omega) (by omega) (by omega) (by omega) (by omega) hI.1
  have k3 : TBk z g r b t (va_up (va_up f2 (z + 4) (.inr (1, [.int 0, .int (nI (b.2.1 k)), .int (nI (b.2.2.1 k)), .ref (z + 5)]))) (z + 5) (.inl (0, 6, .inl (zf_put (zf_fill v5 0 6) (zf_unt (b.2.2.2 k) (nI i) (nI j)) (b.2.1 k))))) := tk_s 5 (tk_s 4 k2 (by omega) ⟨_, _, _, rfl⟩) (by omega) ⟨_, rfl⟩
  have o0' := tk_0 k3
  have o4 : (va_up (va_up f2 (z + 4) (.inr (1, [.int 0, .int (nI (b.2.1 k)), .int (nI (b.2.2.1 k)), .ref (z + 5)]))) (z + 5) (.inl (0, 6, .inl (zf_put (zf_fill v5 0 6) (zf_unt (b.2.2.2 k) (nI i) (nI j)) (b.2.1 k))))) (z + 4) = .inr (1, [.int 0, .int (nI (b.2.1 k)), .int (nI (b.2.2.1 k)), .ref (z + 5)]) := by
    rw [va_up_ne _ _ (by omega), va_up_self]
  have o5 : (va_up (va_up f2 (z + 4) (.inr (1, [.int 0, .int (nI (b.2.1 k)), .int (nI (b.2.2.1 k)), .ref (z + 5)]))) (z + 5) (.inl (0, 6, .inl (zf_put (zf_fill v5 0 6) (zf_unt (b.2.2.2 k) (nI i) (nI j)) (b.2.1 k))))) (z + 5) = .inl (0, 6, .inl (zf_put (zf_fill v5 0 6) (zf_unt (b.2.2.2 k) (nI i) (nI j)) (b.2.1 k))) := va_up_self _ _ _
  obtain ⟨l3, o3, m16'⟩ := k3.1 16 (by omega)
  generalize va_up (va_up f2 (z + 4) (.inr (1, [.int 0, .int (nI (b.2.1 k)), .int (nI (b.2.2.1 k)), .ref (z + 5)]))) (z + 5) (.inl (0, 6, .inl (zf_put (zf_fill v5 0 6) (zf_unt (b.2.2.2 k) (nI i) (nI j)) (b.2.1 k)))) = f3 at hu k3 o0' o4 o5 m16'
  have hun := zf_unt_ok hI.1 hi (show j < 6 by omega) hcp
  obtain ⟨f4, v2, o2, e4, k4, p16, -, R2⟩ := tb_light X (d + 6) N S k3 (l := l) (K := tG (tN (ss_c b k) (b.2.1 k)) 6 - 1) (c := un (ss_c b k) i j) o4 o5 (by omega) (by omega) (by omega) hI.1 hI.2.1 en (fun q hq => ⟨un_lt hc2 q hq, (if_pos hq).trans (hun q hq).2⟩) h6 (by omega)
  obtain ⟨t1, t2⟩ := lk_same hI.2.1 hI.1 hc2 h6 hi hj hb R2
  rw [Nat.sub_add_cancel hK1] at t1 t2
  have r0 := tk_0 k4
  have e3 : ss_L r b k l (fun x => decide (xf x i = j)) = ls_f (r.2 l) (ss_c b k) (b.2.2.1 k) (b.2.1 k) (tG (tN (ss_c b k) (b.2.1 k)) 6) (fun x => decide (xf x i = j)) := rfl
  have hkk : nI (tG (tN (ss_c b k) (b.2.1 k)) 6) - 1 = nI (tG (tN (ss_c b k) (b.2.1 k)) 6 - 1) := by
    generalize tG (tN (ss_c b k) (b.2.1 k)) 6 = K at hK1 hK6
    have : ∀ K, K < 7 → 1 ≤ K → nI K - 1 = nI (K - 1) := by decide
    exact this K (by omega) hK1
  have mr4 := tk_row k4 (k := l) (by omega)
  have mp4 := tk_pl k4 (k := l) (by omega)
  have mb4 := tk_brd k4 (k := k) (by omega)
  rw [en] at mr4
  have hra := rw_at X (d + 8) N S f4 mr4 mp4 (nI_le (b := 36) h36 (by omega)) (nI i * nI (b.2.2.1 k) + nI j)
  rw [← lt_w, lt_w_ok hI.1 hI.2.1 hi hj, show iZ (wtI (r.2 l) (b.2.2.1 k) i j) = r.2 l (b.2.2.1 k * i + j) from iZ_toI _] at hra
  refine ⟨f4, ?_, k4⟩
  rw [e3]
  generalize ls_f (r.2 l) (ss_c b k) (b.2.2.1 k) (b.2.1 k) (tG (tN (ss_c b k) (b.2.1 k)) 6) (fun x => decide (xf x i = j)) = LL at *
  by_cases c0 : o2 = 0
  · rw [if_pos (t1.mp c0)]
    simp only [ke_126, kk_126_0, kk_126_77, kl_126_0, kl_126_77, ge_iconst, ge_lconst, ge_null, ge_iload, ge_lload, ge_aload, ge_istore, ge_lstore, ge_astore, ge_astoreN, ge_iinc, ge_iadd, ge_isub, ge_imul, ge_iand, ge_ior, ge_ixor, ge_ishl, ge_ishr, ge_iushr, ge_ladd, ge_lsub, ge_lmul, ge_lcmp, ge_idiv, ge_irem, ge_ldiv, ge_ineg, ge_i2l, ge_l2i, ge_lneg, ge_dupI, ge_dupR, ge_popI, ge_dup2, ge_goto, ge_if_eq, ge_if_ne, ge_if_lt, ge_if_ge, ge_if_gt, ge_if_le, ge_ic_eq, ge_ic_ne, ge_ic_lt, ge_ic_ge, ge_ic_gt, ge_ic_le, ge_ifnullN, ge_ifnullR, ge_ifnnN, ge_ifnnR, ge_switch, ge_getf, ge_putfI, ge_putfL, ge_putfR, ge_iald, ge_lald, ge_aald, ge_iast, ge_last, ge_aast, ge_alen, ge_new, ge_newI, ge_newL, ge_newQ, ge_oi, ge_copy, ge_max, ge_is0, ge_is1, ge_iv1, ge_is2, ge_iv2, ge_is3, ge_iv3, ge_is4, ge_iv4, ge_is5, ge_iv5, ge_iv6, ge_ret, ge_iret, ge_zret, ge_lret, ge_aretR, ge_aretN, ge_ld0, ge_lds, ge_sum0, ge_sumI, ge_sumL, ge_sumR, ge_sumN, ge_st0, ge_st1, ge_st2, ge_su0, ge_su1, ge_su2, ge_ap1, ge_ap0, qm_gf, qm_pf, qm_ia, qm_is, qm_la, qm_ls, qm_aa, qm_al, qm_isK, qm_kv, qm_cp, List.getElem?_cons_zero, List.getElem?_cons_succ, List.length_cons, List.length_nil, List.set_cons_zero, List.set_cons_succ, decide_true, if_true, if_false, eq_self, and_true, true_and, or_true, true_or, and_false, false_and, or_false, false_or, ↓reduceIte, Nat.reduceLT, Nat.reduceLeDiff, Nat.reduceAdd, Nat.zero_lt_succ, zi_eq0, zi_01, zi_eq1, zi_or, Nat.reduceEqDiff, not_true_eq_false, not_false_eq_true, va_up_self, zi_0ne1, zi_1ne0, h0, m6, hr, e1, m0, m6', hg, m16, mr1, e2, q0, n16, m4, mr2, hu, o0', o4, m16', hkk, e4, r0, p16, c0]
  · rw [if_neg (fun q => c0 (t1.mpr q)), ← t2 c0, ← s1]
    simp only [ke_126, kk_126_0, kk_126_77, kl_126_0, kl_126_77, ge_iconst, ge_lconst, ge_null, ge_iload, ge_lload, ge_aload, ge_istore, ge_lstore, ge_astore, ge_astoreN, ge_iinc, ge_iadd, ge_isub, ge_imul, ge_iand, ge_ior, ge_ixor, ge_ishl, ge_ishr, ge_iushr, ge_ladd, ge_lsub, ge_lmul, ge_lcmp, ge_idiv, ge_irem, ge_ldiv, ge_ineg, ge_i2l, ge_l2i, ge_lneg, ge_dupI, ge_dupR, ge_popI, ge_dup2, ge_goto, ge_if_eq, ge_if_ne, ge_if_lt, ge_if_ge, ge_if_gt, ge_if_le, ge_ic_eq, ge_ic_ne, ge_ic_lt, ge_ic_ge, ge_ic_gt, ge_ic_le, ge_ifnullN, ge_ifnullR, ge_ifnnN, ge_ifnnR, ge_switch, ge_getf, ge_putfI, ge_putfL, ge_putfR, ge_iald, ge_lald, ge_aald, ge_iast, ge_last, ge_aast, ge_alen, ge_new, ge_newI, ge_newL, ge_newQ, ge_oi, ge_copy, ge_max, ge_is0, ge_is1, ge_iv1, ge_is2, ge_iv2, ge_is3, ge_iv3, ge_is4, ge_iv4, ge_is5, ge_iv5, ge_iv6, ge_ret, ge_iret, ge_zret, ge_lret, ge_aretR, ge_aretN, ge_ld0, ge_lds, ge_sum0, ge_sumI, ge_sumL, ge_sumR, ge_sumN, ge_st0, ge_st1, ge_st2, ge_su0, ge_su1, ge_su2, ge_ap1, ge_ap0, qm_gf, qm_pf, qm_ia, qm_is, qm_la, qm_ls, qm_aa, qm_al, qm_isK, qm_kv, qm_cp, List.getElem?_cons_zero, List.getElem?_cons_succ, List.length_cons, List.length_nil, List.set_cons_zero, List.set_cons_succ, decide_true, if_true, if_false, eq_self, and_true, true_and, or_true, true_or, and_false, false_and, or_false, false_or, ↓reduceIte, Nat.reduceLT, Nat.reduceLeDiff, Nat.reduceAdd, Nat.zero_lt_succ, zi_eq0, zi_01, zi_eq1, zi_or, Nat.reduceEqDiff, not_true_eq_false, not_false_eq_true, va_up_self, zi_0ne1, zi_1ne0, h0, m6, hr, e1, m0, m6', hg, m16, mr1, e2, q0, n16, m4, mr2, hu, o0', o4, m16', hkk, e4, r0, p16, c0, mr4, mb4, hra]
theorem tb_lack (h : TBk z g r b t f) (I : ss_I r b) (x y i j : Int32) : TBo X N S (d + 12) z g 105 [.ref z, .int x, .int y, .int i, .int j] f (op_lack x y i j r b t) := by
  have h0 := tk_0 h
  rw [op_lack, op_wts]
  by_cases h1 : 0 ≤ x ∧ x ≤ 11
  · by_cases h2 : 0 ≤ y ∧ y ≤ 7
    · rw [if_neg (not_or.mpr ⟨not_not_intro h1, not_not_intro h2⟩)]
      obtain ⟨k, hk, ek⟩ := nI_of2 (x := x) (M := 11) (n := 11) (by decide) (Int32.not_lt.mpr h1.1) h1.2
      obtain ⟨l, hl, el⟩ := nI_of2 (x := y) (M := 7) (n := 7) (by decide) (Int32.not_lt.mpr h2.1) h2.2
      subst ek el
      rw [nI_clamp (show k < 2 ^ 31 by omega), nI_clamp (show l < 2 ^ 31 by omega)]
      have hat := tb_boardAt X (d + 8) N S h (k := k) (by omega)
      have hal := tb_rowAt X (d + 8) N S h (k := l) (by omega)
      by_cases h3 : b.1 k = -1
      · rw [if_pos (Or.inl h3)]
        rw [if_pos h3] at hat
        obtain ⟨f1, e1, k1⟩ := tb_refused X (d + 10) N S h 1 (by decide)
        refine ⟨f1, ?_, k1⟩
        by_cases h4 : r.1 l = -1
        · simp only [ke_105, kk_105_0, kk_105_14, kk_105_16, kk_105_40, kk_105_46, kk_105_67, kk_105_84, kl_105_0, kl_105_14, kl_105_16, kl_105_40, kl_105_46, kl_105_67, kl_105_84, ge_iconst, ge_lconst, ge_null, ge_iload, ge_lload, ge_aload, ge_istore, ge_lstore, ge_astore, ge_astoreN, ge_iinc, ge_iadd, ge_isub, ge_imul, ge_iand, ge_ior, ge_ixor, ge_ishl, ge_ishr, ge_iushr, ge_ladd, ge_lsub, ge_lmul, ge_lcmp, ge_idiv, ge_irem, ge_ldiv, ge_ineg, ge_i2l, ge_l2i, ge_lneg, ge_dupI, ge_dupR, ge_popI, ge_dup2, ge_goto, ge_if_eq, ge_if_ne, ge_if_lt, ge_if_ge, ge_if_gt, ge_if_le, ge_ic_eq, ge_ic_ne, ge_ic_lt, ge_ic_ge, ge_ic_gt, ge_ic_le, ge_ifnullN, ge_ifnullR, ge_ifnnN, ge_ifnnR, ge_switch, ge_getf, ge_putfI, ge_putfL, ge_putfR, ge_iald, ge_lald, ge_aald, ge_iast, ge_last, ge_aast, ge_alen, ge_new, ge_newI, ge_newL, ge_newQ, ge_oi, ge_copy, ge_max, ge_is0, ge_is1, ge_iv1, ge_is2, ge_iv2, ge_is3, ge_iv3, ge_is4, ge_iv4, ge_is5, ge_iv5, ge_iv6, ge_ret, ge_iret, ge_zret, ge_lret, ge_aretR, ge_aretN, ge_ld0, ge_lds, ge_sum0, ge_sumI, ge_sumL, ge_sumR, ge_sumN, ge_st0, ge_st1, ge_st2, ge_su0, ge_su1, ge_su2, ge_ap1, ge_ap0, qm_gf, qm_pf, qm_ia, qm_is, qm_la, qm_ls, qm_aa, qm_al, qm_isK, qm_kv, qm_cp, List.getElem?_cons_zero, List.getElem?_cons_succ, List.length_cons, List.length_nil, List.set_cons_zero, List.set_cons_succ, decide_true, if_true, if_false, eq_self, and_true, true_and, or_true, true_or, and_false, false_and, or_false, false_or, ↓reduceIte, Nat.reduceLT, Nat.reduceLeDiff, Nat.reduceAdd, Nat.zero_lt_succ, zi_eq0, zi_01, zi_eq1, zi_or, Nat.reduceEqDiff, not_true_eq_false, not_false_eq_true, va_up_self, zi_0ne1, zi_1ne0, tb_isBoardNumber, tb_isWithin, tb_isRowNumber, h1, h2, h0, hat, hal, h4, e1, ss_no]
        · simp only [ke_105, kk_105_0, kk_105_14, kk_105_16, kk_105_40, kk_105_46, kk_105_67, kk_105_84, kl_105_0, kl_105_14, kl_105_16, kl_105_40, kl_105_46, kl_105_67, kl_105_84, ge_iconst, ge_lconst, ge_null, ge_iload, ge_lload, ge_aload, ge_istore, ge_lstore, ge_astore, ge_astoreN, ge_iinc, ge_iadd, ge_isub, ge_imul, ge_iand, ge_ior, ge_ixor, ge_ishl, ge_ishr, ge_iushr, ge_ladd, ge_lsub, ge_lmul, ge_lcmp, ge_idiv, ge_irem, ge_ldiv, ge_ineg, ge_i2l, ge_l2i, ge_lneg, ge_dupI, ge_dupR, ge_popI, ge_dup2, ge_goto, ge_if_eq, ge_if_ne, ge_if_lt, ge_if_ge, ge_if_gt, ge_if_le, ge_ic_eq, ge_ic_ne, ge_ic_lt, ge_ic_ge, ge_ic_gt, ge_ic_le, ge_ifnullN, ge_ifnullR, ge_ifnnN, ge_ifnnR, ge_switch, ge_getf, ge_putfI, ge_putfL, ge_putfR, ge_iald, ge_lald, ge_aald, ge_iast, ge_last, ge_aast, ge_alen, ge_new, ge_newI, ge_newL, ge_newQ, ge_oi, ge_copy, ge_max, ge_is0, ge_is1, ge_iv1, ge_is2, ge_iv2, ge_is3, ge_iv3, ge_is4, ge_iv4, ge_is5, ge_iv5, ge_iv6, ge_ret, ge_iret, ge_zret, ge_lret, ge_aretR, ge_aretN, ge_ld0, ge_lds, ge_sum0, ge_sumI, ge_sumL, ge_sumR, ge_sumN, ge_st0, ge_st1, ge_st2, ge_su0, ge_su1, ge_su2, ge_ap1, ge_ap0, qm_gf, qm_pf, qm_ia, qm_is, qm_la, qm_ls, qm_aa, qm_al, qm_isK, qm_kv, qm_cp, List.getElem?_cons_zero, List.getElem?_cons_succ, List.length_cons, List.length_nil, List.set_cons_zero, List.set_cons_succ, decide_true, if_true, if_false, eq_self, and_true, true_and, or_true, true_or, and_false, false_and, or_false, false_or, ↓reduceIte, Nat.reduceLT, Nat.reduceLeDiff, Nat.reduceAdd, Nat.zero_lt_succ, zi_eq0, zi_01, zi_eq1, zi_or, Nat.reduceEqDiff, not_true_eq_false, not_false_eq_true, va_up_self, zi_0ne1, zi_1ne0, tb_isBoardNumber, tb_isWithin, tb_isRowNumber, h1, h2, h0, hat, hal, h4, e1, ss_no]
      · by_cases h4 : r.1 l = -1
        · rw [if_pos (Or.inr h4)]
          rw [if_neg h3] at hat
          rw [if_pos h4] at hal
          obtain ⟨f1, e1, k1⟩ := tb_refused X (d + 10) N S h 1 (by decide)
          refine ⟨f1, ?_, k1⟩
          simp only [ke_105, kk_105_0, kk_105_14, kk_105_16, kk_105_40, kk_105_46, kk_105_67, kk_105_84, kl_105_0, kl_105_14, kl_105_16, kl_105_40, kl_105_46, kl_105_67, kl_105_84, ge_iconst, ge_lconst, ge_null, ge_iload, ge_lload, ge_aload, ge_istore, ge_lstore, ge_astore, ge_astoreN, ge_iinc, ge_iadd, ge_isub, ge_imul, ge_iand, ge_ior, ge_ixor, ge_ishl, ge_ishr, ge_iushr, ge_ladd, ge_lsub, ge_lmul, ge_lcmp, ge_idiv, ge_irem, ge_ldiv, ge_ineg, ge_i2l, ge_l2i, ge_lneg, ge_dupI, ge_dupR, ge_popI, ge_dup2, ge_goto, ge_if_eq, ge_if_ne, ge_if_lt, ge_if_ge, ge_if_gt, ge_if_le, ge_ic_eq, ge_ic_ne, ge_ic_lt, ge_ic_ge, ge_ic_gt, ge_ic_le, ge_ifnullN, ge_ifnullR, ge_ifnnN, ge_ifnnR, ge_switch, ge_getf, ge_putfI, ge_putfL, ge_putfR, ge_iald, ge_lald, ge_aald, ge_iast, ge_last, ge_aast, ge_alen, ge_new, ge_newI, ge_newL, ge_newQ, ge_oi, ge_copy, ge_max, ge_is0, ge_is1, ge_iv1, ge_is2, ge_iv2, ge_is3, ge_iv3, ge_is4, ge_iv4, ge_is5, ge_iv5, ge_iv6, ge_ret, ge_iret, ge_zret, ge_lret, ge_aretR, ge_aretN, ge_ld0, ge_lds, ge_sum0, ge_sumI, ge_sumL, ge_sumR, ge_sumN, ge_st0, ge_st1, ge_st2, ge_su0, ge_su1, ge_su2, ge_ap1, ge_ap0, qm_gf, qm_pf, qm_ia, qm_is, qm_la, qm_ls, qm_aa, qm_al, qm_isK, qm_kv, qm_cp, List.getElem?_cons_zero, List.getElem?_cons_succ, List.length_cons, List.length_nil, List.set_cons_zero, List.set_cons_succ, decide_true, if_true, if_false, eq_self, and_true, true_and, or_true, true_or, and_false, false_and, or_false, false_or, ↓reduceIte, Nat.reduceLT, Nat.reduceLeDiff, Nat.reduceAdd, Nat.zero_lt_succ, zi_eq0, zi_01, zi_eq1, zi_or, Nat.reduceEqDiff, not_true_eq_false, not_false_eq_true, va_up_self, zi_0ne1, zi_1ne0, tb_isBoardNumber, tb_isWithin, tb_isRowNumber, h1, h2, h0, hat, hal, e1, ss_no]
        · rw [if_neg (not_or.mpr ⟨h3, h4⟩)]
          rw [if_neg h3] at hat
          rw [if_neg h4] at hal
          have hr := tk_brd h (k := k) (by omega)
          have hq := tk_cl h (k := k) (by omega)
          have hI := I.2 k (by omega)
          obtain ⟨n, hn, en⟩ := (I.1 l (by omega)).resolve_left h4
          have mr := tk_row h (k := l) (by omega)
          have mp := tk_pl h (k := l) (by omega)
          rw [en] at mr
          have hfw := bd_faultOfWeights X (d + 8) N S f hr mr mp hn hI.1 hI.2.1
          have h36 : b.2.1 k * b.2.2.1 k ≤ 36 := Nat.mul_le_mul hI.1 hI.2.1
          by_cases h5 : n = b.2.1 k * b.2.2.1 k
          · subst h5
            rw [if_neg (not_not_intro en)]
            rw [if_pos rfl] at hfw
            by_cases h6 : ∀ j, j < b.2.1 k * b.2.2.1 k → -1000 ≤ r.2 l j ∧ r.2 l j ≤ 1000
            · rw [if_neg (not_not_intro h6)]
              rw [if_pos h6] at hfw
              have hce := bd_hasCell X (d + 9) N S f hr hq (nI_le (b := 6) hI.1 (by omega)) i j
              by_cases h7 : (0 ≤ i ∧ i < nI (b.2.1 k) ∧ 0 ≤ j ∧ j < nI (b.2.2.1 k)) ∧ ¬ b.2.2.2 k i.toNatClampNeg &&& ((1 : Int32) <<< (j &&& 31)) = 0
              · rw [if_neg (not_not_intro h7)]
                rw [if_pos h7] at hce
                obtain ⟨i', j', hi, hj, ei, ej⟩ := place_nat hI.1 hI.2.1 h7.1
                subst ei ej
                have h8 := h7.2
                rw [nI_clamp (show i' < 2 ^ 31 by omega)] at h8
                have e3 := cell_bit (c := ss_c b k i') (j := j') (by omega)
                rw [← (ss_c_ok I (by omega) h3 hi).2.2] at e3
                have hb : (ss_c b k i').testBit j' = true := by
                  cases hh : (ss_c b k i').testBit j'
                  · exact absurd (e3.mpr hh) h8
                  · rfl
                obtain ⟨f1, e1, k1⟩ := tb_lackOf X d N S h I (show k < 12 by omega) (show l < 8 by omega) h3 en h6 hi hj hb
                rw [nI_clamp (show i' < 2 ^ 31 by omega), nI_clamp (show j' < 2 ^ 31 by omega)]
                refine ⟨f1, ?_, k1⟩
                simp only [ke_105, kk_105_0, kk_105_14, kk_105_16, kk_105_40, kk_105_46, kk_105_67, kk_105_84, kl_105_0, kl_105_14, kl_105_16, kl_105_40, kl_105_46, kl_105_67, kl_105_84, ge_iconst, ge_lconst, ge_null, ge_iload, ge_lload, ge_aload, ge_istore, ge_lstore, ge_astore, ge_astoreN, ge_iinc, ge_iadd, ge_isub, ge_imul, ge_iand, ge_ior, ge_ixor, ge_ishl, ge_ishr, ge_iushr, ge_ladd, ge_lsub, ge_lmul, ge_lcmp, ge_idiv, ge_irem, ge_ldiv, ge_ineg, ge_i2l, ge_l2i, ge_lneg, ge_dupI, ge_dupR, ge_popI, ge_dup2, ge_goto, ge_if_eq, ge_if_ne, ge_if_lt, ge_if_ge, ge_if_gt, ge_if_le, ge_ic_eq, ge_ic_ne, ge_ic_lt, ge_ic_ge, ge_ic_gt, ge_ic_le, ge_ifnullN, ge_ifnullR, ge_ifnnN, ge_ifnnR, ge_switch, ge_getf, ge_putfI, ge_putfL, ge_putfR, ge_iald, ge_lald, ge_aald, ge_iast, ge_last, ge_aast, ge_alen, ge_new, ge_newI, ge_newL, ge_newQ, ge_oi, ge_copy, ge_max, ge_is0, ge_is1, ge_iv1, ge_is2, ge_iv2, ge_is3, ge_iv3, ge_is4, ge_iv4, ge_is5, ge_iv5, ge_iv6, ge_ret, ge_iret, ge_zret, ge_lret, ge_aretR, ge_aretN, ge_ld0, ge_lds, ge_sum0, ge_sumI, ge_sumL, ge_sumR, ge_sumN, ge_st0, ge_st1, ge_st2, ge_su0, ge_su1, ge_su2, ge_ap1, ge_ap0, qm_gf, qm_pf, qm_ia, qm_is, qm_la, qm_ls, qm_aa, qm_al, qm_isK, qm_kv, qm_cp, List.getElem?_cons_zero, List.getElem?_cons_succ, List.length_cons, List.length_nil, List.set_cons_zero, List.set_cons_succ, decide_true, if_true, if_false, eq_self, and_true, true_and, or_true, true_or, and_false, false_and, or_false, false_or, ↓reduceIte, Nat.reduceLT, Nat.reduceLeDiff, Nat.reduceAdd, Nat.zero_lt_succ, zi_eq0, zi_01, zi_eq1, zi_or, Nat.reduceEqDiff, not_true_eq_false, not_false_eq_true, va_up_self, zi_0ne1, zi_1ne0, tb_isBoardNumber, tb_isWithin, tb_isRowNumber, h1, h2, h0, hat, hal, hr, mr, hfw, hce, e1]
              · rw [if_pos h7]
                rw [if_neg h7] at hce
                obtain ⟨f1, e1, k1⟩ := tb_refused X (d + 10) N S h 2 (by decide)
                refine ⟨f1, ?_, k1⟩
                simp only [ke_105, kk_105_0, kk_105_14, kk_105_16, kk_105_40, kk_105_46, kk_105_67, kk_105_84, kl_105_0, kl_105_14, kl_105_16, kl_105_40, kl_105_46, kl_105_67, kl_105_84, ge_iconst, ge_lconst, ge_null, ge_iload, ge_lload, ge_aload, ge_istore, ge_lstore, ge_astore, ge_astoreN, ge_iinc, ge_iadd, ge_isub, ge_imul, ge_iand, ge_ior, ge_ixor, ge_ishl, ge_ishr, ge_iushr, ge_ladd, ge_lsub, ge_lmul, ge_lcmp, ge_idiv, ge_irem, ge_ldiv, ge_ineg, ge_i2l, ge_l2i, ge_lneg, ge_dupI, ge_dupR, ge_popI, ge_dup2, ge_goto, ge_if_eq, ge_if_ne, ge_if_lt, ge_if_ge, ge_if_gt, ge_if_le, ge_ic_eq, ge_ic_ne, ge_ic_lt, ge_ic_ge, ge_ic_gt, ge_ic_le, ge_ifnullN, ge_ifnullR, ge_ifnnN, ge_ifnnR, ge_switch, ge_getf, ge_putfI, ge_putfL, ge_putfR, ge_iald, ge_lald, ge_aald, ge_iast, ge_last, ge_aast, ge_alen, ge_new, ge_newI, ge_newL, ge_newQ, ge_oi, ge_copy, ge_max, ge_is0, ge_is1, ge_iv1, ge_is2, ge_iv2, ge_is3, ge_iv3, ge_is4, ge_iv4, ge_is5, ge_iv5, ge_iv6, ge_ret, ge_iret, ge_zret, ge_lret, ge_aretR, ge_aretN, ge_ld0, ge_lds, ge_sum0, ge_sumI, ge_sumL, ge_sumR, ge_sumN, ge_st0, ge_st1, ge_st2, ge_su0, ge_su1, ge_su2, ge_ap1, ge_ap0, qm_gf, qm_pf, qm_ia, qm_is, qm_la, qm_ls, qm_aa, qm_al, qm_isK, qm_kv, qm_cp, List.getElem?_cons_zero, List.getElem?_cons_succ, List.length_cons, List.length_nil, List.set_cons_zero, List.set_cons_succ, decide_true, if_true, if_false, eq_self, and_true, true_and, or_true, true_or, and_false, false_and, or_false, false_or, ↓reduceIte, Nat.reduceLT, Nat.reduceLeDiff, Nat.reduceAdd, Nat.zero_lt_succ, zi_eq0, zi_01, zi_eq1, zi_or, Nat.reduceEqDiff, not_true_eq_false, not_false_eq_true, va_up_self, zi_0ne1, zi_1ne0, tb_isBoardNumber, tb_isWithin, tb_isRowNumber, h1, h2, h0, hat, hal, hr, mr, hfw, hce, e1, ss_no]
            · rw [if_pos h6]
              rw [if_neg h6] at hfw
              obtain ⟨f1, e1, k1⟩ := tb_refused X (d + 10) N S h 3 (by decide)
              have n3 : ¬ (3 : Int32) = 0 := by decide
              refine ⟨f1, ?_, k1⟩
              simp only [ke_105, kk_105_0, kk_105_14, kk_105_16, kk_105_40, kk_105_46, kk_105_67, kk_105_84, kl_105_0, kl_105_14, kl_105_16, kl_105_40, kl_105_46, kl_105_67, kl_105_84, ge_iconst, ge_lconst, ge_null, ge_iload, ge_lload, ge_aload, ge_istore, ge_lstore, ge_astore, ge_astoreN, ge_iinc, ge_iadd, ge_isub, ge_imul, ge_iand, ge_ior, ge_ixor, ge_ishl, ge_ishr, ge_iushr, ge_ladd, ge_lsub, ge_lmul, ge_lcmp, ge_idiv, ge_irem, ge_ldiv, ge_ineg, ge_i2l, ge_l2i, ge_lneg, ge_dupI, ge_dupR, ge_popI, ge_dup2, ge_goto, ge_if_eq, ge_if_ne, ge_if_lt, ge_if_ge, ge_if_gt, ge_if_le, ge_ic_eq, ge_ic_ne, ge_ic_lt, ge_ic_ge, ge_ic_gt, ge_ic_le, ge_ifnullN, ge_ifnullR, ge_ifnnN, ge_ifnnR, ge_switch, ge_getf, ge_putfI, ge_putfL, ge_putfR, ge_iald, ge_lald, ge_aald, ge_iast, ge_last, ge_aast, ge_alen, ge_new, ge_newI, ge_newL, ge_newQ, ge_oi, ge_copy, ge_max, ge_is0, ge_is1, ge_iv1, ge_is2, ge_iv2, ge_is3, ge_iv3, ge_is4, ge_iv4, ge_is5, ge_iv5, ge_iv6, ge_ret, ge_iret, ge_zret, ge_lret, ge_aretR, ge_aretN, ge_ld0, ge_lds, ge_sum0, ge_sumI, ge_sumL, ge_sumR, ge_sumN, ge_st0, ge_st1, ge_st2, ge_su0, ge_su1, ge_su2, ge_ap1, ge_ap0, qm_gf, qm_pf, qm_ia, qm_is, qm_la, qm_ls, qm_aa, qm_al, qm_isK, qm_kv, qm_cp, List.getElem?_cons_zero, List.getElem?_cons_succ, List.length_cons, List.length_nil, List.set_cons_zero, List.set_cons_succ, decide_true, if_true, if_false, eq_self, and_true, true_and, or_true, true_or, and_false, false_and, or_false, false_or, ↓reduceIte, Nat.reduceLT, Nat.reduceLeDiff, Nat.reduceAdd, Nat.zero_lt_succ, zi_eq0, zi_01, zi_eq1, zi_or, Nat.reduceEqDiff, not_true_eq_false, not_false_eq_true, va_up_self, zi_0ne1, zi_1ne0, tb_isBoardNumber, tb_isWithin, tb_isRowNumber, h1, h2, h0, hat, hal, hr, mr, hfw, n3, e1, ss_no]
          · rw [if_pos (show ¬ r.1 l = nI (b.2.1 k * b.2.2.1 k) from fun q => h5 ((nI_eq (by omega) (by omega)).mp (en.symm.trans q)))]
            rw [if_neg h5] at hfw
            obtain ⟨f1, e1, k1⟩ := tb_refused X (d + 10) N S h 5 (by decide)
            have n5 : ¬ (5 : Int32) = 0 := by decide
            refine ⟨f1, ?_, k1⟩
            simp only [ke_105, kk_105_0, kk_105_14, kk_105_16, kk_105_40, kk_105_46, kk_105_67, kk_105_84, kl_105_0, kl_105_14, kl_105_16, kl_105_40, kl_105_46, kl_105_67, kl_105_84, ge_iconst, ge_lconst, ge_null, ge_iload, ge_lload, ge_aload, ge_istore, ge_lstore, ge_astore, ge_astoreN, ge_iinc, ge_iadd, ge_isub, ge_imul, ge_iand, ge_ior, ge_ixor, ge_ishl, ge_ishr, ge_iushr, ge_ladd, ge_lsub, ge_lmul, ge_lcmp, ge_idiv, ge_irem, ge_ldiv, ge_ineg, ge_i2l, ge_l2i, ge_lneg, ge_dupI, ge_dupR, ge_popI, ge_dup2, ge_goto, ge_if_eq, ge_if_ne, ge_if_lt, ge_if_ge, ge_if_gt, ge_if_le, ge_ic_eq, ge_ic_ne, ge_ic_lt, ge_ic_ge, ge_ic_gt, ge_ic_le, ge_ifnullN, ge_ifnullR, ge_ifnnN, ge_ifnnR, ge_switch, ge_getf, ge_putfI, ge_putfL, ge_putfR, ge_iald, ge_lald, ge_aald, ge_iast, ge_last, ge_aast, ge_alen, ge_new, ge_newI, ge_newL, ge_newQ, ge_oi, ge_copy, ge_max, ge_is0, ge_is1, ge_iv1, ge_is2, ge_iv2, ge_is3, ge_iv3, ge_is4, ge_iv4, ge_is5, ge_iv5, ge_iv6, ge_ret, ge_iret, ge_zret, ge_lret, ge_aretR, ge_aretN, ge_ld0, ge_lds, ge_sum0, ge_sumI, ge_sumL, ge_sumR, ge_sumN, ge_st0, ge_st1, ge_st2, ge_su0, ge_su1, ge_su2, ge_ap1, ge_ap0, qm_gf, qm_pf, qm_ia, qm_is, qm_la, qm_ls, qm_aa, qm_al, qm_isK, qm_kv, qm_cp, List.getElem?_cons_zero, List.getElem?_cons_succ, List.length_cons, List.length_nil, List.set_cons_zero, List.set_cons_succ, decide_true, if_true, if_false, eq_self, and_true, true_and, or_true, true_or, and_false, false_and, or_false, false_or, ↓reduceIte, Nat.reduceLT, Nat.reduceLeDiff, Nat.reduceAdd, Nat.zero_lt_succ, zi_eq0, zi_01, zi_eq1, zi_or, Nat.reduceEqDiff, not_true_eq_false, not_false_eq_true, va_up_self, zi_0ne1, zi_1ne0, tb_isBoardNumber, tb_isWithin, tb_isRowNumber, h1, h2, h0, hat, hal, hr, mr, hfw, n5, e1, ss_no]
    · rw [if_pos (Or.inr h2)]
      refine ⟨f, ?_, h⟩
      simp only [ke_105, kk_105_0, kk_105_14, kk_105_16, kk_105_40, kk_105_46, kk_105_67, kk_105_84, kl_105_0, kl_105_14, kl_105_16, kl_105_40, kl_105_46, kl_105_67, kl_105_84, ge_iconst, ge_lconst, ge_null, ge_iload, ge_lload, ge_aload, ge_istore, ge_lstore, ge_astore, ge_astoreN, ge_iinc, ge_iadd, ge_isub, ge_imul, ge_iand, ge_ior, ge_ixor, ge_ishl, ge_ishr, ge_iushr, ge_ladd, ge_lsub, ge_lmul, ge_lcmp, ge_idiv, ge_irem, ge_ldiv, ge_ineg, ge_i2l, ge_l2i, ge_lneg, ge_dupI, ge_dupR, ge_popI, ge_dup2, ge_goto, ge_if_eq, ge_if_ne, ge_if_lt, ge_if_ge, ge_if_gt, ge_if_le, ge_ic_eq, ge_ic_ne, ge_ic_lt, ge_ic_ge, ge_ic_gt, ge_ic_le, ge_ifnullN, ge_ifnullR, ge_ifnnN, ge_ifnnR, ge_switch, ge_getf, ge_putfI, ge_putfL, ge_putfR, ge_iald, ge_lald, ge_aald, ge_iast, ge_last, ge_aast, ge_alen, ge_new, ge_newI, ge_newL, ge_newQ, ge_oi, ge_copy, ge_max, ge_is0, ge_is1, ge_iv1, ge_is2, ge_iv2, ge_is3, ge_iv3, ge_is4, ge_iv4, ge_is5, ge_iv5, ge_iv6, ge_ret, ge_iret, ge_zret, ge_lret, ge_aretR, ge_aretN, ge_ld0, ge_lds, ge_sum0, ge_sumI, ge_sumL, ge_sumR, ge_sumN, ge_st0, ge_st1, ge_st2, ge_su0, ge_su1, ge_su2, ge_ap1, ge_ap0, qm_gf, qm_pf, qm_ia, qm_is, qm_la, qm_ls, qm_aa, qm_al, qm_isK, qm_kv, qm_cp, List.getElem?_cons_zero, List.getElem?_cons_succ, List.length_cons, List.length_nil, List.set_cons_zero, List.set_cons_succ, decide_true, if_true, if_false, eq_self, and_true, true_and, or_true, true_or, and_false, false_and, or_false, false_or, ↓reduceIte, Nat.reduceLT, Nat.reduceLeDiff, Nat.reduceAdd, Nat.zero_lt_succ, zi_eq0, zi_01, zi_eq1, zi_or, Nat.reduceEqDiff, not_true_eq_false, not_false_eq_true, va_up_self, zi_0ne1, zi_1ne0, tb_isBoardNumber, tb_isWithin, tb_isRowNumber, h1, h2, ss_bad]
  · rw [if_pos (Or.inl h1)]
    refine ⟨f, ?_, h⟩
    simp only [ke_105, kk_105_0, kk_105_14, kk_105_16, kk_105_40, kk_105_46, kk_105_67, kk_105_84, kl_105_0, kl_105_14, kl_105_16, kl_105_40, kl_105_46, kl_105_67, kl_105_84, ge_iconst, ge_lconst, ge_null, ge_iload, ge_lload, ge_aload, ge_istore, ge_lstore, ge_astore, ge_astoreN, ge_iinc, ge_iadd, ge_isub, ge_imul, ge_iand, ge_ior, ge_ixor, ge_ishl, ge_ishr, ge_iushr, ge_ladd, ge_lsub, ge_lmul, ge_lcmp, ge_idiv, ge_irem, ge_ldiv, ge_ineg, ge_i2l, ge_l2i, ge_lneg, ge_dupI, ge_dupR, ge_popI, ge_dup2, ge_goto, ge_if_eq, ge_if_ne, ge_if_lt, ge_if_ge, ge_if_gt, ge_if_le, ge_ic_eq, ge_ic_ne, ge_ic_lt, ge_ic_ge, ge_ic_gt, ge_ic_le, ge_ifnullN, ge_ifnullR, ge_ifnnN, ge_ifnnR, ge_switch, ge_getf, ge_putfI, ge_putfL, ge_putfR, ge_iald, ge_lald, ge_aald, ge_iast, ge_last, ge_aast, ge_alen, ge_new, ge_newI, ge_newL, ge_newQ, ge_oi, ge_copy, ge_max, ge_is0, ge_is1, ge_iv1, ge_is2, ge_iv2, ge_is3, ge_iv3, ge_is4, ge_iv4, ge_is5, ge_iv5, ge_iv6, ge_ret, ge_iret, ge_zret, ge_lret, ge_aretR, ge_aretN, ge_ld0, ge_lds, ge_sum0, ge_sumI, ge_sumL, ge_sumR, ge_sumN, ge_st0, ge_st1, ge_st2, ge_su0, ge_su1, ge_su2, ge_ap1, ge_ap0, qm_gf, qm_pf, qm_ia, qm_is, qm_la, qm_ls, qm_aa, qm_al, qm_isK, qm_kv, qm_cp, List.getElem?_cons_zero, List.getElem?_cons_succ, List.length_cons, List.length_nil, List.set_cons_zero, List.set_cons_succ, decide_true, if_true, if_false, eq_self, and_true, true_and, or_true, true_or, and_false, false_and, or_false, false_or, ↓reduceIte, Nat.reduceLT, Nat.reduceLeDiff, Nat.reduceAdd, Nat.zero_lt_succ, zi_eq0, zi_01, zi_eq1, zi_or, Nat.reduceEqDiff, not_true_eq_false, not_false_eq_true, va_up_self, zi_0ne1, zi_1ne0, tb_isBoardNumber, tb_isWithin, tb_isRowNumber, h1, ss_bad]
end TB30
