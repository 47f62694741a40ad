/-! the class's rounds, longRings -/
theorem fb_sm_le1 (f : Nat → Nat) {c : Nat} : ∀ {n : Nat}, c < n → f c ≤ fb_sm f n
  | 0, h => absurd h (Nat.not_lt_zero _)
  | n + 1, h => by
    rw [fb_sm_succ]
    by_cases e : c = n
    · rw [e]; omega
    · have := fb_sm_le1 f (c := c) (n := n) (by omega)
      omega
section TB32
variable (X : qm_X) (d N S : Nat)
variable {z : Nat} {g f : Nat → qm_C} {r : ss_R} {b : ss_B} {t : ss_T}
theorem hc_ok (I : ss_I r b) {k : Nat} (hk : k < 12) (h3 : ¬ b.1 k = -1) (hsq : b.2.1 k = b.2.2.1 k) : ∀ i, i < b.2.1 k → ∀ j, j < b.2.1 k → bd_hc (nI (b.2.1 k)) (nI (b.2.2.1 k)) (b.2.2.2 k) i j = (ss_c b k i).testBit j := fun i hi j hj => by
  have hI := I.2 k hk
  obtain ⟨c1, c2, c3⟩ := ss_c_ok I hk h3 hi
  unfold bd_hc
  have e1 : 0 ≤ nI i ∧ nI i < nI (b.2.1 k) ∧ 0 ≤ nI j ∧ nI j < nI (b.2.2.1 k) := ⟨nI_pos' (by omega), nI_lt hi (by omega), nI_pos' (by omega), nI_lt (by omega) (by omega)⟩
  rw [Bool.eq_iff_iff, decide_eq_true_eq, c3, cell_bit (by omega)]
  constructor
  · intro q
    simpa using q.2
  · intro q
    exact ⟨e1, by rw [q]; decide⟩
theorem tb_arrows (h : TBk z g r b t f) (I : ss_I r b) {k sh : Nat} (hk : k < 12) (hsh : sh ≤ 6) : ∃ f' U, qm_ex qm_M X (d + 5) 1 [.ref (z + 21), .ref (z + 42 + 2 * k), .int (nI sh)] (N, S, f) = some (none, (N, S, f')) ∧ TBk z g r b t f' ∧ f' (z + 21) = .inr (0, [.ref (z + 22), .ref (z + 23), .ref (z + 24), .ref (z + 25), .int (nI (2 ^ b.2.1 k - 1))]) ∧ f' (z + 25) = .inl (0, 3136, .inl U) ∧ ∀ p c, p ≤ 6 → c ≤ 6 → U (((2 ^ b.2.1 k - 1) * 7 + p) * 7 + c) = nI (Wn (bd_hc (nI (b.2.1 k)) (nI (b.2.2.1 k)) (b.2.2.2 k)) sh (2 ^ b.2.1 k - 1) p c) := by
  have hI := I.2 k hk
  obtain ⟨l, h21⟩ := h.1 21 (by omega)
  obtain ⟨y, h22⟩ := h.1 22 (by omega)
  obtain ⟨p, h23⟩ := h.1 23 (by omega)
  obtain ⟨q, h24⟩ := h.1 24 (by omega)
  obtain ⟨u, h25⟩ := h.1 25 (by omega)
  have e := ar_findFor X d N S f (nI sh) y p q u hI.1 (show z + 21 ≠ z + 22 by omega) (show z + 21 ≠ z + 23 by omega) (show z + 21 ≠ z + 24 by omega) (show z + 21 ≠ z + 25 by omega) (show z + 22 ≠ z + 23 by omega) (show z + 22 ≠ z + 24 by omega) (show z + 22 ≠ z + 25 by omega) (show z + 23 ≠ z + 24 by omega) (show z + 23 ≠ z + 25 by omega) (show z + 24 ≠ z + 25 by omega) (by omega) (by omega) (by omega) (by omega) (by omega) (by omega) (by omega) (by omega) h21 h22 h23 h24 h25 (tk_brd h hk) (tk_cl h hk)
  refine ⟨_, _, e, ?_, ?_, va_up_self _ _ _, fun p c hp hc' => ar_U_ok hI.1 hsh _ _ _ _ hp hc'⟩
  · exact tk_s 25 (tk_s 24 (tk_s 22 (tk_s 23 (tk_s 22 (tk_s 21 h (by omega) ⟨_, rfl⟩) (by omega) ⟨_, rfl⟩) (by omega) ⟨_, rfl⟩) (by omega) ⟨_, rfl⟩) (by omega) ⟨_, rfl⟩) (by omega) ⟨_, rfl⟩
  · rw [va_up_ne _ _ (by omega), va_up_ne _ _ (by omega), va_up_ne _ _ (by omega), va_up_ne _ _ (by omega), va_up_ne _ _ (by omega)]
    exact va_up_self _ _ _
theorem tk_21 {l : Nat} (h : f (z + 21) = .inr (0, [.ref (z + 22), .ref (z + 23), .ref (z + 24), .ref (z + 25), .int (nI l)])) (v : qm_C) : va_up f z v (z + 21) = .inr (0, [.ref (z + 22), .ref (z + 23), .ref (z + 24), .ref (z + 25), .int (nI l)]) := by
  rw [va_up_ne _ _ (by omega)]
  exact h
theorem tb_rounds (h : TBk z g r b t f) (I : ss_I r b) (x w v : Int32) : TBo X N S (d + 6) z g 106 [.ref z, .int x, .int w, .int v] f (op_rounds x w v r b t) := by
  have h0 := tk_0 h
  rw [op_rounds]
  by_cases h1 : 0 ≤ x ∧ x ≤ 11
  · by_cases c1 : 0 ≤ w ∧ w ≤ 6
    · by_cases c2 : 0 ≤ v ∧ v ≤ 6
      · rw [if_neg (not_or.mpr ⟨not_not_intro h1, not_or.mpr ⟨not_not_intro c1, not_not_intro c2⟩⟩)]
        obtain ⟨k, hk, ek⟩ := nI_of2 (x := x) (M := 11) (n := 11) (by decide) (Int32.not_lt.mpr h1.1) h1.2
        subst ek
        rw [nI_clamp (show k < 2 ^ 31 by omega)]
        have hat := tb_boardAt X (d + 2) N S h (k := k) (by omega)
        by_cases h3 : b.1 k = -1
        · rw [if_pos h3]
          rw [if_pos h3] at hat
          obtain ⟨f1, e1, k1⟩ := tb_refused X (d + 4) N S h 1 (by decide)
          refine ⟨f1, ?_, k1⟩
          simp only [ke_106, kk_106_0, kk_106_27, kk_106_29, kk_106_47, kk_106_61, kl_106_0, kl_106_27, kl_106_29, kl_106_47, kl_106_61, ge_iconst, ge_lconst, ge_null, ge_iload, ge_lload, ge_aload, ge_istore, ge_lstore, ge_astore, ge_astoreN, ge_iinc, ge_iadd, ge_isub, ge_imul, ge_iand, ge_ior, ge_ixor, ge_ishl, ge_ishr, ge_iushr, ge_ladd, ge_lsub, ge_lmul, ge_lcmp, ge_idiv, ge_irem, ge_ldiv, ge_ineg, ge_i2l, ge_l2i, ge_lneg, ge_dupI, ge_dupR, ge_popI, ge_dup2, ge_goto, ge_if_eq, ge_if_ne, ge_if_lt, ge_if_ge, ge_if_gt, ge_if_le, ge_ic_eq, ge_ic_ne, ge_ic_lt, ge_ic_ge, ge_ic_gt, ge_ic_le, ge_ifnullN, ge_ifnullR, ge_ifnnN, ge_ifnnR, ge_switch, ge_getf, ge_putfI, ge_putfL, ge_putfR, ge_iald, ge_lald, ge_aald, ge_iast, ge_last, ge_aast, ge_alen, ge_new, ge_newI, ge_newL, ge_newQ, ge_oi, ge_copy, ge_max, ge_is0, ge_is1, ge_iv1, ge_is2, ge_iv2, ge_is3, ge_iv3, ge_is4, ge_iv4, ge_is5, ge_iv5, ge_iv6, ge_ret, ge_iret, ge_zret, ge_lret, ge_aretR, ge_aretN, ge_ld0, ge_lds, ge_sum0, ge_sumI, ge_sumL, ge_sumR, ge_sumN, ge_st0, ge_st1, ge_st2, ge_su0, ge_su1, ge_su2, ge_ap1, ge_ap0, qm_gf, qm_pf, qm_ia, qm_is, qm_la, qm_ls, qm_aa, qm_al, qm_isK, qm_kv, qm_cp, List.getElem?_cons_zero, List.getElem?_cons_succ, List.length_cons, List.length_nil, List.set_cons_zero, List.set_cons_succ, decide_true, if_true, if_false, eq_self, and_true, true_and, or_true, true_or, and_false, false_and, or_false, false_or, ↓reduceIte, Nat.reduceLT, Nat.reduceLeDiff, Nat.reduceAdd, Nat.zero_lt_succ, zi_eq0, zi_01, zi_eq1, zi_or, Nat.reduceEqDiff, not_true_eq_false, not_false_eq_true, va_up_self, zi_0ne1, zi_1ne0, tb_isBoardNumber, tb_isWithin, h1, c1, c2, h0, hat, e1, ss_no]
        · rw [if_neg h3]
          rw [if_neg h3] at hat
          have hr := tk_brd h (k := k) (by omega)
          have hI := I.2 k (by omega)
          have hJ := hI.2.2 h3
          have hsqr := bd_isSquare X (d + 4) N S f hr
          by_cases hsq : b.2.1 k = b.2.2.1 k
          · rw [if_neg (not_not_intro hsq)]
            rw [if_pos (by rw [hsq])] at hsqr
            obtain ⟨K, hK, eK⟩ := nI_of2 (x := w) (M := 6) (n := 6) (by decide) (Int32.not_lt.mpr c1.1) c1.2
            obtain ⟨M, hM, eM⟩ := nI_of2 (x := v) (M := 6) (n := 6) (by decide) (Int32.not_lt.mpr c2.1) c2.2
            subst eK eM
            rw [nI_clamp (show K < 2 ^ 31 by omega), nI_clamp (show M < 2 ^ 31 by omega)]
            obtain ⟨f1, U, e1, k1, m21, m25, hU⟩ := tb_arrows X d N S h I (k := k) (sh := 1) (by omega) (by omega)
            rw [show nI 1 = (1 : Int32) from rfl] at e1
            have p6 : 2 ^ b.2.1 k ≤ 2 ^ 6 := Nat.pow_le_pow_right (by decide) hI.1
            obtain ⟨l0, h21⟩ := h.1 21 (by omega)
            have m0 := tk_0 k1
            have mr := tk_brd k1 (k := k) (by omega)
            have hso := ar_standsOf X (d + 3) N S f1 (2 ^ b.2.1 k - 1) (by omega) U (nI (b.2.1 k) - nI K) (nI M) m21 m25
            have hval : (ar_so (2 ^ b.2.1 k - 1) U (nI (b.2.1 k) - nI K) (nI M)).toInt64 = lN (rd_n b k K M) := by
              unfold ar_so rd_n
              by_cases q : K ≤ b.2.1 k
              · rw [pk_sub q, if_pos ⟨⟨nI_pos' (by omega), nI_le (a := b.2.1 k - K) (b := 6) (by omega) (by omega)⟩, c2⟩, nI_clamp (by omega), nI_clamp (by omega), hU _ _ (by omega) hM, Wn_rd hJ.2.1 hI.1 q (hc_ok I (by omega) h3 hsq)]
                have := tE_len_lt (c := ss_c b k) hI.1 hI.1 K (fun x => decide (rM (xf x) (b.2.1 k) 99 (b.2.1 k) = M))
                exact nI_l (by omega)
              · rw [rd_0 _ hI.1 (by omega), if_neg]
                · rfl
                · intro y
                  have y1 := y.1.1
                  rw [fa_le, Int32.toInt_sub] at y1
                  rw [nI_toInt (by omega), nI_toInt (by omega)] at y1
                  have e9 : (0 : Int32).toInt = 0 := rfl
                  rw [e9] at y1
                  have : ((b.2.1 k : Int) - (K : Int)).bmod (2 ^ 32) = (b.2.1 k : Int) - (K : Int) := by
                    rw [Int.bmod_eq_of_le] <;> omega
                  rw [this] at y1
                  omega
            refine ⟨_, ?_, tk_way (lN (rd_n b k K M)) k1⟩
            simp only [ke_106, kk_106_0, kk_106_27, kk_106_29, kk_106_47, kk_106_61, kl_106_0, kl_106_27, kl_106_29, kl_106_47, kl_106_61, ge_iconst, ge_lconst, ge_null, ge_iload, ge_lload, ge_aload, ge_istore, ge_lstore, ge_astore, ge_astoreN, ge_iinc, ge_iadd, ge_isub, ge_imul, ge_iand, ge_ior, ge_ixor, ge_ishl, ge_ishr, ge_iushr, ge_ladd, ge_lsub, ge_lmul, ge_lcmp, ge_idiv, ge_irem, ge_ldiv, ge_ineg, ge_i2l, ge_l2i, ge_lneg, ge_dupI, ge_dupR, ge_popI, ge_dup2, ge_goto, ge_if_eq, ge_if_ne, ge_if_lt, ge_if_ge, ge_if_gt, ge_if_le, ge_ic_eq, ge_ic_ne, ge_ic_lt, ge_ic_ge, ge_ic_gt, ge_ic_le, ge_ifnullN, ge_ifnullR, ge_ifnnN, ge_ifnnR, ge_switch, ge_getf, ge_putfI, ge_putfL, ge_putfR, ge_iald, ge_lald, ge_aald, ge_iast, ge_last, ge_aast, ge_alen, ge_new, ge_newI, ge_newL, ge_newQ, ge_oi, ge_copy, ge_max, ge_is0, ge_is1, ge_iv1, ge_is2, ge_iv2, ge_is3, ge_iv3, ge_is4, ge_iv4, ge_is5, ge_iv5, ge_iv6, ge_ret, ge_iret, ge_zret, ge_lret, ge_aretR, ge_aretN, ge_ld0, ge_lds, ge_sum0, ge_sumI, ge_sumL, ge_sumR, ge_sumN, ge_st0, ge_st1, ge_st2, ge_su0, ge_su1, ge_su2, ge_ap1, ge_ap0, qm_gf, qm_pf, qm_ia, qm_is, qm_la, qm_ls, qm_aa, qm_al, qm_isK, qm_kv, qm_cp, List.getElem?_cons_zero, List.getElem?_cons_succ, List.length_cons, List.length_nil, List.set_cons_zero, List.set_cons_succ, decide_true, if_true, if_false, eq_self, and_true, true_and, or_true, true_or, and_false, false_and, or_false, false_or, ↓reduceIte, Nat.reduceLT, Nat.reduceLeDiff, Nat.reduceAdd, Nat.zero_lt_succ, zi_eq0, zi_01, zi_eq1, zi_or, Nat.reduceEqDiff, not_true_eq_false, not_false_eq_true, va_up_self, zi_0ne1, zi_1ne0, tb_isBoardNumber, tb_isWithin, h1, c1, c2, h0, hat, hr, hsqr, h21, e1, m0, mr, m21, hso, hval]
          · rw [if_pos hsq]
            have hne : ¬ nI (b.2.1 k) = nI (b.2.2.1 k) := fun q => hsq ((nI_eq (by omega) (by omega)).mp q)
            rw [if_neg hne] at hsqr
            obtain ⟨f1, e1, k1⟩ := tb_refused X (d + 4) N S h 3 (by decide)
            refine ⟨f1, ?_, k1⟩
            simp only [ke_106, kk_106_0, kk_106_27, kk_106_29, kk_106_47, kk_106_61, kl_106_0, kl_106_27, kl_106_29, kl_106_47, kl_106_61, ge_iconst, ge_lconst, ge_null, ge_iload, ge_lload, ge_aload, ge_istore, ge_lstore, ge_astore, ge_astoreN, ge_iinc, ge_iadd, ge_isub, ge_imul, ge_iand, ge_ior, ge_ixor, ge_ishl, ge_ishr, ge_iushr, ge_ladd, ge_lsub, ge_lmul, ge_lcmp, ge_idiv, ge_irem, ge_ldiv, ge_ineg, ge_i2l, ge_l2i, ge_lneg, ge_dupI, ge_dupR, ge_popI, ge_dup2, ge_goto, ge_if_eq, ge_if_ne, ge_if_lt, ge_if_ge, ge_if_gt, ge_if_le, ge_ic_eq, ge_ic_ne, ge_ic_lt, ge_ic_ge, ge_ic_gt, ge_ic_le, ge_ifnullN, ge_ifnullR, ge_ifnnN, ge_ifnnR, ge_switch, ge_getf, ge_putfI, ge_putfL, ge_putfR, ge_iald, ge_lald, ge_aald, ge_iast, ge_last, ge_aast, ge_alen, ge_new, ge_newI, ge_newL, ge_newQ, ge_oi, ge_copy, ge_max, ge_is0, ge_is1, ge_iv1, ge_is2, ge_iv2, ge_is3, ge_iv3, ge_is4, ge_iv4, ge_is5, ge_iv5, ge_iv6, ge_ret, ge_iret, ge_zret, ge_lret, ge_aretR, ge_aretN, ge_ld0, ge_lds, ge_sum0, ge_sumI, ge_sumL, ge_sumR, ge_sumN, ge_st0, ge_st1, ge_st2, ge_su0, ge_su1, ge_su2, ge_ap1, ge_ap0, qm_gf, qm_pf, qm_ia, qm_is, qm_la, qm_ls, qm_aa, qm_al, qm_isK, qm_kv, qm_cp, List.getElem?_cons_zero, List.getElem?_cons_succ, List.length_cons, List.length_nil, List.set_cons_zero, List.set_cons_succ, decide_true, if_true, if_false, eq_self, and_true, true_and, or_true, true_or, and_false, false_and, or_false, false_or, ↓reduceIte, Nat.reduceLT, Nat.reduceLeDiff, Nat.reduceAdd, Nat.zero_lt_succ, zi_eq0, zi_01, zi_eq1, zi_or, Nat.reduceEqDiff, not_true_eq_false, not_false_eq_true, va_up_self, zi_0ne1, zi_1ne0, tb_isBoardNumber, tb_isWithin, h1, c1, c2, h0, hat, hr, hsqr, e1, ss_no]
      · rw [if_pos (Or.inr (Or.inr c2))]
        refine ⟨f, ?_, h⟩
        simp only [ke_106, kk_106_0, kk_106_27, kk_106_29, kk_106_47, kk_106_61, kl_106_0, kl_106_27, kl_106_29, kl_106_47, kl_106_61, ge_iconst, ge_lconst, ge_null, ge_iload, ge_lload, ge_aload, ge_istore, ge_lstore, ge_astore, ge_astoreN, ge_iinc, ge_iadd, ge_isub, ge_imul, ge_iand, ge_ior, ge_ixor, ge_ishl, ge_ishr, ge_iushr, ge_ladd, ge_lsub, ge_lmul, ge_lcmp, ge_idiv, ge_irem, ge_ldiv, ge_ineg, ge_i2l, ge_l2i, ge_lneg, ge_dupI, ge_dupR, ge_popI, ge_dup2, ge_goto, ge_if_eq, ge_if_ne, ge_if_lt, ge_if_ge, ge_if_gt, ge_if_le, ge_ic_eq, ge_ic_ne, ge_ic_lt, ge_ic_ge, ge_ic_gt, ge_ic_le, ge_ifnullN, ge_ifnullR, ge_ifnnN, ge_ifnnR, ge_switch, ge_getf, ge_putfI, ge_putfL, ge_putfR, ge_iald, ge_lald, ge_aald, ge_iast, ge_last, ge_aast, ge_alen, ge_new, ge_newI, ge_newL, ge_newQ, ge_oi, ge_copy, ge_max, ge_is0, ge_is1, ge_iv1, ge_is2, ge_iv2, ge_is3, ge_iv3, ge_is4, ge_iv4, ge_is5, ge_iv5, ge_iv6, ge_ret, ge_iret, ge_zret, ge_lret, ge_aretR, ge_aretN, ge_ld0, ge_lds, ge_sum0, ge_sumI, ge_sumL, ge_sumR, ge_sumN, ge_st0, ge_st1, ge_st2, ge_su0, ge_su1, ge_su2, ge_ap1, ge_ap0, qm_gf, qm_pf, qm_ia, qm_is, qm_la, qm_ls, qm_aa, qm_al, qm_isK, qm_kv, qm_cp, List.getElem?_cons_zero, List.getElem?_cons_succ, List.length_cons, List.length_nil, List.set_cons_zero, List.set_cons_succ, decide_true, if_true, if_false, eq_self, and_true, true_and, or_true, true_or, and_false, false_and, or_false, false_or, ↓reduceIte, Nat.reduceLT, Nat.reduceLeDiff, Nat.reduceAdd, Nat.zero_lt_succ, zi_eq0, zi_01, zi_eq1, zi_or, Nat.reduceEqDiff, not_true_eq_false, not_false_eq_true, va_up_self, zi_0ne1, zi_1ne0, tb_isBoardNumber, tb_isWithin, h1, c1, c2, ss_bad]
    · rw [if_pos (Or.inr (Or.inl c1))]
      refine ⟨f, ?_, h⟩
      simp only [ke_106, kk_106_0, kk_106_27, kk_106_29, kk_106_47, kk_106_61, kl_106_0, kl_106_27, kl_106_29, kl_106_47, kl_106_61, ge_iconst, ge_lconst, ge_null, ge_iload, ge_lload, ge_aload, ge_istore, ge_lstore, ge_astore, ge_astoreN, ge_iinc, ge_iadd, ge_isub, ge_imul, ge_iand, ge_ior, ge_ixor, ge_ishl, ge_ishr, ge_iushr, ge_ladd, ge_lsub, ge_lmul, ge_lcmp, ge_idiv, ge_irem, ge_ldiv, ge_ineg, ge_i2l, ge_l2i, ge_lneg, ge_dupI, ge_dupR, ge_popI, ge_dup2, ge_goto, ge_if_eq, ge_if_ne, ge_if_lt, ge_if_ge, ge_if_gt, ge_if_le, ge_ic_eq, ge_ic_ne, ge_ic_lt, ge_ic_ge, ge_ic_gt, ge_ic_le, ge_ifnullN, ge_ifnullR, ge_ifnnN, ge_ifnnR, ge_switch, ge_getf, ge_putfI, ge_putfL, ge_putfR, ge_iald, ge_lald, ge_aald, ge_iast, ge_last, ge_aast, ge_alen, ge_new, ge_newI, ge_newL, ge_newQ, ge_oi, ge_copy, ge_max, ge_is0, ge_is1, ge_iv1, ge_is2, ge_iv2, ge_is3, ge_iv3, ge_is4, ge_iv4, ge_is5, ge_iv5, ge_iv6, ge_ret, ge_iret, ge_zret, ge_lret, ge_aretR, ge_aretN, ge_ld0, ge_lds, ge_sum0, ge_sumI, ge_sumL, ge_sumR, ge_sumN, ge_st0, ge_st1, ge_st2, ge_su0, ge_su1, ge_su2, ge_ap1, ge_ap0, qm_gf, qm_pf, qm_ia, qm_is, qm_la, qm_ls, qm_aa, qm_al, qm_isK, qm_kv, qm_cp, List.getElem?_cons_zero, List.getElem?_cons_succ, List.length_cons, List.length_nil, List.set_cons_zero, List.set_cons_succ, decide_true, if_true, if_false, eq_self, and_true, true_and, or_true, true_or, and_false, false_and, or_false, false_or, ↓reduceIte, Nat.reduceLT, Nat.reduceLeDiff, Nat.reduceAdd, Nat.zero_lt_succ, zi_eq0, zi_01, zi_eq1, zi_or, Nat.reduceEqDiff, not_true_eq_false, not_false_eq_true, va_up_self, zi_0ne1, zi_1ne0, tb_isBoardNumber, tb_isWithin, h1, c1, ss_bad]
  · rw [if_pos (Or.inl h1)]
    refine ⟨f, ?_, h⟩
    simp only [ke_106, kk_106_0, kk_106_27, kk_106_29, kk_106_47, kk_106_61, kl_106_0, kl_106_27, kl_106_29, kl_106_47, kl_106_61, ge_iconst, ge_lconst, ge_null, ge_iload, ge_lload, ge_aload, ge_istore, ge_lstore, ge_astore, ge_astoreN, ge_iinc, ge_iadd, ge_isub, ge_imul, ge_iand, ge_ior, ge_ixor, ge_ishl, ge_ishr, ge_iushr, ge_ladd, ge_lsub, ge_lmul, ge_lcmp, ge_idiv, ge_irem, ge_ldiv, ge_ineg, ge_i2l, ge_l2i, ge_lneg, ge_dupI, ge_dupR, ge_popI, ge_dup2, ge_goto, ge_if_eq, ge_if_ne, ge_if_lt, ge_if_ge, ge_if_gt, ge_if_le, ge_ic_eq, ge_ic_ne, ge_ic_lt, ge_ic_ge, ge_ic_gt, ge_ic_le, ge_ifnullN, ge_ifnullR, ge_ifnnN, ge_ifnnR, ge_switch, ge_getf, ge_putfI, ge_putfL, ge_putfR, ge_iald, ge_lald, ge_aald, ge_iast, ge_last, ge_aast, ge_alen, ge_new, ge_newI, ge_newL, ge_newQ, ge_oi, ge_copy, ge_max, ge_is0, ge_is1, ge_iv1, ge_is2, ge_iv2, ge_is3, ge_iv3, ge_is4, ge_iv4, ge_is5, ge_iv5, ge_iv6, ge_ret, ge_iret, ge_zret, ge_lret, ge_aretR, ge_aretN, ge_ld0, ge_lds, ge_sum0, ge_sumI, ge_sumL, ge_sumR, ge_sumN, ge_st0, ge_st1, ge_st2, ge_su0, ge_su1, ge_su2, ge_ap1, ge_ap0, qm_gf, qm_pf, qm_ia, qm_is, qm_la, qm_ls, qm_aa, qm_al, qm_isK, qm_kv, qm_cp, List.getElem?_cons_zero, List.getElem?_cons_succ, List.length_cons, List.length_nil, List.set_cons_zero, List.set_cons_succ, decide_true, if_true, if_false, eq_self, and_true, true_and, or_true, true_or, and_false, false_and, or_false, false_or, ↓reduceIte, Nat.reduceLT, Nat.reduceLeDiff, Nat.reduceAdd, Nat.zero_lt_succ, zi_eq0, zi_01, zi_eq1, zi_or, Nat.reduceEqDiff, not_true_eq_false, not_false_eq_true, va_up_self, zi_0ne1, zi_1ne0, tb_isBoardNumber, tb_isWithin, h1, ss_bad]
theorem lr_loop {F sh : Nat} {U : Nat → Int32} {hc : Nat → Nat → Bool} (hF : F < 64) (hU : ∀ p c, p ≤ 6 → c ≤ 6 → U ((F * 7 + p) * 7 + c) = nI (Wn hc sh F p c)) (hW : ∀ M, M < 7 → Wn hc sh F 0 M < 2 ^ 31) (i1 i2 : Int32) (a3 : Nat) : ∀ m c (f : Nat → qm_C), c + m = 7 → TBk z g r b (ss_way t (lN (fb_sm (fun M => Wn hc sh F 0 M) c))) f → f (z + 21) = .inr (0, [.ref (z + 22), .ref (z + 23), .ref (z + 24), .ref (z + 25), .int (nI F)]) → f (z + 25) = .inl (0, 3136, .inl U) → ∃ f', qm_go (qm_ex qm_M X (d + 5)) X kt_107 kk_107_65 [.val (.ref (z)), .val (.int (i1)), .val (.int (i2)), .val (.ref (a3)), .val (.int (nI c))] [] (N, S, f) = some (some (.int 1), (N, S, f')) ∧ TBk z g r b (ss_way t (lN (fb_sm (fun M => Wn hc sh F 0 M) 7))) f'
  | 0, c, f, e, h, h21, h25 => by
    have e' : c = 7 := by omega
    subst e'
    have hc1 : (6 : Int32) < nI 7 := by decide
    refine ⟨f, ?_, h⟩
    simp only [kk_107_65, kk_107_98, kl_107_0, kl_107_17, kl_107_19, kl_107_35, kl_107_48, kl_107_65, kl_107_98, ge_iconst, ge_lconst, ge_null, ge_iload, ge_lload, ge_aload, ge_istore, ge_lstore, ge_astore, ge_astoreN, ge_iinc, ge_iadd, ge_isub, ge_imul, ge_iand, ge_ior, ge_ixor, ge_ishl, ge_ishr, ge_iushr, ge_ladd, ge_lsub, ge_lmul, ge_lcmp, ge_idiv, ge_irem, ge_ldiv, ge_ineg, ge_i2l, ge_l2i, ge_lneg, ge_dupI, ge_dupR, ge_popI, ge_dup2, ge_goto, ge_if_eq, ge_if_ne, ge_if_lt, ge_if_ge, ge_if_gt, ge_if_le, ge_ic_eq, ge_ic_ne, ge_ic_lt, ge_ic_ge, ge_ic_gt, ge_ic_le, ge_ifnullN, ge_ifnullR, ge_ifnnN, ge_ifnnR, ge_switch, ge_getf, ge_putfI, ge_putfL, ge_putfR, ge_iald, ge_lald, ge_aald, ge_iast, ge_last, ge_aast, ge_alen, ge_new, ge_newI, ge_newL, ge_newQ, ge_oi, ge_copy, ge_max, ge_is0, ge_is1, ge_iv1, ge_is2, ge_iv2, ge_is3, ge_iv3, ge_is4, ge_iv4, ge_is5, ge_iv5, ge_iv6, ge_ret, ge_iret, ge_zret, ge_lret, ge_aretR, ge_aretN, ge_ld0, ge_lds, ge_sum0, ge_sumI, ge_sumL, ge_sumR, ge_sumN, ge_st0, ge_st1, ge_st2, ge_su0, ge_su1, ge_su2, ge_ap1, ge_ap0, qm_gf, qm_pf, qm_ia, qm_is, qm_la, qm_ls, qm_aa, qm_al, qm_isK, qm_kv, qm_cp, List.getElem?_cons_zero, List.getElem?_cons_succ, List.length_cons, List.length_nil, List.set_cons_zero, List.set_cons_succ, decide_true, if_true, if_false, eq_self, and_true, true_and, or_true, true_or, and_false, false_and, or_false, false_or, ↓reduceIte, Nat.reduceLT, Nat.reduceLeDiff, Nat.reduceAdd, Nat.zero_lt_succ, zi_eq0, zi_01, zi_eq1, zi_or, Nat.reduceEqDiff, not_true_eq_false, not_false_eq_true, va_up_self, zi_0ne1, zi_1ne0, hc1]
  | m + 1, c, f, e, h, h21, h25 => by
    have hc1 : ¬ (6 : Int32) < nI c := nI_nlt (b := c) (a := 6) (by omega) (by omega)
    have h0 := tk_0 h
    have hso := ar_standsOf X (d + 3) N S f F hF U 0 (nI c) h21 h25
    have hval : (ar_so F U 0 (nI c)).toInt64 = lN (Wn hc sh F 0 c) := by
      unfold ar_so
      rw [if_pos ⟨by decide, nI_pos' (by omega), nI_le (a := c) (b := 6) (by omega) (by omega)⟩, nI_clamp (show c < 2 ^ 31 by omega), show (0 : Int32).toNatClampNeg = 0 from by decide, hU 0 c (by omega) (by omega)]
      exact nI_l (hW c (by omega))
    have k2 := tk_way (lN (fb_sm (fun M => Wn hc sh F 0 M) c) + lN (Wn hc sh F 0 c)) h
    have hsum : lN (fb_sm (fun M => Wn hc sh F 0 M) c) + lN (Wn hc sh F 0 c) = lN (fb_sm (fun M => Wn hc sh F 0 M) (c + 1)) := lN_add _ _
    obtain ⟨f', e1, k1⟩ := lr_loop hF hU hW i1 i2 a3 m (c + 1) _ (by omega) (by rw [← hsum]; exact k2) (tk_21 h21 _) (by rw [va_up_ne _ _ (by omega)]; exact h25)
    refine ⟨f', ?_, k1⟩
    rw [← e1]
    conv => lhs; rw [kk_107_65]
    simp only [kl_107_0, kl_107_17, kl_107_19, kl_107_35, kl_107_48, kl_107_65, kl_107_98, ge_iconst, ge_lconst, ge_null, ge_iload, ge_lload, ge_aload, ge_istore, ge_lstore, ge_astore, ge_astoreN, ge_iinc, ge_iadd, ge_isub, ge_imul, ge_iand, ge_ior, ge_ixor, ge_ishl, ge_ishr, ge_iushr, ge_ladd, ge_lsub, ge_lmul, ge_lcmp, ge_idiv, ge_irem, ge_ldiv, ge_ineg, ge_i2l, ge_l2i, ge_lneg, ge_dupI, ge_dupR, ge_popI, ge_dup2, ge_goto, ge_if_eq, ge_if_ne, ge_if_lt, ge_if_ge, ge_if_gt, ge_if_le, ge_ic_eq, ge_ic_ne, ge_ic_lt, ge_ic_ge, ge_ic_gt, ge_ic_le, ge_ifnullN, ge_ifnullR, ge_ifnnN, ge_ifnnR, ge_switch, ge_getf, ge_putfI, ge_putfL, ge_putfR, ge_iald, ge_lald, ge_aald, ge_iast, ge_last, ge_aast, ge_alen, ge_new, ge_newI, ge_newL, ge_newQ, ge_oi, ge_copy, ge_max, ge_is0, ge_is1, ge_iv1, ge_is2, ge_iv2, ge_is3, ge_iv3, ge_is4, ge_iv4, ge_is5, ge_iv5, ge_iv6, ge_ret, ge_iret, ge_zret, ge_lret, ge_aretR, ge_aretN, ge_ld0, ge_lds, ge_sum0, ge_sumI, ge_sumL, ge_sumR, ge_sumN, ge_st0, ge_st1, ge_st2, ge_su0, ge_su1, ge_su2, ge_ap1, ge_ap0, qm_gf, qm_pf, qm_ia, qm_is, qm_la, qm_ls, qm_aa, qm_al, qm_isK, qm_kv, qm_cp, List.getElem?_cons_zero, List.getElem?_cons_succ, List.length_cons, List.length_nil, List.set_cons_zero, List.set_cons_succ, decide_true, if_true, if_false, eq_self, and_true, true_and, or_true, true_or, and_false, false_and, or_false, false_or, ↓reduceIte, Nat.reduceLT, Nat.reduceLeDiff, Nat.reduceAdd, Nat.zero_lt_succ, zi_eq0, zi_01, zi_eq1, zi_or, Nat.reduceEqDiff, not_true_eq_false, not_false_eq_true, va_up_self, zi_0ne1, zi_1ne0, hc1, h0, h21, hso, hval, nI_1, ss_way]
theorem tb_longRings (h : TBk z g r b t f) (I : ss_I r b) (x w : Int32) : TBo X N S (d + 6) z g 107 [.ref z, .int x, .int w] f (op_longRings x w r b t) := by
  have h0 := tk_0 h
  rw [op_longRings]
  by_cases h1 : 0 ≤ x ∧ x ≤ 11
  · by_cases c1 : 1 ≤ w ∧ w ≤ 6
    · rw [if_neg (not_or.mpr ⟨not_not_intro h1, not_not_intro c1⟩)]
      obtain ⟨k, hk, ek⟩ := nI_of2 (x := x) (M := 11) (n := 11) (by decide) (Int32.not_lt.mpr h1.1) h1.2
      subst ek
      rw [nI_clamp (show k < 2 ^ 31 by omega)]
      have hat := tb_boardAt X (d + 2) N S h (k := k) (by omega)
      by_cases h3 : b.1 k = -1
      · rw [if_pos h3]
        rw [if_pos h3] at hat
        obtain ⟨f1, e1, k1⟩ := tb_refused X (d + 4) N S h 1 (by decide)
        refine ⟨f1, ?_, k1⟩
        simp only [ke_107, kk_107_0, kk_107_17, kk_107_19, kk_107_35, kk_107_48, kk_107_65, kk_107_98, kl_107_0, kl_107_17, kl_107_19, kl_107_35, kl_107_48, kl_107_65, kl_107_98, ge_iconst, ge_lconst, ge_null, ge_iload, ge_lload, ge_aload, ge_istore, ge_lstore, ge_astore, ge_astoreN, ge_iinc, ge_iadd, ge_isub, ge_imul, ge_iand, ge_ior, ge_ixor, ge_ishl, ge_ishr, ge_iushr, ge_ladd, ge_lsub, ge_lmul, ge_lcmp, ge_idiv, ge_irem, ge_ldiv, ge_ineg, ge_i2l, ge_l2i, ge_lneg, ge_dupI, ge_dupR, ge_popI, ge_dup2, ge_goto, ge_if_eq, ge_if_ne, ge_if_lt, ge_if_ge, ge_if_gt, ge_if_le, ge_ic_eq, ge_ic_ne, ge_ic_lt, ge_ic_ge, ge_ic_gt, ge_ic_le, ge_ifnullN, ge_ifnullR, ge_ifnnN, ge_ifnnR, ge_switch, ge_getf, ge_putfI, ge_putfL, ge_putfR, ge_iald, ge_lald, ge_aald, ge_iast, ge_last, ge_aast, ge_alen, ge_new, ge_newI, ge_newL, ge_newQ, ge_oi, ge_copy, ge_max, ge_is0, ge_is1, ge_iv1, ge_is2, ge_iv2, ge_is3, ge_iv3, ge_is4, ge_iv4, ge_is5, ge_iv5, ge_iv6, ge_ret, ge_iret, ge_zret, ge_lret, ge_aretR, ge_aretN, ge_ld0, ge_lds, ge_sum0, ge_sumI, ge_sumL, ge_sumR, ge_sumN, ge_st0, ge_st1, ge_st2, ge_su0, ge_su1, ge_su2, ge_ap1, ge_ap0, qm_gf, qm_pf, qm_ia, qm_is, qm_la, qm_ls, qm_aa, qm_al, qm_isK, qm_kv, qm_cp, List.getElem?_cons_zero, List.getElem?_cons_succ, List.length_cons, List.length_nil, List.set_cons_zero, List.set_cons_succ, decide_true, if_true, if_false, eq_self, and_true, true_and, or_true, true_or, and_false, false_and, or_false, false_or, ↓reduceIte, Nat.reduceLT, Nat.reduceLeDiff, Nat.reduceAdd, Nat.zero_lt_succ, zi_eq0, zi_01, zi_eq1, zi_or, Nat.reduceEqDiff, not_true_eq_false, not_false_eq_true, va_up_self, zi_0ne1, zi_1ne0, tb_isBoardNumber, tb_isWithin, h1, c1, h0, hat, e1, ss_no]
      · rw [if_neg h3]
        rw [if_neg h3] at hat
        have hr := tk_brd h (k := k) (by omega)
        have hI := I.2 k (by omega)
        have hJ := hI.2.2 h3
        have hsqr := bd_isSquare X (d + 4) N S f hr
        by_cases hsq : b.2.1 k = b.2.2.1 k
        · rw [if_neg (not_not_intro hsq)]
          rw [if_pos (by rw [hsq])] at hsqr
          obtain ⟨M, hM, eM⟩ := nI_of2 (x := w) (M := 6) (n := 6) (by decide) (Int32.not_lt.mpr (Int32.le_trans (by decide) c1.1)) c1.2
          subst eM
          rw [nI_clamp (show M < 2 ^ 31 by omega)]
          obtain ⟨f1, U, e1, k1, m21, m25, hU⟩ := tb_arrows X d N S h I (k := k) (sh := M) (by omega) hM
          have p6 : 2 ^ b.2.1 k ≤ 2 ^ 6 := Nat.pow_le_pow_right (by decide) hI.1
          obtain ⟨l0, h21⟩ := h.1 21 (by omega)
          have m0 := tk_0 k1
          have hlr := Wn_lr (sh := M) hJ.2.1 hI.1 (by omega) (hc_ok I (k := k) (by omega) h3 hsq)
          have hlt := tE_len_lt (c := ss_c b k) hI.1 hI.1 (b.2.1 k) (fun x => decide (rM (xf x) (b.2.1 k) M (b.2.1 k) = 0))
          have k2 := tk_way 0 k1
          obtain ⟨f2, e2, k3⟩ := lr_loop X d N S (z := z) (g := g) (r := r) (b := b) (t := t) (sh := M) (show 2 ^ b.2.1 k - 1 < 64 by omega) hU (fun c hc' => by
            have := fb_sm_le1 (fun c => Wn (bd_hc (nI (b.2.1 k)) (nI (b.2.2.1 k)) (b.2.2.2 k)) M (2 ^ b.2.1 k - 1) 0 c) hc'
            rw [hlr] at this
            omega) (nI k) (nI M) (z + 42 + 2 * k) 7 0 _ (by omega) k2 (tk_21 m21 _) (by rw [va_up_ne _ _ (by omega)]; exact m25)
          rw [hlr, ← lr_n] at k3
          refine ⟨f2, ?_, k3⟩
          rw [← e2]
          simp only [ke_107, kk_107_0, kk_107_19, kk_107_35, kk_107_48, kl_107_0, kl_107_17, kl_107_19, kl_107_35, kl_107_48, kl_107_65, kl_107_98, ge_iconst, ge_lconst, ge_null, ge_iload, ge_lload, ge_aload, ge_istore, ge_lstore, ge_astore, ge_astoreN, ge_iinc, ge_iadd, ge_isub, ge_imul, ge_iand, ge_ior, ge_ixor, ge_ishl, ge_ishr, ge_iushr, ge_ladd, ge_lsub, ge_lmul, ge_lcmp, ge_idiv, ge_irem, ge_ldiv, ge_ineg, ge_i2l, ge_l2i, ge_lneg, ge_dupI, ge_dupR, ge_popI, ge_dup2, ge_goto, ge_if_eq, ge_if_ne, ge_if_lt, ge_if_ge, ge_if_gt, ge_if_le, ge_ic_eq, ge_ic_ne, ge_ic_lt, ge_ic_ge, ge_ic_gt, ge_ic_le, ge_ifnullN, ge_ifnullR, ge_ifnnN, ge_ifnnR, ge_switch, ge_getf, ge_putfI, ge_putfL, ge_putfR, ge_iald, ge_lald, ge_aald, ge_iast, ge_last, ge_aast, ge_alen, ge_new, ge_newI, ge_newL, ge_newQ, ge_oi, ge_copy, ge_max, ge_is0, ge_is1, ge_iv1, ge_is2, ge_iv2, ge_is3, ge_iv3, ge_is4, ge_iv4, ge_is5, ge_iv5, ge_iv6, ge_ret, ge_iret, ge_zret, ge_lret, ge_aretR, ge_aretN, ge_ld0, ge_lds, ge_sum0, ge_sumI, ge_sumL, ge_sumR, ge_sumN, ge_st0, ge_st1, ge_st2, ge_su0, ge_su1, ge_su2, ge_ap1, ge_ap0, qm_gf, qm_pf, qm_ia, qm_is, qm_la, qm_ls, qm_aa, qm_al, qm_isK, qm_kv, qm_cp, List.getElem?_cons_zero, List.getElem?_cons_succ, List.length_cons, List.length_nil, List.set_cons_zero, List.set_cons_succ, decide_true, if_true, if_false, eq_self, and_true, true_and, or_true, true_or, and_false, false_and, or_false, false_or, ↓reduceIte, Nat.reduceLT, Nat.reduceLeDiff, Nat.reduceAdd, Nat.zero_lt_succ, zi_eq0, zi_01, zi_eq1, zi_or, Nat.reduceEqDiff, not_true_eq_false, not_false_eq_true, va_up_self, zi_0ne1, zi_1ne0, tb_isBoardNumber, tb_isWithin, h1, c1, h0, hat, hr, hsqr, h21, e1, m0, zi_l0]
          rfl
        · rw [if_pos hsq]
          have hne : ¬ nI (b.2.1 k) = nI (b.2.2.1 k) := fun q => hsq ((nI_eq (by omega) (by omega)).mp q)
          rw [if_neg hne] at hsqr
          obtain ⟨f1, e1, k1⟩ := tb_refused X (d + 4) N S h 3 (by decide)
          refine ⟨f1, ?_, k1⟩
          simp only [ke_107, kk_107_0, kk_107_17, kk_107_19, kk_107_35, kk_107_48, kk_107_65, kk_107_98, kl_107_0, kl_107_17, kl_107_19, kl_107_35, kl_107_48, kl_107_65, kl_107_98, ge_iconst, ge_lconst, ge_null, ge_iload, ge_lload, ge_aload, ge_istore, ge_lstore, ge_astore, ge_astoreN, ge_iinc, ge_iadd, ge_isub, ge_imul, ge_iand, ge_ior, ge_ixor, ge_ishl, ge_ishr, ge_iushr, ge_ladd, ge_lsub, ge_lmul, ge_lcmp, ge_idiv, ge_irem, ge_ldiv, ge_ineg, ge_i2l, ge_l2i, ge_lneg, ge_dupI, ge_dupR, ge_popI, ge_dup2, ge_goto, ge_if_eq, ge_if_ne, ge_if_lt, ge_if_ge, ge_if_gt, ge_if_le, ge_ic_eq, ge_ic_ne, ge_ic_lt, ge_ic_ge, ge_ic_gt, ge_ic_le, ge_ifnullN, ge_ifnullR, ge_ifnnN, ge_ifnnR, ge_switch, ge_getf, ge_putfI, ge_putfL, ge_putfR, ge_iald, ge_lald, ge_aald, ge_iast, ge_last, ge_aast, ge_alen, ge_new, ge_newI, ge_newL, ge_newQ, ge_oi, ge_copy, ge_max, ge_is0, ge_is1, ge_iv1, ge_is2, ge_iv2, ge_is3, ge_iv3, ge_is4, ge_iv4, ge_is5, ge_iv5, ge_iv6, ge_ret, ge_iret, ge_zret, ge_lret, ge_aretR, ge_aretN, ge_ld0, ge_lds, ge_sum0, ge_sumI, ge_sumL, ge_sumR, ge_sumN, ge_st0, ge_st1, ge_st2, ge_su0, ge_su1, ge_su2, ge_ap1, ge_ap0, qm_gf, qm_pf, qm_ia, qm_is, qm_la, qm_ls, qm_aa, qm_al, qm_isK, qm_kv, qm_cp, List.getElem?_cons_zero, List.getElem?_cons_succ, List.length_cons, List.length_nil, List.set_cons_zero, List.set_cons_succ, decide_true, if_true, if_false, eq_self, and_true, true_and, or_true, true_or, and_false, false_and, or_false, false_or, ↓reduceIte, Nat.reduceLT, Nat.reduceLeDiff, Nat.reduceAdd, Nat.zero_lt_succ, zi_eq0, zi_01, zi_eq1, zi_or, Nat.reduceEqDiff, not_true_eq_false, not_false_eq_true, va_up_self, zi_0ne1, zi_1ne0, tb_isBoardNumber, tb_isWithin, h1, c1, h0, hat, hr, hsqr, e1, ss_no]
    · rw [if_pos (Or.inr c1)]
      refine ⟨f, ?_, h⟩
      simp only [ke_107, kk_107_0, kk_107_17, kk_107_19, kk_107_35, kk_107_48, kk_107_65, kk_107_98, kl_107_0, kl_107_17, kl_107_19, kl_107_35, kl_107_48, kl_107_65, kl_107_98, ge_iconst, ge_lconst, ge_null, ge_iload, ge_lload, ge_aload, ge_istore, ge_lstore, ge_astore, ge_astoreN, ge_iinc, ge_iadd, ge_isub, ge_imul, ge_iand, ge_ior, ge_ixor, ge_ishl, ge_ishr, ge_iushr, ge_ladd, ge_lsub, ge_lmul, ge_lcmp, ge_idiv, ge_irem, ge_ldiv, ge_ineg, ge_i2l, ge_l2i, ge_lneg, ge_dupI, ge_dupR, ge_popI, ge_dup2, ge_goto, ge_if_eq, ge_if_ne, ge_if_lt, ge_if_ge, ge_if_gt, ge_if_le, ge_ic_eq, ge_ic_ne, ge_ic_lt, ge_ic_ge, ge_ic_gt, ge_ic_le, ge_ifnullN, ge_ifnullR, ge_ifnnN, ge_ifnnR, ge_switch, ge_getf, ge_putfI, ge_putfL, ge_putfR, ge_iald, ge_lald, ge_aald, ge_iast, ge_last, ge_aast, ge_alen, ge_new, ge_newI, ge_newL, ge_newQ, ge_oi, ge_copy, ge_max, ge_is0, ge_is1, ge_iv1, ge_is2, ge_iv2, ge_is3, ge_iv3, ge_is4, ge_iv4, ge_is5, ge_iv5, ge_iv6, ge_ret, ge_iret, ge_zret, ge_lret, ge_aretR, ge_aretN, ge_ld0, ge_lds, ge_sum0, ge_sumI, ge_sumL, ge_sumR, ge_sumN, ge_st0, ge_st1, ge_st2, ge_su0, ge_su1, ge_su2, ge_ap1, ge_ap0, qm_gf, qm_pf, qm_ia, qm_is, qm_la, qm_ls, qm_aa, qm_al, qm_isK, qm_kv, qm_cp, List.getElem?_cons_zero, List.getElem?_cons_succ, List.length_cons, List.length_nil, List.set_cons_zero, List.set_cons_succ, decide_true, if_true, if_false, eq_self, and_true, true_and, or_true, true_or, and_false, false_and, or_false, false_or, ↓reduceIte, Nat.reduceLT, Nat.reduceLeDiff, Nat.reduceAdd, Nat.zero_lt_succ, zi_eq0, zi_01, zi_eq1, zi_or, Nat.reduceEqDiff, not_true_eq_false, not_false_eq_true, va_up_self, zi_0ne1, zi_1ne0, tb_isBoardNumber, tb_isWithin, h1, c1, ss_bad]
  · rw [if_pos (Or.inl h1)]
    refine ⟨f, ?_, h⟩
    simp only [ke_107, kk_107_0, kk_107_17, kk_107_19, kk_107_35, kk_107_48, kk_107_65, kk_107_98, kl_107_0, kl_107_17, kl_107_19, kl_107_35, kl_107_48, kl_107_65, kl_107_98, ge_iconst, ge_lconst, ge_null, ge_iload, ge_lload, ge_aload, ge_istore, ge_lstore, ge_astore, ge_astoreN, ge_iinc, ge_iadd, ge_isub, ge_imul, ge_iand, ge_ior, ge_ixor, ge_ishl, ge_ishr, ge_iushr, ge_ladd, ge_lsub, ge_lmul, ge_lcmp, ge_idiv, ge_irem, ge_ldiv, ge_ineg, ge_i2l, ge_l2i, ge_lneg, ge_dupI, ge_dupR, ge_popI, ge_dup2, ge_goto, ge_if_eq, ge_if_ne, ge_if_lt, ge_if_ge, ge_if_gt, ge_if_le, ge_ic_eq, ge_ic_ne, ge_ic_lt, ge_ic_ge, ge_ic_gt, ge_ic_le, ge_ifnullN, ge_ifnullR, ge_ifnnN, ge_ifnnR, ge_switch, ge_getf, ge_putfI, ge_putfL, ge_putfR, ge_iald, ge_lald, ge_aald, ge_iast, ge_last, ge_aast, ge_alen, ge_new, ge_newI, ge_newL, ge_newQ, ge_oi, ge_copy, ge_max, ge_is0, ge_is1, ge_iv1, ge_is2, ge_iv2, ge_is3, ge_iv3, ge_is4, ge_iv4, ge_is5, ge_iv5, ge_iv6, ge_ret, ge_iret, ge_zret, ge_lret, ge_aretR, ge_aretN, ge_ld0, ge_lds, ge_sum0, ge_sumI, ge_sumL, ge_sumR, ge_sumN, ge_st0, ge_st1, ge_st2, ge_su0, ge_su1, ge_su2, ge_ap1, ge_ap0, qm_gf, qm_pf, qm_ia, qm_is, qm_la, qm_ls, qm_aa, qm_al, qm_isK, qm_kv, qm_cp, List.getElem?_cons_zero, List.getElem?_cons_succ, List.length_cons, List.length_nil, List.set_cons_zero, List.set_cons_succ, decide_true, if_true, if_false, eq_self, and_true, true_and, or_true, true_or, and_false, false_and, or_false, false_or, ↓reduceIte, Nat.reduceLT, Nat.reduceLeDiff, Nat.reduceAdd, Nat.zero_lt_succ, zi_eq0, zi_01, zi_eq1, zi_or, Nat.reduceEqDiff, not_true_eq_false, not_false_eq_true, va_up_self, zi_0ne1, zi_1ne0, tb_isBoardNumber, tb_isWithin, h1, ss_bad]
end TB32
