/-! the class's slants -/
theorem bd_dgi_ag (ht wd : Int32) (p : Nat → Int32) (od : Int32) (i : Nat) (hi : i < 6) : ∀ m j (u v : Nat → Int32), j + m ≤ 6 → ag 6 u v → ag 6 (bd_dgi ht wd p od i m j u) (bd_dgi ht wd p od i m j v)
  | 0, _, _, _, _, h => h
  | m + 1, j, u, v, hj, h => by
    rw [bd_dgi, bd_dgi]
    refine bd_dgi_ag ht wd p od i hi m (j + 1) _ _ (by omega) ?_
    split
    · exact ag_upd h _ (by rw [h _ (by omega)])
    · exact h
theorem bd_dg_ag (ht wd : Int32) (p : Nat → Int32) (od : Int32) (ww : Nat) (hw : ww ≤ 6) : ∀ m i (u v : Nat → Int32), i + m ≤ 6 → ag 6 u v → ag 6 (bd_dg ht wd p od ww m i u) (bd_dg ht wd p od ww m i v)
  | 0, _, _, _, _, h => h
  | m + 1, i, u, v, hj, h => by
    rw [bd_dg, bd_dg]
    exact bd_dg_ag ht wd p od ww hw m (i + 1) _ _ (by omega) (bd_dgi_ag ht wd p od i (by omega) ww 0 _ _ (by omega) h)
def sl_D (b : ss_B) (k : Nat) (od : Int32) : Nat → Int32 := bd_dg (nI (b.2.1 k)) (nI (b.2.2.1 k)) (b.2.2.2 k) od (b.2.2.1 k) (b.2.1 k) 0 (fun _ => 0)
def sl_g (u v : Nat → Int32) (k : Int32) : Nat → Nat → Int64 → Int64
  | 0, _, s => s
  | m + 1, e, s => sl_g u v k m (e + 1) (s + (nb_a u (nI e)).toInt64 * (nb_a v (k - nI e)).toInt64)
theorem sl_g_ag {u v u' v' : Nat → Int32} (h : ag 7 u u') (h' : ag 7 v v') (k : Int32) : ∀ m e s, sl_g u v k m e s = sl_g u' v' k m e s
  | 0, _, _ => rfl
  | m + 1, e, s => by rw [sl_g, sl_g, nb_a_ag h, nb_a_ag h', sl_g_ag h h' k m (e + 1)]
section TB14
variable (X : qm_X) (d N S : Nat)
variable {z : Nat} {g f : Nat → qm_C} {r : ss_R} {b : ss_B} {t : ss_T}
theorem sl_loop {x : Int32} {a n : Nat} {u v : Nat → Int32} (hn : n ≤ 11) : ∀ m e (f : Nat → qm_C) (s : Int64), e + m = n + 1 → TBk z g r b (ss_way t s) f → f (z + 8) = .inl (0, 7, .inl u) → f (z + 11) = .inl (0, 7, .inl v) → ∃ f', qm_go (qm_ex qm_M X (d + 2)) X kt_109 kk_109_83 [.val (.ref z), .val (.int x), .val (.int (nI n)), .val (.ref a), .val (.int (nI e))] [] (N, S, f) = some (some (.int 1), (N, S, f')) ∧ TBk z g r b (ss_way t (sl_g u v (nI n) m e s)) f'
  | 0, e, f, s, ee, h, h8, h11 => by
    have e' : e = n + 1 := by omega
    subst e'
    have hc : nI n < nI (n + 1) := nI_lt (by omega) (by omega)
    refine ⟨f, ?_, h⟩
    simp only [kk_109_83, kk_109_127, kl_109_0, kl_109_17, kl_109_19, kl_109_35, kl_109_83, kl_109_127, ge_iconst, ge_lconst, ge_null, ge_iload, ge_lload, ge_aload, ge_istore, ge_lstore, ge_astore, ge_astoreN, ge_iinc, ge_iadd, ge_isub, ge_imul, ge_iand, ge_ior, ge_ixor, ge_ishl, ge_ishr, ge_iushr, ge_ladd, ge_lsub, ge_lmul, ge_lcmp, ge_idiv, ge_irem, ge_ldiv, ge_ineg, ge_i2l, ge_l2i, ge_lneg, ge_dupI, ge_dupR, ge_popI, ge_dup2, ge_goto, ge_if_eq, ge_if_ne, ge_if_lt, ge_if_ge, ge_if_gt, ge_if_le, ge_ic_eq, ge_ic_ne, ge_ic_lt, ge_ic_ge, ge_ic_gt, ge_ic_le, ge_ifnullN, ge_ifnullR, ge_ifnnN, ge_ifnnR, ge_switch, ge_getf, ge_putfI, ge_putfL, ge_putfR, ge_iald, ge_lald, ge_aald, ge_iast, ge_last, ge_aast, ge_alen, ge_new, ge_newI, ge_newL, ge_newQ, ge_oi, ge_copy, ge_max, ge_is0, ge_is1, ge_iv1, ge_is2, ge_iv2, ge_is3, ge_iv3, ge_is4, ge_iv4, ge_is5, ge_iv5, ge_iv6, ge_ret, ge_iret, ge_zret, ge_lret, ge_aretR, ge_aretN, ge_ld0, ge_lds, ge_sum0, ge_sumI, ge_sumL, ge_sumR, ge_sumN, ge_st0, ge_st1, ge_st2, ge_su0, ge_su1, ge_su2, ge_ap1, ge_ap0, qm_gf, qm_pf, qm_ia, qm_is, qm_la, qm_ls, qm_aa, qm_al, qm_isK, qm_kv, qm_cp, List.getElem?_cons_zero, List.getElem?_cons_succ, List.length_cons, List.length_nil, List.set_cons_zero, List.set_cons_succ, decide_true, if_true, if_false, eq_self, and_true, true_and, or_true, true_or, and_false, false_and, or_false, false_or, ↓reduceIte, Nat.reduceLT, Nat.reduceLeDiff, Nat.reduceAdd, Nat.zero_lt_succ, zi_eq0, zi_01, zi_eq1, zi_or, Nat.reduceEqDiff, not_true_eq_false, not_false_eq_true, va_up_self, zi_0ne1, zi_1ne0, hc]
  | m + 1, e, f, s, ee, h, h8, h11 => by
    have hc : ¬ nI n < nI e := nI_nlt (by omega) (by omega)
    have h0 : f z = .inr (8, [.ref (z + 1), .ref (z + 2), .ref (z + 3), .ref (z + 4), .ref (z + 6), .ref (z + 9), .ref (z + 12), .ref (z + 14), .ref (z + 16), .ref (z + 19), .ref (z + 21), .long s, .int t.2.2.1, .long t.2.2.2.1, .long t.2.2.2.2.1, .int t.2.2.2.2.2]) := tk_0 h
    have h6 := tk_6 h
    have h9 := tk_9 h
    have hA := nb_at X d N S f h6 h8 (nI e)
    have hB := nb_at X d N S f h9 h11 (nI n - nI e)
    rw [← nb_a] at hA hB
    obtain ⟨f', e1, e2⟩ := sl_loop (x := x) (a := a) hn m (e + 1) (va_up f z (.inr (8, [.ref (z + 1), .ref (z + 2), .ref (z + 3), .ref (z + 4), .ref (z + 6), .ref (z + 9), .ref (z + 12), .ref (z + 14), .ref (z + 16), .ref (z + 19), .ref (z + 21), .long (s + (nb_a u (nI e)).toInt64 * (nb_a v (nI n - nI e)).toInt64), .int t.2.2.1, .long t.2.2.2.1, .long t.2.2.2.2.1, .int t.2.2.2.2.2]))) (s + (nb_a u (nI e)).toInt64 * (nb_a v (nI n - nI e)).toInt64) (by omega) (tk_way (t := ss_way t s) (s + (nb_a u (nI e)).toInt64 * (nb_a v (nI n - nI e)).toInt64) h) (by rw [va_up_ne _ _ (by omega)]; exact h8) (by rw [va_up_ne _ _ (by omega)]; exact h11)
    refine ⟨f', ?_, e2⟩
    rw [← e1]
    conv => lhs; rw [kk_109_83]
    simp only [kl_109_0, kl_109_17, kl_109_19, kl_109_35, kl_109_83, kl_109_127, ge_iconst, ge_lconst, ge_null, ge_iload, ge_lload, ge_aload, ge_istore, ge_lstore, ge_astore, ge_astoreN, ge_iinc, ge_iadd, ge_isub, ge_imul, ge_iand, ge_ior, ge_ixor, ge_ishl, ge_ishr, ge_iushr, ge_ladd, ge_lsub, ge_lmul, ge_lcmp, ge_idiv, ge_irem, ge_ldiv, ge_ineg, ge_i2l, ge_l2i, ge_lneg, ge_dupI, ge_dupR, ge_popI, ge_dup2, ge_goto, ge_if_eq, ge_if_ne, ge_if_lt, ge_if_ge, ge_if_gt, ge_if_le, ge_ic_eq, ge_ic_ne, ge_ic_lt, ge_ic_ge, ge_ic_gt, ge_ic_le, ge_ifnullN, ge_ifnullR, ge_ifnnN, ge_ifnnR, ge_switch, ge_getf, ge_putfI, ge_putfL, ge_putfR, ge_iald, ge_lald, ge_aald, ge_iast, ge_last, ge_aast, ge_alen, ge_new, ge_newI, ge_newL, ge_newQ, ge_oi, ge_copy, ge_max, ge_is0, ge_is1, ge_iv1, ge_is2, ge_iv2, ge_is3, ge_iv3, ge_is4, ge_iv4, ge_is5, ge_iv5, ge_iv6, ge_ret, ge_iret, ge_zret, ge_lret, ge_aretR, ge_aretN, ge_ld0, ge_lds, ge_sum0, ge_sumI, ge_sumL, ge_sumR, ge_sumN, ge_st0, ge_st1, ge_st2, ge_su0, ge_su1, ge_su2, ge_ap1, ge_ap0, qm_gf, qm_pf, qm_ia, qm_is, qm_la, qm_ls, qm_aa, qm_al, qm_isK, qm_kv, qm_cp, List.getElem?_cons_zero, List.getElem?_cons_succ, List.length_cons, List.length_nil, List.set_cons_zero, List.set_cons_succ, decide_true, if_true, if_false, eq_self, and_true, true_and, or_true, true_or, and_false, false_and, or_false, false_or, ↓reduceIte, Nat.reduceLT, Nat.reduceLeDiff, Nat.reduceAdd, Nat.zero_lt_succ, zi_eq0, zi_01, zi_eq1, zi_or, Nat.reduceEqDiff, not_true_eq_false, not_false_eq_true, va_up_self, zi_0ne1, zi_1ne0, hc, h0, h6, h9, hA, hB, nI_1]
theorem tb_diag (h : TBk z g r b t f) {k : Nat} (hk : k < 12) (h1 : b.2.1 k ≤ 6) (h2 : b.2.2.1 k ≤ 6) (od : Int32) : ∃ f' v, qm_ex qm_M X (d + 3) 13 [.ref (z + 4), .ref (z + 42 + 2 * k), .int od] (N, S, f) = some (none, (N, S, f')) ∧ ag 6 v (sl_D b k od) ∧ TBk z g r b t f' ∧ f' (z + 4) = .inr (1, [.int 0, .int (nI 6), .int 6, .ref (z + 5)]) ∧ f' (z + 5) = .inl (0, 6, .inl v) ∧ f' (z + 8) = f (z + 8) := by
  obtain ⟨x4, y4, w4, h4⟩ := h.1 4 (by omega)
  obtain ⟨v5, h5⟩ := h.1 5 (by omega)
  refine ⟨_, _, bd_takeDiagonals X d N S f od x4 y4 w4 v5 h1 h2 (by omega) (by omega) (by omega) (by omega) (by omega) h4 h5 (tk_brd h hk) (tk_cl h hk), bd_dg_ag _ _ _ _ _ h2 _ _ _ _ (by omega) (fun i hi => if_pos hi), tk_s 5 (tk_s 4 h (by omega) ⟨_, _, _, rfl⟩) (by omega) ⟨_, rfl⟩, ?_, va_up_self _ _ _, ?_⟩
  · rw [va_up_ne _ _ (by omega), va_up_self]
    rfl
  · rw [va_up_ne _ _ (by omega), va_up_ne _ _ (by omega)]
def op_slants (x : Int32) (w : Int32) (r : ss_R) (b : ss_B) (t : ss_T) : ss_A := if ¬ (0 ≤ x ∧ x ≤ 11) ∨ ¬ (0 ≤ w ∧ w ≤ 11) then ss_bad r b t else if b.1 x.toNatClampNeg = -1 then ss_no r b t 1 else (.int 1, r, b, ss_way t (sl_g (nb_N (sl_D b x.toNatClampNeg 0) 6) (nb_N (sl_D b x.toNatClampNeg 1) 6) w (w.toNatClampNeg + 1) 0 0))
theorem tb_slants (h : TBk z g r b t f) (I : ss_I r b) (x : Int32) (w : Int32) : TBo X N S (d + 4) z g 109 [.ref z, .int x, .int w] f (op_slants x w r b t) := by
  have h0 := tk_0 h
  rw [op_slants]
  by_cases h1 : 0 ≤ x ∧ x ≤ 11
  · skip
    by_cases hE0 : 0 ≤ w ∧ w ≤ 11
    · skip
      rw [if_neg (not_or.mpr ⟨not_not_intro h1, (not_not_intro hE0)⟩)]
      obtain ⟨k, hk, ek⟩ := nI_of2 (x := x) (M := 11) (n := 11) (by decide) (Int32.not_lt.mpr h1.1) h1.2
      subst ek
      rw [nI_clamp (show k < 2 ^ 31 by omega)]
      have hat := tb_boardAt X (d + 0) N S h (k := k) (by omega)
      by_cases h2 : b.1 k = -1
      · rw [if_pos h2]
        obtain ⟨f1, e1, k1⟩ := tb_refused X (d + 2) N S h 1 (by decide)
        refine ⟨f1, ?_, k1⟩
        simp only [ke_109, kk_109_0, kk_109_17, kk_109_19, kk_109_35, kk_109_83, kk_109_127, kl_109_0, kl_109_17, kl_109_19, kl_109_35, kl_109_83, kl_109_127, ge_iconst, ge_lconst, ge_null, ge_iload, ge_lload, ge_aload, ge_istore, ge_lstore, ge_astore, ge_astoreN, ge_iinc, ge_iadd, ge_isub, ge_imul, ge_iand, ge_ior, ge_ixor, ge_ishl, ge_ishr, ge_iushr, ge_ladd, ge_lsub, ge_lmul, ge_lcmp, ge_idiv, ge_irem, ge_ldiv, ge_ineg, ge_i2l, ge_l2i, ge_lneg, ge_dupI, ge_dupR, ge_popI, ge_dup2, ge_goto, ge_if_eq, ge_if_ne, ge_if_lt, ge_if_ge, ge_if_gt, ge_if_le, ge_ic_eq, ge_ic_ne, ge_ic_lt, ge_ic_ge, ge_ic_gt, ge_ic_le, ge_ifnullN, ge_ifnullR, ge_ifnnN, ge_ifnnR, ge_switch, ge_getf, ge_putfI, ge_putfL, ge_putfR, ge_iald, ge_lald, ge_aald, ge_iast, ge_last, ge_aast, ge_alen, ge_new, ge_newI, ge_newL, ge_newQ, ge_oi, ge_copy, ge_max, ge_is0, ge_is1, ge_iv1, ge_is2, ge_iv2, ge_is3, ge_iv3, ge_is4, ge_iv4, ge_is5, ge_iv5, ge_iv6, ge_ret, ge_iret, ge_zret, ge_lret, ge_aretR, ge_aretN, ge_ld0, ge_lds, ge_sum0, ge_sumI, ge_sumL, ge_sumR, ge_sumN, ge_st0, ge_st1, ge_st2, ge_su0, ge_su1, ge_su2, ge_ap1, ge_ap0, qm_gf, qm_pf, qm_ia, qm_is, qm_la, qm_ls, qm_aa, qm_al, qm_isK, qm_kv, qm_cp, List.getElem?_cons_zero, List.getElem?_cons_succ, List.length_cons, List.length_nil, List.set_cons_zero, List.set_cons_succ, decide_true, if_true, if_false, eq_self, and_true, true_and, or_true, true_or, and_false, false_and, or_false, false_or, ↓reduceIte, Nat.reduceLT, Nat.reduceLeDiff, Nat.reduceAdd, Nat.zero_lt_succ, zi_eq0, zi_01, zi_eq1, zi_or, Nat.reduceEqDiff, not_true_eq_false, not_false_eq_true, va_up_self, zi_0ne1, zi_1ne0, tb_isBoardNumber, tb_isWithin, tb_isRowNumber, h1, hE0, h0, hat, h2, e1, ss_no]
      · rw [if_neg h2]
        rw [if_neg h2] at hat
        have hr := tk_brd h (k := k) (by omega)
        have hq := tk_cl h (k := k) (by omega)
        have hI := I.2 k (by omega)
        obtain ⟨n, hn, en⟩ := nI_of2 (x := w) (M := 11) (n := 11) (by decide) (Int32.not_lt.mpr hE0.1) hE0.2
        subst en
        rw [nI_clamp (show n < 2 ^ 31 by omega)]
        obtain ⟨x4, y4, w4, h4⟩ := h.1 4 (by omega)
        obtain ⟨f1, p1, e1, a1, k1, i4, i5, _⟩ := tb_diag X d N S h (k := k) (by omega) hI.1 hI.2.1 0
        have i0 := tk_0 k1
        have i6 := tk_6 k1
        obtain ⟨w2, v2, e2, hv2, k2⟩ := tb_num X (d + 1) N S k1 i4 i5 (by omega) (by omega) (by omega)
        have j0 := tk_0 k2
        have j8 : (va_up (va_up f1 (z + 7) (.inl (0, 64, .inl w2))) (z + 8) (.inl (0, 7, .inl v2))) (z + 8) = .inl (0, 7, .inl v2) := va_up_self _ _ _
        obtain ⟨x5, y5, w5, j4⟩ := k2.1 4 (by omega)
        generalize va_up (va_up f1 (z + 7) (.inl (0, 64, .inl w2))) (z + 8) (.inl (0, 7, .inl v2)) = f2 at e2 k2 j0 j8 j4
        obtain ⟨f3, p3, e3, a3, k3, l4, l5, l8⟩ := tb_diag X d N S k2 (k := k) (by omega) hI.1 hI.2.1 1
        rw [j8] at l8
        have l0 := tk_0 k3
        have l9 := tk_9 k3
        obtain ⟨w4', v4, e4, hv4, k4⟩ := tb_num2 X (d + 1) N S k3 l4 l5 (by omega) (by omega) (by omega)
        have m0 := tk_0 k4
        have m8 : (va_up (va_up f3 (z + 10) (.inl (0, 64, .inl w4'))) (z + 11) (.inl (0, 7, .inl v4))) (z + 8) = .inl (0, 7, .inl v2) := by rw [va_up_ne _ _ (by omega), va_up_ne _ _ (by omega)]; exact l8
        have m11 : (va_up (va_up f3 (z + 10) (.inl (0, 64, .inl w4'))) (z + 11) (.inl (0, 7, .inl v4))) (z + 11) = .inl (0, 7, .inl v4) := va_up_self _ _ _
        generalize va_up (va_up f3 (z + 10) (.inl (0, 64, .inl w4'))) (z + 11) (.inl (0, 7, .inl v4)) = f4 at e4 k4 m0 m8 m11
        obtain ⟨f5, e5, k5⟩ := sl_loop X (d + 1) N S (x := nI k) (a := z + 42 + 2 * k) (n := n) hn (n + 1) 0 _ 0 (by omega) (tk_way 0 k4) (by rw [va_up_ne _ _ (by omega)]; exact m8) (by rw [va_up_ne _ _ (by omega)]; exact m11)
        have g2 : ag 7 v2 (nb_N (sl_D b k 0) 6) := fun i hi => (hv2 i hi).trans (nb_Z_ag _ _ _ _ _ a1 i hi)
        have g4 : ag 7 v4 (nb_N (sl_D b k 1) 6) := fun i hi => (hv4 i hi).trans (nb_Z_ag _ _ _ _ _ a3 i hi)
        rw [sl_g_ag g2 g4] at k5
        refine ⟨f5, ?_, k5⟩
        rw [← e5]
        have lr := tk_brd k2 (k := k) (by omega)
        simp only [ke_109, kk_109_0, kk_109_19, kk_109_35, kl_109_0, kl_109_17, kl_109_19, kl_109_35, kl_109_83, kl_109_127, ge_iconst, ge_lconst, ge_null, ge_iload, ge_lload, ge_aload, ge_istore, ge_lstore, ge_astore, ge_astoreN, ge_iinc, ge_iadd, ge_isub, ge_imul, ge_iand, ge_ior, ge_ixor, ge_ishl, ge_ishr, ge_iushr, ge_ladd, ge_lsub, ge_lmul, ge_lcmp, ge_idiv, ge_irem, ge_ldiv, ge_ineg, ge_i2l, ge_l2i, ge_lneg, ge_dupI, ge_dupR, ge_popI, ge_dup2, ge_goto, ge_if_eq, ge_if_ne, ge_if_lt, ge_if_ge, ge_if_gt, ge_if_le, ge_ic_eq, ge_ic_ne, ge_ic_lt, ge_ic_ge, ge_ic_gt, ge_ic_le, ge_ifnullN, ge_ifnullR, ge_ifnnN, ge_ifnnR, ge_switch, ge_getf, ge_putfI, ge_putfL, ge_putfR, ge_iald, ge_lald, ge_aald, ge_iast, ge_last, ge_aast, ge_alen, ge_new, ge_newI, ge_newL, ge_newQ, ge_oi, ge_copy, ge_max, ge_is0, ge_is1, ge_iv1, ge_is2, ge_iv2, ge_is3, ge_iv3, ge_is4, ge_iv4, ge_is5, ge_iv5, ge_iv6, ge_ret, ge_iret, ge_zret, ge_lret, ge_aretR, ge_aretN, ge_ld0, ge_lds, ge_sum0, ge_sumI, ge_sumL, ge_sumR, ge_sumN, ge_st0, ge_st1, ge_st2, ge_su0, ge_su1, ge_su2, ge_ap1, ge_ap0, qm_gf, qm_pf, qm_ia, qm_is, qm_la, qm_ls, qm_aa, qm_al, qm_isK, qm_kv, qm_cp, List.getElem?_cons_zero, List.getElem?_cons_succ, List.length_cons, List.length_nil, List.set_cons_zero, List.set_cons_succ, decide_true, if_true, if_false, eq_self, and_true, true_and, or_true, true_or, and_false, false_and, or_false, false_or, ↓reduceIte, Nat.reduceLT, Nat.reduceLeDiff, Nat.reduceAdd, Nat.zero_lt_succ, zi_eq0, zi_01, zi_eq1, zi_or, Nat.reduceEqDiff, not_true_eq_false, not_false_eq_true, va_up_self, zi_0ne1, zi_1ne0, tb_isBoardNumber, tb_isWithin, h1, hE0, h0, hat, h4, e1, i0, i6, e2, j0, j4, e3, l0, l9, e4, m0]
        rfl
    · rw [if_pos (Or.inr hE0)]
      refine ⟨f, ?_, h⟩
      simp only [ke_109, kk_109_0, kk_109_17, kk_109_19, kk_109_35, kk_109_83, kk_109_127, kl_109_0, kl_109_17, kl_109_19, kl_109_35, kl_109_83, kl_109_127, ge_iconst, ge_lconst, ge_null, ge_iload, ge_lload, ge_aload, ge_istore, ge_lstore, ge_astore, ge_astoreN, ge_iinc, ge_iadd, ge_isub, ge_imul, ge_iand, ge_ior, ge_ixor, ge_ishl, ge_ishr, ge_iushr, ge_ladd, ge_lsub, ge_lmul, ge_lcmp, ge_idiv, ge_irem, ge_ldiv, ge_ineg, ge_i2l, ge_l2i, ge_lneg, ge_dupI, ge_dupR, ge_popI, ge_dup2, ge_goto, ge_if_eq, ge_if_ne, ge_if_lt, ge_if_ge, ge_if_gt, ge_if_le, ge_ic_eq, ge_ic_ne, ge_ic_lt, ge_ic_ge, ge_ic_gt, ge_ic_le, ge_ifnullN, ge_ifnullR, ge_ifnnN, ge_ifnnR, ge_switch, ge_getf, ge_putfI, ge_putfL, ge_putfR, ge_iald, ge_lald, ge_aald, ge_iast, ge_last, ge_aast, ge_alen, ge_new, ge_newI, ge_newL, ge_newQ, ge_oi, ge_copy, ge_max, ge_is0, ge_is1, ge_iv1, ge_is2, ge_iv2, ge_is3, ge_iv3, ge_is4, ge_iv4, ge_is5, ge_iv5, ge_iv6, ge_ret, ge_iret, ge_zret, ge_lret, ge_aretR, ge_aretN, ge_ld0, ge_lds, ge_sum0, ge_sumI, ge_sumL, ge_sumR, ge_sumN, ge_st0, ge_st1, ge_st2, ge_su0, ge_su1, ge_su2, ge_ap1, ge_ap0, qm_gf, qm_pf, qm_ia, qm_is, qm_la, qm_ls, qm_aa, qm_al, qm_isK, qm_kv, qm_cp, List.getElem?_cons_zero, List.getElem?_cons_succ, List.length_cons, List.length_nil, List.set_cons_zero, List.set_cons_succ, decide_true, if_true, if_false, eq_self, and_true, true_and, or_true, true_or, and_false, false_and, or_false, false_or, ↓reduceIte, Nat.reduceLT, Nat.reduceLeDiff, Nat.reduceAdd, Nat.zero_lt_succ, zi_eq0, zi_01, zi_eq1, zi_or, Nat.reduceEqDiff, not_true_eq_false, not_false_eq_true, va_up_self, zi_0ne1, zi_1ne0, tb_isBoardNumber, tb_isWithin, tb_isRowNumber, h1, hE0, ss_bad]
  · rw [if_pos (Or.inl h1)]
    refine ⟨f, ?_, h⟩
    simp only [ke_109, kk_109_0, kk_109_17, kk_109_19, kk_109_35, kk_109_83, kk_109_127, kl_109_0, kl_109_17, kl_109_19, kl_109_35, kl_109_83, kl_109_127, ge_iconst, ge_lconst, ge_null, ge_iload, ge_lload, ge_aload, ge_istore, ge_lstore, ge_astore, ge_astoreN, ge_iinc, ge_iadd, ge_isub, ge_imul, ge_iand, ge_ior, ge_ixor, ge_ishl, ge_ishr, ge_iushr, ge_ladd, ge_lsub, ge_lmul, ge_lcmp, ge_idiv, ge_irem, ge_ldiv, ge_ineg, ge_i2l, ge_l2i, ge_lneg, ge_dupI, ge_dupR, ge_popI, ge_dup2, ge_goto, ge_if_eq, ge_if_ne, ge_if_lt, ge_if_ge, ge_if_gt, ge_if_le, ge_ic_eq, ge_ic_ne, ge_ic_lt, ge_ic_ge, ge_ic_gt, ge_ic_le, ge_ifnullN, ge_ifnullR, ge_ifnnN, ge_ifnnR, ge_switch, ge_getf, ge_putfI, ge_putfL, ge_putfR, ge_iald, ge_lald, ge_aald, ge_iast, ge_last, ge_aast, ge_alen, ge_new, ge_newI, ge_newL, ge_newQ, ge_oi, ge_copy, ge_max, ge_is0, ge_is1, ge_iv1, ge_is2, ge_iv2, ge_is3, ge_iv3, ge_is4, ge_iv4, ge_is5, ge_iv5, ge_iv6, ge_ret, ge_iret, ge_zret, ge_lret, ge_aretR, ge_aretN, ge_ld0, ge_lds, ge_sum0, ge_sumI, ge_sumL, ge_sumR, ge_sumN, ge_st0, ge_st1, ge_st2, ge_su0, ge_su1, ge_su2, ge_ap1, ge_ap0, qm_gf, qm_pf, qm_ia, qm_is, qm_la, qm_ls, qm_aa, qm_al, qm_isK, qm_kv, qm_cp, List.getElem?_cons_zero, List.getElem?_cons_succ, List.length_cons, List.length_nil, List.set_cons_zero, List.set_cons_succ, decide_true, if_true, if_false, eq_self, and_true, true_and, or_true, true_or, and_false, false_and, or_false, false_or, ↓reduceIte, Nat.reduceLT, Nat.reduceLeDiff, Nat.reduceAdd, Nat.zero_lt_succ, zi_eq0, zi_01, zi_eq1, zi_or, Nat.reduceEqDiff, not_true_eq_false, not_false_eq_true, va_up_self, zi_0ne1, zi_1ne0, tb_isBoardNumber, tb_isWithin, tb_isRowNumber, h1, ss_bad]
end TB14
