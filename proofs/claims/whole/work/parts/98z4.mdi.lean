/-! the model's constructor -/
def s0 : md_S := (fun _ => 0, fun k => if k = 5 then 1 else 0, fun _ _ => 0, fun _ _ => 0)
theorem md_mk {f : Nat → qm_C} {m : Nat} {s : md_S} (h0 : f m = md_o m s) (hj : ∀ j, 1 ≤ j → j ≤ 18 → f (m + j) = md_a s j) : f = mh m f s := by
  funext a
  unfold mh
  by_cases c : a < m ∨ m + 19 ≤ a
  · rw [if_pos c]
  · rw [if_neg c]
    by_cases c2 : a = m
    · rw [if_pos c2, c2, h0]
    · rw [if_neg c2, ← hj (a - m) (by omega) (by omega), show m + (a - m) = a by omega]
section MDI
variable (X : qm_X) (d z : Nat)
theorem md_i0 (f : Nat → qm_C) (hX : X.1 = z) (hf : f (z + 66) = .inr (9, [.int 0, .null, .int 0, .long 0, .long 0, .long 0, .null, .null, .null, .null, .null, .null, .null, .null, .null, .null, .null, .null, .null, .null, .null, .int 0, .null, .int 0, .int 0, .int 0, .int 0, .int 0, .long 0, .long 0, .int 0, .int 0, .int 0, .null])) : ∃ f1, qm_ex qm_M X (d + 1) 130 [.ref (z + 66)] (67, 7267, f) = qm_go (qm_ex qm_M X (d)) X kt_130 kk_130_157 [.val (.ref (z + 66)), .val (.int (nI 0))] [] (85, 9881, f1) ∧ f1 (z + 66) = md_o (z + 66) s0 ∧ (∀ j, 1 ≤ j → j ≤ 18 → f1 (z + 66 + j) = md_a s0 j) ∧ ∀ j, j < z + 66 → f1 j = f j := by
  simp only [ke_130, kk_130_0, kl_130_0, kl_130_157, kl_130_176, kl_130_178, kl_130_197, ge_iconst, ge_lconst, ge_null, ge_iload, ge_lload, ge_aload, ge_istore, ge_lstore, ge_astore, ge_astoreN, ge_iinc, ge_iadd, ge_isub, ge_imul, ge_iand, ge_ior, ge_ixor, ge_ishl, ge_ishr, ge_iushr, ge_ladd, ge_lsub, ge_lmul, ge_lcmp, ge_idiv, ge_irem, ge_ldiv, ge_ineg, ge_i2l, ge_l2i, ge_lneg, ge_dupI, ge_dupR, ge_popI, ge_dup2, ge_goto, ge_if_eq, ge_if_ne, ge_if_lt, ge_if_ge, ge_if_gt, ge_if_le, ge_ic_eq, ge_ic_ne, ge_ic_lt, ge_ic_ge, ge_ic_gt, ge_ic_le, ge_ifnullN, ge_ifnullR, ge_ifnnN, ge_ifnnR, ge_switch, ge_getf, ge_putfI, ge_putfL, ge_putfR, ge_iald, ge_lald, ge_aald, ge_iast, ge_last, ge_aast, ge_alen, ge_new, ge_newI, ge_newL, ge_newQ, ge_oi, ge_copy, ge_max, ge_is0, ge_is1, ge_iv1, ge_is2, ge_iv2, ge_is3, ge_iv3, ge_is4, ge_iv4, ge_is5, ge_iv5, ge_iv6, ge_ret, ge_iret, ge_zret, ge_lret, ge_aretR, ge_aretN, ge_ld0, ge_lds, ge_sum0, ge_sumI, ge_sumL, ge_sumR, ge_sumN, ge_st0, ge_st1, ge_st2, ge_su0, ge_su1, ge_su2, ge_ap1, ge_ap0, qm_gf, qm_pf, qm_ia, qm_is, qm_la, qm_ls, qm_aa, qm_al, qm_isK, qm_kv, qm_cp, List.getElem?_cons_zero, List.getElem?_cons_succ, List.length_cons, List.length_nil, List.set_cons_zero, List.set_cons_succ, decide_true, if_true, if_false, eq_self, and_true, true_and, or_true, true_or, and_false, false_and, or_false, false_or, ↓reduceIte, Nat.reduceLT, Nat.reduceLeDiff, Nat.reduceAdd, Nat.zero_lt_succ, zi_eq0, zi_01, zi_eq1, zi_or, Nat.reduceEqDiff, not_true_eq_false, not_false_eq_true, va_up_self, zi_0ne1, zi_1ne0, zn_6, zl_6, zn_36, zl_36, zn_64, zl_64, zn_7, zl_7, zn_448, zl_448, zn_2368, zl_2368, zn_384, zl_384, zn_3136, zl_3136, zn_8, zl_8, zn_12, zl_12, zn_288, zl_288, zn_72, zl_72, zn_2048, zl_2048, hX, hf, qm_mk, qm_def, vz_jj, Nat.reduceEqDiff]
  refine ⟨_, rfl, ?_, fun j h1 h2 => ?_, fun j hj => ?_⟩
  · simp only [va_up_self, md_o, s0, gI, gL, zi_l0, zi_l1, Nat.add_assoc, Nat.reduceAdd, Nat.reduceEqDiff, ↓reduceIte]
  · match j with
    | 0 => omega
    | 1 => simp only [Nat.add_assoc, Nat.reduceAdd, vz_jj, Nat.reduceEqDiff, ↓reduceIte]; rfl
    | 2 => simp only [Nat.add_assoc, Nat.reduceAdd, vz_jj, Nat.reduceEqDiff, ↓reduceIte]; rfl
    | 3 => simp only [Nat.add_assoc, Nat.reduceAdd, vz_jj, Nat.reduceEqDiff, ↓reduceIte]; rfl
    | 4 => simp only [Nat.add_assoc, Nat.reduceAdd, vz_jj, Nat.reduceEqDiff, ↓reduceIte]; rfl
    | 5 => simp only [Nat.add_assoc, Nat.reduceAdd, vz_jj, Nat.reduceEqDiff, ↓reduceIte]; rfl
    | 6 => simp only [Nat.add_assoc, Nat.reduceAdd, vz_jj, Nat.reduceEqDiff, ↓reduceIte]; rfl
    | 7 => simp only [Nat.add_assoc, Nat.reduceAdd, vz_jj, Nat.reduceEqDiff, ↓reduceIte]; rfl
    | 8 => simp only [Nat.add_assoc, Nat.reduceAdd, vz_jj, Nat.reduceEqDiff, ↓reduceIte]; rfl
    | 9 => simp only [Nat.add_assoc, Nat.reduceAdd, vz_jj, Nat.reduceEqDiff, ↓reduceIte]; rfl
    | 10 => simp only [Nat.add_assoc, Nat.reduceAdd, vz_jj, Nat.reduceEqDiff, ↓reduceIte]; rfl
    | 11 => simp only [Nat.add_assoc, Nat.reduceAdd, vz_jj, Nat.reduceEqDiff, ↓reduceIte]; rfl
    | 12 => simp only [Nat.add_assoc, Nat.reduceAdd, vz_jj, Nat.reduceEqDiff, ↓reduceIte]; rfl
    | 13 => simp only [Nat.add_assoc, Nat.reduceAdd, vz_jj, Nat.reduceEqDiff, ↓reduceIte]; rfl
    | 14 => simp only [Nat.add_assoc, Nat.reduceAdd, vz_jj, Nat.reduceEqDiff, ↓reduceIte]; rfl
    | 15 => simp only [Nat.add_assoc, Nat.reduceAdd, vz_jj, Nat.reduceEqDiff, ↓reduceIte]; rfl
    | 16 => simp only [Nat.add_assoc, Nat.reduceAdd, vz_jj, Nat.reduceEqDiff, ↓reduceIte]; rfl
    | 17 => simp only [Nat.add_assoc, Nat.reduceAdd, vz_jj, Nat.reduceEqDiff, ↓reduceIte]; rfl
    | 18 => simp only [Nat.add_assoc, Nat.reduceAdd, vz_jj, Nat.reduceEqDiff, ↓reduceIte]; rfl
    | j + 19 => omega
  · have nk : ∀ (f : Nat → qm_C) (v : qm_C) (k : Nat), 66 ≤ k → va_up f (z + k) v j = f j := fun f v k hk => va_up_ne _ _ (by omega)
    simp only [nk, Nat.reduceLeDiff]
theorem md_init (f : Nat → qm_C) (hX : X.1 = z) (hf : f (z + 66) = .inr (9, [.int 0, .null, .int 0, .long 0, .long 0, .long 0, .null, .null, .null, .null, .null, .null, .null, .null, .null, .null, .null, .null, .null, .null, .null, .int 0, .null, .int 0, .int 0, .int 0, .int 0, .int 0, .long 0, .long 0, .int 0, .int 0, .int 0, .null])) : ∃ g s, qm_ex qm_M X (d + 1) 130 [.ref (z + 66)] (67, 7267, f) = some (none, (85, 9881, mh (z + 66) g s)) ∧ mR s r0 b0 t0 ∧ ∀ j, j < z + 66 → g j = f j := by
  obtain ⟨f1, e1, a1, a2, a3⟩ := md_i0 X d z f hX hf
  have hm := md_mk a1 a2
  have hl := glf0 (fun q => qm_go (qm_ex qm_M X (d)) X kt_130 kk_130_157 [.val (.ref (z + 66)), .val (.int (nI q))] [] (85, 9881, mh (z + 66) f1 (sA s0 5 (fb_put (gA s0 5) (fun _ => -1) 0 q)))) 12 (fun q hq => by
    have hc : ¬ (12 : Int32) ≤ nI q := nI_ge (a := q) (b := 12) (by omega) (by omega)
    have i1 : qm_in (nI q) 12 = true := zi_in (by omega) (by omega)
    have i2 : (nI q).toNatClampNeg = q := nI_clamp (by omega)
    have e3 := fb_put_succ (gA s0 5) (fun _ => -1) 0 q
    rw [Nat.zero_add] at e3
    rw [← e3]
    conv => lhs; rw [kk_130_157]
    simp only [kl_130_0, kl_130_157, kl_130_176, kl_130_178, kl_130_197, ge_iconst, ge_lconst, ge_null, ge_iload, ge_lload, ge_aload, ge_istore, ge_lstore, ge_astore, ge_astoreN, ge_iinc, ge_iadd, ge_isub, ge_imul, ge_iand, ge_ior, ge_ixor, ge_ishl, ge_ishr, ge_iushr, ge_ladd, ge_lsub, ge_lmul, ge_lcmp, ge_idiv, ge_irem, ge_ldiv, ge_ineg, ge_i2l, ge_l2i, ge_lneg, ge_dupI, ge_dupR, ge_popI, ge_dup2, ge_goto, ge_if_eq, ge_if_ne, ge_if_lt, ge_if_ge, ge_if_gt, ge_if_le, ge_ic_eq, ge_ic_ne, ge_ic_lt, ge_ic_ge, ge_ic_gt, ge_ic_le, ge_ifnullN, ge_ifnullR, ge_ifnnN, ge_ifnnR, ge_switch, ge_getf, ge_putfI, ge_putfL, ge_putfR, ge_iald, ge_lald, ge_aald, ge_iast, ge_last, ge_aast, ge_alen, ge_new, ge_newI, ge_newL, ge_newQ, ge_oi, ge_copy, ge_max, ge_is0, ge_is1, ge_iv1, ge_is2, ge_iv2, ge_is3, ge_iv3, ge_is4, ge_iv4, ge_is5, ge_iv5, ge_iv6, ge_ret, ge_iret, ge_zret, ge_lret, ge_aretR, ge_aretN, ge_ld0, ge_lds, ge_sum0, ge_sumI, ge_sumL, ge_sumR, ge_sumN, ge_st0, ge_st1, ge_st2, ge_su0, ge_su1, ge_su2, ge_ap1, ge_ap0, decide_false, Bool.and_false, Bool.false_and, Bool.and_true, Bool.true_and, Bool.false_eq_true, List.getElem?_cons_zero, List.getElem?_cons_succ, List.length_cons, List.length_nil, List.set_cons_zero, List.set_cons_succ, decide_true, if_true, if_false, eq_self, and_true, true_and, or_true, true_or, and_false, false_and, or_false, false_or, ↓reduceIte, Nat.reduceLT, Nat.reduceLeDiff, Nat.reduceAdd, Nat.zero_lt_succ, zi_eq0, zi_01, zi_eq1, zi_or, Nat.reduceEqDiff, not_true_eq_false, not_false_eq_true, va_up_self, zi_0ne1, zi_1ne0, mh_K, mg_0, mg_1, mg_2, mg_3, mg_4, mg_5, mg_6, mg_7, mg_8, mg_9, mg_10, mg_11, mg_12, mg_13, mg_14, mg_15, mg_16, mg_17, mg_18, mg_19, mg_20, mg_21, mg_22, mg_23, mg_24, mg_25, mg_26, mg_27, mg_28, mg_29, mg_30, mg_31, mg_32, mg_33, mp_0, mp_2, mp_21, mp_23, mp_24, mp_25, mp_26, mp_27, mp_30, mp_31, mp_32, mp_3, mp_4, mp_5, mp_28, mp_29, ma_1, mas_1, ma_2, mas_2, ma_3, mas_3, ma_4, mas_4, ma_5, mas_5, ma_6, mas_6, ma_7, mas_7, ma_8, mas_8, ma_9, mas_9, ma_10, mas_10, ml_11, mls_11, ml_12, mls_12, ml_13, mls_13, ma_14, mas_14, ma_15, mas_15, ma_16, mas_16, ma_17, mas_17, ml_18, mls_18, gs_II, gs_IL, gs_IA, gs_IB, gs_LI, gs_LL, gs_LA, gs_LB, gs_AI, gs_AL, gs_AA, gs_AB, gs_BI, gs_BL, gs_BA, gs_BB, hc, i1, i2, nI_1, sA_A])
  have hl2 := glf0 (fun q => qm_go (qm_ex qm_M X (d)) X kt_130 kk_130_178 [.val (.ref (z + 66)), .val (.int (nI q))] [] (85, 9881, mh (z + 66) f1 (sA (sA s0 5 (fb_put (gA s0 5) (fun _ => -1) 0 12)) 2 (fb_put (gA s0 2) (fun _ => -1) 0 q)))) 8 (fun q hq => by
    have hc : ¬ (8 : Int32) ≤ nI q := nI_ge (a := q) (b := 8) (by omega) (by omega)
    have i1 : qm_in (nI q) 8 = true := zi_in (by omega) (by omega)
    have i2 : (nI q).toNatClampNeg = q := nI_clamp (by omega)
    have e3 := fb_put_succ (gA s0 2) (fun _ => -1) 0 q
    rw [Nat.zero_add] at e3
    rw [← e3]
    conv => lhs; rw [kk_130_178]
    simp only [kl_130_0, kl_130_157, kl_130_176, kl_130_178, kl_130_197, ge_iconst, ge_lconst, ge_null, ge_iload, ge_lload, ge_aload, ge_istore, ge_lstore, ge_astore, ge_astoreN, ge_iinc, ge_iadd, ge_isub, ge_imul, ge_iand, ge_ior, ge_ixor, ge_ishl, ge_ishr, ge_iushr, ge_ladd, ge_lsub, ge_lmul, ge_lcmp, ge_idiv, ge_irem, ge_ldiv, ge_ineg, ge_i2l, ge_l2i, ge_lneg, ge_dupI, ge_dupR, ge_popI, ge_dup2, ge_goto, ge_if_eq, ge_if_ne, ge_if_lt, ge_if_ge, ge_if_gt, ge_if_le, ge_ic_eq, ge_ic_ne, ge_ic_lt, ge_ic_ge, ge_ic_gt, ge_ic_le, ge_ifnullN, ge_ifnullR, ge_ifnnN, ge_ifnnR, ge_switch, ge_getf, ge_putfI, ge_putfL, ge_putfR, ge_iald, ge_lald, ge_aald, ge_iast, ge_last, ge_aast, ge_alen, ge_new, ge_newI, ge_newL, ge_newQ, ge_oi, ge_copy, ge_max, ge_is0, ge_is1, ge_iv1, ge_is2, ge_iv2, ge_is3, ge_iv3, ge_is4, ge_iv4, ge_is5, ge_iv5, ge_iv6, ge_ret, ge_iret, ge_zret, ge_lret, ge_aretR, ge_aretN, ge_ld0, ge_lds, ge_sum0, ge_sumI, ge_sumL, ge_sumR, ge_sumN, ge_st0, ge_st1, ge_st2, ge_su0, ge_su1, ge_su2, ge_ap1, ge_ap0, decide_false, Bool.and_false, Bool.false_and, Bool.and_true, Bool.true_and, Bool.false_eq_true, List.getElem?_cons_zero, List.getElem?_cons_succ, List.length_cons, List.length_nil, List.set_cons_zero, List.set_cons_succ, decide_true, if_true, if_false, eq_self, and_true, true_and, or_true, true_or, and_false, false_and, or_false, false_or, ↓reduceIte, Nat.reduceLT, Nat.reduceLeDiff, Nat.reduceAdd, Nat.zero_lt_succ, zi_eq0, zi_01, zi_eq1, zi_or, Nat.reduceEqDiff, not_true_eq_false, not_false_eq_true, va_up_self, zi_0ne1, zi_1ne0, mh_K, mg_0, mg_1, mg_2, mg_3, mg_4, mg_5, mg_6, mg_7, mg_8, mg_9, mg_10, mg_11, mg_12, mg_13, mg_14, mg_15, mg_16, mg_17, mg_18, mg_19, mg_20, mg_21, mg_22, mg_23, mg_24, mg_25, mg_26, mg_27, mg_28, mg_29, mg_30, mg_31, mg_32, mg_33, mp_0, mp_2, mp_21, mp_23, mp_24, mp_25, mp_26, mp_27, mp_30, mp_31, mp_32, mp_3, mp_4, mp_5, mp_28, mp_29, ma_1, mas_1, ma_2, mas_2, ma_3, mas_3, ma_4, mas_4, ma_5, mas_5, ma_6, mas_6, ma_7, mas_7, ma_8, mas_8, ma_9, mas_9, ma_10, mas_10, ml_11, mls_11, ml_12, mls_12, ml_13, mls_13, ma_14, mas_14, ma_15, mas_15, ma_16, mas_16, ma_17, mas_17, ml_18, mls_18, gs_II, gs_IL, gs_IA, gs_IB, gs_LI, gs_LL, gs_LA, gs_LB, gs_AI, gs_AL, gs_AA, gs_AB, gs_BI, gs_BL, gs_BA, gs_BB, hc, i1, i2, nI_1, sA_A])
  refine ⟨f1, sA (sA s0 5 (fb_put (gA s0 5) (fun _ => -1) 0 12)) 2 (fb_put (gA s0 2) (fun _ => -1) 0 8), ?_, ⟨fun k hk => ⟨?_, fun n hn hz => ?_⟩, fun k hk => ⟨?_, fun hz => absurd rfl hz⟩, ⟨fun _ _ => rfl, rfl, rfl, rfl, rfl, rfl⟩, (by decide : qm_in (0 : Int32) 6 = true)⟩, a3⟩
  · rw [e1]
    have s1 : sA s0 5 (fb_put (gA s0 5) (fun _ => -1) 0 0) = s0 := by rw [fb_put_0, sA_id]
    have s2 : sA (sA s0 5 (fb_put (gA s0 5) (fun _ => -1) 0 12)) 2 (fb_put (gA s0 2) (fun _ => -1) 0 0) = sA s0 5 (fb_put (gA s0 5) (fun _ => -1) 0 12) := by
      rw [fb_put_0]
      exact sA_id (sA s0 5 (fb_put (gA s0 5) (fun _ => -1) 0 12)) 2
    rw [s1, ← hm] at hl
    rw [s2] at hl2
    refine hl.trans (Eq.trans ?_ (hl2.trans ?_))
    · have hc : (12 : Int32) ≤ nI 12 := by decide
      conv => lhs; rw [kk_130_157]
      simp only [kl_130_0, kl_130_157, kl_130_176, kl_130_178, kl_130_197, kk_130_176, ge_iconst, ge_lconst, ge_null, ge_iload, ge_lload, ge_aload, ge_istore, ge_lstore, ge_astore, ge_astoreN, ge_iinc, ge_iadd, ge_isub, ge_imul, ge_iand, ge_ior, ge_ixor, ge_ishl, ge_ishr, ge_iushr, ge_ladd, ge_lsub, ge_lmul, ge_lcmp, ge_idiv, ge_irem, ge_ldiv, ge_ineg, ge_i2l, ge_l2i, ge_lneg, ge_dupI, ge_dupR, ge_popI, ge_dup2, ge_goto, ge_if_eq, ge_if_ne, ge_if_lt, ge_if_ge, ge_if_gt, ge_if_le, ge_ic_eq, ge_ic_ne, ge_ic_lt, ge_ic_ge, ge_ic_gt, ge_ic_le, ge_ifnullN, ge_ifnullR, ge_ifnnN, ge_ifnnR, ge_switch, ge_getf, ge_putfI, ge_putfL, ge_putfR, ge_iald, ge_lald, ge_aald, ge_iast, ge_last, ge_aast, ge_alen, ge_new, ge_newI, ge_newL, ge_newQ, ge_oi, ge_copy, ge_max, ge_is0, ge_is1, ge_iv1, ge_is2, ge_iv2, ge_is3, ge_iv3, ge_is4, ge_iv4, ge_is5, ge_iv5, ge_iv6, ge_ret, ge_iret, ge_zret, ge_lret, ge_aretR, ge_aretN, ge_ld0, ge_lds, ge_sum0, ge_sumI, ge_sumL, ge_sumR, ge_sumN, ge_st0, ge_st1, ge_st2, ge_su0, ge_su1, ge_su2, ge_ap1, ge_ap0, decide_false, Bool.and_false, Bool.false_and, Bool.and_true, Bool.true_and, Bool.false_eq_true, List.getElem?_cons_zero, List.getElem?_cons_succ, List.length_cons, List.length_nil, List.set_cons_zero, List.set_cons_succ, decide_true, if_true, if_false, eq_self, and_true, true_and, or_true, true_or, and_false, false_and, or_false, false_or, ↓reduceIte, Nat.reduceLT, Nat.reduceLeDiff, Nat.reduceAdd, Nat.zero_lt_succ, zi_eq0, zi_01, zi_eq1, zi_or, Nat.reduceEqDiff, not_true_eq_false, not_false_eq_true, va_up_self, zi_0ne1, zi_1ne0, mh_K, mg_0, mg_1, mg_2, mg_3, mg_4, mg_5, mg_6, mg_7, mg_8, mg_9, mg_10, mg_11, mg_12, mg_13, mg_14, mg_15, mg_16, mg_17, mg_18, mg_19, mg_20, mg_21, mg_22, mg_23, mg_24, mg_25, mg_26, mg_27, mg_28, mg_29, mg_30, mg_31, mg_32, mg_33, mp_0, mp_2, mp_21, mp_23, mp_24, mp_25, mp_26, mp_27, mp_30, mp_31, mp_32, mp_3, mp_4, mp_5, mp_28, mp_29, ma_1, mas_1, ma_2, mas_2, ma_3, mas_3, ma_4, mas_4, ma_5, mas_5, ma_6, mas_6, ma_7, mas_7, ma_8, mas_8, ma_9, mas_9, ma_10, mas_10, ml_11, mls_11, ml_12, mls_12, ml_13, mls_13, ma_14, mas_14, ma_15, mas_15, ma_16, mas_16, ma_17, mas_17, ml_18, mls_18, gs_II, gs_IL, gs_IA, gs_IB, gs_LI, gs_LL, gs_LA, gs_LB, gs_AI, gs_AL, gs_AA, gs_AB, gs_BI, gs_BL, gs_BA, gs_BB, hc]
      rfl
    · have hc : (8 : Int32) ≤ nI 8 := by decide
      simp only [kk_130_178, kk_130_197, kl_130_0, kl_130_157, kl_130_176, kl_130_178, kl_130_197, ge_iconst, ge_lconst, ge_null, ge_iload, ge_lload, ge_aload, ge_istore, ge_lstore, ge_astore, ge_astoreN, ge_iinc, ge_iadd, ge_isub, ge_imul, ge_iand, ge_ior, ge_ixor, ge_ishl, ge_ishr, ge_iushr, ge_ladd, ge_lsub, ge_lmul, ge_lcmp, ge_idiv, ge_irem, ge_ldiv, ge_ineg, ge_i2l, ge_l2i, ge_lneg, ge_dupI, ge_dupR, ge_popI, ge_dup2, ge_goto, ge_if_eq, ge_if_ne, ge_if_lt, ge_if_ge, ge_if_gt, ge_if_le, ge_ic_eq, ge_ic_ne, ge_ic_lt, ge_ic_ge, ge_ic_gt, ge_ic_le, ge_ifnullN, ge_ifnullR, ge_ifnnN, ge_ifnnR, ge_switch, ge_getf, ge_putfI, ge_putfL, ge_putfR, ge_iald, ge_lald, ge_aald, ge_iast, ge_last, ge_aast, ge_alen, ge_new, ge_newI, ge_newL, ge_newQ, ge_oi, ge_copy, ge_max, ge_is0, ge_is1, ge_iv1, ge_is2, ge_iv2, ge_is3, ge_iv3, ge_is4, ge_iv4, ge_is5, ge_iv5, ge_iv6, ge_ret, ge_iret, ge_zret, ge_lret, ge_aretR, ge_aretN, ge_ld0, ge_lds, ge_sum0, ge_sumI, ge_sumL, ge_sumR, ge_sumN, ge_st0, ge_st1, ge_st2, ge_su0, ge_su1, ge_su2, ge_ap1, ge_ap0, decide_false, Bool.and_false, Bool.false_and, Bool.and_true, Bool.true_and, Bool.false_eq_true, List.getElem?_cons_zero, List.getElem?_cons_succ, List.length_cons, List.length_nil, List.set_cons_zero, List.set_cons_succ, decide_true, if_true, if_false, eq_self, and_true, true_and, or_true, true_or, and_false, false_and, or_false, false_or, ↓reduceIte, Nat.reduceLT, Nat.reduceLeDiff, Nat.reduceAdd, Nat.zero_lt_succ, zi_eq0, zi_01, zi_eq1, zi_or, Nat.reduceEqDiff, not_true_eq_false, not_false_eq_true, va_up_self, zi_0ne1, zi_1ne0, mh_K, mg_0, mg_1, mg_2, mg_3, mg_4, mg_5, mg_6, mg_7, mg_8, mg_9, mg_10, mg_11, mg_12, mg_13, mg_14, mg_15, mg_16, mg_17, mg_18, mg_19, mg_20, mg_21, mg_22, mg_23, mg_24, mg_25, mg_26, mg_27, mg_28, mg_29, mg_30, mg_31, mg_32, mg_33, mp_0, mp_2, mp_21, mp_23, mp_24, mp_25, mp_26, mp_27, mp_30, mp_31, mp_32, mp_3, mp_4, mp_5, mp_28, mp_29, ma_1, mas_1, ma_2, mas_2, ma_3, mas_3, ma_4, mas_4, ma_5, mas_5, ma_6, mas_6, ma_7, mas_7, ma_8, mas_8, ma_9, mas_9, ma_10, mas_10, ml_11, mls_11, ml_12, mls_12, ml_13, mls_13, ma_14, mas_14, ma_15, mas_15, ma_16, mas_16, ma_17, mas_17, ml_18, mls_18, gs_II, gs_IL, gs_IA, gs_IB, gs_LI, gs_LL, gs_LA, gs_LB, gs_AI, gs_AL, gs_AA, gs_AB, gs_BI, gs_BL, gs_BA, gs_BB, hc]
  · exact fb_put_in (f := gA s0 2) (g := fun _ => -1) (a := 0) (n := 8) (by omega) (by omega)
  · have hz' : (-1 : Int32) = nI n := hz
    exact absurd hz'.symm (by
      intro y
      have := congrArg Int32.toInt y
      rw [nI_toInt (by omega)] at this
      have e : (-1 : Int32).toInt = -1 := by decide
      rw [e] at this
      omega)
  · exact fb_put_in (f := gA s0 5) (g := fun _ => -1) (a := 0) (n := 12) (by omega) (by omega)
end MDI
