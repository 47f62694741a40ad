/-! the class's constructor -/
theorem vz_jj {f : Nat → qm_C} {v : qm_C} (z j k : Nat) : va_up f (z + j) v (z + k) = if k = j then v else f (z + k) := by
  unfold va_up
  by_cases e : k = j
  · rw [if_pos e, if_pos (by omega)]
  · rw [if_neg e, if_neg (by omega)]
theorem vz_0k {f : Nat → qm_C} {v : qm_C} (z k : Nat) : va_up f z v (z + k) = if k = 0 then v else f (z + k) := by
  unfold va_up
  by_cases e : k = 0
  · rw [if_pos e, if_pos (by omega)]
  · rw [if_neg e, if_neg (by omega)]
theorem vz_j0 {f : Nat → qm_C} {v : qm_C} (z j : Nat) : va_up f (z + j) v z = if j = 0 then v else f z := by
  unfold va_up
  by_cases e : j = 0
  · rw [if_pos e, if_pos (by omega)]
  · rw [if_neg e, if_neg (by omega)]
theorem vz_lt {f : Nat → qm_C} {v : qm_C} {z j i : Nat} (h : i < z) : va_up f (z + j) v i = f i := va_up_ne _ _ (by omega)
theorem vz_lt0 {f : Nat → qm_C} {v : qm_C} {z i : Nat} (h : i < z) : va_up f z v i = f i := va_up_ne _ _ (by omega)
def t0 : ss_T := (fun _ => 0, 0, 0, 0, 1, 0)
def r0 : ss_R := (fun _ => -1, fun _ _ => 0)
def b0 : ss_B := (fun _ => -1, fun _ => 1, fun _ => 1, fun _ _ => 0)
section TBI
variable (X : qm_X) (d z : Nat)
theorem tb_i0 (f : Nat → qm_C) (hX : X.1 = z) (hf : f z = .inr (8, [.null, .null, .null, .null, .null, .null, .null, .null, .null, .null, .null, .long 0, .int 0, .long 0, .long 0, .int 0])) : ∃ f1, qm_ex qm_M X (d + 2) 71 [.ref z] (1, 16, f) = qm_go (qm_ex qm_M X (d + 1)) X kt_71 kk_71_145 [.val (.ref (z)), .val (.int (nI 0))] [] (26, 6809, f1) ∧ (∀ j, j < 26 → j ≠ 1 → j ≠ 2 → tbP z t0 j (f1 (z + j))) ∧ f1 (z + 1) = .inl (2, 8, .inr (.inr (.inr (.inr (fun _ => none))))) ∧ f1 (z + 2) = .inl (3, 12, .inr (.inr (.inr (.inr (fun _ => none))))) ∧ ∀ j, j < z → f1 j = f j := by
  simp only [ke_71, kk_71_0, kl_71_0, kl_71_145, kl_71_170, kl_71_172, kl_71_197, ge_iconst, ge_lconst, ge_null, ge_iload, ge_lload, ge_aload, ge_istore, ge_lstore, ge_astore, ge_astoreN, ge_iinc, ge_iadd, ge_isub, ge_imul, ge_iand, ge_ior, ge_ixor, ge_ishl, ge_ishr, ge_iushr, ge_ladd, ge_lsub, ge_lmul, ge_lcmp, ge_idiv, ge_irem, ge_ldiv, ge_ineg, ge_i2l, ge_l2i, ge_lneg, ge_dupI, ge_dupR, ge_popI, ge_dup2, ge_goto, ge_if_eq, ge_if_ne, ge_if_lt, ge_if_ge, ge_if_gt, ge_if_le, ge_ic_eq, ge_ic_ne, ge_ic_lt, ge_ic_ge, ge_ic_gt, ge_ic_le, ge_ifnullN, ge_ifnullR, ge_ifnnN, ge_ifnnR, ge_switch, ge_getf, ge_putfI, ge_putfL, ge_putfR, ge_iald, ge_lald, ge_aald, ge_iast, ge_last, ge_aast, ge_alen, ge_new, ge_newI, ge_newL, ge_newQ, ge_oi, ge_copy, ge_max, ge_is0, ge_is1, ge_iv1, ge_is2, ge_iv2, ge_is3, ge_iv3, ge_is4, ge_iv4, ge_is5, ge_iv5, ge_iv6, ge_ret, ge_iret, ge_zret, ge_lret, ge_aretR, ge_aretN, ge_ld0, ge_lds, ge_sum0, ge_sumI, ge_sumL, ge_sumR, ge_sumN, ge_st0, ge_st1, ge_st2, ge_su0, ge_su1, ge_su2, ge_ap1, ge_ap0, qm_gf, qm_pf, qm_ia, qm_is, qm_la, qm_ls, qm_aa, qm_al, qm_isK, qm_kv, qm_cp, List.getElem?_cons_zero, List.getElem?_cons_succ, List.length_cons, List.length_nil, List.set_cons_zero, List.set_cons_succ, decide_true, if_true, if_false, eq_self, and_true, true_and, or_true, true_or, and_false, false_and, or_false, false_or, ↓reduceIte, Nat.reduceLT, Nat.reduceLeDiff, Nat.reduceAdd, Nat.zero_lt_succ, zi_eq0, zi_01, zi_eq1, zi_or, Nat.reduceEqDiff, not_true_eq_false, not_false_eq_true, va_up_self, zi_0ne1, zi_1ne0, zn_6, zl_6, zn_36, zl_36, zn_64, zl_64, zn_7, zl_7, zn_448, zl_448, zn_2368, zl_2368, zn_384, zl_384, zn_3136, zl_3136, zn_8, zl_8, zn_12, zl_12, zn_288, zl_288, zn_72, zl_72, zn_2048, zl_2048, hX, hf, qm_mk, qm_def, vz_jj, vz_0k, vz_j0, Nat.reduceEqDiff, Nat.add_lt_add_iff_left, Nat.lt_add_right_iff_pos, ci_Board X d z _ hX, ci_Numbers X d z _ hX, ci_Order X d z _ hX, ci_Free X d z _ hX, ci_Lightest X d z _ hX, ci_Lengths X d z _ hX, ci_Arrows X d z _ hX]
  refine ⟨_, rfl, fun j h1 h2 h3 => ?_, ?_, ?_, fun j hj => ?_⟩
  · match j with
    | 0 => simp only [Nat.add_zero, va_up_self, tbP, ss_o, t0, zi_l0, zi_l1]
    | 1 => exact absurd rfl h2
    | 2 => exact absurd rfl h3
    | 3 => simp only [vz_jj, vz_0k, Nat.reduceEqDiff, ↓reduceIte, tbP, t0]
    | 4 => simp only [vz_jj, vz_0k, Nat.reduceEqDiff, ↓reduceIte]; exact ⟨_, _, _, rfl⟩
    | 5 => simp only [vz_jj, vz_0k, Nat.reduceEqDiff, ↓reduceIte]; exact ⟨_, rfl⟩
    | 6 => simp only [vz_jj, vz_0k, Nat.reduceEqDiff, ↓reduceIte, tbP]
    | 7 => simp only [vz_jj, vz_0k, Nat.reduceEqDiff, ↓reduceIte]; exact ⟨_, rfl⟩
    | 8 => simp only [vz_jj, vz_0k, Nat.reduceEqDiff, ↓reduceIte]; exact ⟨_, rfl⟩
    | 9 => simp only [vz_jj, vz_0k, Nat.reduceEqDiff, ↓reduceIte, tbP]
    | 10 => simp only [vz_jj, vz_0k, Nat.reduceEqDiff, ↓reduceIte]; exact ⟨_, rfl⟩
    | 11 => simp only [vz_jj, vz_0k, Nat.reduceEqDiff, ↓reduceIte]; exact ⟨_, rfl⟩
    | 12 => simp only [vz_jj, vz_0k, Nat.reduceEqDiff, ↓reduceIte, tbP]
    | 13 => simp only [vz_jj, vz_0k, Nat.reduceEqDiff, ↓reduceIte]; exact ⟨_, rfl⟩
    | 14 => simp only [vz_jj, vz_0k, Nat.reduceEqDiff, ↓reduceIte, tbP]
    | 15 => simp only [vz_jj, vz_0k, Nat.reduceEqDiff, ↓reduceIte]; exact ⟨_, rfl⟩
    | 16 => simp only [vz_jj, vz_0k, Nat.reduceEqDiff, ↓reduceIte]; exact ⟨_, _, rfl⟩
    | 17 => simp only [vz_jj, vz_0k, Nat.reduceEqDiff, ↓reduceIte]; exact ⟨_, rfl⟩
    | 18 => simp only [vz_jj, vz_0k, Nat.reduceEqDiff, ↓reduceIte]; exact ⟨_, rfl⟩
    | 19 => simp only [vz_jj, vz_0k, Nat.reduceEqDiff, ↓reduceIte]; exact ⟨_, rfl⟩
    | 20 => simp only [vz_jj, vz_0k, Nat.reduceEqDiff, ↓reduceIte]; exact ⟨_, rfl⟩
    | 21 => simp only [vz_jj, vz_0k, Nat.reduceEqDiff, ↓reduceIte]; exact ⟨_, rfl⟩
    | 22 => simp only [vz_jj, vz_0k, Nat.reduceEqDiff, ↓reduceIte]; exact ⟨_, rfl⟩
    | 23 => simp only [vz_jj, vz_0k, Nat.reduceEqDiff, ↓reduceIte]; exact ⟨_, rfl⟩
    | 24 => simp only [vz_jj, vz_0k, Nat.reduceEqDiff, ↓reduceIte]; exact ⟨_, rfl⟩
    | 25 => simp only [vz_jj, vz_0k, Nat.reduceEqDiff, ↓reduceIte]; exact ⟨_, rfl⟩
    | j + 26 => omega
  · simp only [vz_jj, vz_0k, Nat.reduceEqDiff, ↓reduceIte]
  · simp only [vz_jj, vz_0k, Nat.reduceEqDiff, ↓reduceIte]
  · simp only [vz_lt hj, vz_lt0 hj]
/-- the rows are made -/
theorem tb_i1 (hX : X.1 = z) (f0 : Nat → qm_C) : ∀ m q (f : Nat → qm_C) (G : Nat → Option Nat), q + m = 8 → f z = ss_o z t0 → f (z + 1) = .inl (2, 8, .inr (.inr (.inr (.inr G)))) → (∀ k, k < q → G k = some (z + 26 + 2 * k)) → (∀ k, k < q → f (z + 26 + 2 * k) = ss_row z r0 k ∧ f (z + 27 + 2 * k) = .inl (0, 36, .inl (fun _ => 0))) → (∀ j, j < z + 26 → j ≠ z + 1 → f j = f0 j) → ∃ f' G', qm_go (qm_ex qm_M X (d + 1)) X kt_71 kk_71_145 [.val (.ref (z)), .val (.int (nI q))] [] (26 + 2 * q, 6809 + 38 * q, f) = qm_go (qm_ex qm_M X (d + 1)) X kt_71 kk_71_172 [.val (.ref (z)), .val (.int (nI 0))] [] (42, 7113, f') ∧ f' (z + 1) = .inl (2, 8, .inr (.inr (.inr (.inr G')))) ∧ (∀ k, k < 8 → G' k = some (z + 26 + 2 * k)) ∧ (∀ k, k < 8 → f' (z + 26 + 2 * k) = ss_row z r0 k ∧ f' (z + 27 + 2 * k) = .inl (0, 36, .inl (fun _ => 0))) ∧ ∀ j, j < z + 26 → j ≠ z + 1 → f' j = f0 j
  | 0, q, f, G, e, h0, h1, h2, h3, h4 => by
    have e' : q = 8 := by omega
    subst e'
    have hc : (8 : Int32) ≤ nI 8 := by decide
    refine ⟨f, G, ?_, h1, h2, h3, h4⟩
    conv => lhs; rw [kk_71_145]
    simp only [kl_71_0, kl_71_145, kl_71_170, kl_71_172, kl_71_197, kk_71_170, ge_iconst, ge_lconst, ge_null, ge_iload, ge_lload, ge_aload, ge_istore, ge_lstore, ge_astore, ge_astoreN, ge_iinc, ge_iadd, ge_isub, ge_imul, ge_iand, ge_ior, ge_ixor, ge_ishl, ge_ishr, ge_iushr, ge_ladd, ge_lsub, ge_lmul, ge_lcmp, ge_idiv, ge_irem, ge_ldiv, ge_ineg, ge_i2l, ge_l2i, ge_lneg, ge_dupI, ge_dupR, ge_popI, ge_dup2, ge_goto, ge_if_eq, ge_if_ne, ge_if_lt, ge_if_ge, ge_if_gt, ge_if_le, ge_ic_eq, ge_ic_ne, ge_ic_lt, ge_ic_ge, ge_ic_gt, ge_ic_le, ge_ifnullN, ge_ifnullR, ge_ifnnN, ge_ifnnR, ge_switch, ge_getf, ge_putfI, ge_putfL, ge_putfR, ge_iald, ge_lald, ge_aald, ge_iast, ge_last, ge_aast, ge_alen, ge_new, ge_newI, ge_newL, ge_newQ, ge_oi, ge_copy, ge_max, ge_is0, ge_is1, ge_iv1, ge_is2, ge_iv2, ge_is3, ge_iv3, ge_is4, ge_iv4, ge_is5, ge_iv5, ge_iv6, ge_ret, ge_iret, ge_zret, ge_lret, ge_aretR, ge_aretN, ge_ld0, ge_lds, ge_sum0, ge_sumI, ge_sumL, ge_sumR, ge_sumN, ge_st0, ge_st1, ge_st2, ge_su0, ge_su1, ge_su2, ge_ap1, ge_ap0, qm_gf, qm_pf, qm_ia, qm_is, qm_la, qm_ls, qm_aa, qm_al, qm_isK, qm_kv, qm_cp, List.getElem?_cons_zero, List.getElem?_cons_succ, List.length_cons, List.length_nil, List.set_cons_zero, List.set_cons_succ, decide_true, if_true, if_false, eq_self, and_true, true_and, or_true, true_or, and_false, false_and, or_false, false_or, ↓reduceIte, Nat.reduceLT, Nat.reduceLeDiff, Nat.reduceAdd, Nat.zero_lt_succ, zi_eq0, zi_01, zi_eq1, zi_or, Nat.reduceEqDiff, not_true_eq_false, not_false_eq_true, va_up_self, zi_0ne1, zi_1ne0, hc, Nat.reduceMul]
    rfl
  | m + 1, q, f, G, e, h0, h1, h2, h3, h4 => by
    have hc : ¬ (8 : Int32) ≤ nI q := nI_ge (a := q) (b := 8) (by omega) (by omega)
    have hi : qm_in (nI q) 8 = true := zi_in (by omega) (by omega)
    have hkk : (nI q).toNatClampNeg = q := nI_clamp (by omega)
    have hci := ci_Row X d z (a := z + (26 + 2 * q)) (N := 26 + 2 * q + 1) (S := 6809 + 38 * q + 2) (va_up f (z + (26 + 2 * q)) (.inr (7, [.int 0, .null]))) hX (by omega) (va_up_self _ _ _)
    have n1 : ¬ z + 1 = z + (26 + 2 * q) := by omega
    have n2 : ¬ z + 1 = z + (26 + 2 * q + 1) := by omega
    have el : qm_el 2 = 7 := rfl
    obtain ⟨f', G', e1, k1, k2, k3, k4⟩ := tb_i1 hX f0 m (q + 1) (va_up (va_up (va_up (va_up f (z + (26 + 2 * q)) (.inr (7, [.int 0, .null]))) (z + (26 + 2 * q + 1)) (.inl (0, 36, .inl (fun _ => 0)))) (z + (26 + 2 * q)) (.inr (7, [.int (-1), .ref (z + (26 + 2 * q + 1))]))) (z + 1) (.inl (2, 8, .inr (.inr (.inr (.inr (va_up G q (some (z + (26 + 2 * q)))))))))) (va_up G q (some (z + (26 + 2 * q)))) (by omega) (by
      rw [va_up_ne _ _ (by omega), va_up_ne _ _ (by omega), va_up_ne _ _ (by omega), va_up_ne _ _ (by omega)]; exact h0) (va_up_self _ _ _) (fun k hk => by
      by_cases c : k = q
      · rw [c, va_up_self, Nat.add_assoc]
      · rw [va_up_ne _ _ c]; exact h2 k (by omega)) (fun k hk => by
      by_cases c : k = q
      · subst c
        constructor
        · rw [va_up_ne _ _ (by omega), show z + 26 + 2 * k = z + (26 + 2 * k) by omega, va_up_self]
          unfold ss_row r0
          rw [show z + (26 + 2 * k + 1) = z + 27 + 2 * k by omega]
        · rw [va_up_ne _ _ (by omega), va_up_ne _ _ (by omega), show z + 27 + 2 * k = z + (26 + 2 * k + 1) by omega, va_up_self]
      · rw [va_up_ne _ _ (by omega), va_up_ne _ _ (by omega), va_up_ne _ _ (by omega), va_up_ne _ _ (by omega), va_up_ne _ _ (by omega), va_up_ne _ _ (by omega), va_up_ne _ _ (by omega), va_up_ne _ _ (by omega)]
        exact h3 k (by omega)) (fun j hj hj1 => by
      rw [va_up_ne _ _ hj1, va_up_ne _ _ (by omega), va_up_ne _ _ (by omega), va_up_ne _ _ (by omega)]
      exact h4 j hj hj1)
    refine ⟨f', G', ?_, k1, k2, k3, k4⟩
    rw [← e1]
    conv => lhs; rw [kk_71_145]
    simp only [kl_71_0, kl_71_145, kl_71_170, kl_71_172, kl_71_197, ge_iconst, ge_lconst, ge_null, ge_iload, ge_lload, ge_aload, ge_istore, ge_lstore, ge_astore, ge_astoreN, ge_iinc, ge_iadd, ge_isub, ge_imul, ge_iand, ge_ior, ge_ixor, ge_ishl, ge_ishr, ge_iushr, ge_ladd, ge_lsub, ge_lmul, ge_lcmp, ge_idiv, ge_irem, ge_ldiv, ge_ineg, ge_i2l, ge_l2i, ge_lneg, ge_dupI, ge_dupR, ge_popI, ge_dup2, ge_goto, ge_if_eq, ge_if_ne, ge_if_lt, ge_if_ge, ge_if_gt, ge_if_le, ge_ic_eq, ge_ic_ne, ge_ic_lt, ge_ic_ge, ge_ic_gt, ge_ic_le, ge_ifnullN, ge_ifnullR, ge_ifnnN, ge_ifnnR, ge_switch, ge_getf, ge_putfI, ge_putfL, ge_putfR, ge_iald, ge_lald, ge_aald, ge_iast, ge_last, ge_aast, ge_alen, ge_new, ge_newI, ge_newL, ge_newQ, ge_oi, ge_copy, ge_max, ge_is0, ge_is1, ge_iv1, ge_is2, ge_iv2, ge_is3, ge_iv3, ge_is4, ge_iv4, ge_is5, ge_iv5, ge_iv6, ge_ret, ge_iret, ge_zret, ge_lret, ge_aretR, ge_aretN, ge_ld0, ge_lds, ge_sum0, ge_sumI, ge_sumL, ge_sumR, ge_sumN, ge_st0, ge_st1, ge_st2, ge_su0, ge_su1, ge_su2, ge_ap1, ge_ap0, qm_gf, qm_pf, qm_ia, qm_is, qm_la, qm_ls, qm_aa, qm_al, qm_isK, qm_kv, qm_cp, List.getElem?_cons_zero, List.getElem?_cons_succ, List.length_cons, List.length_nil, List.set_cons_zero, List.set_cons_succ, decide_true, if_true, if_false, eq_self, and_true, true_and, or_true, true_or, and_false, false_and, or_false, false_or, ↓reduceIte, Nat.reduceLT, Nat.reduceLeDiff, Nat.reduceAdd, Nat.zero_lt_succ, zi_eq0, zi_01, zi_eq1, zi_or, Nat.reduceEqDiff, not_true_eq_false, not_false_eq_true, va_up_self, zi_0ne1, zi_1ne0, hc, h0, ss_o, hX, qm_mk, qm_def, qm_as, el, hci, va_up_ne, ne_eq, n1, n2, h1, hi, hkk, nI_1]
    rfl
/-- the boards are made -/
theorem tb_i2 (hX : X.1 = z) (f0 : Nat → qm_C) : ∀ m q (f : Nat → qm_C) (G : Nat → Option Nat), q + m = 12 → f z = ss_o z t0 → f (z + 2) = .inl (3, 12, .inr (.inr (.inr (.inr G)))) → (∀ k, k < q → G k = some (z + 42 + 2 * k)) → (∀ k, k < q → f (z + 42 + 2 * k) = ss_brd z b0 k ∧ f (z + 43 + 2 * k) = .inl (0, 6, .inl (fun _ => 0))) → (∀ j, j < z + 42 → j ≠ z + 2 → f j = f0 j) → ∃ f' G', qm_go (qm_ex qm_M X (d + 1)) X kt_71 kk_71_172 [.val (.ref (z)), .val (.int (nI q))] [] (42 + 2 * q, 7113 + 10 * q, f) = some (none, (66, 7233, f')) ∧ f' (z + 2) = .inl (3, 12, .inr (.inr (.inr (.inr G')))) ∧ (∀ k, k < 12 → G' k = some (z + 42 + 2 * k)) ∧ (∀ k, k < 12 → f' (z + 42 + 2 * k) = ss_brd z b0 k ∧ f' (z + 43 + 2 * k) = .inl (0, 6, .inl (fun _ => 0))) ∧ ∀ j, j < z + 42 → j ≠ z + 2 → f' j = f0 j
  | 0, q, f, G, e, h0, h1, h2, h3, h4 => by
    have e' : q = 12 := by omega
    subst e'
    have hc : (12 : Int32) ≤ nI 12 := by decide
    refine ⟨f, G, ?_, h1, h2, h3, h4⟩
    simp only [kk_71_172, kk_71_197, kl_71_0, kl_71_145, kl_71_170, kl_71_172, kl_71_197, ge_iconst, ge_lconst, ge_null, ge_iload, ge_lload, ge_aload, ge_istore, ge_lstore, ge_astore, ge_astoreN, ge_iinc, ge_iadd, ge_isub, ge_imul, ge_iand, ge_ior, ge_ixor, ge_ishl, ge_ishr, ge_iushr, ge_ladd, ge_lsub, ge_lmul, ge_lcmp, ge_idiv, ge_irem, ge_ldiv, ge_ineg, ge_i2l, ge_l2i, ge_lneg, ge_dupI, ge_dupR, ge_popI, ge_dup2, ge_goto, ge_if_eq, ge_if_ne, ge_if_lt, ge_if_ge, ge_if_gt, ge_if_le, ge_ic_eq, ge_ic_ne, ge_ic_lt, ge_ic_ge, ge_ic_gt, ge_ic_le, ge_ifnullN, ge_ifnullR, ge_ifnnN, ge_ifnnR, ge_switch, ge_getf, ge_putfI, ge_putfL, ge_putfR, ge_iald, ge_lald, ge_aald, ge_iast, ge_last, ge_aast, ge_alen, ge_new, ge_newI, ge_newL, ge_newQ, ge_oi, ge_copy, ge_max, ge_is0, ge_is1, ge_iv1, ge_is2, ge_iv2, ge_is3, ge_iv3, ge_is4, ge_iv4, ge_is5, ge_iv5, ge_iv6, ge_ret, ge_iret, ge_zret, ge_lret, ge_aretR, ge_aretN, ge_ld0, ge_lds, ge_sum0, ge_sumI, ge_sumL, ge_sumR, ge_sumN, ge_st0, ge_st1, ge_st2, ge_su0, ge_su1, ge_su2, ge_ap1, ge_ap0, qm_gf, qm_pf, qm_ia, qm_is, qm_la, qm_ls, qm_aa, qm_al, qm_isK, qm_kv, qm_cp, List.getElem?_cons_zero, List.getElem?_cons_succ, List.length_cons, List.length_nil, List.set_cons_zero, List.set_cons_succ, decide_true, if_true, if_false, eq_self, and_true, true_and, or_true, true_or, and_false, false_and, or_false, false_or, ↓reduceIte, Nat.reduceLT, Nat.reduceLeDiff, Nat.reduceAdd, Nat.zero_lt_succ, zi_eq0, zi_01, zi_eq1, zi_or, Nat.reduceEqDiff, not_true_eq_false, not_false_eq_true, va_up_self, zi_0ne1, zi_1ne0, hc, Nat.reduceMul]
  | m + 1, q, f, G, e, h0, h1, h2, h3, h4 => by
    have hc : ¬ (12 : Int32) ≤ nI q := nI_ge (a := q) (b := 12) (by omega) (by omega)
    have hi : qm_in (nI q) 12 = true := zi_in (by omega) (by omega)
    have hkk : (nI q).toNatClampNeg = q := nI_clamp (by omega)
    have hci := ci_Board X d z (a := z + (42 + 2 * q)) (N := 42 + 2 * q + 1) (S := 7113 + 10 * q + 4) (va_up f (z + (42 + 2 * q)) (.inr (1, [.int 0, .int 0, .int 0, .null]))) hX (by omega) (va_up_self _ _ _)
    have n1 : ¬ z + 2 = z + (42 + 2 * q) := by omega
    have n2 : ¬ z + 2 = z + (42 + 2 * q + 1) := by omega
    have el : qm_el 3 = 1 := rfl
    obtain ⟨f', G', e1, k1, k2, k3, k4⟩ := tb_i2 hX f0 m (q + 1) (va_up (va_up (va_up (va_up f (z + (42 + 2 * q)) (.inr (1, [.int 0, .int 0, .int 0, .null]))) (z + (42 + 2 * q + 1)) (.inl (0, 6, .inl (fun _ => 0)))) (z + (42 + 2 * q)) (.inr (1, [.int (-1), .int 1, .int 1, .ref (z + (42 + 2 * q + 1))]))) (z + 2) (.inl (3, 12, .inr (.inr (.inr (.inr (va_up G q (some (z + (42 + 2 * q)))))))))) (va_up G q (some (z + (42 + 2 * q)))) (by omega) (by
      rw [va_up_ne _ _ (by omega), va_up_ne _ _ (by omega), va_up_ne _ _ (by omega), va_up_ne _ _ (by omega)]; exact h0) (va_up_self _ _ _) (fun k hk => by
      by_cases c : k = q
      · rw [c, va_up_self, Nat.add_assoc]
      · rw [va_up_ne _ _ c]; exact h2 k (by omega)) (fun k hk => by
      by_cases c : k = q
      · subst c
        constructor
        · rw [va_up_ne _ _ (by omega), show z + 42 + 2 * k = z + (42 + 2 * k) by omega, va_up_self]
          unfold ss_brd b0
          rw [show z + (42 + 2 * k + 1) = z + 43 + 2 * k by omega]
          rfl
        · rw [va_up_ne _ _ (by omega), va_up_ne _ _ (by omega), show z + 43 + 2 * k = z + (42 + 2 * k + 1) by omega, va_up_self]
      · rw [va_up_ne _ _ (by omega), va_up_ne _ _ (by omega), va_up_ne _ _ (by omega), va_up_ne _ _ (by omega), va_up_ne _ _ (by omega), va_up_ne _ _ (by omega), va_up_ne _ _ (by omega), va_up_ne _ _ (by omega)]
        exact h3 k (by omega)) (fun j hj hj1 => by
      rw [va_up_ne _ _ hj1, va_up_ne _ _ (by omega), va_up_ne _ _ (by omega), va_up_ne _ _ (by omega)]
      exact h4 j hj hj1)
    refine ⟨f', G', ?_, k1, k2, k3, k4⟩
    rw [← e1]
    conv => lhs; rw [kk_71_172]
    simp only [kl_71_0, kl_71_145, kl_71_170, kl_71_172, kl_71_197, ge_iconst, ge_lconst, ge_null, ge_iload, ge_lload, ge_aload, ge_istore, ge_lstore, ge_astore, ge_astoreN, ge_iinc, ge_iadd, ge_isub, ge_imul, ge_iand, ge_ior, ge_ixor, ge_ishl, ge_ishr, ge_iushr, ge_ladd, ge_lsub, ge_lmul, ge_lcmp, ge_idiv, ge_irem, ge_ldiv, ge_ineg, ge_i2l, ge_l2i, ge_lneg, ge_dupI, ge_dupR, ge_popI, ge_dup2, ge_goto, ge_if_eq, ge_if_ne, ge_if_lt, ge_if_ge, ge_if_gt, ge_if_le, ge_ic_eq, ge_ic_ne, ge_ic_lt, ge_ic_ge, ge_ic_gt, ge_ic_le, ge_ifnullN, ge_ifnullR, ge_ifnnN, ge_ifnnR, ge_switch, ge_getf, ge_putfI, ge_putfL, ge_putfR, ge_iald, ge_lald, ge_aald, ge_iast, ge_last, ge_aast, ge_alen, ge_new, ge_newI, ge_newL, ge_newQ, ge_oi, ge_copy, ge_max, ge_is0, ge_is1, ge_iv1, ge_is2, ge_iv2, ge_is3, ge_iv3, ge_is4, ge_iv4, ge_is5, ge_iv5, ge_iv6, ge_ret, ge_iret, ge_zret, ge_lret, ge_aretR, ge_aretN, ge_ld0, ge_lds, ge_sum0, ge_sumI, ge_sumL, ge_sumR, ge_sumN, ge_st0, ge_st1, ge_st2, ge_su0, ge_su1, ge_su2, ge_ap1, ge_ap0, qm_gf, qm_pf, qm_ia, qm_is, qm_la, qm_ls, qm_aa, qm_al, qm_isK, qm_kv, qm_cp, List.getElem?_cons_zero, List.getElem?_cons_succ, List.length_cons, List.length_nil, List.set_cons_zero, List.set_cons_succ, decide_true, if_true, if_false, eq_self, and_true, true_and, or_true, true_or, and_false, false_and, or_false, false_or, ↓reduceIte, Nat.reduceLT, Nat.reduceLeDiff, Nat.reduceAdd, Nat.zero_lt_succ, zi_eq0, zi_01, zi_eq1, zi_or, Nat.reduceEqDiff, not_true_eq_false, not_false_eq_true, va_up_self, zi_0ne1, zi_1ne0, hc, h0, ss_o, hX, qm_mk, qm_def, qm_as, el, hci, va_up_ne, ne_eq, n1, n2, h1, hi, hkk, nI_1]
    rfl
theorem tb_init (f : Nat → qm_C) (hX : X.1 = z) (hf : f z = .inr (8, [.null, .null, .null, .null, .null, .null, .null, .null, .null, .null, .null, .long 0, .int 0, .long 0, .long 0, .int 0])) : ∃ f1, qm_ex qm_M X (d + 2) 71 [.ref z] (1, 16, f) = some (none, (66, 7233, f1)) ∧ TBk z f1 r0 b0 t0 f1 ∧ ∀ j, j < z → f1 j = f j := by
  obtain ⟨f1, e1, a1, a2, a3, a4⟩ := tb_i0 X d z f hX hf
  have z1 : f1 z = ss_o z t0 := a1 0 (by omega) (by omega) (by omega)
  obtain ⟨f2, G2, e2, c1, c2, c3, c4⟩ := tb_i1 X d z hX f1 8 0 f1 _ (by omega) z1 a2 (fun k hk => by omega) (fun k hk => by omega) (fun _ _ _ => rfl)
  have z2 : f2 z = ss_o z t0 := by rw [c4 z (by omega) (by omega)]; exact z1
  obtain ⟨f3, G3, e3, d1, d2, d3, d4⟩ := tb_i2 X d z hX f2 12 0 f2 _ (by omega) z2 (by rw [c4 (z + 2) (by omega) (by omega)]; exact a3) (fun k hk => by omega) (fun k hk => by omega) (fun _ _ _ => rfl)
  refine ⟨f3, ?_, ⟨fun j hj => ?_, fun k hk => ?_, d3, fun _ _ => rfl⟩, fun j hj => ?_⟩
  · rw [e1]
    exact e2.trans e3
  · by_cases j2 : j = 2
    · subst j2
      exact ⟨G3, d2, d1⟩
    · rw [d4 (z + j) (by omega) (by omega)]
      by_cases j1 : j = 1
      · subst j1
        exact ⟨G2, c2, c1⟩
      · rw [c4 (z + j) (by omega) (by omega)]
        exact a1 j hj j1 j2
  · rw [d4 (z + 26 + 2 * k) (by omega) (by omega), d4 (z + 27 + 2 * k) (by omega) (by omega)]
    exact c3 k hk
  · rw [d4 j (by omega) (by omega), c4 j (by omega) (by omega), a4 j hj]
end TBI
