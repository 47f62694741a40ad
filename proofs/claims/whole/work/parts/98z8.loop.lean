/-! the law, its loop and its start -/
def lw_lab (k : Nat) : Int := if k < 46 then ([232, 265, 308, 331, 394, 417, 460, 503, 546, 569, 602, 635, 668, 711, 780, 813, 846, 899, 942, 975, 1008, 1031, 1064, 1097, 1130, 1163, 1206, 1259, 1292, 1325, 1348, 1371, 1414, 1447, 1500, 1543, 1576, 1619, 1652, 1666, 1679, 1693, 1707, 1730, 1743, 1766] : List Int).getD k 0 else 1780
theorem sw_all : ∀ k, k < 64 → qm_sw (#[(0, 232), (1, 265), (2, 308), (3, 331), (4, 394), (5, 417), (6, 460), (7, 503), (8, 546), (9, 569), (10, 602), (11, 635), (12, 668), (13, 711), (14, 780), (15, 813), (16, 846), (17, 899), (18, 942), (19, 975), (20, 1008), (21, 1031), (22, 1064), (23, 1097), (24, 1130), (25, 1163), (26, 1206), (27, 1259), (28, 1292), (29, 1325), (30, 1348), (31, 1371), (32, 1414), (33, 1447), (34, 1500), (35, 1543), (36, 1576), (37, 1619), (38, 1652), (39, 1666), (40, 1679), (41, 1693), (42, 1707), (43, 1730), (44, 1743), (45, 1766)] : Array (Int × Int)).toList 1780 (nI k) = lw_lab k := by decide +kernel
theorem lw_end {L p : Nat} (hL : L ≤ 3072) (hp : p ≤ 3078) : Int32.ofNat L - 6 < nI p ↔ L < p + 6 := by
  show nI L - nI 6 < nI p ↔ L < p + 6
  rw [Int32.lt_iff_toInt_lt, pk_sub_toInt (by omega) (by omega), nI_toInt (by omega)]
  omega
section LP
variable (z bs L : Nat) (xs : Nat → Int32) (N S : Nat)
theorem ls_any {r : ss_R} {b : ss_B} {t : ss_T} {s : md_S} {f : Nat → qm_C} (p k : Nat) (hb : bs < z) (hp : p + 6 ≤ L) (hL : L ≤ 3072) (J : lwI z bs r b t s f) : ∃ f2 r2 b2 t2 s2, qm_go (qm_ex qm_M (z, bs, L, xs) 60) (z, bs, L, xs) kt_223 (qm_lk kt_223 (lw_lab k)) [.val (.ref (bs)), .val (.ref (z)), .val (.ref (z + 66)), .val (.int (nI p))] [] (N, S, f) = qm_go (qm_ex qm_M (z, bs, L, xs) 60) (z, bs, L, xs) kt_223 kk_223_1780 [.val (.ref (bs)), .val (.ref (z)), .val (.ref (z + 66)), .val (.int (nI p))] [] (N, S, f2) ∧ lwI z bs r2 b2 t2 s2 f2 := by
  unfold lw_lab
  by_cases c : k < 46
  · rw [if_pos c]
    match k, c with
    | 0, _ => exact ls_row z bs L xs N S p hb hp hL J
    | 1, _ => exact ls_lay z bs L xs N S p hb hp hL J
    | 2, _ => exact ls_tear z bs L xs N S p hb hp hL J
    | 3, _ => exact ls_copy z bs L xs N S p hb hp hL J
    | 4, _ => exact ls_mean z bs L xs N S p hb hp hL J
    | 5, _ => exact ls_board z bs L xs N S p hb hp hL J
    | 6, _ => exact ls_stairs z bs L xs N S p hb hp hL J
    | 7, _ => exact ls_ring z bs L xs N S p hb hp hL J
    | 8, _ => exact ls_drop z bs L xs N S p hb hp hL J
    | 9, _ => exact ls_told z bs L xs N S p hb hp hL J
    | 10, _ => exact ls_is z bs L xs N S p hb hp hL J
    | 11, _ => exact ls_mark z bs L xs N S p hb hp hL J
    | 12, _ => exact ls_cell z bs L xs N S p hb hp hL J
    | 13, _ => exact ls_set z bs L xs N S p hb hp hL J
    | 14, _ => exact ls_other z bs L xs N S p hb hp hL J
    | 15, _ => exact ls_turn z bs L xs N S p hb hp hL J
    | 16, _ => exact ls_without z bs L xs N S p hb hp hL J
    | 17, _ => exact ls_join z bs L xs N S p hb hp hL J
    | 18, _ => exact ls_towers z bs L xs N S p hb hp hL J
    | 19, _ => exact ls_hits z bs L xs N S p hb hp hL J
    | 20, _ => exact ls_meanHits z bs L xs N S p hb hp hL J
    | 21, _ => exact ls_alike z bs L xs N S p hb hp hL J
    | 22, _ => exact ls_stairsLike z bs L xs N S p hb hp hL J
    | 23, _ => exact ls_sum z bs L xs N S p hb hp hL J
    | 24, _ => exact ls_root z bs L xs N S p hb hp hL J
    | 25, _ => exact ls_spread z bs L xs N S p hb hp hL J
    | 26, _ => exact ls_stand z bs L xs N S p hb hp hL J
    | 27, _ => exact ls_rank z bs L xs N S p hb hp hL J
    | 28, _ => exact ls_next z bs L xs N S p hb hp hL J
    | 29, _ => exact ls_most z bs L xs N S p hb hp hL J
    | 30, _ => exact ls_cover z bs L xs N S p hb hp hL J
    | 31, _ => exact ls_need z bs L xs N S p hb hp hL J
    | 32, _ => exact ls_least z bs L xs N S p hb hp hL J
    | 33, _ => exact ls_lack z bs L xs N S p hb hp hL J
    | 34, _ => exact ls_rounds z bs L xs N S p hb hp hL J
    | 35, _ => exact ls_longRings z bs L xs N S p hb hp hL J
    | 36, _ => exact ls_ringOf z bs L xs N S p hb hp hL J
    | 37, _ => exact ls_slants z bs L xs N S p hb hp hL J
    | 38, _ => exact ls_ways z bs L xs N S p hb hp hL J
    | 39, _ => exact ls_asked z bs L xs N S p hb hp hL J
    | 40, _ => exact ls_upper z bs L xs N S p hb hp hL J
    | 41, _ => exact ls_lower z bs L xs N S p hb hp hL J
    | 42, _ => exact ls_count z bs L xs N S p hb hp hL J
    | 43, _ => exact ls_finding z bs L xs N S p hb hp hL J
    | 44, _ => exact ls_findings z bs L xs N S p hb hp hL J
    | 45, _ => exact ls_digest z bs L xs N S p hb hp hL J
    | k + 46, c => omega
  · rw [if_neg c]
    exact ⟨f, r, b, t, s, rfl, J⟩
theorem lp_end {r : ss_R} {b : ss_B} {t : ss_T} {s : md_S} {f : Nat → qm_C} (p : Nat) (h : L < p + 6) (hp : p ≤ 3078) (hL : L ≤ 3072) (J : lwI z bs r b t s f) : qm_go (qm_ex qm_M (z, bs, L, xs) 60) (z, bs, L, xs) kt_223 kk_223_18 [.val (.ref (bs)), .val (.ref (z)), .val (.ref (z + 66)), .val (.int (nI p))] [] (N, S, f) = some (some (.int 1), (N, S, f)) := by
  have J1 : f bs = qm_no := J.1
  have hc := (lw_end hL hp).mpr h
  conv => lhs; rw [kk_223_18]
  simp only [kl_223_0, kl_223_18, kl_223_232, kl_223_265, kl_223_308, kl_223_331, kl_223_394, kl_223_417, kl_223_460, kl_223_503, kl_223_546, kl_223_569, kl_223_602, kl_223_635, kl_223_668, kl_223_711, kl_223_739, kl_223_740, kl_223_771, kl_223_772, kl_223_780, kl_223_813, kl_223_846, kl_223_899, kl_223_942, kl_223_975, kl_223_1008, kl_223_1031, kl_223_1064, kl_223_1097, kl_223_1130, kl_223_1163, kl_223_1206, kl_223_1259, kl_223_1292, kl_223_1325, kl_223_1348, kl_223_1371, kl_223_1414, kl_223_1447, kl_223_1500, kl_223_1543, kl_223_1576, kl_223_1619, kl_223_1652, kl_223_1666, kl_223_1679, kl_223_1693, kl_223_1707, kl_223_1730, kl_223_1743, kl_223_1766, kl_223_1780, kl_223_1786, kk_223_1786, ge_iconst, ge_lconst, ge_null, ge_iload, ge_lload, ge_aload, ge_istore, ge_lstore, ge_astore, ge_astoreN, ge_iinc, ge_iadd, ge_isub, ge_imul, ge_iand, ge_ior, ge_ixor, ge_ishl, ge_ishr, ge_iushr, ge_ladd, ge_lsub, ge_lmul, ge_lcmp, ge_idiv, ge_irem, ge_ldiv, ge_ineg, ge_i2l, ge_l2i, ge_lneg, ge_dupI, ge_dupR, ge_popI, ge_dup2, ge_goto, ge_if_eq, ge_if_ne, ge_if_lt, ge_if_ge, ge_if_gt, ge_if_le, ge_ic_eq, ge_ic_ne, ge_ic_lt, ge_ic_ge, ge_ic_gt, ge_ic_le, ge_ifnullN, ge_ifnullR, ge_ifnnN, ge_ifnnR, ge_switch, ge_getf, ge_putfI, ge_putfL, ge_putfR, ge_iald, ge_lald, ge_aald, ge_iast, ge_last, ge_aast, ge_alen, ge_new, ge_newI, ge_newL, ge_newQ, ge_oi, ge_copy, ge_max, ge_is0, ge_is1, ge_iv1, ge_is2, ge_iv2, ge_is3, ge_iv3, ge_is4, ge_iv4, ge_is5, ge_iv5, ge_iv6, ge_ret, ge_iret, ge_zret, ge_lret, ge_aretR, ge_aretN, ge_ld0, ge_lds, ge_sum0, ge_sumI, ge_sumL, ge_sumR, ge_sumN, ge_st0, ge_st1, ge_st2, ge_su0, ge_su1, ge_su2, ge_ap1, ge_ap0, qm_gf, qm_pf, qm_ia, qm_is, qm_la, qm_ls, qm_aa, qm_al, qm_isK, qm_kv, qm_cp, List.getElem?_cons_zero, List.getElem?_cons_succ, List.length_cons, List.length_nil, List.set_cons_zero, List.set_cons_succ, decide_true, if_true, if_false, eq_self, and_true, true_and, or_true, true_or, and_false, false_and, or_false, false_or, ↓reduceIte, Nat.reduceLT, Nat.reduceLeDiff, Nat.reduceAdd, Nat.zero_lt_succ, zi_eq0, zi_01, zi_eq1, zi_or, Nat.reduceEqDiff, not_true_eq_false, not_false_eq_true, va_up_self, zi_0ne1, zi_1ne0, qm_no, J1, hc]
theorem lp_all (hb : bs < z) (hL : L ≤ 3072) : ∀ (n p : Nat) (r : ss_R) (b : ss_B) (t : ss_T) (s : md_S) (f : Nat → qm_C), L < p + 6 + 6 * n → p ≤ 3078 → lwI z bs r b t s f → ∃ f2, qm_go (qm_ex qm_M (z, bs, L, xs) 60) (z, bs, L, xs) kt_223 kk_223_18 [.val (.ref (bs)), .val (.ref (z)), .val (.ref (z + 66)), .val (.int (nI p))] [] (N, S, f) = some (some (.int 1), (N, S, f2))
  | 0, p, r, b, t, s, f, hn, hp, J => ⟨f, lp_end z bs L xs N S p (by omega) hp hL J⟩
  | n + 1, p, r, b, t, s, f, hn, hp, J => by
    by_cases c : L < p + 6
    · exact ⟨f, lp_end z bs L xs N S p c hp hL J⟩
    · have J1 : f bs = qm_no := J.1
      have hc : ¬ Int32.ofNat L - 6 < nI p := fun y => c ((lw_end hL hp).mp y)
      obtain ⟨k, hk, ek⟩ := pk_andE (xs p) (m := 63) 6 (by decide)
      have sw := sw_all k hk
      have hi : qm_in (nI p) L = true := zi_in (by omega) (by omega)
      have hi2 : (nI p).toNatClampNeg = p := nI_clamp (by omega)
      obtain ⟨f2, r2, b2, t2, s2, e2, J2⟩ := ls_any z bs L xs N S p k hb (by omega) hL J
      obtain ⟨f3, e3⟩ := lp_all hb hL n (p + 6) r2 b2 t2 s2 f2 (by omega) (by omega) J2
      refine ⟨f3, Eq.trans ?_ (Eq.trans e2 (Eq.trans ?_ e3))⟩
      · conv => lhs; rw [kk_223_18]
        simp only [ge_iconst, ge_lconst, ge_null, ge_iload, ge_lload, ge_aload, ge_istore, ge_lstore, ge_astore, ge_astoreN, ge_iinc, ge_iadd, ge_isub, ge_imul, ge_iand, ge_ior, ge_ixor, ge_ishl, ge_ishr, ge_iushr, ge_ladd, ge_lsub, ge_lmul, ge_lcmp, ge_idiv, ge_irem, ge_ldiv, ge_ineg, ge_i2l, ge_l2i, ge_lneg, ge_dupI, ge_dupR, ge_popI, ge_dup2, ge_goto, ge_if_eq, ge_if_ne, ge_if_lt, ge_if_ge, ge_if_gt, ge_if_le, ge_ic_eq, ge_ic_ne, ge_ic_lt, ge_ic_ge, ge_ic_gt, ge_ic_le, ge_ifnullN, ge_ifnullR, ge_ifnnN, ge_ifnnR, ge_switch, ge_getf, ge_putfI, ge_putfL, ge_putfR, ge_iald, ge_lald, ge_aald, ge_iast, ge_last, ge_aast, ge_alen, ge_new, ge_newI, ge_newL, ge_newQ, ge_oi, ge_copy, ge_max, ge_is0, ge_is1, ge_iv1, ge_is2, ge_iv2, ge_is3, ge_iv3, ge_is4, ge_iv4, ge_is5, ge_iv5, ge_iv6, ge_ret, ge_iret, ge_zret, ge_lret, ge_aretR, ge_aretN, ge_ld0, ge_lds, ge_sum0, ge_sumI, ge_sumL, ge_sumR, ge_sumN, ge_st0, ge_st1, ge_st2, ge_su0, ge_su1, ge_su2, ge_ap1, ge_ap0, qm_gf, qm_pf, qm_ia, qm_is, qm_la, qm_ls, qm_aa, qm_al, qm_isK, qm_kv, qm_cp, List.getElem?_cons_zero, List.getElem?_cons_succ, List.length_cons, List.length_nil, List.set_cons_zero, List.set_cons_succ, decide_true, if_true, if_false, eq_self, and_true, true_and, or_true, true_or, and_false, false_and, or_false, false_or, ↓reduceIte, Nat.reduceLT, Nat.reduceLeDiff, Nat.reduceAdd, Nat.zero_lt_succ, zi_eq0, zi_01, zi_eq1, zi_or, Nat.reduceEqDiff, not_true_eq_false, not_false_eq_true, va_up_self, zi_0ne1, zi_1ne0, qm_no, J1, hc, hi, hi2, ek, sw]
      · conv => lhs; rw [kk_223_1780]
        simp only [kl_223_0, kl_223_18, kl_223_232, kl_223_265, kl_223_308, kl_223_331, kl_223_394, kl_223_417, kl_223_460, kl_223_503, kl_223_546, kl_223_569, kl_223_602, kl_223_635, kl_223_668, kl_223_711, kl_223_739, kl_223_740, kl_223_771, kl_223_772, kl_223_780, kl_223_813, kl_223_846, kl_223_899, kl_223_942, kl_223_975, kl_223_1008, kl_223_1031, kl_223_1064, kl_223_1097, kl_223_1130, kl_223_1163, kl_223_1206, kl_223_1259, kl_223_1292, kl_223_1325, kl_223_1348, kl_223_1371, kl_223_1414, kl_223_1447, kl_223_1500, kl_223_1543, kl_223_1576, kl_223_1619, kl_223_1652, kl_223_1666, kl_223_1679, kl_223_1693, kl_223_1707, kl_223_1730, kl_223_1743, kl_223_1766, kl_223_1780, kl_223_1786, ge_iconst, ge_lconst, ge_null, ge_iload, ge_lload, ge_aload, ge_istore, ge_lstore, ge_astore, ge_astoreN, ge_iinc, ge_iadd, ge_isub, ge_imul, ge_iand, ge_ior, ge_ixor, ge_ishl, ge_ishr, ge_iushr, ge_ladd, ge_lsub, ge_lmul, ge_lcmp, ge_idiv, ge_irem, ge_ldiv, ge_ineg, ge_i2l, ge_l2i, ge_lneg, ge_dupI, ge_dupR, ge_popI, ge_dup2, ge_goto, ge_if_eq, ge_if_ne, ge_if_lt, ge_if_ge, ge_if_gt, ge_if_le, ge_ic_eq, ge_ic_ne, ge_ic_lt, ge_ic_ge, ge_ic_gt, ge_ic_le, ge_ifnullN, ge_ifnullR, ge_ifnnN, ge_ifnnR, ge_switch, ge_getf, ge_putfI, ge_putfL, ge_putfR, ge_iald, ge_lald, ge_aald, ge_iast, ge_last, ge_aast, ge_alen, ge_new, ge_newI, ge_newL, ge_newQ, ge_oi, ge_copy, ge_max, ge_is0, ge_is1, ge_iv1, ge_is2, ge_iv2, ge_is3, ge_iv3, ge_is4, ge_iv4, ge_is5, ge_iv5, ge_iv6, ge_ret, ge_iret, ge_zret, ge_lret, ge_aretR, ge_aretN, ge_ld0, ge_lds, ge_sum0, ge_sumI, ge_sumL, ge_sumR, ge_sumN, ge_st0, ge_st1, ge_st2, ge_su0, ge_su1, ge_su2, ge_ap1, ge_ap0, qm_gf, qm_pf, qm_ia, qm_is, qm_la, qm_ls, qm_aa, qm_al, qm_isK, qm_kv, qm_cp, List.getElem?_cons_zero, List.getElem?_cons_succ, List.length_cons, List.length_nil, List.set_cons_zero, List.set_cons_succ, decide_true, if_true, if_false, eq_self, and_true, true_and, or_true, true_or, and_false, false_and, or_false, false_or, ↓reduceIte, Nat.reduceLT, Nat.reduceLeDiff, Nat.reduceAdd, Nat.zero_lt_succ, zi_eq0, zi_01, zi_eq1, zi_or, Nat.reduceEqDiff, not_true_eq_false, not_false_eq_true, va_up_self, zi_0ne1, zi_1ne0, show nI p + 6 = nI (p + 6) from nI_add p 6]
end LP
theorem si_0 : ss_I r0 b0 := ⟨fun k _ => Or.inl rfl, fun k _ => ⟨(by decide : (1 : Nat) ≤ 6), (by decide : (1 : Nat) ≤ 6), fun h => absurd rfl h⟩⟩
theorem lw_pure : lw_Pure := by
  intro z bs L xs hL hb
  obtain ⟨f1, e1, k1, a1⟩ := tb_init (z, bs, L, xs) 58 z (va_up (fun _ => qm_no) z (.inr (8, [.null, .null, .null, .null, .null, .null, .null, .null, .null, .null, .null, .long 0, .int 0, .long 0, .long 0, .int 0]))) rfl (va_up_self _ _ _)
  obtain ⟨g, s, e2, R2, a2⟩ := md_init (z, bs, L, xs) 59 z (va_up f1 (z + 66) (.inr (9, [.int 0, .null, .int 0, .long 0, .long 0, .long 0, .null, .null, .null, .null, .null, .null, .null, .null, .null, .null, .null, .null, .null, .null, .null, .int 0, .null, .int 0, .int 0, .int 0, .int 0, .int 0, .long 0, .long 0, .int 0, .int 0, .int 0, .null]))) rfl (va_up_self _ _ _)
  have hg : ∀ j, j < z + 66 → g j = f1 j := fun j hj => by rw [a2 j hj, va_up_ne _ _ (by omega)]
  have J : lwI z bs r0 b0 t0 s (mh (z + 66) g s) := by
    refine ⟨?_, tk_move k1 (fun j _ hj => by rw [mh_lt _ _ hj, hg j hj]) (fun _ _ => rfl), (mh_mh _ _ _).symm, R2, si_0⟩
    rw [mh_lt _ _ (by omega), hg bs (by omega), a1 bs hb, va_up_ne _ _ (by omega)]
  obtain ⟨f3, e3⟩ := lp_all z bs L xs 85 9881 hb hL 512 0 r0 b0 t0 s (mh (z + 66) g s) (by omega) (by omega) J
  refine ⟨(85, 9881, f3), ?_, (by decide : 85 ≤ 600000), (by decide : 9881 ≤ 7302250)⟩
  rw [← e3, show qm_ent [.ref bs] 4 = [.val (.ref (bs)), .unset, .unset, .unset] from rfl]
  conv => lhs; rw [kk_223_0]
  simp only [ge_iconst, ge_lconst, ge_null, ge_iload, ge_lload, ge_aload, ge_istore, ge_lstore, ge_astore, ge_astoreN, ge_iinc, ge_iadd, ge_isub, ge_imul, ge_iand, ge_ior, ge_ixor, ge_ishl, ge_ishr, ge_iushr, ge_ladd, ge_lsub, ge_lmul, ge_lcmp, ge_idiv, ge_irem, ge_ldiv, ge_ineg, ge_i2l, ge_l2i, ge_lneg, ge_dupI, ge_dupR, ge_popI, ge_dup2, ge_goto, ge_if_eq, ge_if_ne, ge_if_lt, ge_if_ge, ge_if_gt, ge_if_le, ge_ic_eq, ge_ic_ne, ge_ic_lt, ge_ic_ge, ge_ic_gt, ge_ic_le, ge_ifnullN, ge_ifnullR, ge_ifnnN, ge_ifnnR, ge_switch, ge_getf, ge_putfI, ge_putfL, ge_putfR, ge_iald, ge_lald, ge_aald, ge_iast, ge_last, ge_aast, ge_alen, ge_new, ge_newI, ge_newL, ge_newQ, ge_oi, ge_copy, ge_max, ge_is0, ge_is1, ge_iv1, ge_is2, ge_iv2, ge_is3, ge_iv3, ge_is4, ge_iv4, ge_is5, ge_iv5, ge_iv6, ge_ret, ge_iret, ge_zret, ge_lret, ge_aretR, ge_aretN, ge_ld0, ge_lds, ge_sum0, ge_sumI, ge_sumL, ge_sumR, ge_sumN, ge_st0, ge_st1, ge_st2, ge_su0, ge_su1, ge_su2, ge_ap1, ge_ap0, qm_gf, qm_pf, qm_ia, qm_is, qm_la, qm_ls, qm_aa, qm_al, qm_isK, qm_kv, qm_cp, List.getElem?_cons_zero, List.getElem?_cons_succ, List.length_cons, List.length_nil, List.set_cons_zero, List.set_cons_succ, decide_true, if_true, if_false, eq_self, and_true, true_and, or_true, true_or, and_false, false_and, or_false, false_or, ↓reduceIte, Nat.reduceLT, Nat.reduceLeDiff, Nat.reduceAdd, Nat.zero_lt_succ, zi_eq0, zi_01, zi_eq1, zi_or, Nat.reduceEqDiff, not_true_eq_false, not_false_eq_true, va_up_self, zi_0ne1, zi_1ne0, qm_mk, qm_def, Nat.add_zero, Nat.zero_add, e1, e2]
  rfl
