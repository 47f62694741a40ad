/-! the class's draft is kept; other -/
theorem zf_cc_ag {u v : Nat → Int32} (h : ag 6 u v) : ∀ k, k ≤ 6 → zf_cc u k = zf_cc v k
  | 0, _ => rfl
  | k + 1, hk => by rw [zf_cc, zf_cc, h k (by omega), zf_cc_ag h k (by omega)]
/-- the cells of a board that is made of G: n rows -/
def zf_mk (G : Nat → Int32) (n : Nat) : Nat → Int32 := fun i => if i < n then G i else 0
theorem zf_mk_ag (v0 G : Nat → Int32) (n : Nat) : ag 6 (zf_put (zf_fill v0 0 6) G n) (zf_mk G n) := by
  intro i hi
  unfold zf_put zf_mk zf_fill
  by_cases c : i < n
  · simp only [c, ↓reduceIte]
  · simp only [c, hi, ↓reduceIte]
/-- a board comes to place l -/
def ss_put (b : ss_B) (l : Nat) (kd : Int32) (hh ww : Nat) (w : Nat → Int32) : ss_B := (va_up b.1 l kd, va_up b.2.1 l hh, va_up b.2.2.1 l ww, va_up b.2.2.2 l (zf_put (b.2.2.2 l) w 6))
section TB8
variable (X : qm_X) (d N S : Nat)
variable {z : Nat} {g f : Nat → qm_C} {r : ss_R} {b : ss_B} {t : ss_T}
theorem bd_takeAllX (f : Nat → qm_C) {a q a1 q1 : Nat} {kd ht wd kd1 ht1 wd1 : Int32} {p p1 : Nat → Int32} (hr : f a = .inr (1, [.int kd, .int ht, .int wd, .ref q])) (hq : f q = .inl (0, 6, .inl p)) (hr1 : f a1 = .inr (1, [.int kd1, .int ht1, .int wd1, .ref q1])) (hq1 : f q1 = .inl (0, 6, .inl p1)) (e1 : q ≠ a) (e2 : a1 ≠ a) (e3 : a1 ≠ q) (e4 : q1 ≠ a) (e5 : q1 ≠ q) (e6 : a ≠ q) : qm_ex qm_M X (d + 3) 11 [.ref a, .ref a1] (N, S, f) = some (none, (N, S, va_up (va_up f a (.inr (1, [.int kd1, .int ht1, .int wd1, .ref q]))) q (.inl (0, 6, .inl (va_cpy p1 (zf_fill p 0 6) 0 0 6))))) := by
  have c6 : (6 : Int32).toNatClampNeg = 6 := by decide
  have c0 : (0 : Int32).toNatClampNeg = 0 := by decide
  have l0 : ¬ (0 : Int32) < 0 := by decide
  have l6 : ¬ (6 : Int32) < 0 := by decide
  simp only [ke_11, kk_11_0, kl_11_0, ge_iconst, ge_lconst, ge_null, ge_iload, ge_lload, ge_aload, ge_istore, ge_lstore, ge_astore, ge_astoreN, ge_iinc, ge_iadd, ge_isub, ge_imul, ge_iand, ge_ior, ge_ixor, ge_ishl, ge_ishr, ge_iushr, ge_ladd, ge_lsub, ge_lmul, ge_lcmp, ge_idiv, ge_irem, ge_ldiv, ge_ineg, ge_i2l, ge_l2i, ge_lneg, ge_dupI, ge_dupR, ge_popI, ge_dup2, ge_goto, ge_if_eq, ge_if_ne, ge_if_lt, ge_if_ge, ge_if_gt, ge_if_le, ge_ic_eq, ge_ic_ne, ge_ic_lt, ge_ic_ge, ge_ic_gt, ge_ic_le, ge_ifnullN, ge_ifnullR, ge_ifnnN, ge_ifnnR, ge_switch, ge_getf, ge_putfI, ge_putfL, ge_putfR, ge_iald, ge_lald, ge_aald, ge_iast, ge_last, ge_aast, ge_alen, ge_new, ge_newI, ge_newL, ge_newQ, ge_oi, ge_copy, ge_max, ge_is0, ge_is1, ge_iv1, ge_is2, ge_iv2, ge_is3, ge_iv3, ge_is4, ge_iv4, ge_is5, ge_iv5, ge_iv6, ge_ret, ge_iret, ge_zret, ge_lret, ge_aretR, ge_aretN, ge_ld0, ge_lds, ge_sum0, ge_sumI, ge_sumL, ge_sumR, ge_sumN, ge_st0, ge_st1, ge_st2, ge_su0, ge_su1, ge_su2, ge_ap1, ge_ap0, qm_gf, qm_pf, qm_ia, qm_is, qm_la, qm_ls, qm_aa, qm_al, qm_isK, qm_kv, qm_cp, List.getElem?_cons_zero, List.getElem?_cons_succ, List.length_cons, List.length_nil, List.set_cons_zero, List.set_cons_succ, decide_true, if_true, if_false, eq_self, and_true, true_and, or_true, true_or, and_false, false_and, or_false, false_or, ↓reduceIte, Nat.reduceLT, Nat.reduceLeDiff, Nat.reduceAdd, Nat.zero_lt_succ, zi_eq0, zi_01, zi_eq1, zi_or, Nat.reduceEqDiff, not_true_eq_false, not_false_eq_true, va_up_self, zi_0ne1, zi_1ne0, hr, hr1, bd_begin X d N S f hr hq e1, va_up_ne, ne_eq, e1, e2, e3, e4, e5, e6, hq1, va_up_up, c6, c0, l0, l6, Nat.le_refl]
theorem zf_cpy {p v w : Nat → Int32} (h : ag 6 v w) : va_cpy v (zf_fill p 0 6) 0 0 6 = zf_put p w 6 := by
  funext j
  unfold va_cpy zf_fill zf_put
  by_cases c : j < 6
  · simp only [c, Nat.zero_le, true_and, Nat.zero_add, Nat.sub_zero, ↓reduceIte]
    exact h j c
  · simp only [c, Nat.zero_le, true_and, Nat.zero_add, Nat.sub_zero, ↓reduceIte]
theorem tk_put (l : Nat) (kd : Int32) (hh ww : Nat) (w : Nat → Int32) (hl : l < 12) (h : TBk z g r b t f) : TBk z g r (ss_put b l kd hh ww w) t (va_up (va_up f (z + 42 + 2 * l) (.inr (1, [.int kd, .int (nI hh), .int (nI ww), .ref (z + 43 + 2 * l)]))) (z + 43 + 2 * l) (.inl (0, 6, .inl (zf_put (b.2.2.2 l) w 6)))) := tk_bc l (zf_put (b.2.2.2 l) w 6) hl (tk_bo l kd hh ww hl h)
theorem tb_keep (h : TBk z g r b t f) {l hh ww : Nat} {kd : Int32} {v w : Nat → Int32} (hl : l < 12) (hn : hh ≤ 6) (h4 : f (z + 4) = .inr (1, [.int kd, .int (nI hh), .int (nI ww), .ref (z + 5)])) (h5 : f (z + 5) = .inl (0, 6, .inl v)) (hv : ag 6 v w) : TBo X N S (d + 4) z g 124 [.ref z, .int (nI l)] f (.int (zf_cc w hh), r, ss_put b l kd hh ww w, t) := by
  have h0 := tk_0 h
  obtain ⟨G, hG, h2⟩ := h.1 2 (by omega)
  have hg := hG l hl
  have hr := tk_brd h hl
  have hq := tk_cl h hl
  have hi : qm_in (nI l) 12 = true := zi_in hl (by omega)
  have hkk : (nI l).toNatClampNeg = l := nI_clamp (by omega)
  have ht := bd_takeAllX X d N S f hr hq h4 h5 (by omega) (by omega) (by omega) (by omega) (by omega) (by omega)
  rw [zf_cpy hv] at ht
  have e1 : ¬ z = z + 43 + 2 * l := by omega
  have e2 : ¬ z = z + 42 + 2 * l := by omega
  have e3 : ¬ z + 4 = z + 43 + 2 * l := by omega
  have e4 : ¬ z + 4 = z + 42 + 2 * l := by omega
  have hc := bd_cellCount X (d + 1) N S (va_up (va_up f (z + 42 + 2 * l) (.inr (1, [.int kd, .int (nI hh), .int (nI ww), .ref (z + 43 + 2 * l)]))) (z + 43 + 2 * l) (.inl (0, 6, .inl (zf_put (b.2.2.2 l) w 6)))) (a := z + 4) (q := z + 5) (kd := kd) (wd := nI ww) (hh := hh) (p := v) (by rw [va_up_ne _ _ e3, va_up_ne _ _ e4]; exact h4) (by rw [va_up_ne _ _ (by omega), va_up_ne _ _ (by omega)]; exact h5) hn
  rw [zf_cc_ag hv hh hn] at hc
  refine ⟨_, ?_, tk_put l kd hh ww w hl h⟩
  simp only [ke_124, kk_124_0, kl_124_0, ge_iconst, ge_lconst, ge_null, ge_iload, ge_lload, ge_aload, ge_istore, ge_lstore, ge_astore, ge_astoreN, ge_iinc, ge_iadd, ge_isub, ge_imul, ge_iand, ge_ior, ge_ixor, ge_ishl, ge_ishr, ge_iushr, ge_ladd, ge_lsub, ge_lmul, ge_lcmp, ge_idiv, ge_irem, ge_ldiv, ge_ineg, ge_i2l, ge_l2i, ge_lneg, ge_dupI, ge_dupR, ge_popI, ge_dup2, ge_goto, ge_if_eq, ge_if_ne, ge_if_lt, ge_if_ge, ge_if_gt, ge_if_le, ge_ic_eq, ge_ic_ne, ge_ic_lt, ge_ic_ge, ge_ic_gt, ge_ic_le, ge_ifnullN, ge_ifnullR, ge_ifnnN, ge_ifnnR, ge_switch, ge_getf, ge_putfI, ge_putfL, ge_putfR, ge_iald, ge_lald, ge_aald, ge_iast, ge_last, ge_aast, ge_alen, ge_new, ge_newI, ge_newL, ge_newQ, ge_oi, ge_copy, ge_max, ge_is0, ge_is1, ge_iv1, ge_is2, ge_iv2, ge_is3, ge_iv3, ge_is4, ge_iv4, ge_is5, ge_iv5, ge_iv6, ge_ret, ge_iret, ge_zret, ge_lret, ge_aretR, ge_aretN, ge_ld0, ge_lds, ge_sum0, ge_sumI, ge_sumL, ge_sumR, ge_sumN, ge_st0, ge_st1, ge_st2, ge_su0, ge_su1, ge_su2, ge_ap1, ge_ap0, qm_gf, qm_pf, qm_ia, qm_is, qm_la, qm_ls, qm_aa, qm_al, qm_isK, qm_kv, qm_cp, List.getElem?_cons_zero, List.getElem?_cons_succ, List.length_cons, List.length_nil, List.set_cons_zero, List.set_cons_succ, decide_true, if_true, if_false, eq_self, and_true, true_and, or_true, true_or, and_false, false_and, or_false, false_or, ↓reduceIte, Nat.reduceLT, Nat.reduceLeDiff, Nat.reduceAdd, Nat.zero_lt_succ, zi_eq0, zi_01, zi_eq1, zi_or, Nat.reduceEqDiff, not_true_eq_false, not_false_eq_true, va_up_self, zi_0ne1, zi_1ne0, h0, h2, hi, hkk, hg, va_rf, hr, ht, va_up_ne, ne_eq, e1, e2, e3, e4, h4, hc]
/-- the draft begins -/
theorem tb_begin (h : TBk z g r b t f) (kd y w : Int32) : ∃ v0, qm_ex qm_M X (d + 2) 10 [.ref (z + 4), .int kd, .int y, .int w] (N, S, f) = some (none, (N, S, va_up (va_up f (z + 4) (.inr (1, [.int kd, .int y, .int w, .ref (z + 5)]))) (z + 5) (.inl (0, 6, .inl (zf_fill v0 0 6))))) ∧ TBk z g r b t (va_up (va_up f (z + 4) (.inr (1, [.int kd, .int y, .int w, .ref (z + 5)]))) (z + 5) (.inl (0, 6, .inl (zf_fill v0 0 6)))) := by
  obtain ⟨x1, y1, w1, h4⟩ := h.1 4 (by omega)
  obtain ⟨v0, h5⟩ := h.1 5 (by omega)
  exact ⟨v0, bd_begin X d N S f h4 h5 (by omega) kd y w, tk_s 5 (tk_s 4 h (by omega) ⟨_, _, _, rfl⟩) (by omega) ⟨_, rfl⟩⟩
def ot_G (b : ss_B) (k : Nat) : Nat → Int32 := fun i => ((1 : Int32) <<< (nI (b.2.2.1 k) &&& 31) - 1) &&& (b.2.2.2 k i ^^^ (-1))
theorem ot_loop {k : Nat} {y : Int32} (hk : k < 12) (hn : b.2.1 k ≤ 6) (v : Nat → Int32) : ∀ m i (f : Nat → qm_C), i + m = b.2.1 k → TBk z g r b t f → f (z + 4) = .inr (1, [.int 0, .int (nI (b.2.1 k)), .int (nI (b.2.2.1 k)), .ref (z + 5)]) → f (z + 5) = .inl (0, 6, .inl (zf_put v (ot_G b k) i)) → ∃ f', qm_go (qm_ex qm_M X (d + 1)) X kt_86 kk_86_51 [.val (.ref z), .val (.int (nI k)), .val (.int y), .val (.ref (z + 42 + 2 * k)), .val (.int (nI i))] [] (N, S, f) = qm_go (qm_ex qm_M X (d + 1)) X kt_86 kk_86_90 [.val (.ref z), .val (.int (nI k)), .val (.int y), .val (.ref (z + 42 + 2 * k)), .val (.int (nI (b.2.1 k)))] [] (N, S, f') ∧ TBk z g r b t f' ∧ f' (z + 4) = .inr (1, [.int 0, .int (nI (b.2.1 k)), .int (nI (b.2.2.1 k)), .ref (z + 5)]) ∧ f' (z + 5) = .inl (0, 6, .inl (zf_put v (ot_G b k) (b.2.1 k)))
  | 0, i, f, ei, h, h4, h5 => by
    have e' : i = b.2.1 k := by omega
    subst e'
    have hc : nI (b.2.1 k) ≤ nI (b.2.1 k) := nI_le (Nat.le_refl _) (by omega)
    have hr := tk_brd h hk
    refine ⟨f, ?_, h, h4, h5⟩
    conv => lhs; rw [kk_86_51]
    simp only [kl_86_0, kl_86_14, kl_86_16, kl_86_32, kl_86_51, kl_86_90, ge_iconst, ge_lconst, ge_null, ge_iload, ge_lload, ge_aload, ge_istore, ge_lstore, ge_astore, ge_astoreN, ge_iinc, ge_iadd, ge_isub, ge_imul, ge_iand, ge_ior, ge_ixor, ge_ishl, ge_ishr, ge_iushr, ge_ladd, ge_lsub, ge_lmul, ge_lcmp, ge_idiv, ge_irem, ge_ldiv, ge_ineg, ge_i2l, ge_l2i, ge_lneg, ge_dupI, ge_dupR, ge_popI, ge_dup2, ge_goto, ge_if_eq, ge_if_ne, ge_if_lt, ge_if_ge, ge_if_gt, ge_if_le, ge_ic_eq, ge_ic_ne, ge_ic_lt, ge_ic_ge, ge_ic_gt, ge_ic_le, ge_ifnullN, ge_ifnullR, ge_ifnnN, ge_ifnnR, ge_switch, ge_getf, ge_putfI, ge_putfL, ge_putfR, ge_iald, ge_lald, ge_aald, ge_iast, ge_last, ge_aast, ge_alen, ge_new, ge_newI, ge_newL, ge_newQ, ge_oi, ge_copy, ge_max, ge_is0, ge_is1, ge_iv1, ge_is2, ge_iv2, ge_is3, ge_iv3, ge_is4, ge_iv4, ge_is5, ge_iv5, ge_iv6, ge_ret, ge_iret, ge_zret, ge_lret, ge_aretR, ge_aretN, ge_ld0, ge_lds, ge_sum0, ge_sumI, ge_sumL, ge_sumR, ge_sumN, ge_st0, ge_st1, ge_st2, ge_su0, ge_su1, ge_su2, ge_ap1, ge_ap0, qm_gf, qm_pf, qm_ia, qm_is, qm_la, qm_ls, qm_aa, qm_al, qm_isK, qm_kv, qm_cp, List.getElem?_cons_zero, List.getElem?_cons_succ, List.length_cons, List.length_nil, List.set_cons_zero, List.set_cons_succ, decide_true, if_true, if_false, eq_self, and_true, true_and, or_true, true_or, and_false, false_and, or_false, false_or, ↓reduceIte, Nat.reduceLT, Nat.reduceLeDiff, Nat.reduceAdd, Nat.zero_lt_succ, zi_eq0, zi_01, zi_eq1, zi_or, Nat.reduceEqDiff, not_true_eq_false, not_false_eq_true, va_up_self, zi_0ne1, zi_1ne0, hr, hc]
  | m + 1, i, f, ei, h, h4, h5 => by
    have hc : ¬ nI (b.2.1 k) ≤ nI i := nI_ge (by omega) (by omega)
    have h0 := tk_0 h
    have hr := tk_brd h hk
    have hq := tk_cl h hk
    have hi : qm_in (nI i) 6 = true := zi_in (by omega) (by omega)
    have hkk : (nI i).toNatClampNeg = i := nI_clamp (by omega)
    have hac := bd_allColumns X d N S f hr
    obtain ⟨f', e1, e2⟩ := ot_loop hk hn v m (i + 1) (va_up f (z + 5) (.inl (0, 6, .inl (zf_put v (ot_G b k) (i + 1))))) (by omega) (tk_s 5 h (by omega) ⟨_, rfl⟩) (by rw [va_up_ne _ _ (by omega)]; exact h4) (va_up_self _ _ _)
    refine ⟨f', ?_, e2⟩
    rw [← e1, ← zf_put_s]
    conv => lhs; rw [kk_86_51]
    simp only [kl_86_0, kl_86_14, kl_86_16, kl_86_32, kl_86_51, kl_86_90, ge_iconst, ge_lconst, ge_null, ge_iload, ge_lload, ge_aload, ge_istore, ge_lstore, ge_astore, ge_astoreN, ge_iinc, ge_iadd, ge_isub, ge_imul, ge_iand, ge_ior, ge_ixor, ge_ishl, ge_ishr, ge_iushr, ge_ladd, ge_lsub, ge_lmul, ge_lcmp, ge_idiv, ge_irem, ge_ldiv, ge_ineg, ge_i2l, ge_l2i, ge_lneg, ge_dupI, ge_dupR, ge_popI, ge_dup2, ge_goto, ge_if_eq, ge_if_ne, ge_if_lt, ge_if_ge, ge_if_gt, ge_if_le, ge_ic_eq, ge_ic_ne, ge_ic_lt, ge_ic_ge, ge_ic_gt, ge_ic_le, ge_ifnullN, ge_ifnullR, ge_ifnnN, ge_ifnnR, ge_switch, ge_getf, ge_putfI, ge_putfL, ge_putfR, ge_iald, ge_lald, ge_aald, ge_iast, ge_last, ge_aast, ge_alen, ge_new, ge_newI, ge_newL, ge_newQ, ge_oi, ge_copy, ge_max, ge_is0, ge_is1, ge_iv1, ge_is2, ge_iv2, ge_is3, ge_iv3, ge_is4, ge_iv4, ge_is5, ge_iv5, ge_iv6, ge_ret, ge_iret, ge_zret, ge_lret, ge_aretR, ge_aretN, ge_ld0, ge_lds, ge_sum0, ge_sumI, ge_sumL, ge_sumR, ge_sumN, ge_st0, ge_st1, ge_st2, ge_su0, ge_su1, ge_su2, ge_ap1, ge_ap0, qm_gf, qm_pf, qm_ia, qm_is, qm_la, qm_ls, qm_aa, qm_al, qm_isK, qm_kv, qm_cp, List.getElem?_cons_zero, List.getElem?_cons_succ, List.length_cons, List.length_nil, List.set_cons_zero, List.set_cons_succ, decide_true, if_true, if_false, eq_self, and_true, true_and, or_true, true_or, and_false, false_and, or_false, false_or, ↓reduceIte, Nat.reduceLT, Nat.reduceLeDiff, Nat.reduceAdd, Nat.zero_lt_succ, zi_eq0, zi_01, zi_eq1, zi_or, Nat.reduceEqDiff, not_true_eq_false, not_false_eq_true, va_up_self, zi_0ne1, zi_1ne0, h0, hr, hc, h4, h5, hac, hq, hi, hkk, nI_1, ot_G]
def op_other (x y : Int32) (r : ss_R) (b : ss_B) (t : ss_T) : ss_A := if ¬ (0 ≤ x ∧ x ≤ 11) ∨ ¬ (0 ≤ y ∧ y ≤ 11) then ss_bad r b t else if b.1 x.toNatClampNeg = -1 then ss_no r b t 1 else (.int (zf_cc (zf_mk (ot_G b x.toNatClampNeg) (b.2.1 x.toNatClampNeg)) (b.2.1 x.toNatClampNeg)), r, ss_put b y.toNatClampNeg 0 (b.2.1 x.toNatClampNeg) (b.2.2.1 x.toNatClampNeg) (zf_mk (ot_G b x.toNatClampNeg) (b.2.1 x.toNatClampNeg)), t)
theorem tb_other (h : TBk z g r b t f) (I : ss_I r b) (x y : Int32) : TBo X N S (d + 5) z g 86 [.ref z, .int x, .int y] f (op_other x y r b t) := by
  have h0 := tk_0 h
  rw [op_other]
  by_cases h1 : 0 ≤ x ∧ x ≤ 11
  · by_cases h2 : 0 ≤ y ∧ y ≤ 11
    · rw [if_neg (not_or.mpr ⟨not_not_intro h1, not_not_intro h2⟩)]
      obtain ⟨k, hk, ek⟩ := nI_of2 (x := x) (M := 11) (n := 11) (by decide) (Int32.not_lt.mpr h1.1) h1.2
      obtain ⟨l, hl, el⟩ := nI_of2 (x := y) (M := 11) (n := 11) (by decide) (Int32.not_lt.mpr h2.1) h2.2
      subst ek
      subst el
      rw [nI_clamp (show k < 2 ^ 31 by omega), nI_clamp (show l < 2 ^ 31 by omega)]
      have hat := tb_boardAt X (d + 1) N S h (k := k) (by omega)
      by_cases h3 : b.1 k = -1
      · rw [if_pos h3]
        rw [if_pos h3] at hat
        obtain ⟨f1, e1, k1⟩ := tb_refused X (d + 3) N S h 1 (by decide)
        refine ⟨f1, ?_, k1⟩
        simp only [ke_86, kk_86_0, kk_86_14, kk_86_16, kk_86_32, kk_86_51, kk_86_90, kl_86_0, kl_86_14, kl_86_16, kl_86_32, kl_86_51, kl_86_90, ge_iconst, ge_lconst, ge_null, ge_iload, ge_lload, ge_aload, ge_istore, ge_lstore, ge_astore, ge_astoreN, ge_iinc, ge_iadd, ge_isub, ge_imul, ge_iand, ge_ior, ge_ixor, ge_ishl, ge_ishr, ge_iushr, ge_ladd, ge_lsub, ge_lmul, ge_lcmp, ge_idiv, ge_irem, ge_ldiv, ge_ineg, ge_i2l, ge_l2i, ge_lneg, ge_dupI, ge_dupR, ge_popI, ge_dup2, ge_goto, ge_if_eq, ge_if_ne, ge_if_lt, ge_if_ge, ge_if_gt, ge_if_le, ge_ic_eq, ge_ic_ne, ge_ic_lt, ge_ic_ge, ge_ic_gt, ge_ic_le, ge_ifnullN, ge_ifnullR, ge_ifnnN, ge_ifnnR, ge_switch, ge_getf, ge_putfI, ge_putfL, ge_putfR, ge_iald, ge_lald, ge_aald, ge_iast, ge_last, ge_aast, ge_alen, ge_new, ge_newI, ge_newL, ge_newQ, ge_oi, ge_copy, ge_max, ge_is0, ge_is1, ge_iv1, ge_is2, ge_iv2, ge_is3, ge_iv3, ge_is4, ge_iv4, ge_is5, ge_iv5, ge_iv6, ge_ret, ge_iret, ge_zret, ge_lret, ge_aretR, ge_aretN, ge_ld0, ge_lds, ge_sum0, ge_sumI, ge_sumL, ge_sumR, ge_sumN, ge_st0, ge_st1, ge_st2, ge_su0, ge_su1, ge_su2, ge_ap1, ge_ap0, qm_gf, qm_pf, qm_ia, qm_is, qm_la, qm_ls, qm_aa, qm_al, qm_isK, qm_kv, qm_cp, List.getElem?_cons_zero, List.getElem?_cons_succ, List.length_cons, List.length_nil, List.set_cons_zero, List.set_cons_succ, decide_true, if_true, if_false, eq_self, and_true, true_and, or_true, true_or, and_false, false_and, or_false, false_or, ↓reduceIte, Nat.reduceLT, Nat.reduceLeDiff, Nat.reduceAdd, Nat.zero_lt_succ, zi_eq0, zi_01, zi_eq1, zi_or, Nat.reduceEqDiff, not_true_eq_false, not_false_eq_true, va_up_self, zi_0ne1, zi_1ne0, tb_isBoardNumber, h1, h2, h0, hat, e1, ss_no]
      · rw [if_neg h3]
        rw [if_neg h3] at hat
        have hI := I.2 k (by omega)
        have hr := tk_brd h (k := k) (by omega)
        obtain ⟨x4, y4, w4, h4⟩ := h.1 4 (by omega)
        obtain ⟨v0, eb, kb⟩ := tb_begin X (d + 2) N S h 0 (nI (b.2.1 k)) (nI (b.2.2.1 k))
        obtain ⟨f2, e2, k2, j4, j5⟩ := ot_loop X (d + 3) N S (y := nI l) (k := k) (by omega) hI.1 (zf_fill v0 0 6) (b.2.1 k) 0 _ (by omega) kb (by rw [va_up_ne _ _ (by omega)]; exact va_up_self f (z + 4) _) (by rw [zf_put_0]; exact va_up_self _ _ _)
        obtain ⟨f3, e3, k3⟩ := tb_keep X d N S k2 (l := l) (by omega) hI.1 j4 j5 (zf_mk_ag v0 (ot_G b k) (b.2.1 k))
        have m0 := tk_0 k2
        refine ⟨f3, ?_, k3⟩
        have hgo : qm_ex qm_M X (d + 5) 86 [.ref z, .int (nI k), .int (nI l)] (N, S, f) = qm_go (qm_ex qm_M X (d + 4)) X kt_86 kk_86_51 [.val (.ref z), .val (.int (nI k)), .val (.int (nI l)), .val (.ref (z + 42 + 2 * k)), .val (.int (nI 0))] [] (N, S, va_up (va_up f (z + 4) (.inr (1, [.int 0, .int (nI (b.2.1 k)), .int (nI (b.2.2.1 k)), .ref (z + 5)]))) (z + 5) (.inl (0, 6, .inl (zf_fill v0 0 6)))) := by
          simp only [ke_86, kk_86_0, kk_86_16, kk_86_32, kl_86_0, kl_86_14, kl_86_16, kl_86_32, kl_86_51, kl_86_90, ge_iconst, ge_lconst, ge_null, ge_iload, ge_lload, ge_aload, ge_istore, ge_lstore, ge_astore, ge_astoreN, ge_iinc, ge_iadd, ge_isub, ge_imul, ge_iand, ge_ior, ge_ixor, ge_ishl, ge_ishr, ge_iushr, ge_ladd, ge_lsub, ge_lmul, ge_lcmp, ge_idiv, ge_irem, ge_ldiv, ge_ineg, ge_i2l, ge_l2i, ge_lneg, ge_dupI, ge_dupR, ge_popI, ge_dup2, ge_goto, ge_if_eq, ge_if_ne, ge_if_lt, ge_if_ge, ge_if_gt, ge_if_le, ge_ic_eq, ge_ic_ne, ge_ic_lt, ge_ic_ge, ge_ic_gt, ge_ic_le, ge_ifnullN, ge_ifnullR, ge_ifnnN, ge_ifnnR, ge_switch, ge_getf, ge_putfI, ge_putfL, ge_putfR, ge_iald, ge_lald, ge_aald, ge_iast, ge_last, ge_aast, ge_alen, ge_new, ge_newI, ge_newL, ge_newQ, ge_oi, ge_copy, ge_max, ge_is0, ge_is1, ge_iv1, ge_is2, ge_iv2, ge_is3, ge_iv3, ge_is4, ge_iv4, ge_is5, ge_iv5, ge_iv6, ge_ret, ge_iret, ge_zret, ge_lret, ge_aretR, ge_aretN, ge_ld0, ge_lds, ge_sum0, ge_sumI, ge_sumL, ge_sumR, ge_sumN, ge_st0, ge_st1, ge_st2, ge_su0, ge_su1, ge_su2, ge_ap1, ge_ap0, qm_gf, qm_pf, qm_ia, qm_is, qm_la, qm_ls, qm_aa, qm_al, qm_isK, qm_kv, qm_cp, List.getElem?_cons_zero, List.getElem?_cons_succ, List.length_cons, List.length_nil, List.set_cons_zero, List.set_cons_succ, decide_true, if_true, if_false, eq_self, and_true, true_and, or_true, true_or, and_false, false_and, or_false, false_or, ↓reduceIte, Nat.reduceLT, Nat.reduceLeDiff, Nat.reduceAdd, Nat.zero_lt_succ, zi_eq0, zi_01, zi_eq1, zi_or, Nat.reduceEqDiff, not_true_eq_false, not_false_eq_true, va_up_self, zi_0ne1, zi_1ne0, tb_isBoardNumber, h1, h2, h0, hat, hr, h4, eb]
          rfl
        rw [hgo, e2]
        simp only [kk_86_90, kl_86_0, kl_86_14, kl_86_16, kl_86_32, kl_86_51, kl_86_90, ge_iconst, ge_lconst, ge_null, ge_iload, ge_lload, ge_aload, ge_istore, ge_lstore, ge_astore, ge_astoreN, ge_iinc, ge_iadd, ge_isub, ge_imul, ge_iand, ge_ior, ge_ixor, ge_ishl, ge_ishr, ge_iushr, ge_ladd, ge_lsub, ge_lmul, ge_lcmp, ge_idiv, ge_irem, ge_ldiv, ge_ineg, ge_i2l, ge_l2i, ge_lneg, ge_dupI, ge_dupR, ge_popI, ge_dup2, ge_goto, ge_if_eq, ge_if_ne, ge_if_lt, ge_if_ge, ge_if_gt, ge_if_le, ge_ic_eq, ge_ic_ne, ge_ic_lt, ge_ic_ge, ge_ic_gt, ge_ic_le, ge_ifnullN, ge_ifnullR, ge_ifnnN, ge_ifnnR, ge_switch, ge_getf, ge_putfI, ge_putfL, ge_putfR, ge_iald, ge_lald, ge_aald, ge_iast, ge_last, ge_aast, ge_alen, ge_new, ge_newI, ge_newL, ge_newQ, ge_oi, ge_copy, ge_max, ge_is0, ge_is1, ge_iv1, ge_is2, ge_iv2, ge_is3, ge_iv3, ge_is4, ge_iv4, ge_is5, ge_iv5, ge_iv6, ge_ret, ge_iret, ge_zret, ge_lret, ge_aretR, ge_aretN, ge_ld0, ge_lds, ge_sum0, ge_sumI, ge_sumL, ge_sumR, ge_sumN, ge_st0, ge_st1, ge_st2, ge_su0, ge_su1, ge_su2, ge_ap1, ge_ap0, qm_gf, qm_pf, qm_ia, qm_is, qm_la, qm_ls, qm_aa, qm_al, qm_isK, qm_kv, qm_cp, List.getElem?_cons_zero, List.getElem?_cons_succ, List.length_cons, List.length_nil, List.set_cons_zero, List.set_cons_succ, decide_true, if_true, if_false, eq_self, and_true, true_and, or_true, true_or, and_false, false_and, or_false, false_or, ↓reduceIte, Nat.reduceLT, Nat.reduceLeDiff, Nat.reduceAdd, Nat.zero_lt_succ, zi_eq0, zi_01, zi_eq1, zi_or, Nat.reduceEqDiff, not_true_eq_false, not_false_eq_true, va_up_self, zi_0ne1, zi_1ne0, m0, e3]
    · rw [if_pos (Or.inr h2)]
      refine ⟨f, ?_, h⟩
      simp only [ke_86, kk_86_0, kk_86_14, kk_86_16, kk_86_32, kk_86_51, kk_86_90, kl_86_0, kl_86_14, kl_86_16, kl_86_32, kl_86_51, kl_86_90, ge_iconst, ge_lconst, ge_null, ge_iload, ge_lload, ge_aload, ge_istore, ge_lstore, ge_astore, ge_astoreN, ge_iinc, ge_iadd, ge_isub, ge_imul, ge_iand, ge_ior, ge_ixor, ge_ishl, ge_ishr, ge_iushr, ge_ladd, ge_lsub, ge_lmul, ge_lcmp, ge_idiv, ge_irem, ge_ldiv, ge_ineg, ge_i2l, ge_l2i, ge_lneg, ge_dupI, ge_dupR, ge_popI, ge_dup2, ge_goto, ge_if_eq, ge_if_ne, ge_if_lt, ge_if_ge, ge_if_gt, ge_if_le, ge_ic_eq, ge_ic_ne, ge_ic_lt, ge_ic_ge, ge_ic_gt, ge_ic_le, ge_ifnullN, ge_ifnullR, ge_ifnnN, ge_ifnnR, ge_switch, ge_getf, ge_putfI, ge_putfL, ge_putfR, ge_iald, ge_lald, ge_aald, ge_iast, ge_last, ge_aast, ge_alen, ge_new, ge_newI, ge_newL, ge_newQ, ge_oi, ge_copy, ge_max, ge_is0, ge_is1, ge_iv1, ge_is2, ge_iv2, ge_is3, ge_iv3, ge_is4, ge_iv4, ge_is5, ge_iv5, ge_iv6, ge_ret, ge_iret, ge_zret, ge_lret, ge_aretR, ge_aretN, ge_ld0, ge_lds, ge_sum0, ge_sumI, ge_sumL, ge_sumR, ge_sumN, ge_st0, ge_st1, ge_st2, ge_su0, ge_su1, ge_su2, ge_ap1, ge_ap0, qm_gf, qm_pf, qm_ia, qm_is, qm_la, qm_ls, qm_aa, qm_al, qm_isK, qm_kv, qm_cp, List.getElem?_cons_zero, List.getElem?_cons_succ, List.length_cons, List.length_nil, List.set_cons_zero, List.set_cons_succ, decide_true, if_true, if_false, eq_self, and_true, true_and, or_true, true_or, and_false, false_and, or_false, false_or, ↓reduceIte, Nat.reduceLT, Nat.reduceLeDiff, Nat.reduceAdd, Nat.zero_lt_succ, zi_eq0, zi_01, zi_eq1, zi_or, Nat.reduceEqDiff, not_true_eq_false, not_false_eq_true, va_up_self, zi_0ne1, zi_1ne0, tb_isBoardNumber, h1, h2, ss_bad]
  · rw [if_pos (Or.inl h1)]
    refine ⟨f, ?_, h⟩
    simp only [ke_86, kk_86_0, kk_86_14, kk_86_16, kk_86_32, kk_86_51, kk_86_90, kl_86_0, kl_86_14, kl_86_16, kl_86_32, kl_86_51, kl_86_90, ge_iconst, ge_lconst, ge_null, ge_iload, ge_lload, ge_aload, ge_istore, ge_lstore, ge_astore, ge_astoreN, ge_iinc, ge_iadd, ge_isub, ge_imul, ge_iand, ge_ior, ge_ixor, ge_ishl, ge_ishr, ge_iushr, ge_ladd, ge_lsub, ge_lmul, ge_lcmp, ge_idiv, ge_irem, ge_ldiv, ge_ineg, ge_i2l, ge_l2i, ge_lneg, ge_dupI, ge_dupR, ge_popI, ge_dup2, ge_goto, ge_if_eq, ge_if_ne, ge_if_lt, ge_if_ge, ge_if_gt, ge_if_le, ge_ic_eq, ge_ic_ne, ge_ic_lt, ge_ic_ge, ge_ic_gt, ge_ic_le, ge_ifnullN, ge_ifnullR, ge_ifnnN, ge_ifnnR, ge_switch, ge_getf, ge_putfI, ge_putfL, ge_putfR, ge_iald, ge_lald, ge_aald, ge_iast, ge_last, ge_aast, ge_alen, ge_new, ge_newI, ge_newL, ge_newQ, ge_oi, ge_copy, ge_max, ge_is0, ge_is1, ge_iv1, ge_is2, ge_iv2, ge_is3, ge_iv3, ge_is4, ge_iv4, ge_is5, ge_iv5, ge_iv6, ge_ret, ge_iret, ge_zret, ge_lret, ge_aretR, ge_aretN, ge_ld0, ge_lds, ge_sum0, ge_sumI, ge_sumL, ge_sumR, ge_sumN, ge_st0, ge_st1, ge_st2, ge_su0, ge_su1, ge_su2, ge_ap1, ge_ap0, qm_gf, qm_pf, qm_ia, qm_is, qm_la, qm_ls, qm_aa, qm_al, qm_isK, qm_kv, qm_cp, List.getElem?_cons_zero, List.getElem?_cons_succ, List.length_cons, List.length_nil, List.set_cons_zero, List.set_cons_succ, decide_true, if_true, if_false, eq_self, and_true, true_and, or_true, true_or, and_false, false_and, or_false, false_or, ↓reduceIte, Nat.reduceLT, Nat.reduceLeDiff, Nat.reduceAdd, Nat.zero_lt_succ, zi_eq0, zi_01, zi_eq1, zi_or, Nat.reduceEqDiff, not_true_eq_false, not_false_eq_true, va_up_self, zi_0ne1, zi_1ne0, tb_isBoardNumber, h1, ss_bad]
end TB8
