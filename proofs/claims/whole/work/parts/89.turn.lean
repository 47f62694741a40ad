/-! turn, cover: class and model -/
def tuN (c : Nat → Nat) (j : Nat) : Nat → Nat
  | 0 => 0
  | i + 1 => tuN c j i ||| (if (c i).testBit j = true then 2 ^ i else 0)
theorem tuN_lt (c : Nat → Nat) (j : Nat) : ∀ i, tuN c j i < 2 ^ i
  | 0 => by show 0 < 1; decide
  | i + 1 => by
    have h1 : tuN c j i < 2 ^ (i + 1) := Nat.lt_of_lt_of_le (tuN_lt c j i) (Nat.pow_le_pow_right (by omega) (by omega))
    have h2 : (if (c i).testBit j = true then 2 ^ i else 0) < 2 ^ (i + 1) := by
      split
      · exact Nat.pow_lt_pow_right (by decide) (by omega)
      · exact Nat.two_pow_pos _
    exact Nat.or_lt_two_pow h1 h2
def tu_G (b : ss_B) (k : Nat) : Nat → Int32 := fun j => nI (tuN (ss_c b k) j (b.2.1 k))
def op_turn (x y : Int32) (r : ss_R) (b : ss_B) (t : ss_T) : ss_A := if ¬ (0 ≤ x ∧ x ≤ 11) ∨ ¬ (0 ≤ y ∧ y ≤ 11) then ss_bad r b t else if b.1 x.toNatClampNeg = -1 then ss_no r b t 1 else (.int (zf_cc (zf_mk (tu_G b x.toNatClampNeg) (b.2.2.1 x.toNatClampNeg)) (b.2.2.1 x.toNatClampNeg)), r, ss_put b y.toNatClampNeg 0 (b.2.2.1 x.toNatClampNeg) (b.2.1 x.toNatClampNeg) (zf_mk (tu_G b x.toNatClampNeg) (b.2.2.1 x.toNatClampNeg)), t)
/-- columns outside the rows s -/
def coN (c : Nat → Nat) (s : Nat) : Nat → Nat
  | 0 => 0
  | i + 1 => if s.testBit i = true then coN c s i else coN c s i ||| c i
def coL (c : Nat → Nat) (h s : Nat) : Nat := bc s + bc (coN c s h)
/-- the fewest lines so far, and which -/
def cvB (c : Nat → Nat) (h b0 : Nat) (t0 : Int32) : Nat → Nat × Int32
  | 0 => (b0, t0)
  | s + 1 => if coL c h s < (cvB c h b0 t0 s).1 then (coL c h s, nI (64 * s + coN c s h)) else cvB c h b0 t0 s
theorem coN_lt {c : Nat → Nat} {h : Nat} (hc : ∀ i, i < h → c i < 64) (s : Nat) : ∀ i, i ≤ h → coN c s i < 64
  | 0, _ => by show 0 < 64; decide
  | i + 1, hi => by
    rw [coN]
    split
    · exact coN_lt hc s i (by omega)
    · exact zb_or64 (coN_lt hc s i (by omega)) (hc i (by omega))
theorem cv_all : ∀ h, h < 7 → bc (2 ^ h - 1) = h ∧ ∀ i, i < h → (2 ^ h - 1).testBit i = true := by decide +kernel
theorem coN_all (c : Nat → Nat) {h : Nat} (h6 : h ≤ 6) : ∀ i, i ≤ h → coN c (2 ^ h - 1) i = 0
  | 0, _ => rfl
  | i + 1, hi => by rw [coN, if_pos ((cv_all h (by omega)).2 i (by omega)), coN_all c h6 i (by omega)]
theorem cvB_le (c : Nat → Nat) (h b0 : Nat) (t0 : Int32) : ∀ n, (cvB c h b0 t0 n).1 ≤ b0 ∧ ∀ s, s < n → (cvB c h b0 t0 n).1 ≤ coL c h s
  | 0 => ⟨Nat.le_refl _, fun s hs => by omega⟩
  | n + 1 => by
    obtain ⟨h1, h2⟩ := cvB_le c h b0 t0 n
    rw [cvB]
    by_cases e : coL c h n < (cvB c h b0 t0 n).1
    · rw [if_pos e]
      refine ⟨by show coL c h n ≤ b0; omega, fun s hs => ?_⟩
      show coL c h n ≤ coL c h s
      by_cases e2 : s = n
      · rw [e2]; exact Nat.le_refl _
      · have := h2 s (by omega); omega
    · rw [if_neg e]
      refine ⟨h1, fun s hs => ?_⟩
      by_cases e2 : s = n
      · rw [e2]; omega
      · exact h2 s (by omega)
theorem cvB_rel (c : Nat → Nat) (h : Nat) {b0 b1 : Nat} (t0 t1 : Int32) (hb : b0 ≤ b1) : ∀ n, cvB c h b0 t0 n = cvB c h b1 t1 n ∨ (cvB c h b0 t0 n = (b0, t0) ∧ b0 ≤ (cvB c h b1 t1 n).1)
  | 0 => Or.inr ⟨rfl, hb⟩
  | n + 1 => by
    rw [cvB, cvB]
    rcases cvB_rel c h t0 t1 hb n with e | ⟨e1, e2⟩
    · left
      rw [e]
    · rw [e1]
      by_cases z : coL c h n < b0
      · left
        rw [if_pos (show coL c h n < (b0, t0).1 from z), if_pos (by omega)]
      · rw [if_neg (show ¬ coL c h n < (b0, t0).1 from z)]
        right
        refine ⟨rfl, ?_⟩
        split
        · show b0 ≤ coL c h n; omega
        · exact e2
theorem cvB_eq (c : Nat → Nat) {h : Nat} (h6 : h ≤ 6) (t0 : Int32) : cvB c h (h + 1) t0 (2 ^ h) = cvB c h 99 0 (2 ^ h) := by
  rcases cvB_rel c h (b0 := h + 1) (b1 := 99) t0 0 (by omega) (2 ^ h) with e | ⟨e1, e2⟩
  · exact e
  · exfalso
    have hp : 0 < 2 ^ h := Nat.two_pow_pos _
    have h1 := (cvB_le c h (h + 1) t0 (2 ^ h)).2 (2 ^ h - 1) (by omega)
    rw [e1] at h1
    have h2 : coL c h (2 ^ h - 1) = h := by
      unfold coL
      rw [coN_all c h6 h (Nat.le_refl _), (cv_all h (by omega)).1, show bc 0 = 0 by decide]
      rfl
    rw [h2] at h1
    have : h + 1 ≤ h := h1
    omega
def op_cover (x : Int32) (r : ss_R) (b : ss_B) (t : ss_T) : ss_A := if ¬ (0 ≤ x ∧ x ≤ 11) then ss_bad r b t else if b.1 x.toNatClampNeg = -1 then ss_no r b t 1 else (.int (nI (cvB (ss_c b x.toNatClampNeg) (b.2.1 x.toNatClampNeg) 99 0 (2 ^ b.2.1 x.toNatClampNeg)).1), r, b, ss_ask t (cvB (ss_c b x.toNatClampNeg) (b.2.1 x.toNatClampNeg) 99 0 (2 ^ b.2.1 x.toNatClampNeg)).2)
theorem zf_co_ok {c : Nat → Nat} {p : Nat → Int32} {h s : Nat} (h6 : h ≤ 6) (hc : ∀ i, i < h → c i < 64 ∧ p i = nI (c i)) : ∀ i, i ≤ h → zf_co p (nI s) i = nI (coN c s i)
  | 0, _ => rfl
  | i + 1, hi => by
    rw [zf_co, coN, zf_co_ok h6 hc i (by omega), (hc i (by omega)).2, fa_or]
    have e := cell_bit (c := s) (j := i) (by omega)
    by_cases z : s.testBit i = true
    · rw [if_pos z, if_neg (fun y => by rw [e.mp y] at z; cases z)]
    · rw [if_neg z, if_pos (e.mpr (by simpa using z))]
section TB21
variable (X : qm_X) (d N S : Nat)
variable {z : Nat} {g f : Nat → qm_C} {r : ss_R} {b : ss_B} {t : ss_T}
theorem ss_ask_ask (t : ss_T) (x y : Int32) : ss_ask (ss_ask t x) y = ss_ask t y := rfl
theorem tb_cover (h : TBk z g r b t f) (I : ss_I r b) (x : Int32) : TBo X N S (d + 4) z g 102 [.ref z, .int x] f (op_cover x r b t) := by
  have h0 := tk_0 h
  rw [op_cover]
  by_cases h1 : 0 ≤ x ∧ x ≤ 11
  · rw [if_neg (not_not_intro h1)]
    obtain ⟨k, hk, ek⟩ := nI_of2 (x := x) (M := 11) (n := 11) (by decide) (Int32.not_lt.mpr h1.1) h1.2
    subst ek
    rw [nI_clamp (show k < 2 ^ 31 by omega)]
    have hat := tb_boardAt X d N S h (k := k) (by omega)
    by_cases h2 : b.1 k = -1
    · rw [if_pos h2]
      obtain ⟨f1, e1, k1⟩ := tb_refused X (d + 2) N S h 1 (by decide)
      refine ⟨f1, ?_, k1⟩
      simp only [ke_102, kk_102_0, kk_102_9, kk_102_25, kk_102_35, kk_102_88, kk_102_94, kl_102_0, kl_102_9, kl_102_25, kl_102_35, kl_102_88, kl_102_94, ge_iconst, ge_lconst, ge_null, ge_iload, ge_lload, ge_aload, ge_istore, ge_lstore, ge_astore, ge_astoreN, ge_iinc, ge_iadd, ge_isub, ge_imul, ge_iand, ge_ior, ge_ixor, ge_ishl, ge_ishr, ge_iushr, ge_ladd, ge_lsub, ge_lmul, ge_lcmp, ge_idiv, ge_irem, ge_ldiv, ge_ineg, ge_i2l, ge_l2i, ge_lneg, ge_dupI, ge_dupR, ge_popI, ge_dup2, ge_goto, ge_if_eq, ge_if_ne, ge_if_lt, ge_if_ge, ge_if_gt, ge_if_le, ge_ic_eq, ge_ic_ne, ge_ic_lt, ge_ic_ge, ge_ic_gt, ge_ic_le, ge_ifnullN, ge_ifnullR, ge_ifnnN, ge_ifnnR, ge_switch, ge_getf, ge_putfI, ge_putfL, ge_putfR, ge_iald, ge_lald, ge_aald, ge_iast, ge_last, ge_aast, ge_alen, ge_new, ge_newI, ge_newL, ge_newQ, ge_oi, ge_copy, ge_max, ge_is0, ge_is1, ge_iv1, ge_is2, ge_iv2, ge_is3, ge_iv3, ge_is4, ge_iv4, ge_is5, ge_iv5, ge_iv6, ge_ret, ge_iret, ge_zret, ge_lret, ge_aretR, ge_aretN, ge_ld0, ge_lds, ge_sum0, ge_sumI, ge_sumL, ge_sumR, ge_sumN, ge_st0, ge_st1, ge_st2, ge_su0, ge_su1, ge_su2, ge_ap1, ge_ap0, qm_gf, qm_pf, qm_ia, qm_is, qm_la, qm_ls, qm_aa, qm_al, qm_isK, qm_kv, qm_cp, List.getElem?_cons_zero, List.getElem?_cons_succ, List.length_cons, List.length_nil, List.set_cons_zero, List.set_cons_succ, decide_true, if_true, if_false, eq_self, and_true, true_and, or_true, true_or, and_false, false_and, or_false, false_or, ↓reduceIte, Nat.reduceLT, Nat.reduceLeDiff, Nat.reduceAdd, Nat.zero_lt_succ, zi_eq0, zi_01, zi_eq1, zi_or, Nat.reduceEqDiff, not_true_eq_false, not_false_eq_true, va_up_self, zi_0ne1, zi_1ne0, tb_isBoardNumber, h1, h0, hat, h2, e1, ss_no]
    · rw [if_neg h2]
      rw [if_neg h2] at hat
      have hI := I.2 k (by omega)
      have hJ := hI.2.2 h2
      have hcp : ∀ i, i < b.2.1 k → ss_c b k i < 64 ∧ b.2.2.2 k i = nI (ss_c b k i) := fun i hi => ⟨(ss_c_ok I (by omega) h2 hi).2.1, (ss_c_ok I (by omega) h2 hi).2.2⟩
      have hp2 : 2 ^ b.2.1 k ≤ 64 := Nat.pow_le_pow_right (n := 2) (by omega) hI.1
      have hsh := zb_1shl (b.2.1 k) (by omega)
      have hr := tk_brd h (k := k) (by omega)
      rw [← cvB_eq (ss_c b k) hI.1 t.2.2.1]
      have hcl : ∀ s, coL (ss_c b k) (b.2.1 k) s ≤ 12 + 12 := fun s => by
        have q1 := fb_ct_le (fun j => s.testBit j) 12
        have q2 := fb_ct_le (fun j => (coN (ss_c b k) s (b.2.1 k)).testBit j) 12
        unfold coL bc
        omega
      have hcb : ∀ s, (cvB (ss_c b k) (b.2.1 k) (b.2.1 k + 1) t.2.2.1 s).1 ≤ b.2.1 k + 1 := fun s => (cvB_le _ _ _ _ s).1
      obtain ⟨⟨f1, t5, t6⟩, hl, k1⟩ := gl0 (fun s (v : (Nat → qm_C) × Slot × Slot) => qm_go (qm_ex qm_M X (d + 3)) X kt_102 kk_102_35 [.val (.ref (z)), .val (.int (nI k)), .val (.ref (z + 42 + 2 * k)), .val (.int (nI (cvB (ss_c b k) (b.2.1 k) (b.2.1 k + 1) t.2.2.1 s).1)), .val (.int (nI s)), v.2.1, v.2.2] [] (N, S, v.1)) (fun s v => TBk z g r b (ss_ask t (cvB (ss_c b k) (b.2.1 k) (b.2.1 k + 1) t.2.2.1 s).2) v.1) (2 ^ b.2.1 k) (f, .unset, .unset) h (fun s v hs hT => by
        obtain ⟨f1, t5, t6⟩ := v
        have hT' : TBk z g r b (ss_ask t (cvB (ss_c b k) (b.2.1 k) (b.2.1 k + 1) t.2.2.1 s).2) f1 := hT
        have m0 := tk_0 hT'
        have mr := tk_brd hT' (k := k) (by omega)
        have mq := tk_cl hT' (k := k) (by omega)
        have hco := bd_columnsOutside X (d + 2) N S f1 (nI s) mr mq hI.1
        rw [zf_co_ok hI.1 hcp _ (Nat.le_refl _)] at hco
        have hcn := coN_lt (fun i hi => (hcp i hi).1) s (b.2.1 k) (Nat.le_refl _)
        have b1 : zb_bc (nI s) = nI (bc s) := by rw [zb_bc_ok s (by omega), bc_pc s (by omega)]
        have b2 : zb_bc (nI (coN (ss_c b k) s (b.2.1 k))) = nI (bc (coN (ss_c b k) s (b.2.1 k))) := by rw [zb_bc_ok _ hcn, bc_pc _ hcn]
        have hc : ¬ nI (2 ^ b.2.1 k) ≤ nI s := nI_ge hs (by omega)
        have hcl' := hcl s
        have hcb' := hcb s
        have e64 : nI s * 64 + nI (coN (ss_c b k) s (b.2.1 k)) = nI (64 * s + coN (ss_c b k) s (b.2.1 k)) := by rw [zi_mul64, nI_add, Nat.mul_comm]
        have eL : nI (bc s) + nI (bc (coN (ss_c b k) s (b.2.1 k))) = nI (coL (ss_c b k) (b.2.1 k) s) := nI_add _ _
        rw [cvB]
        by_cases c1 : coL (ss_c b k) (b.2.1 k) s < (cvB (ss_c b k) (b.2.1 k) (b.2.1 k + 1) t.2.2.1 s).1
        · have c2 : ¬ nI (cvB (ss_c b k) (b.2.1 k) (b.2.1 k + 1) t.2.2.1 s).1 ≤ nI (coL (ss_c b k) (b.2.1 k) s) := nI_ge c1 (by omega)
          rw [if_pos c1]
          have kA := tk_ask (nI (64 * s + coN (ss_c b k) s (b.2.1 k))) hT'
          refine ⟨(_, .val (.int (nI (coN (ss_c b k) s (b.2.1 k)))), .val (.int (nI (coL (ss_c b k) (b.2.1 k) s)))), ?_, by exact kA⟩
          conv => lhs; rw [kk_102_35]
          simp only [kl_102_0, kl_102_9, kl_102_25, kl_102_35, kl_102_88, kl_102_94, kk_102_88, ge_iconst, ge_lconst, ge_null, ge_iload, ge_lload, ge_aload, ge_istore, ge_lstore, ge_astore, ge_astoreN, ge_iinc, ge_iadd, ge_isub, ge_imul, ge_iand, ge_ior, ge_ixor, ge_ishl, ge_ishr, ge_iushr, ge_ladd, ge_lsub, ge_lmul, ge_lcmp, ge_idiv, ge_irem, ge_ldiv, ge_ineg, ge_i2l, ge_l2i, ge_lneg, ge_dupI, ge_dupR, ge_popI, ge_dup2, ge_goto, ge_if_eq, ge_if_ne, ge_if_lt, ge_if_ge, ge_if_gt, ge_if_le, ge_ic_eq, ge_ic_ne, ge_ic_lt, ge_ic_ge, ge_ic_gt, ge_ic_le, ge_ifnullN, ge_ifnullR, ge_ifnnN, ge_ifnnR, ge_switch, ge_getf, ge_putfI, ge_putfL, ge_putfR, ge_iald, ge_lald, ge_aald, ge_iast, ge_last, ge_aast, ge_alen, ge_new, ge_newI, ge_newL, ge_newQ, ge_oi, ge_copy, ge_max, ge_is0, ge_is1, ge_iv1, ge_is2, ge_iv2, ge_is3, ge_iv3, ge_is4, ge_iv4, ge_is5, ge_iv5, ge_iv6, ge_ret, ge_iret, ge_zret, ge_lret, ge_aretR, ge_aretN, ge_ld0, ge_lds, ge_sum0, ge_sumI, ge_sumL, ge_sumR, ge_sumN, ge_st0, ge_st1, ge_st2, ge_su0, ge_su1, ge_su2, ge_ap1, ge_ap0, qm_gf, qm_pf, qm_ia, qm_is, qm_la, qm_ls, qm_aa, qm_al, qm_isK, qm_kv, qm_cp, List.getElem?_cons_zero, List.getElem?_cons_succ, List.length_cons, List.length_nil, List.set_cons_zero, List.set_cons_succ, decide_true, if_true, if_false, eq_self, and_true, true_and, or_true, true_or, and_false, false_and, or_false, false_or, ↓reduceIte, Nat.reduceLT, Nat.reduceLeDiff, Nat.reduceAdd, Nat.zero_lt_succ, zi_eq0, zi_01, zi_eq1, zi_or, Nat.reduceEqDiff, not_true_eq_false, not_false_eq_true, va_up_self, zi_0ne1, zi_1ne0, mr, hsh, hc, hco, jb_bitCount, b1, b2, eL, c2, m0, e64, nI_1]
          rfl
        · have c2 : nI (cvB (ss_c b k) (b.2.1 k) (b.2.1 k + 1) t.2.2.1 s).1 ≤ nI (coL (ss_c b k) (b.2.1 k) s) := nI_le (by omega) (by omega)
          rw [if_neg c1]
          refine ⟨(f1, .val (.int (nI (coN (ss_c b k) s (b.2.1 k)))), .val (.int (nI (coL (ss_c b k) (b.2.1 k) s)))), ?_, hT'⟩
          conv => lhs; rw [kk_102_35]
          simp only [kl_102_0, kl_102_9, kl_102_25, kl_102_35, kl_102_88, kl_102_94, kk_102_88, ge_iconst, ge_lconst, ge_null, ge_iload, ge_lload, ge_aload, ge_istore, ge_lstore, ge_astore, ge_astoreN, ge_iinc, ge_iadd, ge_isub, ge_imul, ge_iand, ge_ior, ge_ixor, ge_ishl, ge_ishr, ge_iushr, ge_ladd, ge_lsub, ge_lmul, ge_lcmp, ge_idiv, ge_irem, ge_ldiv, ge_ineg, ge_i2l, ge_l2i, ge_lneg, ge_dupI, ge_dupR, ge_popI, ge_dup2, ge_goto, ge_if_eq, ge_if_ne, ge_if_lt, ge_if_ge, ge_if_gt, ge_if_le, ge_ic_eq, ge_ic_ne, ge_ic_lt, ge_ic_ge, ge_ic_gt, ge_ic_le, ge_ifnullN, ge_ifnullR, ge_ifnnN, ge_ifnnR, ge_switch, ge_getf, ge_putfI, ge_putfL, ge_putfR, ge_iald, ge_lald, ge_aald, ge_iast, ge_last, ge_aast, ge_alen, ge_new, ge_newI, ge_newL, ge_newQ, ge_oi, ge_copy, ge_max, ge_is0, ge_is1, ge_iv1, ge_is2, ge_iv2, ge_is3, ge_iv3, ge_is4, ge_iv4, ge_is5, ge_iv5, ge_iv6, ge_ret, ge_iret, ge_zret, ge_lret, ge_aretR, ge_aretN, ge_ld0, ge_lds, ge_sum0, ge_sumI, ge_sumL, ge_sumR, ge_sumN, ge_st0, ge_st1, ge_st2, ge_su0, ge_su1, ge_su2, ge_ap1, ge_ap0, qm_gf, qm_pf, qm_ia, qm_is, qm_la, qm_ls, qm_aa, qm_al, qm_isK, qm_kv, qm_cp, List.getElem?_cons_zero, List.getElem?_cons_succ, List.length_cons, List.length_nil, List.set_cons_zero, List.set_cons_succ, decide_true, if_true, if_false, eq_self, and_true, true_and, or_true, true_or, and_false, false_and, or_false, false_or, ↓reduceIte, Nat.reduceLT, Nat.reduceLeDiff, Nat.reduceAdd, Nat.zero_lt_succ, zi_eq0, zi_01, zi_eq1, zi_or, Nat.reduceEqDiff, not_true_eq_false, not_false_eq_true, va_up_self, zi_0ne1, zi_1ne0, mr, hsh, hc, hco, jb_bitCount, b1, b2, eL, c2, nI_1])
      dsimp only at k1 hl
      refine ⟨f1, ?_, k1⟩
      have mr := tk_brd k1 (k := k) (by omega)
      have hc : nI (2 ^ b.2.1 k) ≤ nI (2 ^ b.2.1 k) := Int32.le_refl _
      refine Eq.trans ?_ (hl.trans ?_)
      · simp only [ke_102, kk_102_0, kk_102_9, kk_102_25, kl_102_0, kl_102_9, kl_102_25, kl_102_35, kl_102_88, kl_102_94, ge_iconst, ge_lconst, ge_null, ge_iload, ge_lload, ge_aload, ge_istore, ge_lstore, ge_astore, ge_astoreN, ge_iinc, ge_iadd, ge_isub, ge_imul, ge_iand, ge_ior, ge_ixor, ge_ishl, ge_ishr, ge_iushr, ge_ladd, ge_lsub, ge_lmul, ge_lcmp, ge_idiv, ge_irem, ge_ldiv, ge_ineg, ge_i2l, ge_l2i, ge_lneg, ge_dupI, ge_dupR, ge_popI, ge_dup2, ge_goto, ge_if_eq, ge_if_ne, ge_if_lt, ge_if_ge, ge_if_gt, ge_if_le, ge_ic_eq, ge_ic_ne, ge_ic_lt, ge_ic_ge, ge_ic_gt, ge_ic_le, ge_ifnullN, ge_ifnullR, ge_ifnnN, ge_ifnnR, ge_switch, ge_getf, ge_putfI, ge_putfL, ge_putfR, ge_iald, ge_lald, ge_aald, ge_iast, ge_last, ge_aast, ge_alen, ge_new, ge_newI, ge_newL, ge_newQ, ge_oi, ge_copy, ge_max, ge_is0, ge_is1, ge_iv1, ge_is2, ge_iv2, ge_is3, ge_iv3, ge_is4, ge_iv4, ge_is5, ge_iv5, ge_iv6, ge_ret, ge_iret, ge_zret, ge_lret, ge_aretR, ge_aretN, ge_ld0, ge_lds, ge_sum0, ge_sumI, ge_sumL, ge_sumR, ge_sumN, ge_st0, ge_st1, ge_st2, ge_su0, ge_su1, ge_su2, ge_ap1, ge_ap0, qm_gf, qm_pf, qm_ia, qm_is, qm_la, qm_ls, qm_aa, qm_al, qm_isK, qm_kv, qm_cp, List.getElem?_cons_zero, List.getElem?_cons_succ, List.length_cons, List.length_nil, List.set_cons_zero, List.set_cons_succ, decide_true, if_true, if_false, eq_self, and_true, true_and, or_true, true_or, and_false, false_and, or_false, false_or, ↓reduceIte, Nat.reduceLT, Nat.reduceLeDiff, Nat.reduceAdd, Nat.zero_lt_succ, zi_eq0, zi_01, zi_eq1, zi_or, Nat.reduceEqDiff, not_true_eq_false, not_false_eq_true, va_up_self, zi_0ne1, zi_1ne0, tb_isBoardNumber, h1, h0, hat, hr, nI_1]
        rfl
      · simp only [kk_102_35, kk_102_94, kl_102_0, kl_102_9, kl_102_25, kl_102_35, kl_102_88, kl_102_94, ge_iconst, ge_lconst, ge_null, ge_iload, ge_lload, ge_aload, ge_istore, ge_lstore, ge_astore, ge_astoreN, ge_iinc, ge_iadd, ge_isub, ge_imul, ge_iand, ge_ior, ge_ixor, ge_ishl, ge_ishr, ge_iushr, ge_ladd, ge_lsub, ge_lmul, ge_lcmp, ge_idiv, ge_irem, ge_ldiv, ge_ineg, ge_i2l, ge_l2i, ge_lneg, ge_dupI, ge_dupR, ge_popI, ge_dup2, ge_goto, ge_if_eq, ge_if_ne, ge_if_lt, ge_if_ge, ge_if_gt, ge_if_le, ge_ic_eq, ge_ic_ne, ge_ic_lt, ge_ic_ge, ge_ic_gt, ge_ic_le, ge_ifnullN, ge_ifnullR, ge_ifnnN, ge_ifnnR, ge_switch, ge_getf, ge_putfI, ge_putfL, ge_putfR, ge_iald, ge_lald, ge_aald, ge_iast, ge_last, ge_aast, ge_alen, ge_new, ge_newI, ge_newL, ge_newQ, ge_oi, ge_copy, ge_max, ge_is0, ge_is1, ge_iv1, ge_is2, ge_iv2, ge_is3, ge_iv3, ge_is4, ge_iv4, ge_is5, ge_iv5, ge_iv6, ge_ret, ge_iret, ge_zret, ge_lret, ge_aretR, ge_aretN, ge_ld0, ge_lds, ge_sum0, ge_sumI, ge_sumL, ge_sumR, ge_sumN, ge_st0, ge_st1, ge_st2, ge_su0, ge_su1, ge_su2, ge_ap1, ge_ap0, qm_gf, qm_pf, qm_ia, qm_is, qm_la, qm_ls, qm_aa, qm_al, qm_isK, qm_kv, qm_cp, List.getElem?_cons_zero, List.getElem?_cons_succ, List.length_cons, List.length_nil, List.set_cons_zero, List.set_cons_succ, decide_true, if_true, if_false, eq_self, and_true, true_and, or_true, true_or, and_false, false_and, or_false, false_or, ↓reduceIte, Nat.reduceLT, Nat.reduceLeDiff, Nat.reduceAdd, Nat.zero_lt_succ, zi_eq0, zi_01, zi_eq1, zi_or, Nat.reduceEqDiff, not_true_eq_false, not_false_eq_true, va_up_self, zi_0ne1, zi_1ne0, mr, hsh, hc]
  · rw [if_pos h1]
    refine ⟨f, ?_, h⟩
    simp only [ke_102, kk_102_0, kk_102_9, kk_102_25, kk_102_35, kk_102_88, kk_102_94, kl_102_0, kl_102_9, kl_102_25, kl_102_35, kl_102_88, kl_102_94, ge_iconst, ge_lconst, ge_null, ge_iload, ge_lload, ge_aload, ge_istore, ge_lstore, ge_astore, ge_astoreN, ge_iinc, ge_iadd, ge_isub, ge_imul, ge_iand, ge_ior, ge_ixor, ge_ishl, ge_ishr, ge_iushr, ge_ladd, ge_lsub, ge_lmul, ge_lcmp, ge_idiv, ge_irem, ge_ldiv, ge_ineg, ge_i2l, ge_l2i, ge_lneg, ge_dupI, ge_dupR, ge_popI, ge_dup2, ge_goto, ge_if_eq, ge_if_ne, ge_if_lt, ge_if_ge, ge_if_gt, ge_if_le, ge_ic_eq, ge_ic_ne, ge_ic_lt, ge_ic_ge, ge_ic_gt, ge_ic_le, ge_ifnullN, ge_ifnullR, ge_ifnnN, ge_ifnnR, ge_switch, ge_getf, ge_putfI, ge_putfL, ge_putfR, ge_iald, ge_lald, ge_aald, ge_iast, ge_last, ge_aast, ge_alen, ge_new, ge_newI, ge_newL, ge_newQ, ge_oi, ge_copy, ge_max, ge_is0, ge_is1, ge_iv1, ge_is2, ge_iv2, ge_is3, ge_iv3, ge_is4, ge_iv4, ge_is5, ge_iv5, ge_iv6, ge_ret, ge_iret, ge_zret, ge_lret, ge_aretR, ge_aretN, ge_ld0, ge_lds, ge_sum0, ge_sumI, ge_sumL, ge_sumR, ge_sumN, ge_st0, ge_st1, ge_st2, ge_su0, ge_su1, ge_su2, ge_ap1, ge_ap0, qm_gf, qm_pf, qm_ia, qm_is, qm_la, qm_ls, qm_aa, qm_al, qm_isK, qm_kv, qm_cp, List.getElem?_cons_zero, List.getElem?_cons_succ, List.length_cons, List.length_nil, List.set_cons_zero, List.set_cons_succ, decide_true, if_true, if_false, eq_self, and_true, true_and, or_true, true_or, and_false, false_and, or_false, false_or, ↓reduceIte, Nat.reduceLT, Nat.reduceLeDiff, Nat.reduceAdd, Nat.zero_lt_succ, zi_eq0, zi_01, zi_eq1, zi_or, Nat.reduceEqDiff, not_true_eq_false, not_false_eq_true, va_up_self, zi_0ne1, zi_1ne0, tb_isBoardNumber, h1, ss_bad]
/-- the cells of the draft while a board is turned -/
def tuV (c : Nat → Nat) (w i j : Nat) (v : Nat → Int32) : Nat → Int32 := fun q => if q < w then nI (if q < j then tuN c q (i + 1) else tuN c q i) else v q
theorem tb_turn (h : TBk z g r b t f) (I : ss_I r b) (x y : Int32) : TBo X N S (d + 5) z g 87 [.ref z, .int x, .int y] f (op_turn x y r b t) := by
  have h0 := tk_0 h
  rw [op_turn]
  by_cases h1 : 0 ≤ x ∧ x ≤ 11
  · by_cases h2 : 0 ≤ y ∧ y ≤ 11
    · rw [if_neg (not_or.mpr ⟨not_not_intro h1, not_not_intro h2⟩)]
      obtain ⟨k, hk, ek⟩ := nI_of2 (x := x) (M := 11) (n := 11) (by decide) (Int32.not_lt.mpr h1.1) h1.2
      obtain ⟨l, hl, el⟩ := nI_of2 (x := y) (M := 11) (n := 11) (by decide) (Int32.not_lt.mpr h2.1) h2.2
      subst ek el
      rw [nI_clamp (show k < 2 ^ 31 by omega), nI_clamp (show l < 2 ^ 31 by omega)]
      have hat := tb_boardAt X (d + 1) N S h (k := k) (by omega)
      by_cases h3 : b.1 k = -1
      · rw [if_pos h3]
        rw [if_pos h3] at hat
        obtain ⟨f1, e1, k1⟩ := tb_refused X (d + 3) N S h 1 (by decide)
        refine ⟨f1, ?_, k1⟩
        simp only [ke_87, kk_87_0, kk_87_14, kk_87_16, kk_87_32, kk_87_51, kk_87_63, kk_87_94, kk_87_100, kk_87_106, kl_87_0, kl_87_14, kl_87_16, kl_87_32, kl_87_51, kl_87_63, kl_87_94, kl_87_100, kl_87_106, ge_iconst, ge_lconst, ge_null, ge_iload, ge_lload, ge_aload, ge_istore, ge_lstore, ge_astore, ge_astoreN, ge_iinc, ge_iadd, ge_isub, ge_imul, ge_iand, ge_ior, ge_ixor, ge_ishl, ge_ishr, ge_iushr, ge_ladd, ge_lsub, ge_lmul, ge_lcmp, ge_idiv, ge_irem, ge_ldiv, ge_ineg, ge_i2l, ge_l2i, ge_lneg, ge_dupI, ge_dupR, ge_popI, ge_dup2, ge_goto, ge_if_eq, ge_if_ne, ge_if_lt, ge_if_ge, ge_if_gt, ge_if_le, ge_ic_eq, ge_ic_ne, ge_ic_lt, ge_ic_ge, ge_ic_gt, ge_ic_le, ge_ifnullN, ge_ifnullR, ge_ifnnN, ge_ifnnR, ge_switch, ge_getf, ge_putfI, ge_putfL, ge_putfR, ge_iald, ge_lald, ge_aald, ge_iast, ge_last, ge_aast, ge_alen, ge_new, ge_newI, ge_newL, ge_newQ, ge_oi, ge_copy, ge_max, ge_is0, ge_is1, ge_iv1, ge_is2, ge_iv2, ge_is3, ge_iv3, ge_is4, ge_iv4, ge_is5, ge_iv5, ge_iv6, ge_ret, ge_iret, ge_zret, ge_lret, ge_aretR, ge_aretN, ge_ld0, ge_lds, ge_sum0, ge_sumI, ge_sumL, ge_sumR, ge_sumN, ge_st0, ge_st1, ge_st2, ge_su0, ge_su1, ge_su2, ge_ap1, ge_ap0, qm_gf, qm_pf, qm_ia, qm_is, qm_la, qm_ls, qm_aa, qm_al, qm_isK, qm_kv, qm_cp, List.getElem?_cons_zero, List.getElem?_cons_succ, List.length_cons, List.length_nil, List.set_cons_zero, List.set_cons_succ, decide_true, if_true, if_false, eq_self, and_true, true_and, or_true, true_or, and_false, false_and, or_false, false_or, ↓reduceIte, Nat.reduceLT, Nat.reduceLeDiff, Nat.reduceAdd, Nat.zero_lt_succ, zi_eq0, zi_01, zi_eq1, zi_or, Nat.reduceEqDiff, not_true_eq_false, not_false_eq_true, va_up_self, zi_0ne1, zi_1ne0, tb_isBoardNumber, h1, h2, h0, hat, e1, ss_no]
      · rw [if_neg h3]
        rw [if_neg h3] at hat
        have hI := I.2 k (by omega)
        have hJ := hI.2.2 h3
        have hr := tk_brd h (k := k) (by omega)
        obtain ⟨x4, y4, w4, h8⟩ := h.1 4 (by omega)
        obtain ⟨v0, eb, kb⟩ := tb_begin X (d + 2) N S h 0 (nI (b.2.2.1 k)) (nI (b.2.1 k))
        have tuStart : tuV (ss_c b k) (b.2.2.1 k) 0 0 (zf_fill v0 0 6) = zf_fill v0 0 6 := by
          funext q
          unfold tuV
          by_cases e : q < b.2.2.1 k
          · rw [if_pos e, if_neg (by omega)]
            exact (if_pos (show q < 6 by omega)).symm
          · rw [if_neg e]
        have j40 : (va_up (va_up f (z + 4) (.inr (1, [.int 0, .int (nI (b.2.2.1 k)), .int (nI (b.2.1 k)), .ref (z + 5)]))) (z + 5) (.inl (0, 6, .inl (zf_fill v0 0 6)))) (z + 4) = .inr (1, [.int 0, .int (nI (b.2.2.1 k)), .int (nI (b.2.1 k)), .ref (z + 5)]) := by rw [va_up_ne _ _ (by omega)]; exact va_up_self f (z + 4) _
        have j50 : (va_up (va_up f (z + 4) (.inr (1, [.int 0, .int (nI (b.2.2.1 k)), .int (nI (b.2.1 k)), .ref (z + 5)]))) (z + 5) (.inl (0, 6, .inl (zf_fill v0 0 6)))) (z + 5) = .inl (0, 6, .inl (tuV (ss_c b k) (b.2.2.1 k) 0 0 (zf_fill v0 0 6))) := by rw [tuStart]; exact va_up_self _ _ _
        generalize va_up (va_up f (z + 4) (.inr (1, [.int 0, .int (nI (b.2.2.1 k)), .int (nI (b.2.1 k)), .ref (z + 5)]))) (z + 5) (.inl (0, 6, .inl (zf_fill v0 0 6))) = F at eb kb j40 j50
        obtain ⟨⟨f1, t5⟩, hlo, k1, j4, j5⟩ := gl0 (fun i (v : (Nat → qm_C) × Slot) => qm_go (qm_ex qm_M X (d + 4)) X kt_87 kk_87_51 [.val (.ref (z)), .val (.int (nI k)), .val (.int (nI l)), .val (.ref (z + 42 + 2 * k)), .val (.int (nI i)), v.2] [] (N, S, v.1)) (fun i v => TBk z g r b t v.1 ∧ v.1 (z + 4) = .inr (1, [.int 0, .int (nI (b.2.2.1 k)), .int (nI (b.2.1 k)), .ref (z + 5)]) ∧ v.1 (z + 5) = .inl (0, 6, .inl (tuV (ss_c b k) (b.2.2.1 k) i 0 (zf_fill v0 0 6)))) (b.2.1 k) (F, .unset) ⟨kb, j40, j50⟩ (fun i v hi hP => by
          obtain ⟨f1, t5⟩ := v
          obtain ⟨kT, p4, p5⟩ := hP
          dsimp only at kT p4 p5 ⊢
          have hc : ¬ nI (b.2.1 k) ≤ nI i := nI_ge (by omega) (by omega)
          have mr := tk_brd kT (k := k) (by omega)
          obtain ⟨f2, hin, k2, q4, q5⟩ := gl0 (fun j (f2 : Nat → qm_C) => qm_go (qm_ex qm_M X (d + 4)) X kt_87 kk_87_63 [.val (.ref (z)), .val (.int (nI k)), .val (.int (nI l)), .val (.ref (z + 42 + 2 * k)), .val (.int (nI i)), .val (.int (nI j))] [] (N, S, f2)) (fun j f2 => TBk z g r b t f2 ∧ f2 (z + 4) = .inr (1, [.int 0, .int (nI (b.2.2.1 k)), .int (nI (b.2.1 k)), .ref (z + 5)]) ∧ f2 (z + 5) = .inl (0, 6, .inl (tuV (ss_c b k) (b.2.2.1 k) i j (zf_fill v0 0 6)))) (b.2.2.1 k) f1 ⟨kT, p4, p5⟩ (fun j f2 hj hQ => by
            obtain ⟨k2, q4, q5⟩ := hQ
            have nr := tk_brd k2 (k := k) (by omega)
            have nq := tk_cl k2 (k := k) (by omega)
            have n0 := tk_0 k2
            have hc2 : ¬ nI (b.2.2.1 k) ≤ nI j := nI_ge (by omega) (by omega)
            have hce := bd_hasCell X (d + 2) N S f2 nr nq (nI_le (b := 6) hI.1 (by omega)) (nI i) (nI j)
            have hpl : 0 ≤ nI i ∧ nI i < nI (b.2.1 k) ∧ 0 ≤ nI j ∧ nI j < nI (b.2.2.1 k) := ⟨nI_pos' (by omega), nI_lt hi (by omega), nI_pos' (by omega), nI_lt hj (by omega)⟩
            rw [nI_clamp (show i < 2 ^ 31 by omega), (ss_c_ok I (by omega) h3 hi).2.2] at hce
            have hcb := cell_bit (c := ss_c b k i) (j := j) (by omega)
            by_cases z1 : (ss_c b k i).testBit j = true
            · rw [if_pos ⟨hpl, fun z2 => by rw [hcb.mp z2] at z1; cases z1⟩] at hce
              have had := bd_addCell X (d + 2) N S f2 q4 q5 (nI_le (b := 6) hI.2.1 (by omega)) (nI j) (nI i) ⟨nI_pos' (by omega), nI_lt hj (by omega), nI_pos' (by omega), nI_lt hi (by omega)⟩
              rw [nI_clamp (show j < 2 ^ 31 by omega), zb_1shl i (by omega)] at had
              have hv : upd (tuV (ss_c b k) (b.2.2.1 k) i j (zf_fill v0 0 6)) j (tuV (ss_c b k) (b.2.2.1 k) i j (zf_fill v0 0 6) j ||| nI (2 ^ i)) = tuV (ss_c b k) (b.2.2.1 k) i (j + 1) (zf_fill v0 0 6) := by
                funext q
                by_cases e : q = j
                · subst e
                  rw [pk_us]
                  unfold tuV
                  rw [if_pos hj, if_pos hj, if_neg (by omega), if_pos (by omega), fa_or, tuN, if_pos z1]
                · rw [pk_un e]
                  unfold tuV
                  by_cases e2 : q < b.2.2.1 k
                  · rw [if_pos e2, if_pos e2]
                    by_cases e3 : q < j
                    · rw [if_pos e3, if_pos (by omega)]
                    · rw [if_neg e3, if_neg (by omega)]
                  · rw [if_neg e2, if_neg e2]
              rw [hv] at had
              refine ⟨_, ?_, tk_s 5 k2 (by omega) ⟨_, rfl⟩, by rw [va_up_ne _ _ (by omega)]; exact q4, va_up_self _ _ _⟩
              conv => lhs; rw [kk_87_63]
              simp only [kl_87_0, kl_87_14, kl_87_16, kl_87_32, kl_87_51, kl_87_63, kl_87_94, kl_87_100, kl_87_106, kk_87_94, ge_iconst, ge_lconst, ge_null, ge_iload, ge_lload, ge_aload, ge_istore, ge_lstore, ge_astore, ge_astoreN, ge_iinc, ge_iadd, ge_isub, ge_imul, ge_iand, ge_ior, ge_ixor, ge_ishl, ge_ishr, ge_iushr, ge_ladd, ge_lsub, ge_lmul, ge_lcmp, ge_idiv, ge_irem, ge_ldiv, ge_ineg, ge_i2l, ge_l2i, ge_lneg, ge_dupI, ge_dupR, ge_popI, ge_dup2, ge_goto, ge_if_eq, ge_if_ne, ge_if_lt, ge_if_ge, ge_if_gt, ge_if_le, ge_ic_eq, ge_ic_ne, ge_ic_lt, ge_ic_ge, ge_ic_gt, ge_ic_le, ge_ifnullN, ge_ifnullR, ge_ifnnN, ge_ifnnR, ge_switch, ge_getf, ge_putfI, ge_putfL, ge_putfR, ge_iald, ge_lald, ge_aald, ge_iast, ge_last, ge_aast, ge_alen, ge_new, ge_newI, ge_newL, ge_newQ, ge_oi, ge_copy, ge_max, ge_is0, ge_is1, ge_iv1, ge_is2, ge_iv2, ge_is3, ge_iv3, ge_is4, ge_iv4, ge_is5, ge_iv5, ge_iv6, ge_ret, ge_iret, ge_zret, ge_lret, ge_aretR, ge_aretN, ge_ld0, ge_lds, ge_sum0, ge_sumI, ge_sumL, ge_sumR, ge_sumN, ge_st0, ge_st1, ge_st2, ge_su0, ge_su1, ge_su2, ge_ap1, ge_ap0, qm_gf, qm_pf, qm_ia, qm_is, qm_la, qm_ls, qm_aa, qm_al, qm_isK, qm_kv, qm_cp, List.getElem?_cons_zero, List.getElem?_cons_succ, List.length_cons, List.length_nil, List.set_cons_zero, List.set_cons_succ, decide_true, if_true, if_false, eq_self, and_true, true_and, or_true, true_or, and_false, false_and, or_false, false_or, ↓reduceIte, Nat.reduceLT, Nat.reduceLeDiff, Nat.reduceAdd, Nat.zero_lt_succ, zi_eq0, zi_01, zi_eq1, zi_or, Nat.reduceEqDiff, not_true_eq_false, not_false_eq_true, va_up_self, zi_0ne1, zi_1ne0, nr, hc2, hce, n0, q4, had, nI_1]
            · have z1' : (ss_c b k i).testBit j = false := by simpa using z1
              rw [if_neg (fun z2 => z2.2 (hcb.mpr z1'))] at hce
              have hv : tuV (ss_c b k) (b.2.2.1 k) i j (zf_fill v0 0 6) = tuV (ss_c b k) (b.2.2.1 k) i (j + 1) (zf_fill v0 0 6) := by
                funext q
                unfold tuV
                by_cases e2 : q < b.2.2.1 k
                · rw [if_pos e2, if_pos e2]
                  by_cases e3 : q < j
                  · rw [if_pos e3, if_pos (by omega)]
                  · rw [if_neg e3]
                    by_cases e4 : q = j
                    · subst e4
                      rw [if_pos (by omega), tuN, if_neg z1, Nat.or_zero]
                    · rw [if_neg (by omega)]
                · rw [if_neg e2, if_neg e2]
              rw [hv] at q5
              refine ⟨f2, ?_, k2, q4, q5⟩
              conv => lhs; rw [kk_87_63]
              simp only [kl_87_0, kl_87_14, kl_87_16, kl_87_32, kl_87_51, kl_87_63, kl_87_94, kl_87_100, kl_87_106, kk_87_94, ge_iconst, ge_lconst, ge_null, ge_iload, ge_lload, ge_aload, ge_istore, ge_lstore, ge_astore, ge_astoreN, ge_iinc, ge_iadd, ge_isub, ge_imul, ge_iand, ge_ior, ge_ixor, ge_ishl, ge_ishr, ge_iushr, ge_ladd, ge_lsub, ge_lmul, ge_lcmp, ge_idiv, ge_irem, ge_ldiv, ge_ineg, ge_i2l, ge_l2i, ge_lneg, ge_dupI, ge_dupR, ge_popI, ge_dup2, ge_goto, ge_if_eq, ge_if_ne, ge_if_lt, ge_if_ge, ge_if_gt, ge_if_le, ge_ic_eq, ge_ic_ne, ge_ic_lt, ge_ic_ge, ge_ic_gt, ge_ic_le, ge_ifnullN, ge_ifnullR, ge_ifnnN, ge_ifnnR, ge_switch, ge_getf, ge_putfI, ge_putfL, ge_putfR, ge_iald, ge_lald, ge_aald, ge_iast, ge_last, ge_aast, ge_alen, ge_new, ge_newI, ge_newL, ge_newQ, ge_oi, ge_copy, ge_max, ge_is0, ge_is1, ge_iv1, ge_is2, ge_iv2, ge_is3, ge_iv3, ge_is4, ge_iv4, ge_is5, ge_iv5, ge_iv6, ge_ret, ge_iret, ge_zret, ge_lret, ge_aretR, ge_aretN, ge_ld0, ge_lds, ge_sum0, ge_sumI, ge_sumL, ge_sumR, ge_sumN, ge_st0, ge_st1, ge_st2, ge_su0, ge_su1, ge_su2, ge_ap1, ge_ap0, qm_gf, qm_pf, qm_ia, qm_is, qm_la, qm_ls, qm_aa, qm_al, qm_isK, qm_kv, qm_cp, List.getElem?_cons_zero, List.getElem?_cons_succ, List.length_cons, List.length_nil, List.set_cons_zero, List.set_cons_succ, decide_true, if_true, if_false, eq_self, and_true, true_and, or_true, true_or, and_false, false_and, or_false, false_or, ↓reduceIte, Nat.reduceLT, Nat.reduceLeDiff, Nat.reduceAdd, Nat.zero_lt_succ, zi_eq0, zi_01, zi_eq1, zi_or, Nat.reduceEqDiff, not_true_eq_false, not_false_eq_true, va_up_self, zi_0ne1, zi_1ne0, nr, hc2, hce, nI_1])
          have nr := tk_brd k2 (k := k) (by omega)
          have hc3 : nI (b.2.2.1 k) ≤ nI (b.2.2.1 k) := Int32.le_refl _
          have hv : tuV (ss_c b k) (b.2.2.1 k) i (b.2.2.1 k) (zf_fill v0 0 6) = tuV (ss_c b k) (b.2.2.1 k) (i + 1) 0 (zf_fill v0 0 6) := by
            funext q
            unfold tuV
            by_cases e2 : q < b.2.2.1 k
            · rw [if_pos e2, if_pos e2, if_pos e2, if_neg (by omega)]
            · rw [if_neg e2, if_neg e2]
          rw [hv] at q5
          refine ⟨(f2, .val (.int (nI (b.2.2.1 k)))), ?_, k2, q4, q5⟩
          have hend : qm_go (qm_ex qm_M X (d + 4)) X kt_87 kk_87_63 [.val (.ref (z)), .val (.int (nI k)), .val (.int (nI l)), .val (.ref (z + 42 + 2 * k)), .val (.int (nI i)), .val (.int (nI (b.2.2.1 k)))] [] (N, S, f2) = qm_go (qm_ex qm_M X (d + 4)) X kt_87 kk_87_51 [.val (.ref (z)), .val (.int (nI k)), .val (.int (nI l)), .val (.ref (z + 42 + 2 * k)), .val (.int (nI (i + 1))), .val (.int (nI (b.2.2.1 k)))] [] (N, S, f2) := by
            conv => lhs; rw [kk_87_63]
            simp only [kl_87_0, kl_87_14, kl_87_16, kl_87_32, kl_87_51, kl_87_63, kl_87_94, kl_87_100, kl_87_106, kk_87_100, ge_iconst, ge_lconst, ge_null, ge_iload, ge_lload, ge_aload, ge_istore, ge_lstore, ge_astore, ge_astoreN, ge_iinc, ge_iadd, ge_isub, ge_imul, ge_iand, ge_ior, ge_ixor, ge_ishl, ge_ishr, ge_iushr, ge_ladd, ge_lsub, ge_lmul, ge_lcmp, ge_idiv, ge_irem, ge_ldiv, ge_ineg, ge_i2l, ge_l2i, ge_lneg, ge_dupI, ge_dupR, ge_popI, ge_dup2, ge_goto, ge_if_eq, ge_if_ne, ge_if_lt, ge_if_ge, ge_if_gt, ge_if_le, ge_ic_eq, ge_ic_ne, ge_ic_lt, ge_ic_ge, ge_ic_gt, ge_ic_le, ge_ifnullN, ge_ifnullR, ge_ifnnN, ge_ifnnR, ge_switch, ge_getf, ge_putfI, ge_putfL, ge_putfR, ge_iald, ge_lald, ge_aald, ge_iast, ge_last, ge_aast, ge_alen, ge_new, ge_newI, ge_newL, ge_newQ, ge_oi, ge_copy, ge_max, ge_is0, ge_is1, ge_iv1, ge_is2, ge_iv2, ge_is3, ge_iv3, ge_is4, ge_iv4, ge_is5, ge_iv5, ge_iv6, ge_ret, ge_iret, ge_zret, ge_lret, ge_aretR, ge_aretN, ge_ld0, ge_lds, ge_sum0, ge_sumI, ge_sumL, ge_sumR, ge_sumN, ge_st0, ge_st1, ge_st2, ge_su0, ge_su1, ge_su2, ge_ap1, ge_ap0, qm_gf, qm_pf, qm_ia, qm_is, qm_la, qm_ls, qm_aa, qm_al, qm_isK, qm_kv, qm_cp, List.getElem?_cons_zero, List.getElem?_cons_succ, List.length_cons, List.length_nil, List.set_cons_zero, List.set_cons_succ, decide_true, if_true, if_false, eq_self, and_true, true_and, or_true, true_or, and_false, false_and, or_false, false_or, ↓reduceIte, Nat.reduceLT, Nat.reduceLeDiff, Nat.reduceAdd, Nat.zero_lt_succ, zi_eq0, zi_01, zi_eq1, zi_or, Nat.reduceEqDiff, not_true_eq_false, not_false_eq_true, va_up_self, zi_0ne1, zi_1ne0, nr, hc3, nI_1]
          refine Eq.trans ?_ (hin.trans hend)
          conv => lhs; rw [kk_87_51]
          simp only [kl_87_0, kl_87_14, kl_87_16, kl_87_32, kl_87_51, kl_87_63, kl_87_94, kl_87_100, kl_87_106, ge_iconst, ge_lconst, ge_null, ge_iload, ge_lload, ge_aload, ge_istore, ge_lstore, ge_astore, ge_astoreN, ge_iinc, ge_iadd, ge_isub, ge_imul, ge_iand, ge_ior, ge_ixor, ge_ishl, ge_ishr, ge_iushr, ge_ladd, ge_lsub, ge_lmul, ge_lcmp, ge_idiv, ge_irem, ge_ldiv, ge_ineg, ge_i2l, ge_l2i, ge_lneg, ge_dupI, ge_dupR, ge_popI, ge_dup2, ge_goto, ge_if_eq, ge_if_ne, ge_if_lt, ge_if_ge, ge_if_gt, ge_if_le, ge_ic_eq, ge_ic_ne, ge_ic_lt, ge_ic_ge, ge_ic_gt, ge_ic_le, ge_ifnullN, ge_ifnullR, ge_ifnnN, ge_ifnnR, ge_switch, ge_getf, ge_putfI, ge_putfL, ge_putfR, ge_iald, ge_lald, ge_aald, ge_iast, ge_last, ge_aast, ge_alen, ge_new, ge_newI, ge_newL, ge_newQ, ge_oi, ge_copy, ge_max, ge_is0, ge_is1, ge_iv1, ge_is2, ge_iv2, ge_is3, ge_iv3, ge_is4, ge_iv4, ge_is5, ge_iv5, ge_iv6, ge_ret, ge_iret, ge_zret, ge_lret, ge_aretR, ge_aretN, ge_ld0, ge_lds, ge_sum0, ge_sumI, ge_sumL, ge_sumR, ge_sumN, ge_st0, ge_st1, ge_st2, ge_su0, ge_su1, ge_su2, ge_ap1, ge_ap0, qm_gf, qm_pf, qm_ia, qm_is, qm_la, qm_ls, qm_aa, qm_al, qm_isK, qm_kv, qm_cp, List.getElem?_cons_zero, List.getElem?_cons_succ, List.length_cons, List.length_nil, List.set_cons_zero, List.set_cons_succ, decide_true, if_true, if_false, eq_self, and_true, true_and, or_true, true_or, and_false, false_and, or_false, false_or, ↓reduceIte, Nat.reduceLT, Nat.reduceLeDiff, Nat.reduceAdd, Nat.zero_lt_succ, zi_eq0, zi_01, zi_eq1, zi_or, Nat.reduceEqDiff, not_true_eq_false, not_false_eq_true, va_up_self, zi_0ne1, zi_1ne0, mr, hc]
          rfl)
        dsimp only at k1 j4 j5 hlo
        have hag : ag 6 (tuV (ss_c b k) (b.2.2.1 k) (b.2.1 k) 0 (zf_fill v0 0 6)) (zf_mk (tu_G b k) (b.2.2.1 k)) := fun q hq => by
          unfold tuV zf_mk tu_G
          by_cases e : q < b.2.2.1 k
          · rw [if_pos e, if_pos e, if_neg (by omega)]
          · rw [if_neg e, if_neg e]
            exact if_pos hq
        obtain ⟨f3, e3, k3⟩ := tb_keep X d N S k1 (l := l) (by omega) (by omega) j4 j5 hag
        have m0 := tk_0 k1
        have mr := tk_brd k1 (k := k) (by omega)
        have hc : nI (b.2.1 k) ≤ nI (b.2.1 k) := Int32.le_refl _
        refine ⟨f3, ?_, k3⟩
        refine Eq.trans ?_ (hlo.trans ?_)
        · simp only [ke_87, kk_87_0, kk_87_16, kk_87_32, kl_87_0, kl_87_14, kl_87_16, kl_87_32, kl_87_51, kl_87_63, kl_87_94, kl_87_100, kl_87_106, ge_iconst, ge_lconst, ge_null, ge_iload, ge_lload, ge_aload, ge_istore, ge_lstore, ge_astore, ge_astoreN, ge_iinc, ge_iadd, ge_isub, ge_imul, ge_iand, ge_ior, ge_ixor, ge_ishl, ge_ishr, ge_iushr, ge_ladd, ge_lsub, ge_lmul, ge_lcmp, ge_idiv, ge_irem, ge_ldiv, ge_ineg, ge_i2l, ge_l2i, ge_lneg, ge_dupI, ge_dupR, ge_popI, ge_dup2, ge_goto, ge_if_eq, ge_if_ne, ge_if_lt, ge_if_ge, ge_if_gt, ge_if_le, ge_ic_eq, ge_ic_ne, ge_ic_lt, ge_ic_ge, ge_ic_gt, ge_ic_le, ge_ifnullN, ge_ifnullR, ge_ifnnN, ge_ifnnR, ge_switch, ge_getf, ge_putfI, ge_putfL, ge_putfR, ge_iald, ge_lald, ge_aald, ge_iast, ge_last, ge_aast, ge_alen, ge_new, ge_newI, ge_newL, ge_newQ, ge_oi, ge_copy, ge_max, ge_is0, ge_is1, ge_iv1, ge_is2, ge_iv2, ge_is3, ge_iv3, ge_is4, ge_iv4, ge_is5, ge_iv5, ge_iv6, ge_ret, ge_iret, ge_zret, ge_lret, ge_aretR, ge_aretN, ge_ld0, ge_lds, ge_sum0, ge_sumI, ge_sumL, ge_sumR, ge_sumN, ge_st0, ge_st1, ge_st2, ge_su0, ge_su1, ge_su2, ge_ap1, ge_ap0, qm_gf, qm_pf, qm_ia, qm_is, qm_la, qm_ls, qm_aa, qm_al, qm_isK, qm_kv, qm_cp, List.getElem?_cons_zero, List.getElem?_cons_succ, List.length_cons, List.length_nil, List.set_cons_zero, List.set_cons_succ, decide_true, if_true, if_false, eq_self, and_true, true_and, or_true, true_or, and_false, false_and, or_false, false_or, ↓reduceIte, Nat.reduceLT, Nat.reduceLeDiff, Nat.reduceAdd, Nat.zero_lt_succ, zi_eq0, zi_01, zi_eq1, zi_or, Nat.reduceEqDiff, not_true_eq_false, not_false_eq_true, va_up_self, zi_0ne1, zi_1ne0, tb_isBoardNumber, h1, h2, h0, hat, hr, h8, eb]
          rfl
        · simp only [kk_87_51, kk_87_106, kl_87_0, kl_87_14, kl_87_16, kl_87_32, kl_87_51, kl_87_63, kl_87_94, kl_87_100, kl_87_106, ge_iconst, ge_lconst, ge_null, ge_iload, ge_lload, ge_aload, ge_istore, ge_lstore, ge_astore, ge_astoreN, ge_iinc, ge_iadd, ge_isub, ge_imul, ge_iand, ge_ior, ge_ixor, ge_ishl, ge_ishr, ge_iushr, ge_ladd, ge_lsub, ge_lmul, ge_lcmp, ge_idiv, ge_irem, ge_ldiv, ge_ineg, ge_i2l, ge_l2i, ge_lneg, ge_dupI, ge_dupR, ge_popI, ge_dup2, ge_goto, ge_if_eq, ge_if_ne, ge_if_lt, ge_if_ge, ge_if_gt, ge_if_le, ge_ic_eq, ge_ic_ne, ge_ic_lt, ge_ic_ge, ge_ic_gt, ge_ic_le, ge_ifnullN, ge_ifnullR, ge_ifnnN, ge_ifnnR, ge_switch, ge_getf, ge_putfI, ge_putfL, ge_putfR, ge_iald, ge_lald, ge_aald, ge_iast, ge_last, ge_aast, ge_alen, ge_new, ge_newI, ge_newL, ge_newQ, ge_oi, ge_copy, ge_max, ge_is0, ge_is1, ge_iv1, ge_is2, ge_iv2, ge_is3, ge_iv3, ge_is4, ge_iv4, ge_is5, ge_iv5, ge_iv6, ge_ret, ge_iret, ge_zret, ge_lret, ge_aretR, ge_aretN, ge_ld0, ge_lds, ge_sum0, ge_sumI, ge_sumL, ge_sumR, ge_sumN, ge_st0, ge_st1, ge_st2, ge_su0, ge_su1, ge_su2, ge_ap1, ge_ap0, qm_gf, qm_pf, qm_ia, qm_is, qm_la, qm_ls, qm_aa, qm_al, qm_isK, qm_kv, qm_cp, List.getElem?_cons_zero, List.getElem?_cons_succ, List.length_cons, List.length_nil, List.set_cons_zero, List.set_cons_succ, decide_true, if_true, if_false, eq_self, and_true, true_and, or_true, true_or, and_false, false_and, or_false, false_or, ↓reduceIte, Nat.reduceLT, Nat.reduceLeDiff, Nat.reduceAdd, Nat.zero_lt_succ, zi_eq0, zi_01, zi_eq1, zi_or, Nat.reduceEqDiff, not_true_eq_false, not_false_eq_true, va_up_self, zi_0ne1, zi_1ne0, mr, hc, m0, e3]
    · rw [if_pos (Or.inr h2)]
      refine ⟨f, ?_, h⟩
      simp only [ke_87, kk_87_0, kk_87_14, kk_87_16, kk_87_32, kk_87_51, kk_87_63, kk_87_94, kk_87_100, kk_87_106, kl_87_0, kl_87_14, kl_87_16, kl_87_32, kl_87_51, kl_87_63, kl_87_94, kl_87_100, kl_87_106, ge_iconst, ge_lconst, ge_null, ge_iload, ge_lload, ge_aload, ge_istore, ge_lstore, ge_astore, ge_astoreN, ge_iinc, ge_iadd, ge_isub, ge_imul, ge_iand, ge_ior, ge_ixor, ge_ishl, ge_ishr, ge_iushr, ge_ladd, ge_lsub, ge_lmul, ge_lcmp, ge_idiv, ge_irem, ge_ldiv, ge_ineg, ge_i2l, ge_l2i, ge_lneg, ge_dupI, ge_dupR, ge_popI, ge_dup2, ge_goto, ge_if_eq, ge_if_ne, ge_if_lt, ge_if_ge, ge_if_gt, ge_if_le, ge_ic_eq, ge_ic_ne, ge_ic_lt, ge_ic_ge, ge_ic_gt, ge_ic_le, ge_ifnullN, ge_ifnullR, ge_ifnnN, ge_ifnnR, ge_switch, ge_getf, ge_putfI, ge_putfL, ge_putfR, ge_iald, ge_lald, ge_aald, ge_iast, ge_last, ge_aast, ge_alen, ge_new, ge_newI, ge_newL, ge_newQ, ge_oi, ge_copy, ge_max, ge_is0, ge_is1, ge_iv1, ge_is2, ge_iv2, ge_is3, ge_iv3, ge_is4, ge_iv4, ge_is5, ge_iv5, ge_iv6, ge_ret, ge_iret, ge_zret, ge_lret, ge_aretR, ge_aretN, ge_ld0, ge_lds, ge_sum0, ge_sumI, ge_sumL, ge_sumR, ge_sumN, ge_st0, ge_st1, ge_st2, ge_su0, ge_su1, ge_su2, ge_ap1, ge_ap0, qm_gf, qm_pf, qm_ia, qm_is, qm_la, qm_ls, qm_aa, qm_al, qm_isK, qm_kv, qm_cp, List.getElem?_cons_zero, List.getElem?_cons_succ, List.length_cons, List.length_nil, List.set_cons_zero, List.set_cons_succ, decide_true, if_true, if_false, eq_self, and_true, true_and, or_true, true_or, and_false, false_and, or_false, false_or, ↓reduceIte, Nat.reduceLT, Nat.reduceLeDiff, Nat.reduceAdd, Nat.zero_lt_succ, zi_eq0, zi_01, zi_eq1, zi_or, Nat.reduceEqDiff, not_true_eq_false, not_false_eq_true, va_up_self, zi_0ne1, zi_1ne0, tb_isBoardNumber, h1, h2, ss_bad]
  · rw [if_pos (Or.inl h1)]
    refine ⟨f, ?_, h⟩
    simp only [ke_87, kk_87_0, kk_87_14, kk_87_16, kk_87_32, kk_87_51, kk_87_63, kk_87_94, kk_87_100, kk_87_106, kl_87_0, kl_87_14, kl_87_16, kl_87_32, kl_87_51, kl_87_63, kl_87_94, kl_87_100, kl_87_106, ge_iconst, ge_lconst, ge_null, ge_iload, ge_lload, ge_aload, ge_istore, ge_lstore, ge_astore, ge_astoreN, ge_iinc, ge_iadd, ge_isub, ge_imul, ge_iand, ge_ior, ge_ixor, ge_ishl, ge_ishr, ge_iushr, ge_ladd, ge_lsub, ge_lmul, ge_lcmp, ge_idiv, ge_irem, ge_ldiv, ge_ineg, ge_i2l, ge_l2i, ge_lneg, ge_dupI, ge_dupR, ge_popI, ge_dup2, ge_goto, ge_if_eq, ge_if_ne, ge_if_lt, ge_if_ge, ge_if_gt, ge_if_le, ge_ic_eq, ge_ic_ne, ge_ic_lt, ge_ic_ge, ge_ic_gt, ge_ic_le, ge_ifnullN, ge_ifnullR, ge_ifnnN, ge_ifnnR, ge_switch, ge_getf, ge_putfI, ge_putfL, ge_putfR, ge_iald, ge_lald, ge_aald, ge_iast, ge_last, ge_aast, ge_alen, ge_new, ge_newI, ge_newL, ge_newQ, ge_oi, ge_copy, ge_max, ge_is0, ge_is1, ge_iv1, ge_is2, ge_iv2, ge_is3, ge_iv3, ge_is4, ge_iv4, ge_is5, ge_iv5, ge_iv6, ge_ret, ge_iret, ge_zret, ge_lret, ge_aretR, ge_aretN, ge_ld0, ge_lds, ge_sum0, ge_sumI, ge_sumL, ge_sumR, ge_sumN, ge_st0, ge_st1, ge_st2, ge_su0, ge_su1, ge_su2, ge_ap1, ge_ap0, qm_gf, qm_pf, qm_ia, qm_is, qm_la, qm_ls, qm_aa, qm_al, qm_isK, qm_kv, qm_cp, List.getElem?_cons_zero, List.getElem?_cons_succ, List.length_cons, List.length_nil, List.set_cons_zero, List.set_cons_succ, decide_true, if_true, if_false, eq_self, and_true, true_and, or_true, true_or, and_false, false_and, or_false, false_or, ↓reduceIte, Nat.reduceLT, Nat.reduceLeDiff, Nat.reduceAdd, Nat.zero_lt_succ, zi_eq0, zi_01, zi_eq1, zi_or, Nat.reduceEqDiff, not_true_eq_false, not_false_eq_true, va_up_self, zi_0ne1, zi_1ne0, tb_isBoardNumber, h1, ss_bad]
end TB21
