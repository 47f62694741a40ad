/-! the class's stairsLike -/
def st_al' (b : ss_B) (k : Nat) : (Nat → Nat) → Bool := tal (ss_side b k) (fun q => lN (tN (ss_c b k) (b.2.1 k) q))
def st_A (b : ss_B) (k : Nat) : Int32 × (Nat → Int32) := (sl (ss_side b k) (ss_side b k) 0).foldl (lf (st_al' b k)) (0, fun _ => 0)
def sR (r : ss_R) (l n : Nat) (a : Int32 × (Nat → Int32)) : ss_R := if a.1 = 0 then r else (va_up r.1 l (nI n), va_up r.2 l (zf_put (zf_fill (r.2 l) 0 36) a.2 n))
def op_stairsLike (x y : Int32) (r : ss_R) (b : ss_B) (t : ss_T) : ss_A := if ¬ (0 ≤ x ∧ x ≤ 11) ∨ ¬ (0 ≤ y ∧ y ≤ 7) then ss_bad r b t else if b.1 x.toNatClampNeg = -1 then ss_no r b t 1 else (.int (st_A b x.toNatClampNeg).1, sR r y.toNatClampNeg (ss_side b x.toNatClampNeg) (st_A b x.toNatClampNeg), b, t)
theorem zf_put_cg {z u v : Nat → Int32} {n : Nat} (h : ∀ q, q < n → u q = v q) : zf_put z u n = zf_put z v n := by
  funext j
  unfold zf_put
  by_cases c : j < n
  · rw [if_pos c, if_pos c, h j c]
  · rw [if_neg c, if_neg c]
theorem sl_nw {c : Nat} (h : c < 2000) : ¬ nI c + 1 = 0 := by
  rw [nI_1]
  exact nI_ne0 (by omega) (by omega)
/-- the class's state within its search -/
def stK (z : Nat) (g : Nat → qm_C) (r : ss_R) (b : ss_B) (t : ss_T) (l n : Nat) (Z v : Nat → Int32) (a : Int32 × (Nat → Int32)) (f : Nat → qm_C) : Prop := TBk z g (sR r l n a) b t f ∧ f (z + 8) = .inl (0, 7, .inl Z) ∧ f (z + 19) = .inr (3, [.int (nI n), .ref (z + 20)]) ∧ f (z + 20) = .inl (0, 6, .inl v)
section TB31
variable (X : qm_X) (d N S : Nat)
variable {z : Nat} {g f : Nat → qm_C} {r : ss_R} {b : ss_B} {t : ss_T}
theorem stl_step {l n h c st : Nat} {cc : Nat → Nat} {Z v : Nat → Int32} {x : List Nat} (hl : l < 8) (hn : n ≤ 6) (hh : h ≤ 6) (hs : sok n x) (hv : ∀ q, q < n → v q = nI (px x q)) (hZ : ∀ q, q < 7 → Z q = nI (tN cc h q)) {a : Int32 × (Nat → Int32)} (ha : a.1 = nI c) (hc : c < 2000) (hst : st < 924) (K : stK z g r b t l n Z v a f) (kx bx : Nat) : ∃ f', qm_go (qm_ex qm_M X (d + 3)) X kt_94 kk_94_61 [.val (.ref (z)), .val (.int (nI kx)), .val (.int (nI l)), .val (.ref (bx)), .val (.int (nI n)), .val (.int (a.1)), .val (.int (nI st))] [] (N, S, f) = qm_go (qm_ex qm_M X (d + 3)) X kt_94 kk_94_133 [.val (.ref (z)), .val (.int (nI kx)), .val (.int (nI l)), .val (.ref (bx)), .val (.int (nI n)), .val (.int ((lf (tal n (fun k => lN (tN cc h k))) a x).1)), .val (.int (nI st))] [] (N, S, f') ∧ stK z g r b t l n Z v (lf (tal n (fun k => lN (tN cc h k))) a x) f' := by
  obtain ⟨K1, K8, K19, K20⟩ := K
  have h0 := tk_0 K1
  have h6 := tk_6 K1
  have h9 := tk_9 K1
  obtain ⟨z11, h11⟩ := K1.1 11 (by omega)
  have hc1 : ¬ (924 : Int32) ≤ nI st := nI_ge (a := st) (b := 924) (by omega) (by omega)
  have hat := nb_at X (d + 1) N S f h6 K8 1
  rw [if_pos (by decide), show (1 : Int32).toNatClampNeg = 1 from by decide] at hat
  have hhc := lg_haveCells X (d + 2) N S f (Z 1) hn K19 K20
  obtain ⟨al1, al2⟩ := st_al hn hh hs hv hZ z11
  generalize tal n (fun k => lN (tN cc h k)) = AL at *
  by_cases c1 : lg_sum v n = Z 1
  · rw [if_pos c1] at hhc
    have hfs := nb_findForStairs X (d + 1) N S f z11 hn (show z + 9 ≠ z + 11 by omega) (show z + 19 ≠ z + 11 by omega) (show z + 20 ≠ z + 11 by omega) h9 h11 K19 K20
    generalize nb_sout v n 0 (upd (zf_fill z11 0 7) 0 1) = zz at *
    have M1 : TBk z g (sR r l n a) b t (va_up f (z + 11) (.inl (0, 7, .inl zz))) := tk_s 11 K1 (by omega) ⟨_, rfl⟩
    have M8 : va_up f (z + 11) (.inl (0, 7, .inl zz)) (z + 8) = .inl (0, 7, .inl Z) := by rw [va_up_ne _ _ (by omega)]; exact K8
    have M11 : va_up f (z + 11) (.inl (0, 7, .inl zz)) (z + 11) = .inl (0, 7, .inl zz) := va_up_self _ _ _
    have M19 : va_up f (z + 11) (.inl (0, 7, .inl zz)) (z + 19) = .inr (3, [.int (nI n), .ref (z + 20)]) := by rw [va_up_ne _ _ (by omega)]; exact K19
    have M20 : va_up f (z + 11) (.inl (0, 7, .inl zz)) (z + 20) = .inl (0, 6, .inl v) := by rw [va_up_ne _ _ (by omega)]; exact K20
    generalize va_up f (z + 11) (.inl (0, 7, .inl zz)) = f1 at *
    have m0 := tk_0 M1
    have m6 := tk_6 M1
    have m9 := tk_9 M1
    have hsm := nb_isSameAs X (d + 2) N S f1 m6 M8 m9 M11
    by_cases c2 : nb_same Z zz = true
    · rw [if_pos c2] at hsm
      have elf : lf AL a x = (a.1 + 1, if a.1 = 0 then (fun q => nI (px x q)) else a.2) := if_pos (al1.mp c2)
      have nw : ¬ a.1 + 1 = 0 := by rw [ha]; exact sl_nw hc
      by_cases c3 : a.1 = 0
      · have eR : sR r l n a = r := if_pos c3
        rw [eR] at M1
        obtain ⟨G, hG, hr1⟩ := M1.1 1 (by omega)
        have hg := hG l hl
        have hi : qm_in (nI l) 8 = true := zi_in (by omega) (by omega)
        have hkk : (nI l).toNatClampNeg = l := nI_clamp (by omega)
        have hr := tk_row M1 hl
        have hp := tk_pl M1 hl
        have hw := lg_writeTo X d N S f1 (r.2 l) (r.1 l) hn (by omega) (by omega) (by omega) (by omega) (by omega) (by omega) M19 M20 hr hp
        have P1 := tk_rp l (zf_put (zf_fill (r.2 l) 0 36) v n) hl (tk_rs l (nI n) hl M1)
        have eR2 : sR r l n (lf AL a x) = (va_up r.1 l (nI n), va_up r.2 l (zf_put (zf_fill (r.2 l) 0 36) v n)) := by
          rw [elf]
          unfold sR
          rw [if_neg nw]
          dsimp only
          rw [if_pos c3, zf_put_cg hv]
        refine ⟨_, ?_, ⟨by rw [eR2]; exact P1, ?_, ?_, ?_⟩⟩
        · rw [elf]
          conv => lhs; rw [kk_94_61]
          simp only [kl_94_0, kl_94_14, kl_94_16, kl_94_32, kl_94_61, kl_94_130, kl_94_133, kl_94_146, kl_94_152, kk_94_130, ge_iconst, ge_lconst, ge_null, ge_iload, ge_lload, ge_aload, ge_istore, ge_lstore, ge_astore, ge_astoreN, ge_iinc, ge_iadd, ge_isub, ge_imul, ge_iand, ge_ior, ge_ixor, ge_ishl, ge_ishr, ge_iushr, ge_ladd, ge_lsub, ge_lmul, ge_lcmp, ge_idiv, ge_irem, ge_ldiv, ge_ineg, ge_i2l, ge_l2i, ge_lneg, ge_dupI, ge_dupR, ge_popI, ge_dup2, ge_goto, ge_if_eq, ge_if_ne, ge_if_lt, ge_if_ge, ge_if_gt, ge_if_le, ge_ic_eq, ge_ic_ne, ge_ic_lt, ge_ic_ge, ge_ic_gt, ge_ic_le, ge_ifnullN, ge_ifnullR, ge_ifnnN, ge_ifnnR, ge_switch, ge_getf, ge_putfI, ge_putfL, ge_putfR, ge_iald, ge_lald, ge_aald, ge_iast, ge_last, ge_aast, ge_alen, ge_new, ge_newI, ge_newL, ge_newQ, ge_oi, ge_copy, ge_max, ge_is0, ge_is1, ge_iv1, ge_is2, ge_iv2, ge_is3, ge_iv3, ge_is4, ge_iv4, ge_is5, ge_iv5, ge_iv6, ge_ret, ge_iret, ge_zret, ge_lret, ge_aretR, ge_aretN, ge_ld0, ge_lds, ge_sum0, ge_sumI, ge_sumL, ge_sumR, ge_sumN, ge_st0, ge_st1, ge_st2, ge_su0, ge_su1, ge_su2, ge_ap1, ge_ap0, qm_gf, qm_pf, qm_ia, qm_is, qm_la, qm_ls, qm_aa, qm_al, qm_isK, qm_kv, qm_cp, List.getElem?_cons_zero, List.getElem?_cons_succ, List.length_cons, List.length_nil, List.set_cons_zero, List.set_cons_succ, decide_true, if_true, if_false, eq_self, and_true, true_and, or_true, true_or, and_false, false_and, or_false, false_or, ↓reduceIte, Nat.reduceLT, Nat.reduceLeDiff, Nat.reduceAdd, Nat.zero_lt_succ, zi_eq0, zi_01, zi_eq1, zi_or, Nat.reduceEqDiff, not_true_eq_false, not_false_eq_true, va_up_self, zi_0ne1, zi_1ne0, hc1, h0, h6, h9, hat, K19, hhc, hfs, m0, m6, m9, M19, hsm, c3, hr1, hi, hkk, hg, va_rf, hr, hw, Int32.zero_add]
        · rw [va_up_ne _ _ (by omega), va_up_ne _ _ (by omega)]; exact M8
        · rw [va_up_ne _ _ (by omega), va_up_ne _ _ (by omega)]; exact M19
        · rw [va_up_ne _ _ (by omega), va_up_ne _ _ (by omega)]; exact M20
      · have eR2 : sR r l n (lf AL a x) = sR r l n a := by
          rw [elf]
          unfold sR
          rw [if_neg nw, if_neg c3, if_neg c3]
        refine ⟨f1, ?_, ⟨by rw [eR2]; exact M1, M8, M19, M20⟩⟩
        rw [elf]
        conv => lhs; rw [kk_94_61]
        simp only [kl_94_0, kl_94_14, kl_94_16, kl_94_32, kl_94_61, kl_94_130, kl_94_133, kl_94_146, kl_94_152, kk_94_130, ge_iconst, ge_lconst, ge_null, ge_iload, ge_lload, ge_aload, ge_istore, ge_lstore, ge_astore, ge_astoreN, ge_iinc, ge_iadd, ge_isub, ge_imul, ge_iand, ge_ior, ge_ixor, ge_ishl, ge_ishr, ge_iushr, ge_ladd, ge_lsub, ge_lmul, ge_lcmp, ge_idiv, ge_irem, ge_ldiv, ge_ineg, ge_i2l, ge_l2i, ge_lneg, ge_dupI, ge_dupR, ge_popI, ge_dup2, ge_goto, ge_if_eq, ge_if_ne, ge_if_lt, ge_if_ge, ge_if_gt, ge_if_le, ge_ic_eq, ge_ic_ne, ge_ic_lt, ge_ic_ge, ge_ic_gt, ge_ic_le, ge_ifnullN, ge_ifnullR, ge_ifnnN, ge_ifnnR, ge_switch, ge_getf, ge_putfI, ge_putfL, ge_putfR, ge_iald, ge_lald, ge_aald, ge_iast, ge_last, ge_aast, ge_alen, ge_new, ge_newI, ge_newL, ge_newQ, ge_oi, ge_copy, ge_max, ge_is0, ge_is1, ge_iv1, ge_is2, ge_iv2, ge_is3, ge_iv3, ge_is4, ge_iv4, ge_is5, ge_iv5, ge_iv6, ge_ret, ge_iret, ge_zret, ge_lret, ge_aretR, ge_aretN, ge_ld0, ge_lds, ge_sum0, ge_sumI, ge_sumL, ge_sumR, ge_sumN, ge_st0, ge_st1, ge_st2, ge_su0, ge_su1, ge_su2, ge_ap1, ge_ap0, qm_gf, qm_pf, qm_ia, qm_is, qm_la, qm_ls, qm_aa, qm_al, qm_isK, qm_kv, qm_cp, List.getElem?_cons_zero, List.getElem?_cons_succ, List.length_cons, List.length_nil, List.set_cons_zero, List.set_cons_succ, decide_true, if_true, if_false, eq_self, and_true, true_and, or_true, true_or, and_false, false_and, or_false, false_or, ↓reduceIte, Nat.reduceLT, Nat.reduceLeDiff, Nat.reduceAdd, Nat.zero_lt_succ, zi_eq0, zi_01, zi_eq1, zi_or, Nat.reduceEqDiff, not_true_eq_false, not_false_eq_true, va_up_self, zi_0ne1, zi_1ne0, hc1, h0, h6, h9, hat, K19, hhc, hfs, m0, m6, m9, M19, hsm, c3]
    · rw [if_neg c2] at hsm
      have elf : lf AL a x = a := if_neg (fun y => c2 (al1.mpr y))
      refine ⟨f1, ?_, ⟨by rw [elf]; exact M1, M8, M19, M20⟩⟩
      rw [elf]
      conv => lhs; rw [kk_94_61]
      simp only [kl_94_0, kl_94_14, kl_94_16, kl_94_32, kl_94_61, kl_94_130, kl_94_133, kl_94_146, kl_94_152, kk_94_130, ge_iconst, ge_lconst, ge_null, ge_iload, ge_lload, ge_aload, ge_istore, ge_lstore, ge_astore, ge_astoreN, ge_iinc, ge_iadd, ge_isub, ge_imul, ge_iand, ge_ior, ge_ixor, ge_ishl, ge_ishr, ge_iushr, ge_ladd, ge_lsub, ge_lmul, ge_lcmp, ge_idiv, ge_irem, ge_ldiv, ge_ineg, ge_i2l, ge_l2i, ge_lneg, ge_dupI, ge_dupR, ge_popI, ge_dup2, ge_goto, ge_if_eq, ge_if_ne, ge_if_lt, ge_if_ge, ge_if_gt, ge_if_le, ge_ic_eq, ge_ic_ne, ge_ic_lt, ge_ic_ge, ge_ic_gt, ge_ic_le, ge_ifnullN, ge_ifnullR, ge_ifnnN, ge_ifnnR, ge_switch, ge_getf, ge_putfI, ge_putfL, ge_putfR, ge_iald, ge_lald, ge_aald, ge_iast, ge_last, ge_aast, ge_alen, ge_new, ge_newI, ge_newL, ge_newQ, ge_oi, ge_copy, ge_max, ge_is0, ge_is1, ge_iv1, ge_is2, ge_iv2, ge_is3, ge_iv3, ge_is4, ge_iv4, ge_is5, ge_iv5, ge_iv6, ge_ret, ge_iret, ge_zret, ge_lret, ge_aretR, ge_aretN, ge_ld0, ge_lds, ge_sum0, ge_sumI, ge_sumL, ge_sumR, ge_sumN, ge_st0, ge_st1, ge_st2, ge_su0, ge_su1, ge_su2, ge_ap1, ge_ap0, qm_gf, qm_pf, qm_ia, qm_is, qm_la, qm_ls, qm_aa, qm_al, qm_isK, qm_kv, qm_cp, List.getElem?_cons_zero, List.getElem?_cons_succ, List.length_cons, List.length_nil, List.set_cons_zero, List.set_cons_succ, decide_true, if_true, if_false, eq_self, and_true, true_and, or_true, true_or, and_false, false_and, or_false, false_or, ↓reduceIte, Nat.reduceLT, Nat.reduceLeDiff, Nat.reduceAdd, Nat.zero_lt_succ, zi_eq0, zi_01, zi_eq1, zi_or, Nat.reduceEqDiff, not_true_eq_false, not_false_eq_true, va_up_self, zi_0ne1, zi_1ne0, hc1, h0, h6, h9, hat, K19, hhc, hfs, m0, m6, m9, M19, hsm]
  · rw [if_neg c1] at hhc
    have elf : lf AL a x = a := if_neg (fun y => c1 (al2 (al1.mpr y)))
    refine ⟨f, ?_, ⟨by rw [elf]; exact K1, K8, K19, K20⟩⟩
    rw [elf]
    conv => lhs; rw [kk_94_61]
    simp only [kl_94_0, kl_94_14, kl_94_16, kl_94_32, kl_94_61, kl_94_130, kl_94_133, kl_94_146, kl_94_152, ge_iconst, ge_lconst, ge_null, ge_iload, ge_lload, ge_aload, ge_istore, ge_lstore, ge_astore, ge_astoreN, ge_iinc, ge_iadd, ge_isub, ge_imul, ge_iand, ge_ior, ge_ixor, ge_ishl, ge_ishr, ge_iushr, ge_ladd, ge_lsub, ge_lmul, ge_lcmp, ge_idiv, ge_irem, ge_ldiv, ge_ineg, ge_i2l, ge_l2i, ge_lneg, ge_dupI, ge_dupR, ge_popI, ge_dup2, ge_goto, ge_if_eq, ge_if_ne, ge_if_lt, ge_if_ge, ge_if_gt, ge_if_le, ge_ic_eq, ge_ic_ne, ge_ic_lt, ge_ic_ge, ge_ic_gt, ge_ic_le, ge_ifnullN, ge_ifnullR, ge_ifnnN, ge_ifnnR, ge_switch, ge_getf, ge_putfI, ge_putfL, ge_putfR, ge_iald, ge_lald, ge_aald, ge_iast, ge_last, ge_aast, ge_alen, ge_new, ge_newI, ge_newL, ge_newQ, ge_oi, ge_copy, ge_max, ge_is0, ge_is1, ge_iv1, ge_is2, ge_iv2, ge_is3, ge_iv3, ge_is4, ge_iv4, ge_is5, ge_iv5, ge_iv6, ge_ret, ge_iret, ge_zret, ge_lret, ge_aretR, ge_aretN, ge_ld0, ge_lds, ge_sum0, ge_sumI, ge_sumL, ge_sumR, ge_sumN, ge_st0, ge_st1, ge_st2, ge_su0, ge_su1, ge_su2, ge_ap1, ge_ap0, qm_gf, qm_pf, qm_ia, qm_is, qm_la, qm_ls, qm_aa, qm_al, qm_isK, qm_kv, qm_cp, List.getElem?_cons_zero, List.getElem?_cons_succ, List.length_cons, List.length_nil, List.set_cons_zero, List.set_cons_succ, decide_true, if_true, if_false, eq_self, and_true, true_and, or_true, true_or, and_false, false_and, or_false, false_or, ↓reduceIte, Nat.reduceLT, Nat.reduceLeDiff, Nat.reduceAdd, Nat.zero_lt_succ, zi_eq0, zi_01, zi_eq1, zi_or, Nat.reduceEqDiff, not_true_eq_false, not_false_eq_true, va_up_self, zi_0ne1, zi_1ne0, hc1, h0, h6, h9, hat, K19, hhc]
theorem stl_loop {l n h : Nat} {cc : Nat → Nat} {Z : Nat → Int32} (hl : l < 8) (hn : n ≤ 6) (hh : h ≤ 6) (hZ : ∀ q, q < 7 → Z q = nI (tN cc h q)) (kx bx : Nat) : ∀ (L : List (List Nat)) (x : List Nat) (v : Nat → Int32) (a : Int32 × (Nat → Int32)) (c st : Nat) (f : Nat → qm_C), (∀ y, y ∈ x :: L → sok n y) → chn n x L = true → (∀ q, q < n → v q = nI (px x q)) → a.1 = nI c → c ≤ st → st + L.length < 924 → stK z g r b t l n Z v a f → ∃ f', qm_go (qm_ex qm_M X (d + 3)) X kt_94 kk_94_61 [.val (.ref (z)), .val (.int (nI kx)), .val (.int (nI l)), .val (.ref (bx)), .val (.int (nI n)), .val (.int (a.1)), .val (.int (nI st))] [] (N, S, f) = some (some (.int ((x :: L).foldl (lf (tal n (fun k => lN (tN cc h k)))) a).1), (N, S, f')) ∧ TBk z g (sR r l n ((x :: L).foldl (lf (tal n (fun k => lN (tN cc h k)))) a)) b t f'
  | L, x, v, a, c, st, f, hok, hch, hv, ha, hcs, hst, K => by
    obtain ⟨f1, e1, K1⟩ := stl_step X d N S (x := x) (st := st) hl hn hh (hok x List.mem_cons_self) hv hZ ha (by omega) (by omega) K kx bx
    rw [e1, List.foldl_cons]
    have hcnt : ∃ c', (lf (tal n (fun k => lN (tN cc h k))) a x).1 = nI c' ∧ c' ≤ st + 1 := by
      unfold lf
      by_cases q : tal n (fun k => lN (tN cc h k)) (px x) = true
      · rw [if_pos q]
        exact ⟨c + 1, by rw [← nI_1, ← ha], by omega⟩
      · rw [if_neg q]
        exact ⟨c, ha, by omega⟩
    generalize lf (tal n (fun k => lN (tN cc h k))) a x = a1 at *
    obtain ⟨c', hc', hc2⟩ := hcnt
    obtain ⟨P1, P8, P19, P20⟩ := id K1
    have h0 := tk_0 P1
    have hgo := lg_goOn X (d + 2) N S f1 hn (show z + 19 ≠ z + 20 by omega) P19 P20
    cases L with
    | nil =>
      rw [chn, Option.isNone_iff_eq_none] at hch
      rw [nx_none hn (hok x List.mem_cons_self) hv hch] at hgo
      refine ⟨f1, ?_, P1⟩
      simp only [kk_94_133, kk_94_152, kl_94_0, kl_94_14, kl_94_16, kl_94_32, kl_94_61, kl_94_130, kl_94_133, kl_94_146, kl_94_152, ge_iconst, ge_lconst, ge_null, ge_iload, ge_lload, ge_aload, ge_istore, ge_lstore, ge_astore, ge_astoreN, ge_iinc, ge_iadd, ge_isub, ge_imul, ge_iand, ge_ior, ge_ixor, ge_ishl, ge_ishr, ge_iushr, ge_ladd, ge_lsub, ge_lmul, ge_lcmp, ge_idiv, ge_irem, ge_ldiv, ge_ineg, ge_i2l, ge_l2i, ge_lneg, ge_dupI, ge_dupR, ge_popI, ge_dup2, ge_goto, ge_if_eq, ge_if_ne, ge_if_lt, ge_if_ge, ge_if_gt, ge_if_le, ge_ic_eq, ge_ic_ne, ge_ic_lt, ge_ic_ge, ge_ic_gt, ge_ic_le, ge_ifnullN, ge_ifnullR, ge_ifnnN, ge_ifnnR, ge_switch, ge_getf, ge_putfI, ge_putfL, ge_putfR, ge_iald, ge_lald, ge_aald, ge_iast, ge_last, ge_aast, ge_alen, ge_new, ge_newI, ge_newL, ge_newQ, ge_oi, ge_copy, ge_max, ge_is0, ge_is1, ge_iv1, ge_is2, ge_iv2, ge_is3, ge_iv3, ge_is4, ge_iv4, ge_is5, ge_iv5, ge_iv6, ge_ret, ge_iret, ge_zret, ge_lret, ge_aretR, ge_aretN, ge_ld0, ge_lds, ge_sum0, ge_sumI, ge_sumL, ge_sumR, ge_sumN, ge_st0, ge_st1, ge_st2, ge_su0, ge_su1, ge_su2, ge_ap1, ge_ap0, qm_gf, qm_pf, qm_ia, qm_is, qm_la, qm_ls, qm_aa, qm_al, qm_isK, qm_kv, qm_cp, List.getElem?_cons_zero, List.getElem?_cons_succ, List.length_cons, List.length_nil, List.set_cons_zero, List.set_cons_succ, decide_true, if_true, if_false, eq_self, and_true, true_and, or_true, true_or, and_false, false_and, or_false, false_or, ↓reduceIte, Nat.reduceLT, Nat.reduceLeDiff, Nat.reduceAdd, Nat.zero_lt_succ, zi_eq0, zi_01, zi_eq1, zi_or, Nat.reduceEqDiff, not_true_eq_false, not_false_eq_true, va_up_self, zi_0ne1, zi_1ne0, h0, P19, hgo, List.foldl_nil]
    | cons y L =>
      rw [chn, Bool.and_eq_true, decide_eq_true_eq] at hch
      obtain ⟨i, e2, e3⟩ := nx_some hn (hok x List.mem_cons_self) hv hch.1
      rw [e2] at hgo
      dsimp only at hgo
      obtain ⟨f2, e4, K2⟩ := stl_loop hl hn hh hZ kx bx L y (lg_fill (v i + 1) (n - i) i v) a1 c' (st + 1) (va_up f1 (z + 20) (.inl (0, 6, .inl (lg_fill (v i + 1) (n - i) i v)))) (fun w hw => hok w (List.mem_cons_of_mem _ hw)) hch.2 e3 hc' hc2 (by rw [List.length_cons] at hst; omega) ⟨tk_s 20 P1 (by omega) ⟨_, rfl⟩, by rw [va_up_ne _ _ (by omega)]; exact P8, by rw [va_up_ne _ _ (by omega)]; exact P19, va_up_self _ _ _⟩
      refine ⟨f2, ?_, K2⟩
      rw [← e4]
      conv => lhs; rw [kk_94_133]
      simp only [kl_94_0, kl_94_14, kl_94_16, kl_94_32, kl_94_61, kl_94_130, kl_94_133, kl_94_146, kl_94_152, kk_94_146, ge_iconst, ge_lconst, ge_null, ge_iload, ge_lload, ge_aload, ge_istore, ge_lstore, ge_astore, ge_astoreN, ge_iinc, ge_iadd, ge_isub, ge_imul, ge_iand, ge_ior, ge_ixor, ge_ishl, ge_ishr, ge_iushr, ge_ladd, ge_lsub, ge_lmul, ge_lcmp, ge_idiv, ge_irem, ge_ldiv, ge_ineg, ge_i2l, ge_l2i, ge_lneg, ge_dupI, ge_dupR, ge_popI, ge_dup2, ge_goto, ge_if_eq, ge_if_ne, ge_if_lt, ge_if_ge, ge_if_gt, ge_if_le, ge_ic_eq, ge_ic_ne, ge_ic_lt, ge_ic_ge, ge_ic_gt, ge_ic_le, ge_ifnullN, ge_ifnullR, ge_ifnnN, ge_ifnnR, ge_switch, ge_getf, ge_putfI, ge_putfL, ge_putfR, ge_iald, ge_lald, ge_aald, ge_iast, ge_last, ge_aast, ge_alen, ge_new, ge_newI, ge_newL, ge_newQ, ge_oi, ge_copy, ge_max, ge_is0, ge_is1, ge_iv1, ge_is2, ge_iv2, ge_is3, ge_iv3, ge_is4, ge_iv4, ge_is5, ge_iv5, ge_iv6, ge_ret, ge_iret, ge_zret, ge_lret, ge_aretR, ge_aretN, ge_ld0, ge_lds, ge_sum0, ge_sumI, ge_sumL, ge_sumR, ge_sumN, ge_st0, ge_st1, ge_st2, ge_su0, ge_su1, ge_su2, ge_ap1, ge_ap0, qm_gf, qm_pf, qm_ia, qm_is, qm_la, qm_ls, qm_aa, qm_al, qm_isK, qm_kv, qm_cp, List.getElem?_cons_zero, List.getElem?_cons_succ, List.length_cons, List.length_nil, List.set_cons_zero, List.set_cons_succ, decide_true, if_true, if_false, eq_self, and_true, true_and, or_true, true_or, and_false, false_and, or_false, false_or, ↓reduceIte, Nat.reduceLT, Nat.reduceLeDiff, Nat.reduceAdd, Nat.zero_lt_succ, zi_eq0, zi_01, zi_eq1, zi_or, Nat.reduceEqDiff, not_true_eq_false, not_false_eq_true, va_up_self, zi_0ne1, zi_1ne0, h0, P19, hgo, nI_1]
theorem ss_sdd (I : ss_I r b) {k : Nat} (hk : k < 12) : ss_side b k ≤ 6 ∧ nI (ss_side b k) = (if nI (b.2.1 k) < nI (b.2.2.1 k) then nI (b.2.2.1 k) else nI (b.2.1 k)) := by
  have hI := I.2 k hk
  unfold ss_side
  by_cases c : b.2.1 k < b.2.2.1 k
  · rw [if_pos c, if_pos (nI_lt c (by omega))]
    exact ⟨hI.2.1, rfl⟩
  · rw [if_neg c, if_neg (nI_nlt (by omega) (by omega))]
    exact ⟨hI.1, rfl⟩
theorem tb_stairsLike (h : TBk z g r b t f) (I : ss_I r b) (x y : Int32) : TBo X N S (d + 4) z g 94 [.ref z, .int x, .int y] f (op_stairsLike x y r b t) := by
  have h0 := tk_0 h
  rw [op_stairsLike]
  by_cases h1 : 0 ≤ x ∧ x ≤ 11
  · by_cases h2 : 0 ≤ y ∧ y ≤ 7
    · rw [if_neg (not_or.mpr ⟨not_not_intro h1, not_not_intro h2⟩)]
      obtain ⟨k, hk, ek⟩ := nI_of2 (x := x) (M := 11) (n := 11) (by decide) (Int32.not_lt.mpr h1.1) h1.2
      obtain ⟨l, hl, el⟩ := nI_of2 (x := y) (M := 7) (n := 7) (by decide) (Int32.not_lt.mpr h2.1) h2.2
      subst ek
      subst el
      rw [nI_clamp (show k < 2 ^ 31 by omega), nI_clamp (show l < 2 ^ 31 by omega)]
      have hat := tb_boardAt X d N S h (k := k) (by omega)
      by_cases h3 : b.1 k = -1
      · rw [if_pos h3]
        rw [if_pos h3] at hat
        obtain ⟨f1, e1, k1⟩ := tb_refused X (d + 2) N S h 1 (by decide)
        refine ⟨f1, ?_, k1⟩
        simp only [ke_94, kk_94_0, kk_94_14, kk_94_16, kk_94_32, kk_94_61, kk_94_130, kk_94_133, kk_94_146, kk_94_152, kl_94_0, kl_94_14, kl_94_16, kl_94_32, kl_94_61, kl_94_130, kl_94_133, kl_94_146, kl_94_152, ge_iconst, ge_lconst, ge_null, ge_iload, ge_lload, ge_aload, ge_istore, ge_lstore, ge_astore, ge_astoreN, ge_iinc, ge_iadd, ge_isub, ge_imul, ge_iand, ge_ior, ge_ixor, ge_ishl, ge_ishr, ge_iushr, ge_ladd, ge_lsub, ge_lmul, ge_lcmp, ge_idiv, ge_irem, ge_ldiv, ge_ineg, ge_i2l, ge_l2i, ge_lneg, ge_dupI, ge_dupR, ge_popI, ge_dup2, ge_goto, ge_if_eq, ge_if_ne, ge_if_lt, ge_if_ge, ge_if_gt, ge_if_le, ge_ic_eq, ge_ic_ne, ge_ic_lt, ge_ic_ge, ge_ic_gt, ge_ic_le, ge_ifnullN, ge_ifnullR, ge_ifnnN, ge_ifnnR, ge_switch, ge_getf, ge_putfI, ge_putfL, ge_putfR, ge_iald, ge_lald, ge_aald, ge_iast, ge_last, ge_aast, ge_alen, ge_new, ge_newI, ge_newL, ge_newQ, ge_oi, ge_copy, ge_max, ge_is0, ge_is1, ge_iv1, ge_is2, ge_iv2, ge_is3, ge_iv3, ge_is4, ge_iv4, ge_is5, ge_iv5, ge_iv6, ge_ret, ge_iret, ge_zret, ge_lret, ge_aretR, ge_aretN, ge_ld0, ge_lds, ge_sum0, ge_sumI, ge_sumL, ge_sumR, ge_sumN, ge_st0, ge_st1, ge_st2, ge_su0, ge_su1, ge_su2, ge_ap1, ge_ap0, qm_gf, qm_pf, qm_ia, qm_is, qm_la, qm_ls, qm_aa, qm_al, qm_isK, qm_kv, qm_cp, List.getElem?_cons_zero, List.getElem?_cons_succ, List.length_cons, List.length_nil, List.set_cons_zero, List.set_cons_succ, decide_true, if_true, if_false, eq_self, and_true, true_and, or_true, true_or, and_false, false_and, or_false, false_or, ↓reduceIte, Nat.reduceLT, Nat.reduceLeDiff, Nat.reduceAdd, Nat.zero_lt_succ, zi_eq0, zi_01, zi_eq1, zi_or, Nat.reduceEqDiff, not_true_eq_false, not_false_eq_true, va_up_self, zi_0ne1, zi_1ne0, tb_isBoardNumber, tb_isRowNumber, h1, h2, h0, hat, e1, ss_no]
      · rw [if_neg h3]
        rw [if_neg h3] at hat
        have hr := tk_brd h (k := k) (by omega)
        have hq := tk_cl h (k := k) (by omega)
        have hI := I.2 k (by omega)
        have h6 := tk_6 h
        obtain ⟨sd1, sd2⟩ := ss_sdd I (k := k) (by omega)
        have hsi := bd_side X (d + 2) N S f hr
        rw [← sd2] at hsi
        obtain ⟨w1, v1, e1, hv, k1⟩ := tb_num X (d + 1) N S h hr hq (by omega) (by omega) hI.1
        have m0 := tk_0 k1
        have m8 : (va_up (va_up f (z + 7) (.inl (0, 64, .inl w1))) (z + 8) (.inl (0, 7, .inl v1))) (z + 8) = .inl (0, 7, .inl v1) := va_up_self _ _ _
        generalize va_up (va_up f (z + 7) (.inl (0, 64, .inl w1))) (z + 8) (.inl (0, 7, .inl v1)) = f1 at e1 k1 m0 m8
        obtain ⟨l0, m19⟩ := k1.1 19 (by omega)
        obtain ⟨v0, m20⟩ := k1.1 20 (by omega)
        have hb := lg_beginWith X (d + 1) N S f1 (nI (ss_side b k)) l0 (show z + 20 ≠ z + 19 by omega) m19 m20
        have k2 : TBk z g r b t (va_up (va_up f1 (z + 19) (.inr (3, [.int (nI (ss_side b k)), .ref (z + 20)]))) (z + 20) (.inl (0, 6, .inl (zf_fill v0 0 6)))) := tk_s 20 (tk_s 19 k1 (by omega) ⟨_, rfl⟩) (by omega) ⟨_, rfl⟩
        have n8 : (va_up (va_up f1 (z + 19) (.inr (3, [.int (nI (ss_side b k)), .ref (z + 20)]))) (z + 20) (.inl (0, 6, .inl (zf_fill v0 0 6)))) (z + 8) = .inl (0, 7, .inl v1) := by rw [va_up_ne _ _ (by omega), va_up_ne _ _ (by omega)]; exact m8
        have n19 : (va_up (va_up f1 (z + 19) (.inr (3, [.int (nI (ss_side b k)), .ref (z + 20)]))) (z + 20) (.inl (0, 6, .inl (zf_fill v0 0 6)))) (z + 19) = .inr (3, [.int (nI (ss_side b k)), .ref (z + 20)]) := by rw [va_up_ne _ _ (by omega)]; exact va_up_self _ _ _
        have n20 : (va_up (va_up f1 (z + 19) (.inr (3, [.int (nI (ss_side b k)), .ref (z + 20)]))) (z + 20) (.inl (0, 6, .inl (zf_fill v0 0 6)))) (z + 20) = .inl (0, 6, .inl (zf_fill v0 0 6)) := va_up_self _ _ _
        generalize va_up (va_up f1 (z + 19) (.inr (3, [.int (nI (ss_side b k)), .ref (z + 20)]))) (z + 20) (.inl (0, 6, .inl (zf_fill v0 0 6))) = f2 at *
        obtain ⟨s1, s2, s3⟩ := sl_ok (ss_side b k) (by omega)
        have hsk : ∀ y, y ∈ sl (ss_side b k) (ss_side b k) 0 → sok (ss_side b k) y := fun y hy => sl_sok hy
        rw [s1] at hsk
        obtain ⟨f3, e3, k3⟩ := stl_loop X d N S (z := z) (g := g) (r := r) (b := b) (t := t) (l := l) (Z := v1) (cc := ss_c b k) (by omega) sd1 hI.1 (fun q hq => by rw [hv q hq, nb_N_ok hI.1 (ss_cp I (by omega) h3) hq]) k (z + 42 + 2 * k) _ _ (zf_fill v0 0 6) (0, fun _ => 0) 0 0 f2 hsk s2 (fun q hq => by
          have e6 : zf_fill v0 0 6 q = 0 := if_pos (by omega)
          rw [e6]
          unfold px
          rw [List.getD_eq_getElem?_getD, List.getElem?_replicate, if_pos hq]
          rfl) rfl (Nat.le_refl _) (by omega) ⟨k2, n8, n19, n20⟩
        rw [← s1] at e3 k3
        refine ⟨f3, ?_, k3⟩
        refine Eq.trans ?_ e3
        simp only [ke_94, kk_94_0, kk_94_16, kk_94_32, kl_94_0, kl_94_14, kl_94_16, kl_94_32, kl_94_61, kl_94_130, kl_94_133, kl_94_146, kl_94_152, ge_iconst, ge_lconst, ge_null, ge_iload, ge_lload, ge_aload, ge_istore, ge_lstore, ge_astore, ge_astoreN, ge_iinc, ge_iadd, ge_isub, ge_imul, ge_iand, ge_ior, ge_ixor, ge_ishl, ge_ishr, ge_iushr, ge_ladd, ge_lsub, ge_lmul, ge_lcmp, ge_idiv, ge_irem, ge_ldiv, ge_ineg, ge_i2l, ge_l2i, ge_lneg, ge_dupI, ge_dupR, ge_popI, ge_dup2, ge_goto, ge_if_eq, ge_if_ne, ge_if_lt, ge_if_ge, ge_if_gt, ge_if_le, ge_ic_eq, ge_ic_ne, ge_ic_lt, ge_ic_ge, ge_ic_gt, ge_ic_le, ge_ifnullN, ge_ifnullR, ge_ifnnN, ge_ifnnR, ge_switch, ge_getf, ge_putfI, ge_putfL, ge_putfR, ge_iald, ge_lald, ge_aald, ge_iast, ge_last, ge_aast, ge_alen, ge_new, ge_newI, ge_newL, ge_newQ, ge_oi, ge_copy, ge_max, ge_is0, ge_is1, ge_iv1, ge_is2, ge_iv2, ge_is3, ge_iv3, ge_is4, ge_iv4, ge_is5, ge_iv5, ge_iv6, ge_ret, ge_iret, ge_zret, ge_lret, ge_aretR, ge_aretN, ge_ld0, ge_lds, ge_sum0, ge_sumI, ge_sumL, ge_sumR, ge_sumN, ge_st0, ge_st1, ge_st2, ge_su0, ge_su1, ge_su2, ge_ap1, ge_ap0, qm_gf, qm_pf, qm_ia, qm_is, qm_la, qm_ls, qm_aa, qm_al, qm_isK, qm_kv, qm_cp, List.getElem?_cons_zero, List.getElem?_cons_succ, List.length_cons, List.length_nil, List.set_cons_zero, List.set_cons_succ, decide_true, if_true, if_false, eq_self, and_true, true_and, or_true, true_or, and_false, false_and, or_false, false_or, ↓reduceIte, Nat.reduceLT, Nat.reduceLeDiff, Nat.reduceAdd, Nat.zero_lt_succ, zi_eq0, zi_01, zi_eq1, zi_or, Nat.reduceEqDiff, not_true_eq_false, not_false_eq_true, va_up_self, zi_0ne1, zi_1ne0, tb_isBoardNumber, tb_isRowNumber, h1, h2, h0, hat, hr, hsi, h6, e1, m0, m19, hb]
        rfl
    · rw [if_pos (Or.inr h2)]
      refine ⟨f, ?_, h⟩
      simp only [ke_94, kk_94_0, kk_94_14, kk_94_16, kk_94_32, kk_94_61, kk_94_130, kk_94_133, kk_94_146, kk_94_152, kl_94_0, kl_94_14, kl_94_16, kl_94_32, kl_94_61, kl_94_130, kl_94_133, kl_94_146, kl_94_152, ge_iconst, ge_lconst, ge_null, ge_iload, ge_lload, ge_aload, ge_istore, ge_lstore, ge_astore, ge_astoreN, ge_iinc, ge_iadd, ge_isub, ge_imul, ge_iand, ge_ior, ge_ixor, ge_ishl, ge_ishr, ge_iushr, ge_ladd, ge_lsub, ge_lmul, ge_lcmp, ge_idiv, ge_irem, ge_ldiv, ge_ineg, ge_i2l, ge_l2i, ge_lneg, ge_dupI, ge_dupR, ge_popI, ge_dup2, ge_goto, ge_if_eq, ge_if_ne, ge_if_lt, ge_if_ge, ge_if_gt, ge_if_le, ge_ic_eq, ge_ic_ne, ge_ic_lt, ge_ic_ge, ge_ic_gt, ge_ic_le, ge_ifnullN, ge_ifnullR, ge_ifnnN, ge_ifnnR, ge_switch, ge_getf, ge_putfI, ge_putfL, ge_putfR, ge_iald, ge_lald, ge_aald, ge_iast, ge_last, ge_aast, ge_alen, ge_new, ge_newI, ge_newL, ge_newQ, ge_oi, ge_copy, ge_max, ge_is0, ge_is1, ge_iv1, ge_is2, ge_iv2, ge_is3, ge_iv3, ge_is4, ge_iv4, ge_is5, ge_iv5, ge_iv6, ge_ret, ge_iret, ge_zret, ge_lret, ge_aretR, ge_aretN, ge_ld0, ge_lds, ge_sum0, ge_sumI, ge_sumL, ge_sumR, ge_sumN, ge_st0, ge_st1, ge_st2, ge_su0, ge_su1, ge_su2, ge_ap1, ge_ap0, qm_gf, qm_pf, qm_ia, qm_is, qm_la, qm_ls, qm_aa, qm_al, qm_isK, qm_kv, qm_cp, List.getElem?_cons_zero, List.getElem?_cons_succ, List.length_cons, List.length_nil, List.set_cons_zero, List.set_cons_succ, decide_true, if_true, if_false, eq_self, and_true, true_and, or_true, true_or, and_false, false_and, or_false, false_or, ↓reduceIte, Nat.reduceLT, Nat.reduceLeDiff, Nat.reduceAdd, Nat.zero_lt_succ, zi_eq0, zi_01, zi_eq1, zi_or, Nat.reduceEqDiff, not_true_eq_false, not_false_eq_true, va_up_self, zi_0ne1, zi_1ne0, tb_isBoardNumber, tb_isRowNumber, h1, h2, ss_bad]
  · rw [if_pos (Or.inl h1)]
    refine ⟨f, ?_, h⟩
    simp only [ke_94, kk_94_0, kk_94_14, kk_94_16, kk_94_32, kk_94_61, kk_94_130, kk_94_133, kk_94_146, kk_94_152, kl_94_0, kl_94_14, kl_94_16, kl_94_32, kl_94_61, kl_94_130, kl_94_133, kl_94_146, kl_94_152, ge_iconst, ge_lconst, ge_null, ge_iload, ge_lload, ge_aload, ge_istore, ge_lstore, ge_astore, ge_astoreN, ge_iinc, ge_iadd, ge_isub, ge_imul, ge_iand, ge_ior, ge_ixor, ge_ishl, ge_ishr, ge_iushr, ge_ladd, ge_lsub, ge_lmul, ge_lcmp, ge_idiv, ge_irem, ge_ldiv, ge_ineg, ge_i2l, ge_l2i, ge_lneg, ge_dupI, ge_dupR, ge_popI, ge_dup2, ge_goto, ge_if_eq, ge_if_ne, ge_if_lt, ge_if_ge, ge_if_gt, ge_if_le, ge_ic_eq, ge_ic_ne, ge_ic_lt, ge_ic_ge, ge_ic_gt, ge_ic_le, ge_ifnullN, ge_ifnullR, ge_ifnnN, ge_ifnnR, ge_switch, ge_getf, ge_putfI, ge_putfL, ge_putfR, ge_iald, ge_lald, ge_aald, ge_iast, ge_last, ge_aast, ge_alen, ge_new, ge_newI, ge_newL, ge_newQ, ge_oi, ge_copy, ge_max, ge_is0, ge_is1, ge_iv1, ge_is2, ge_iv2, ge_is3, ge_iv3, ge_is4, ge_iv4, ge_is5, ge_iv5, ge_iv6, ge_ret, ge_iret, ge_zret, ge_lret, ge_aretR, ge_aretN, ge_ld0, ge_lds, ge_sum0, ge_sumI, ge_sumL, ge_sumR, ge_sumN, ge_st0, ge_st1, ge_st2, ge_su0, ge_su1, ge_su2, ge_ap1, ge_ap0, qm_gf, qm_pf, qm_ia, qm_is, qm_la, qm_ls, qm_aa, qm_al, qm_isK, qm_kv, qm_cp, List.getElem?_cons_zero, List.getElem?_cons_succ, List.length_cons, List.length_nil, List.set_cons_zero, List.set_cons_succ, decide_true, if_true, if_false, eq_self, and_true, true_and, or_true, true_or, and_false, false_and, or_false, false_or, ↓reduceIte, Nat.reduceLT, Nat.reduceLeDiff, Nat.reduceAdd, Nat.zero_lt_succ, zi_eq0, zi_01, zi_eq1, zi_or, Nat.reduceEqDiff, not_true_eq_false, not_false_eq_true, va_up_self, zi_0ne1, zi_1ne0, tb_isBoardNumber, tb_isRowNumber, h1, ss_bad]
end TB31
