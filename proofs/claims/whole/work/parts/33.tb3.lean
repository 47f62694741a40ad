/-! numbers: nothing depends on what lay in the arrays before -/
def ag (n : Nat) (u v : Nat → Int32) : Prop := ∀ k, k < n → u k = v k
theorem ag_upd {n : Nat} {u v : Nat → Int32} (h : ag n u v) (i : Nat) {x y : Int32} (e : x = y) : ag n (upd u i x) (upd v i y) := by
  intro k hk
  subst e
  unfold upd
  by_cases c : k = i
  · simp only [c, ↓reduceIte]
  · simp only [c, ↓reduceIte]
    exact h k hk
theorem ag_fill (n : Nat) (u v : Nat → Int32) (x : Int32) : ag n (zf_fill u x n) (zf_fill v x n) := by
  intro k hk
  simp only [zf_fill, hk, ↓reduceIte]
theorem nb_in_ag (o : Int32) (s : Nat) (hs : s < 64) : ∀ m k (u v : Nat → Int32), k + m ≤ 6 → ag 64 u v → ag 64 (nb_in o s m k u) (nb_in o s m k v)
  | 0, _, _, _, _, h => h
  | m + 1, k, u, v, hk, h => by
    rw [nb_in, nb_in]
    refine nb_in_ag o s hs m (k + 1) _ _ (by omega) ?_
    split
    · exact h
    · exact ag_upd h _ (by rw [h _ (zb_or_lt hs (show k < 6 by omega)), h s hs])
theorem nb_out_ag (c : Int32) : ∀ s (u v : Nat → Int32), s ≤ 64 → ag 64 u v → ag 64 (nb_out c s u) (nb_out c s v)
  | 0, _, _, _, h => h
  | s + 1, u, v, hs, h => by
    rw [nb_out, nb_out]
    refine nb_out_ag c s _ _ (by omega) ?_
    rw [show nb_open c u s = nb_open c v s by unfold nb_open; rw [h s (by omega)]]
    exact nb_in_ag _ s (by omega) 6 0 _ _ (by omega) h
theorem nb_rows_ag (p q : Nat → Int32) : ∀ m k (u v : Nat → Int32), (∀ i, i < k + m → p i = q i) → ag 64 u v → ag 64 (nb_rows p m k u) (nb_rows q m k v)
  | 0, _, _, _, _, h => h
  | m + 1, k, u, v, hp, h => by
    rw [nb_rows, nb_rows, hp k (by omega)]
    exact nb_rows_ag p q m (k + 1) _ _ (fun i hi => hp i (by omega)) (nb_out_ag _ 64 _ _ (by omega) h)
theorem nb_size_ag (w w' : Nat → Int32) : ∀ m k (u v : Nat → Int32), k + m ≤ 64 → ag 64 w w' → ag 7 u v → ag 7 (nb_size w m k u) (nb_size w' m k v)
  | 0, _, _, _, _, _, h => h
  | m + 1, k, u, v, hk, hw, h => by
    rw [nb_size, nb_size]
    have := zb_pc_le k
    exact nb_size_ag w w' m (k + 1) _ _ (by omega) hw (ag_upd h _ (by rw [h _ (by omega), hw k (by omega)]))
/-- the numbers of a board -/
def nb_N (p : Nat → Int32) (hh : Nat) : Nat → Int32 := nb_Z p (fun _ => 0) (fun _ => 0) hh
theorem nb_Z_ag (p q w z : Nat → Int32) (hh : Nat) (hp : ∀ i, i < hh → p i = q i) : ag 7 (nb_Z p w z hh) (nb_N q hh) := by
  unfold nb_N nb_Z nb_W
  exact nb_size_ag _ _ 64 0 _ _ (by omega) (nb_rows_ag p q hh 0 _ _ (fun i hi => hp i (by omega)) (ag_upd (ag_fill 64 _ _ 0) 0 rfl)) (ag_fill 7 _ _ 0)
theorem nb_gr_ag {u v : Nat → Int32} (h : ag 7 u v) : ∀ k, k ≤ 6 → nb_gr u k = nb_gr v k
  | 0, _ => rfl
  | k + 1, hk => by rw [nb_gr, nb_gr, h (k + 1) (by omega), nb_gr_ag h k (by omega)]
theorem nb_hit_ag {u v : Nat → Int32} (kk nn : Nat) (h : ag 7 u v) : ∀ m j o s c, j + m ≤ 7 → nb_hit u kk nn m j o s c = nb_hit v kk nn m j o s c
  | 0, _, _, _, _, _ => rfl
  | m + 1, j, o, s, c, hj => by rw [nb_hit, nb_hit, h j (by omega), nb_hit_ag kk nn h m (j + 1) _ _ _ (by omega)]
theorem nb_fal_ag {u v : Nat → Int32} (nn : Nat) (x : Int32) (hn : nn ≤ 6) (h : ag 7 u v) : ∀ m j o s, nb_fal u nn x m j o s = nb_fal v nn x m j o s
  | 0, _, _, _ => rfl
  | m + 1, j, o, s => by rw [nb_fal, nb_fal, h (nn - j) (by omega), nb_fal_ag nn x hn h m (j + 1) _ _]
theorem nb_same_ag {u v u' v' : Nat → Int32} (h : ag 7 u v) (h' : ag 7 u' v') : nb_same u u' = nb_same v v' := by
  rw [Bool.eq_iff_iff, nb_same_iff, nb_same_iff]
  constructor
  · intro a j hj
    rw [← h j hj, ← h' j hj]
    exact a j hj
  · intro a j hj
    rw [h j hj, h' j hj]
    exact a j hj
section TB3
variable (X : qm_X) (d N S : Nat)
variable {z : Nat} {g f : Nat → qm_C} {r : ss_R} {b : ss_B} {t : ss_T}
theorem tk_6 (h : TBk z g r b t f) : f (z + 6) = .inr (5, [.ref (z + 7), .ref (z + 8)]) := h.1 6 (by omega)
theorem tk_9 (h : TBk z g r b t f) : f (z + 9) = .inr (5, [.ref (z + 10), .ref (z + 11)]) := h.1 9 (by omega)
/-- the numbers of a board are found -/
theorem tb_num (h : TBk z g r b t f) {a1 q1 hh : Nat} {kd wd : Int32} {p : Nat → Int32} (hr : f a1 = .inr (1, [.int kd, .int (nI hh), .int wd, .ref q1])) (hq : f q1 = .inl (0, 6, .inl p)) (ha : a1 ≠ z + 7) (hqa : q1 ≠ z + 7) (hn : hh ≤ 6) : ∃ w v : Nat → Int32, qm_ex qm_M X (d + 2) 43 [.ref (z + 6), .ref a1] (N, S, f) = some (none, (N, S, va_up (va_up f (z + 7) (.inl (0, 64, .inl w))) (z + 8) (.inl (0, 7, .inl v)))) ∧ ag 7 v (nb_N p hh) ∧ TBk z g r b t (va_up (va_up f (z + 7) (.inl (0, 64, .inl w))) (z + 8) (.inl (0, 7, .inl v))) := by
  obtain ⟨w0, hw⟩ := h.1 7 (by omega)
  obtain ⟨v0, hv⟩ := h.1 8 (by omega)
  exact ⟨_, _, nb_findFor X d N S f w0 v0 (tk_6 h) hw hv hr hq (by omega) (by omega) ha hqa (by omega) hn, nb_Z_ag p p w0 v0 hh (fun _ _ => rfl), tk_s 8 (tk_s 7 h (by omega) ⟨_, rfl⟩) (by omega) ⟨_, rfl⟩⟩
theorem tb_num2 (h : TBk z g r b t f) {a1 q1 hh : Nat} {kd wd : Int32} {p : Nat → Int32} (hr : f a1 = .inr (1, [.int kd, .int (nI hh), .int wd, .ref q1])) (hq : f q1 = .inl (0, 6, .inl p)) (ha : a1 ≠ z + 10) (hqa : q1 ≠ z + 10) (hn : hh ≤ 6) : ∃ w v : Nat → Int32, qm_ex qm_M X (d + 2) 43 [.ref (z + 9), .ref a1] (N, S, f) = some (none, (N, S, va_up (va_up f (z + 10) (.inl (0, 64, .inl w))) (z + 11) (.inl (0, 7, .inl v)))) ∧ ag 7 v (nb_N p hh) ∧ TBk z g r b t (va_up (va_up f (z + 10) (.inl (0, 64, .inl w))) (z + 11) (.inl (0, 7, .inl v))) := by
  obtain ⟨w0, hw⟩ := h.1 10 (by omega)
  obtain ⟨v0, hv⟩ := h.1 11 (by omega)
  exact ⟨_, _, nb_findFor X d N S f w0 v0 (tk_9 h) hw hv hr hq (by omega) (by omega) ha hqa (by omega) hn, nb_Z_ag p p w0 v0 hh (fun _ _ => rfl), tk_s 11 (tk_s 10 h (by omega) ⟨_, rfl⟩) (by omega) ⟨_, rfl⟩⟩
def ss_side (b : ss_B) (k : Nat) : Nat := if b.2.1 k < b.2.2.1 k then b.2.2.1 k else b.2.1 k
def op_towers (x : Int32) (w : Int32) (r : ss_R) (b : ss_B) (t : ss_T) : ss_A := if ¬ (0 ≤ x ∧ x ≤ 11) ∨ ¬ (0 ≤ w ∧ w ≤ 36) then ss_bad r b t else if b.1 x.toNatClampNeg = -1 then ss_no r b t 1 else (.int 1, r, b, ss_way t (if 0 ≤ w ∧ w ≤ 6 then nb_N (b.2.2.2 x.toNatClampNeg) (b.2.1 x.toNatClampNeg) w.toNatClampNeg else 0).toInt64)
theorem tb_towers (h : TBk z g r b t f) (I : ss_I r b) (x : Int32) (w : Int32) : TBo X N S (d + 4) z g 90 [.ref z, .int x, .int w] f (op_towers x w r b t) := by
  have h0 := tk_0 h
  rw [op_towers]
  by_cases h1 : 0 ≤ x ∧ x ≤ 11
  · skip
    by_cases hE0 : 0 ≤ w ∧ w ≤ 36
    · skip
      rw [if_neg (not_or.mpr ⟨not_not_intro h1, (not_not_intro hE0)⟩)]
      obtain ⟨k, hk, ek⟩ := nI_of2 (x := x) (M := 11) (n := 11) (by decide) (Int32.not_lt.mpr h1.1) h1.2
      subst ek
      rw [nI_clamp (show k < 2 ^ 31 by omega)]
      have hat := tb_boardAt X (d + 0) N S h (k := k) (by omega)
      by_cases h2 : b.1 k = -1
      · rw [if_pos h2]
        obtain ⟨f1, e1, k1⟩ := tb_refused X (d + 2) N S h 1 (by decide)
        refine ⟨f1, ?_, k1⟩
        simp only [ke_90, kk_90_0, kk_90_17, kk_90_19, kk_90_35, kl_90_0, kl_90_17, kl_90_19, kl_90_35, ge_iconst, ge_lconst, ge_null, ge_iload, ge_lload, ge_aload, ge_istore, ge_lstore, ge_astore, ge_astoreN, ge_iinc, ge_iadd, ge_isub, ge_imul, ge_iand, ge_ior, ge_ixor, ge_ishl, ge_ishr, ge_iushr, ge_ladd, ge_lsub, ge_lmul, ge_lcmp, ge_idiv, ge_irem, ge_ldiv, ge_ineg, ge_i2l, ge_l2i, ge_lneg, ge_dupI, ge_dupR, ge_popI, ge_dup2, ge_goto, ge_if_eq, ge_if_ne, ge_if_lt, ge_if_ge, ge_if_gt, ge_if_le, ge_ic_eq, ge_ic_ne, ge_ic_lt, ge_ic_ge, ge_ic_gt, ge_ic_le, ge_ifnullN, ge_ifnullR, ge_ifnnN, ge_ifnnR, ge_switch, ge_getf, ge_putfI, ge_putfL, ge_putfR, ge_iald, ge_lald, ge_aald, ge_iast, ge_last, ge_aast, ge_alen, ge_new, ge_newI, ge_newL, ge_newQ, ge_oi, ge_copy, ge_max, ge_is0, ge_is1, ge_iv1, ge_is2, ge_iv2, ge_is3, ge_iv3, ge_is4, ge_iv4, ge_is5, ge_iv5, ge_iv6, ge_ret, ge_iret, ge_zret, ge_lret, ge_aretR, ge_aretN, ge_ld0, ge_lds, ge_sum0, ge_sumI, ge_sumL, ge_sumR, ge_sumN, ge_st0, ge_st1, ge_st2, ge_su0, ge_su1, ge_su2, ge_ap1, ge_ap0, qm_gf, qm_pf, qm_ia, qm_is, qm_la, qm_ls, qm_aa, qm_al, qm_isK, qm_kv, qm_cp, List.getElem?_cons_zero, List.getElem?_cons_succ, List.length_cons, List.length_nil, List.set_cons_zero, List.set_cons_succ, decide_true, if_true, if_false, eq_self, and_true, true_and, or_true, true_or, and_false, false_and, or_false, false_or, ↓reduceIte, Nat.reduceLT, Nat.reduceLeDiff, Nat.reduceAdd, Nat.zero_lt_succ, zi_eq0, zi_01, zi_eq1, zi_or, Nat.reduceEqDiff, not_true_eq_false, not_false_eq_true, va_up_self, zi_0ne1, zi_1ne0, tb_isBoardNumber, tb_isWithin, tb_isRowNumber, h1, hE0, h0, hat, h2, e1, ss_no]
      · rw [if_neg h2]
        rw [if_neg h2] at hat
        have hr := tk_brd h (k := k) (by omega)
        have hq := tk_cl h (k := k) (by omega)
        have hI := I.2 k (by omega)
        have h6 := tk_6 h
        obtain ⟨w1, v1, e1, hv, k1⟩ := tb_num X (d + 1) N S h hr hq (by omega) (by omega) hI.1
        have m0 := tk_0 k1
        have m6 := tk_6 k1
        have m8 : (va_up (va_up f (z + 7) (.inl (0, 64, .inl w1))) (z + 8) (.inl (0, 7, .inl v1))) (z + 8) = .inl (0, 7, .inl v1) := va_up_self _ _ _
        have mr := tk_brd k1 (k := k) (by omega)
        generalize va_up (va_up f (z + 7) (.inl (0, 64, .inl w1))) (z + 8) (.inl (0, 7, .inl v1)) = f1 at e1 k1 m0 m6 m8 mr
        have hA := nb_at X (d + 1) N S f1 m6 m8 w
        have hB : (if 0 ≤ w ∧ w ≤ 6 then v1 w.toNatClampNeg else 0) = (if 0 ≤ w ∧ w ≤ 6 then nb_N (b.2.2.2 k) (b.2.1 k) w.toNatClampNeg else 0) := by
          split
          · rename_i c
            obtain ⟨i, hi, ei⟩ := nI_of2 (x := w) (M := 6) (n := 6) (by decide) (Int32.not_lt.mpr c.1) c.2
            subst ei
            rw [nI_clamp (show i < 2 ^ 31 by omega)]
            exact hv i (by omega)
          · rfl
        rw [hB] at hA
        refine ⟨_, ?_, tk_way ((if 0 ≤ w ∧ w ≤ 6 then nb_N (b.2.2.2 k) (b.2.1 k) w.toNatClampNeg else 0).toInt64) k1⟩
        simp only [ke_90, kk_90_0, kk_90_17, kk_90_19, kk_90_35, kl_90_0, kl_90_17, kl_90_19, kl_90_35, ge_iconst, ge_lconst, ge_null, ge_iload, ge_lload, ge_aload, ge_istore, ge_lstore, ge_astore, ge_astoreN, ge_iinc, ge_iadd, ge_isub, ge_imul, ge_iand, ge_ior, ge_ixor, ge_ishl, ge_ishr, ge_iushr, ge_ladd, ge_lsub, ge_lmul, ge_lcmp, ge_idiv, ge_irem, ge_ldiv, ge_ineg, ge_i2l, ge_l2i, ge_lneg, ge_dupI, ge_dupR, ge_popI, ge_dup2, ge_goto, ge_if_eq, ge_if_ne, ge_if_lt, ge_if_ge, ge_if_gt, ge_if_le, ge_ic_eq, ge_ic_ne, ge_ic_lt, ge_ic_ge, ge_ic_gt, ge_ic_le, ge_ifnullN, ge_ifnullR, ge_ifnnN, ge_ifnnR, ge_switch, ge_getf, ge_putfI, ge_putfL, ge_putfR, ge_iald, ge_lald, ge_aald, ge_iast, ge_last, ge_aast, ge_alen, ge_new, ge_newI, ge_newL, ge_newQ, ge_oi, ge_copy, ge_max, ge_is0, ge_is1, ge_iv1, ge_is2, ge_iv2, ge_is3, ge_iv3, ge_is4, ge_iv4, ge_is5, ge_iv5, ge_iv6, ge_ret, ge_iret, ge_zret, ge_lret, ge_aretR, ge_aretN, ge_ld0, ge_lds, ge_sum0, ge_sumI, ge_sumL, ge_sumR, ge_sumN, ge_st0, ge_st1, ge_st2, ge_su0, ge_su1, ge_su2, ge_ap1, ge_ap0, qm_gf, qm_pf, qm_ia, qm_is, qm_la, qm_ls, qm_aa, qm_al, qm_isK, qm_kv, qm_cp, List.getElem?_cons_zero, List.getElem?_cons_succ, List.length_cons, List.length_nil, List.set_cons_zero, List.set_cons_succ, decide_true, if_true, if_false, eq_self, and_true, true_and, or_true, true_or, and_false, false_and, or_false, false_or, ↓reduceIte, Nat.reduceLT, Nat.reduceLeDiff, Nat.reduceAdd, Nat.zero_lt_succ, zi_eq0, zi_01, zi_eq1, zi_or, Nat.reduceEqDiff, not_true_eq_false, not_false_eq_true, va_up_self, zi_0ne1, zi_1ne0, tb_isBoardNumber, tb_isWithin, tb_isRowNumber, h1, hE0, h0, hat, h2, hr, h6, e1, m0, m6, hA]
    · rw [if_pos (Or.inr hE0)]
      refine ⟨f, ?_, h⟩
      simp only [ke_90, kk_90_0, kk_90_17, kk_90_19, kk_90_35, kl_90_0, kl_90_17, kl_90_19, kl_90_35, ge_iconst, ge_lconst, ge_null, ge_iload, ge_lload, ge_aload, ge_istore, ge_lstore, ge_astore, ge_astoreN, ge_iinc, ge_iadd, ge_isub, ge_imul, ge_iand, ge_ior, ge_ixor, ge_ishl, ge_ishr, ge_iushr, ge_ladd, ge_lsub, ge_lmul, ge_lcmp, ge_idiv, ge_irem, ge_ldiv, ge_ineg, ge_i2l, ge_l2i, ge_lneg, ge_dupI, ge_dupR, ge_popI, ge_dup2, ge_goto, ge_if_eq, ge_if_ne, ge_if_lt, ge_if_ge, ge_if_gt, ge_if_le, ge_ic_eq, ge_ic_ne, ge_ic_lt, ge_ic_ge, ge_ic_gt, ge_ic_le, ge_ifnullN, ge_ifnullR, ge_ifnnN, ge_ifnnR, ge_switch, ge_getf, ge_putfI, ge_putfL, ge_putfR, ge_iald, ge_lald, ge_aald, ge_iast, ge_last, ge_aast, ge_alen, ge_new, ge_newI, ge_newL, ge_newQ, ge_oi, ge_copy, ge_max, ge_is0, ge_is1, ge_iv1, ge_is2, ge_iv2, ge_is3, ge_iv3, ge_is4, ge_iv4, ge_is5, ge_iv5, ge_iv6, ge_ret, ge_iret, ge_zret, ge_lret, ge_aretR, ge_aretN, ge_ld0, ge_lds, ge_sum0, ge_sumI, ge_sumL, ge_sumR, ge_sumN, ge_st0, ge_st1, ge_st2, ge_su0, ge_su1, ge_su2, ge_ap1, ge_ap0, qm_gf, qm_pf, qm_ia, qm_is, qm_la, qm_ls, qm_aa, qm_al, qm_isK, qm_kv, qm_cp, List.getElem?_cons_zero, List.getElem?_cons_succ, List.length_cons, List.length_nil, List.set_cons_zero, List.set_cons_succ, decide_true, if_true, if_false, eq_self, and_true, true_and, or_true, true_or, and_false, false_and, or_false, false_or, ↓reduceIte, Nat.reduceLT, Nat.reduceLeDiff, Nat.reduceAdd, Nat.zero_lt_succ, zi_eq0, zi_01, zi_eq1, zi_or, Nat.reduceEqDiff, not_true_eq_false, not_false_eq_true, va_up_self, zi_0ne1, zi_1ne0, tb_isBoardNumber, tb_isWithin, tb_isRowNumber, h1, hE0, ss_bad]
  · rw [if_pos (Or.inl h1)]
    refine ⟨f, ?_, h⟩
    simp only [ke_90, kk_90_0, kk_90_17, kk_90_19, kk_90_35, kl_90_0, kl_90_17, kl_90_19, kl_90_35, ge_iconst, ge_lconst, ge_null, ge_iload, ge_lload, ge_aload, ge_istore, ge_lstore, ge_astore, ge_astoreN, ge_iinc, ge_iadd, ge_isub, ge_imul, ge_iand, ge_ior, ge_ixor, ge_ishl, ge_ishr, ge_iushr, ge_ladd, ge_lsub, ge_lmul, ge_lcmp, ge_idiv, ge_irem, ge_ldiv, ge_ineg, ge_i2l, ge_l2i, ge_lneg, ge_dupI, ge_dupR, ge_popI, ge_dup2, ge_goto, ge_if_eq, ge_if_ne, ge_if_lt, ge_if_ge, ge_if_gt, ge_if_le, ge_ic_eq, ge_ic_ne, ge_ic_lt, ge_ic_ge, ge_ic_gt, ge_ic_le, ge_ifnullN, ge_ifnullR, ge_ifnnN, ge_ifnnR, ge_switch, ge_getf, ge_putfI, ge_putfL, ge_putfR, ge_iald, ge_lald, ge_aald, ge_iast, ge_last, ge_aast, ge_alen, ge_new, ge_newI, ge_newL, ge_newQ, ge_oi, ge_copy, ge_max, ge_is0, ge_is1, ge_iv1, ge_is2, ge_iv2, ge_is3, ge_iv3, ge_is4, ge_iv4, ge_is5, ge_iv5, ge_iv6, ge_ret, ge_iret, ge_zret, ge_lret, ge_aretR, ge_aretN, ge_ld0, ge_lds, ge_sum0, ge_sumI, ge_sumL, ge_sumR, ge_sumN, ge_st0, ge_st1, ge_st2, ge_su0, ge_su1, ge_su2, ge_ap1, ge_ap0, qm_gf, qm_pf, qm_ia, qm_is, qm_la, qm_ls, qm_aa, qm_al, qm_isK, qm_kv, qm_cp, List.getElem?_cons_zero, List.getElem?_cons_succ, List.length_cons, List.length_nil, List.set_cons_zero, List.set_cons_succ, decide_true, if_true, if_false, eq_self, and_true, true_and, or_true, true_or, and_false, false_and, or_false, false_or, ↓reduceIte, Nat.reduceLT, Nat.reduceLeDiff, Nat.reduceAdd, Nat.zero_lt_succ, zi_eq0, zi_01, zi_eq1, zi_or, Nat.reduceEqDiff, not_true_eq_false, not_false_eq_true, va_up_self, zi_0ne1, zi_1ne0, tb_isBoardNumber, tb_isWithin, tb_isRowNumber, h1, ss_bad]
def op_most (x : Int32) (r : ss_R) (b : ss_B) (t : ss_T) : ss_A := if ¬ (0 ≤ x ∧ x ≤ 11) then ss_bad r b t else if b.1 x.toNatClampNeg = -1 then ss_no r b t 1 else (.int (nI (nb_gr (nb_N (b.2.2.2 x.toNatClampNeg) (b.2.1 x.toNatClampNeg)) 6)), r, b, t)
theorem tb_most (h : TBk z g r b t f) (I : ss_I r b) (x : Int32) : TBo X N S (d + 4) z g 101 [.ref z, .int x] f (op_most x r b t) := by
  have h0 := tk_0 h
  rw [op_most]
  by_cases h1 : 0 ≤ x ∧ x ≤ 11
  · skip
    rw [if_neg (not_not_intro h1)]
    obtain ⟨k, hk, ek⟩ := nI_of2 (x := x) (M := 11) (n := 11) (by decide) (Int32.not_lt.mpr h1.1) h1.2
    subst ek
    rw [nI_clamp (show k < 2 ^ 31 by omega)]
    have hat := tb_boardAt X (d + 0) N S h (k := k) (by omega)
    by_cases h2 : b.1 k = -1
    · rw [if_pos h2]
      obtain ⟨f1, e1, k1⟩ := tb_refused X (d + 2) N S h 1 (by decide)
      refine ⟨f1, ?_, k1⟩
      simp only [ke_101, kk_101_0, kk_101_9, kk_101_25, kl_101_0, kl_101_9, kl_101_25, ge_iconst, ge_lconst, ge_null, ge_iload, ge_lload, ge_aload, ge_istore, ge_lstore, ge_astore, ge_astoreN, ge_iinc, ge_iadd, ge_isub, ge_imul, ge_iand, ge_ior, ge_ixor, ge_ishl, ge_ishr, ge_iushr, ge_ladd, ge_lsub, ge_lmul, ge_lcmp, ge_idiv, ge_irem, ge_ldiv, ge_ineg, ge_i2l, ge_l2i, ge_lneg, ge_dupI, ge_dupR, ge_popI, ge_dup2, ge_goto, ge_if_eq, ge_if_ne, ge_if_lt, ge_if_ge, ge_if_gt, ge_if_le, ge_ic_eq, ge_ic_ne, ge_ic_lt, ge_ic_ge, ge_ic_gt, ge_ic_le, ge_ifnullN, ge_ifnullR, ge_ifnnN, ge_ifnnR, ge_switch, ge_getf, ge_putfI, ge_putfL, ge_putfR, ge_iald, ge_lald, ge_aald, ge_iast, ge_last, ge_aast, ge_alen, ge_new, ge_newI, ge_newL, ge_newQ, ge_oi, ge_copy, ge_max, ge_is0, ge_is1, ge_iv1, ge_is2, ge_iv2, ge_is3, ge_iv3, ge_is4, ge_iv4, ge_is5, ge_iv5, ge_iv6, ge_ret, ge_iret, ge_zret, ge_lret, ge_aretR, ge_aretN, ge_ld0, ge_lds, ge_sum0, ge_sumI, ge_sumL, ge_sumR, ge_sumN, ge_st0, ge_st1, ge_st2, ge_su0, ge_su1, ge_su2, ge_ap1, ge_ap0, qm_gf, qm_pf, qm_ia, qm_is, qm_la, qm_ls, qm_aa, qm_al, qm_isK, qm_kv, qm_cp, List.getElem?_cons_zero, List.getElem?_cons_succ, List.length_cons, List.length_nil, List.set_cons_zero, List.set_cons_succ, decide_true, if_true, if_false, eq_self, and_true, true_and, or_true, true_or, and_false, false_and, or_false, false_or, ↓reduceIte, Nat.reduceLT, Nat.reduceLeDiff, Nat.reduceAdd, Nat.zero_lt_succ, zi_eq0, zi_01, zi_eq1, zi_or, Nat.reduceEqDiff, not_true_eq_false, not_false_eq_true, va_up_self, zi_0ne1, zi_1ne0, tb_isBoardNumber, tb_isWithin, tb_isRowNumber, h1, h0, hat, h2, e1, ss_no]
    · rw [if_neg h2]
      rw [if_neg h2] at hat
      have hr := tk_brd h (k := k) (by omega)
      have hq := tk_cl h (k := k) (by omega)
      have hI := I.2 k (by omega)
      have h6 := tk_6 h
      obtain ⟨w1, v1, e1, hv, k1⟩ := tb_num X (d + 1) N S h hr hq (by omega) (by omega) hI.1
      have m0 := tk_0 k1
      have m6 := tk_6 k1
      have m8 : (va_up (va_up f (z + 7) (.inl (0, 64, .inl w1))) (z + 8) (.inl (0, 7, .inl v1))) (z + 8) = .inl (0, 7, .inl v1) := va_up_self _ _ _
      have mr := tk_brd k1 (k := k) (by omega)
      generalize va_up (va_up f (z + 7) (.inl (0, 64, .inl w1))) (z + 8) (.inl (0, 7, .inl v1)) = f1 at e1 k1 m0 m6 m8 mr
      have hA := nb_greatest X (d + 2) N S f1 m6 m8
      rw [nb_gr_ag hv 6 (by omega)] at hA
      refine ⟨f1, ?_, k1⟩
      simp only [ke_101, kk_101_0, kk_101_9, kk_101_25, kl_101_0, kl_101_9, kl_101_25, ge_iconst, ge_lconst, ge_null, ge_iload, ge_lload, ge_aload, ge_istore, ge_lstore, ge_astore, ge_astoreN, ge_iinc, ge_iadd, ge_isub, ge_imul, ge_iand, ge_ior, ge_ixor, ge_ishl, ge_ishr, ge_iushr, ge_ladd, ge_lsub, ge_lmul, ge_lcmp, ge_idiv, ge_irem, ge_ldiv, ge_ineg, ge_i2l, ge_l2i, ge_lneg, ge_dupI, ge_dupR, ge_popI, ge_dup2, ge_goto, ge_if_eq, ge_if_ne, ge_if_lt, ge_if_ge, ge_if_gt, ge_if_le, ge_ic_eq, ge_ic_ne, ge_ic_lt, ge_ic_ge, ge_ic_gt, ge_ic_le, ge_ifnullN, ge_ifnullR, ge_ifnnN, ge_ifnnR, ge_switch, ge_getf, ge_putfI, ge_putfL, ge_putfR, ge_iald, ge_lald, ge_aald, ge_iast, ge_last, ge_aast, ge_alen, ge_new, ge_newI, ge_newL, ge_newQ, ge_oi, ge_copy, ge_max, ge_is0, ge_is1, ge_iv1, ge_is2, ge_iv2, ge_is3, ge_iv3, ge_is4, ge_iv4, ge_is5, ge_iv5, ge_iv6, ge_ret, ge_iret, ge_zret, ge_lret, ge_aretR, ge_aretN, ge_ld0, ge_lds, ge_sum0, ge_sumI, ge_sumL, ge_sumR, ge_sumN, ge_st0, ge_st1, ge_st2, ge_su0, ge_su1, ge_su2, ge_ap1, ge_ap0, qm_gf, qm_pf, qm_ia, qm_is, qm_la, qm_ls, qm_aa, qm_al, qm_isK, qm_kv, qm_cp, List.getElem?_cons_zero, List.getElem?_cons_succ, List.length_cons, List.length_nil, List.set_cons_zero, List.set_cons_succ, decide_true, if_true, if_false, eq_self, and_true, true_and, or_true, true_or, and_false, false_and, or_false, false_or, ↓reduceIte, Nat.reduceLT, Nat.reduceLeDiff, Nat.reduceAdd, Nat.zero_lt_succ, zi_eq0, zi_01, zi_eq1, zi_or, Nat.reduceEqDiff, not_true_eq_false, not_false_eq_true, va_up_self, zi_0ne1, zi_1ne0, tb_isBoardNumber, tb_isWithin, tb_isRowNumber, h1, h0, hat, h2, hr, h6, e1, m0, m6, hA]
  · rw [if_pos h1]
    refine ⟨f, ?_, h⟩
    simp only [ke_101, kk_101_0, kk_101_9, kk_101_25, kl_101_0, kl_101_9, kl_101_25, ge_iconst, ge_lconst, ge_null, ge_iload, ge_lload, ge_aload, ge_istore, ge_lstore, ge_astore, ge_astoreN, ge_iinc, ge_iadd, ge_isub, ge_imul, ge_iand, ge_ior, ge_ixor, ge_ishl, ge_ishr, ge_iushr, ge_ladd, ge_lsub, ge_lmul, ge_lcmp, ge_idiv, ge_irem, ge_ldiv, ge_ineg, ge_i2l, ge_l2i, ge_lneg, ge_dupI, ge_dupR, ge_popI, ge_dup2, ge_goto, ge_if_eq, ge_if_ne, ge_if_lt, ge_if_ge, ge_if_gt, ge_if_le, ge_ic_eq, ge_ic_ne, ge_ic_lt, ge_ic_ge, ge_ic_gt, ge_ic_le, ge_ifnullN, ge_ifnullR, ge_ifnnN, ge_ifnnR, ge_switch, ge_getf, ge_putfI, ge_putfL, ge_putfR, ge_iald, ge_lald, ge_aald, ge_iast, ge_last, ge_aast, ge_alen, ge_new, ge_newI, ge_newL, ge_newQ, ge_oi, ge_copy, ge_max, ge_is0, ge_is1, ge_iv1, ge_is2, ge_iv2, ge_is3, ge_iv3, ge_is4, ge_iv4, ge_is5, ge_iv5, ge_iv6, ge_ret, ge_iret, ge_zret, ge_lret, ge_aretR, ge_aretN, ge_ld0, ge_lds, ge_sum0, ge_sumI, ge_sumL, ge_sumR, ge_sumN, ge_st0, ge_st1, ge_st2, ge_su0, ge_su1, ge_su2, ge_ap1, ge_ap0, qm_gf, qm_pf, qm_ia, qm_is, qm_la, qm_ls, qm_aa, qm_al, qm_isK, qm_kv, qm_cp, List.getElem?_cons_zero, List.getElem?_cons_succ, List.length_cons, List.length_nil, List.set_cons_zero, List.set_cons_succ, decide_true, if_true, if_false, eq_self, and_true, true_and, or_true, true_or, and_false, false_and, or_false, false_or, ↓reduceIte, Nat.reduceLT, Nat.reduceLeDiff, Nat.reduceAdd, Nat.zero_lt_succ, zi_eq0, zi_01, zi_eq1, zi_or, Nat.reduceEqDiff, not_true_eq_false, not_false_eq_true, va_up_self, zi_0ne1, zi_1ne0, tb_isBoardNumber, tb_isWithin, tb_isRowNumber, h1, ss_bad]
def op_hits (x : Int32) (w : Int32) (r : ss_R) (b : ss_B) (t : ss_T) : ss_A := if ¬ (0 ≤ x ∧ x ≤ 11) ∨ ¬ (0 ≤ w ∧ w ≤ 6) then ss_bad r b t else if b.1 x.toNatClampNeg = -1 then ss_no r b t 1 else (.int 1, r, b, ss_way t (nb_hit (nb_N (b.2.2.2 x.toNatClampNeg) (b.2.1 x.toNatClampNeg)) w.toNatClampNeg (ss_side b x.toNatClampNeg) (ss_side b x.toNatClampNeg + 1 - w.toNatClampNeg) w.toNatClampNeg 0 1 1))
theorem tb_hits (h : TBk z g r b t f) (I : ss_I r b) (x : Int32) (w : Int32) : TBo X N S (d + 4) z g 91 [.ref z, .int x, .int w] f (op_hits x w r b t) := by
  have h0 := tk_0 h
  rw [op_hits]
  by_cases h1 : 0 ≤ x ∧ x ≤ 11
  · skip
    by_cases hE0 : 0 ≤ w ∧ w ≤ 6
    · skip
      rw [if_neg (not_or.mpr ⟨not_not_intro h1, (not_not_intro hE0)⟩)]
      obtain ⟨k, hk, ek⟩ := nI_of2 (x := x) (M := 11) (n := 11) (by decide) (Int32.not_lt.mpr h1.1) h1.2
      subst ek
      rw [nI_clamp (show k < 2 ^ 31 by omega)]
      have hat := tb_boardAt X (d + 0) N S h (k := k) (by omega)
      by_cases h2 : b.1 k = -1
      · rw [if_pos h2]
        obtain ⟨f1, e1, k1⟩ := tb_refused X (d + 2) N S h 1 (by decide)
        refine ⟨f1, ?_, k1⟩
        simp only [ke_91, kk_91_0, kk_91_17, kk_91_19, kk_91_35, kl_91_0, kl_91_17, kl_91_19, kl_91_35, ge_iconst, ge_lconst, ge_null, ge_iload, ge_lload, ge_aload, ge_istore, ge_lstore, ge_astore, ge_astoreN, ge_iinc, ge_iadd, ge_isub, ge_imul, ge_iand, ge_ior, ge_ixor, ge_ishl, ge_ishr, ge_iushr, ge_ladd, ge_lsub, ge_lmul, ge_lcmp, ge_idiv, ge_irem, ge_ldiv, ge_ineg, ge_i2l, ge_l2i, ge_lneg, ge_dupI, ge_dupR, ge_popI, ge_dup2, ge_goto, ge_if_eq, ge_if_ne, ge_if_lt, ge_if_ge, ge_if_gt, ge_if_le, ge_ic_eq, ge_ic_ne, ge_ic_lt, ge_ic_ge, ge_ic_gt, ge_ic_le, ge_ifnullN, ge_ifnullR, ge_ifnnN, ge_ifnnR, ge_switch, ge_getf, ge_putfI, ge_putfL, ge_putfR, ge_iald, ge_lald, ge_aald, ge_iast, ge_last, ge_aast, ge_alen, ge_new, ge_newI, ge_newL, ge_newQ, ge_oi, ge_copy, ge_max, ge_is0, ge_is1, ge_iv1, ge_is2, ge_iv2, ge_is3, ge_iv3, ge_is4, ge_iv4, ge_is5, ge_iv5, ge_iv6, ge_ret, ge_iret, ge_zret, ge_lret, ge_aretR, ge_aretN, ge_ld0, ge_lds, ge_sum0, ge_sumI, ge_sumL, ge_sumR, ge_sumN, ge_st0, ge_st1, ge_st2, ge_su0, ge_su1, ge_su2, ge_ap1, ge_ap0, qm_gf, qm_pf, qm_ia, qm_is, qm_la, qm_ls, qm_aa, qm_al, qm_isK, qm_kv, qm_cp, List.getElem?_cons_zero, List.getElem?_cons_succ, List.length_cons, List.length_nil, List.set_cons_zero, List.set_cons_succ, decide_true, if_true, if_false, eq_self, and_true, true_and, or_true, true_or, and_false, false_and, or_false, false_or, ↓reduceIte, Nat.reduceLT, Nat.reduceLeDiff, Nat.reduceAdd, Nat.zero_lt_succ, zi_eq0, zi_01, zi_eq1, zi_or, Nat.reduceEqDiff, not_true_eq_false, not_false_eq_true, va_up_self, zi_0ne1, zi_1ne0, tb_isBoardNumber, tb_isWithin, tb_isRowNumber, h1, hE0, h0, hat, h2, e1, ss_no]
      · rw [if_neg h2]
        rw [if_neg h2] at hat
        have hr := tk_brd h (k := k) (by omega)
        have hq := tk_cl h (k := k) (by omega)
        have hI := I.2 k (by omega)
        have h6 := tk_6 h
        obtain ⟨w1, v1, e1, hv, k1⟩ := tb_num X (d + 1) N S h hr hq (by omega) (by omega) hI.1
        have m0 := tk_0 k1
        have m6 := tk_6 k1
        have m8 : (va_up (va_up f (z + 7) (.inl (0, 64, .inl w1))) (z + 8) (.inl (0, 7, .inl v1))) (z + 8) = .inl (0, 7, .inl v1) := va_up_self _ _ _
        have mr := tk_brd k1 (k := k) (by omega)
        generalize va_up (va_up f (z + 7) (.inl (0, 64, .inl w1))) (z + 8) (.inl (0, 7, .inl v1)) = f1 at e1 k1 m0 m6 m8 mr
        have hsd : ∃ s, s ≤ 6 ∧ nI s = (if nI (b.2.1 k) < nI (b.2.2.1 k) then nI (b.2.2.1 k) else nI (b.2.1 k)) ∧ s = ss_side b k := by
          unfold ss_side
          by_cases c : b.2.1 k < b.2.2.1 k
          · rw [if_pos c, if_pos (nI_lt c (by omega))]
            exact ⟨_, hI.2.1, rfl, rfl⟩
          · rw [if_neg c, if_neg (nI_nlt (by omega) (by omega))]
            exact ⟨_, hI.1, rfl, rfl⟩
        obtain ⟨s, hs6, hse, hss⟩ := hsd
        have hsi := bd_side X (d + 2) N S f1 mr
        rw [← hse] at hsi
        obtain ⟨i, hi, ei⟩ := nI_of2 (x := w) (M := 6) (n := 6) (by decide) (Int32.not_lt.mpr hE0.1) hE0.2
        subst ei
        rw [nI_clamp (show i < 2 ^ 31 by omega), ← hss]
        have hA := nb_ordersThatHit X d N S f1 v1 i s hi hs6 m6 m8
        rw [nb_hit_ag i s hv _ _ _ _ _ (by omega)] at hA
        refine ⟨_, ?_, tk_way _ k1⟩
        simp only [ke_91, kk_91_0, kk_91_17, kk_91_19, kk_91_35, kl_91_0, kl_91_17, kl_91_19, kl_91_35, ge_iconst, ge_lconst, ge_null, ge_iload, ge_lload, ge_aload, ge_istore, ge_lstore, ge_astore, ge_astoreN, ge_iinc, ge_iadd, ge_isub, ge_imul, ge_iand, ge_ior, ge_ixor, ge_ishl, ge_ishr, ge_iushr, ge_ladd, ge_lsub, ge_lmul, ge_lcmp, ge_idiv, ge_irem, ge_ldiv, ge_ineg, ge_i2l, ge_l2i, ge_lneg, ge_dupI, ge_dupR, ge_popI, ge_dup2, ge_goto, ge_if_eq, ge_if_ne, ge_if_lt, ge_if_ge, ge_if_gt, ge_if_le, ge_ic_eq, ge_ic_ne, ge_ic_lt, ge_ic_ge, ge_ic_gt, ge_ic_le, ge_ifnullN, ge_ifnullR, ge_ifnnN, ge_ifnnR, ge_switch, ge_getf, ge_putfI, ge_putfL, ge_putfR, ge_iald, ge_lald, ge_aald, ge_iast, ge_last, ge_aast, ge_alen, ge_new, ge_newI, ge_newL, ge_newQ, ge_oi, ge_copy, ge_max, ge_is0, ge_is1, ge_iv1, ge_is2, ge_iv2, ge_is3, ge_iv3, ge_is4, ge_iv4, ge_is5, ge_iv5, ge_iv6, ge_ret, ge_iret, ge_zret, ge_lret, ge_aretR, ge_aretN, ge_ld0, ge_lds, ge_sum0, ge_sumI, ge_sumL, ge_sumR, ge_sumN, ge_st0, ge_st1, ge_st2, ge_su0, ge_su1, ge_su2, ge_ap1, ge_ap0, qm_gf, qm_pf, qm_ia, qm_is, qm_la, qm_ls, qm_aa, qm_al, qm_isK, qm_kv, qm_cp, List.getElem?_cons_zero, List.getElem?_cons_succ, List.length_cons, List.length_nil, List.set_cons_zero, List.set_cons_succ, decide_true, if_true, if_false, eq_self, and_true, true_and, or_true, true_or, and_false, false_and, or_false, false_or, ↓reduceIte, Nat.reduceLT, Nat.reduceLeDiff, Nat.reduceAdd, Nat.zero_lt_succ, zi_eq0, zi_01, zi_eq1, zi_or, Nat.reduceEqDiff, not_true_eq_false, not_false_eq_true, va_up_self, zi_0ne1, zi_1ne0, tb_isBoardNumber, tb_isWithin, tb_isRowNumber, h1, hE0, h0, hat, h2, hr, h6, e1, m0, m6, mr, hsi, hA]
    · rw [if_pos (Or.inr hE0)]
      refine ⟨f, ?_, h⟩
      simp only [ke_91, kk_91_0, kk_91_17, kk_91_19, kk_91_35, kl_91_0, kl_91_17, kl_91_19, kl_91_35, ge_iconst, ge_lconst, ge_null, ge_iload, ge_lload, ge_aload, ge_istore, ge_lstore, ge_astore, ge_astoreN, ge_iinc, ge_iadd, ge_isub, ge_imul, ge_iand, ge_ior, ge_ixor, ge_ishl, ge_ishr, ge_iushr, ge_ladd, ge_lsub, ge_lmul, ge_lcmp, ge_idiv, ge_irem, ge_ldiv, ge_ineg, ge_i2l, ge_l2i, ge_lneg, ge_dupI, ge_dupR, ge_popI, ge_dup2, ge_goto, ge_if_eq, ge_if_ne, ge_if_lt, ge_if_ge, ge_if_gt, ge_if_le, ge_ic_eq, ge_ic_ne, ge_ic_lt, ge_ic_ge, ge_ic_gt, ge_ic_le, ge_ifnullN, ge_ifnullR, ge_ifnnN, ge_ifnnR, ge_switch, ge_getf, ge_putfI, ge_putfL, ge_putfR, ge_iald, ge_lald, ge_aald, ge_iast, ge_last, ge_aast, ge_alen, ge_new, ge_newI, ge_newL, ge_newQ, ge_oi, ge_copy, ge_max, ge_is0, ge_is1, ge_iv1, ge_is2, ge_iv2, ge_is3, ge_iv3, ge_is4, ge_iv4, ge_is5, ge_iv5, ge_iv6, ge_ret, ge_iret, ge_zret, ge_lret, ge_aretR, ge_aretN, ge_ld0, ge_lds, ge_sum0, ge_sumI, ge_sumL, ge_sumR, ge_sumN, ge_st0, ge_st1, ge_st2, ge_su0, ge_su1, ge_su2, ge_ap1, ge_ap0, qm_gf, qm_pf, qm_ia, qm_is, qm_la, qm_ls, qm_aa, qm_al, qm_isK, qm_kv, qm_cp, List.getElem?_cons_zero, List.getElem?_cons_succ, List.length_cons, List.length_nil, List.set_cons_zero, List.set_cons_succ, decide_true, if_true, if_false, eq_self, and_true, true_and, or_true, true_or, and_false, false_and, or_false, false_or, ↓reduceIte, Nat.reduceLT, Nat.reduceLeDiff, Nat.reduceAdd, Nat.zero_lt_succ, zi_eq0, zi_01, zi_eq1, zi_or, Nat.reduceEqDiff, not_true_eq_false, not_false_eq_true, va_up_self, zi_0ne1, zi_1ne0, tb_isBoardNumber, tb_isWithin, tb_isRowNumber, h1, hE0, ss_bad]
  · rw [if_pos (Or.inl h1)]
    refine ⟨f, ?_, h⟩
    simp only [ke_91, kk_91_0, kk_91_17, kk_91_19, kk_91_35, kl_91_0, kl_91_17, kl_91_19, kl_91_35, ge_iconst, ge_lconst, ge_null, ge_iload, ge_lload, ge_aload, ge_istore, ge_lstore, ge_astore, ge_astoreN, ge_iinc, ge_iadd, ge_isub, ge_imul, ge_iand, ge_ior, ge_ixor, ge_ishl, ge_ishr, ge_iushr, ge_ladd, ge_lsub, ge_lmul, ge_lcmp, ge_idiv, ge_irem, ge_ldiv, ge_ineg, ge_i2l, ge_l2i, ge_lneg, ge_dupI, ge_dupR, ge_popI, ge_dup2, ge_goto, ge_if_eq, ge_if_ne, ge_if_lt, ge_if_ge, ge_if_gt, ge_if_le, ge_ic_eq, ge_ic_ne, ge_ic_lt, ge_ic_ge, ge_ic_gt, ge_ic_le, ge_ifnullN, ge_ifnullR, ge_ifnnN, ge_ifnnR, ge_switch, ge_getf, ge_putfI, ge_putfL, ge_putfR, ge_iald, ge_lald, ge_aald, ge_iast, ge_last, ge_aast, ge_alen, ge_new, ge_newI, ge_newL, ge_newQ, ge_oi, ge_copy, ge_max, ge_is0, ge_is1, ge_iv1, ge_is2, ge_iv2, ge_is3, ge_iv3, ge_is4, ge_iv4, ge_is5, ge_iv5, ge_iv6, ge_ret, ge_iret, ge_zret, ge_lret, ge_aretR, ge_aretN, ge_ld0, ge_lds, ge_sum0, ge_sumI, ge_sumL, ge_sumR, ge_sumN, ge_st0, ge_st1, ge_st2, ge_su0, ge_su1, ge_su2, ge_ap1, ge_ap0, qm_gf, qm_pf, qm_ia, qm_is, qm_la, qm_ls, qm_aa, qm_al, qm_isK, qm_kv, qm_cp, List.getElem?_cons_zero, List.getElem?_cons_succ, List.length_cons, List.length_nil, List.set_cons_zero, List.set_cons_succ, decide_true, if_true, if_false, eq_self, and_true, true_and, or_true, true_or, and_false, false_and, or_false, false_or, ↓reduceIte, Nat.reduceLT, Nat.reduceLeDiff, Nat.reduceAdd, Nat.zero_lt_succ, zi_eq0, zi_01, zi_eq1, zi_or, Nat.reduceEqDiff, not_true_eq_false, not_false_eq_true, va_up_self, zi_0ne1, zi_1ne0, tb_isBoardNumber, tb_isWithin, tb_isRowNumber, h1, ss_bad]
def op_sum (x : Int32) (w : Int32) (r : ss_R) (b : ss_B) (t : ss_T) : ss_A := if ¬ (0 ≤ x ∧ x ≤ 11) ∨ ¬ (-50 ≤ w ∧ w ≤ 50) then ss_bad r b t else if b.1 x.toNatClampNeg = -1 then ss_no r b t 1 else (.int 1, r, b, ss_way t (nb_fal (nb_N (b.2.2.2 x.toNatClampNeg) (b.2.1 x.toNatClampNeg)) (ss_side b x.toNatClampNeg) w (ss_side b x.toNatClampNeg + 1) 0 0 1))
theorem tb_sum (h : TBk z g r b t f) (I : ss_I r b) (x : Int32) (w : Int32) : TBo X N S (d + 4) z g 95 [.ref z, .int x, .int w] f (op_sum x w r b t) := by
  have h0 := tk_0 h
  rw [op_sum]
  by_cases h1 : 0 ≤ x ∧ x ≤ 11
  · skip
    by_cases hE0 : -50 ≤ w ∧ w ≤ 50
    · skip
      rw [if_neg (not_or.mpr ⟨not_not_intro h1, (not_not_intro hE0)⟩)]
      obtain ⟨k, hk, ek⟩ := nI_of2 (x := x) (M := 11) (n := 11) (by decide) (Int32.not_lt.mpr h1.1) h1.2
      subst ek
      rw [nI_clamp (show k < 2 ^ 31 by omega)]
      have hat := tb_boardAt X (d + 0) N S h (k := k) (by omega)
      by_cases h2 : b.1 k = -1
      · rw [if_pos h2]
        obtain ⟨f1, e1, k1⟩ := tb_refused X (d + 2) N S h 1 (by decide)
        refine ⟨f1, ?_, k1⟩
        simp only [ke_95, kk_95_0, kk_95_18, kk_95_20, kk_95_36, kl_95_0, kl_95_18, kl_95_20, kl_95_36, ge_iconst, ge_lconst, ge_null, ge_iload, ge_lload, ge_aload, ge_istore, ge_lstore, ge_astore, ge_astoreN, ge_iinc, ge_iadd, ge_isub, ge_imul, ge_iand, ge_ior, ge_ixor, ge_ishl, ge_ishr, ge_iushr, ge_ladd, ge_lsub, ge_lmul, ge_lcmp, ge_idiv, ge_irem, ge_ldiv, ge_ineg, ge_i2l, ge_l2i, ge_lneg, ge_dupI, ge_dupR, ge_popI, ge_dup2, ge_goto, ge_if_eq, ge_if_ne, ge_if_lt, ge_if_ge, ge_if_gt, ge_if_le, ge_ic_eq, ge_ic_ne, ge_ic_lt, ge_ic_ge, ge_ic_gt, ge_ic_le, ge_ifnullN, ge_ifnullR, ge_ifnnN, ge_ifnnR, ge_switch, ge_getf, ge_putfI, ge_putfL, ge_putfR, ge_iald, ge_lald, ge_aald, ge_iast, ge_last, ge_aast, ge_alen, ge_new, ge_newI, ge_newL, ge_newQ, ge_oi, ge_copy, ge_max, ge_is0, ge_is1, ge_iv1, ge_is2, ge_iv2, ge_is3, ge_iv3, ge_is4, ge_iv4, ge_is5, ge_iv5, ge_iv6, ge_ret, ge_iret, ge_zret, ge_lret, ge_aretR, ge_aretN, ge_ld0, ge_lds, ge_sum0, ge_sumI, ge_sumL, ge_sumR, ge_sumN, ge_st0, ge_st1, ge_st2, ge_su0, ge_su1, ge_su2, ge_ap1, ge_ap0, qm_gf, qm_pf, qm_ia, qm_is, qm_la, qm_ls, qm_aa, qm_al, qm_isK, qm_kv, qm_cp, List.getElem?_cons_zero, List.getElem?_cons_succ, List.length_cons, List.length_nil, List.set_cons_zero, List.set_cons_succ, decide_true, if_true, if_false, eq_self, and_true, true_and, or_true, true_or, and_false, false_and, or_false, false_or, ↓reduceIte, Nat.reduceLT, Nat.reduceLeDiff, Nat.reduceAdd, Nat.zero_lt_succ, zi_eq0, zi_01, zi_eq1, zi_or, Nat.reduceEqDiff, not_true_eq_false, not_false_eq_true, va_up_self, zi_0ne1, zi_1ne0, tb_isBoardNumber, tb_isWithin, tb_isRowNumber, h1, hE0, h0, hat, h2, e1, ss_no]
      · rw [if_neg h2]
        rw [if_neg h2] at hat
        have hr := tk_brd h (k := k) (by omega)
        have hq := tk_cl h (k := k) (by omega)
        have hI := I.2 k (by omega)
        have h6 := tk_6 h
        obtain ⟨w1, v1, e1, hv, k1⟩ := tb_num X (d + 1) N S h hr hq (by omega) (by omega) hI.1
        have m0 := tk_0 k1
        have m6 := tk_6 k1
        have m8 : (va_up (va_up f (z + 7) (.inl (0, 64, .inl w1))) (z + 8) (.inl (0, 7, .inl v1))) (z + 8) = .inl (0, 7, .inl v1) := va_up_self _ _ _
        have mr := tk_brd k1 (k := k) (by omega)
        generalize va_up (va_up f (z + 7) (.inl (0, 64, .inl w1))) (z + 8) (.inl (0, 7, .inl v1)) = f1 at e1 k1 m0 m6 m8 mr
        have hsd : ∃ s, s ≤ 6 ∧ nI s = (if nI (b.2.1 k) < nI (b.2.2.1 k) then nI (b.2.2.1 k) else nI (b.2.1 k)) ∧ s = ss_side b k := by
          unfold ss_side
          by_cases c : b.2.1 k < b.2.2.1 k
          · rw [if_pos c, if_pos (nI_lt c (by omega))]
            exact ⟨_, hI.2.1, rfl, rfl⟩
          · rw [if_neg c, if_neg (nI_nlt (by omega) (by omega))]
            exact ⟨_, hI.1, rfl, rfl⟩
        obtain ⟨s, hs6, hse, hss⟩ := hsd
        have hsi := bd_side X (d + 2) N S f1 mr
        rw [← hse] at hsi
        rw [← hss]
        have hA := nb_fallingSum X d N S f1 v1 s w hs6 m6 m8
        rw [nb_fal_ag s w hs6 hv] at hA
        refine ⟨_, ?_, tk_way _ k1⟩
        simp only [ke_95, kk_95_0, kk_95_18, kk_95_20, kk_95_36, kl_95_0, kl_95_18, kl_95_20, kl_95_36, ge_iconst, ge_lconst, ge_null, ge_iload, ge_lload, ge_aload, ge_istore, ge_lstore, ge_astore, ge_astoreN, ge_iinc, ge_iadd, ge_isub, ge_imul, ge_iand, ge_ior, ge_ixor, ge_ishl, ge_ishr, ge_iushr, ge_ladd, ge_lsub, ge_lmul, ge_lcmp, ge_idiv, ge_irem, ge_ldiv, ge_ineg, ge_i2l, ge_l2i, ge_lneg, ge_dupI, ge_dupR, ge_popI, ge_dup2, ge_goto, ge_if_eq, ge_if_ne, ge_if_lt, ge_if_ge, ge_if_gt, ge_if_le, ge_ic_eq, ge_ic_ne, ge_ic_lt, ge_ic_ge, ge_ic_gt, ge_ic_le, ge_ifnullN, ge_ifnullR, ge_ifnnN, ge_ifnnR, ge_switch, ge_getf, ge_putfI, ge_putfL, ge_putfR, ge_iald, ge_lald, ge_aald, ge_iast, ge_last, ge_aast, ge_alen, ge_new, ge_newI, ge_newL, ge_newQ, ge_oi, ge_copy, ge_max, ge_is0, ge_is1, ge_iv1, ge_is2, ge_iv2, ge_is3, ge_iv3, ge_is4, ge_iv4, ge_is5, ge_iv5, ge_iv6, ge_ret, ge_iret, ge_zret, ge_lret, ge_aretR, ge_aretN, ge_ld0, ge_lds, ge_sum0, ge_sumI, ge_sumL, ge_sumR, ge_sumN, ge_st0, ge_st1, ge_st2, ge_su0, ge_su1, ge_su2, ge_ap1, ge_ap0, qm_gf, qm_pf, qm_ia, qm_is, qm_la, qm_ls, qm_aa, qm_al, qm_isK, qm_kv, qm_cp, List.getElem?_cons_zero, List.getElem?_cons_succ, List.length_cons, List.length_nil, List.set_cons_zero, List.set_cons_succ, decide_true, if_true, if_false, eq_self, and_true, true_and, or_true, true_or, and_false, false_and, or_false, false_or, ↓reduceIte, Nat.reduceLT, Nat.reduceLeDiff, Nat.reduceAdd, Nat.zero_lt_succ, zi_eq0, zi_01, zi_eq1, zi_or, Nat.reduceEqDiff, not_true_eq_false, not_false_eq_true, va_up_self, zi_0ne1, zi_1ne0, tb_isBoardNumber, tb_isWithin, tb_isRowNumber, h1, hE0, h0, hat, h2, hr, h6, e1, m0, m6, mr, hsi, hA]
    · rw [if_pos (Or.inr hE0)]
      refine ⟨f, ?_, h⟩
      simp only [ke_95, kk_95_0, kk_95_18, kk_95_20, kk_95_36, kl_95_0, kl_95_18, kl_95_20, kl_95_36, ge_iconst, ge_lconst, ge_null, ge_iload, ge_lload, ge_aload, ge_istore, ge_lstore, ge_astore, ge_astoreN, ge_iinc, ge_iadd, ge_isub, ge_imul, ge_iand, ge_ior, ge_ixor, ge_ishl, ge_ishr, ge_iushr, ge_ladd, ge_lsub, ge_lmul, ge_lcmp, ge_idiv, ge_irem, ge_ldiv, ge_ineg, ge_i2l, ge_l2i, ge_lneg, ge_dupI, ge_dupR, ge_popI, ge_dup2, ge_goto, ge_if_eq, ge_if_ne, ge_if_lt, ge_if_ge, ge_if_gt, ge_if_le, ge_ic_eq, ge_ic_ne, ge_ic_lt, ge_ic_ge, ge_ic_gt, ge_ic_le, ge_ifnullN, ge_ifnullR, ge_ifnnN, ge_ifnnR, ge_switch, ge_getf, ge_putfI, ge_putfL, ge_putfR, ge_iald, ge_lald, ge_aald, ge_iast, ge_last, ge_aast, ge_alen, ge_new, ge_newI, ge_newL, ge_newQ, ge_oi, ge_copy, ge_max, ge_is0, ge_is1, ge_iv1, ge_is2, ge_iv2, ge_is3, ge_iv3, ge_is4, ge_iv4, ge_is5, ge_iv5, ge_iv6, ge_ret, ge_iret, ge_zret, ge_lret, ge_aretR, ge_aretN, ge_ld0, ge_lds, ge_sum0, ge_sumI, ge_sumL, ge_sumR, ge_sumN, ge_st0, ge_st1, ge_st2, ge_su0, ge_su1, ge_su2, ge_ap1, ge_ap0, qm_gf, qm_pf, qm_ia, qm_is, qm_la, qm_ls, qm_aa, qm_al, qm_isK, qm_kv, qm_cp, List.getElem?_cons_zero, List.getElem?_cons_succ, List.length_cons, List.length_nil, List.set_cons_zero, List.set_cons_succ, decide_true, if_true, if_false, eq_self, and_true, true_and, or_true, true_or, and_false, false_and, or_false, false_or, ↓reduceIte, Nat.reduceLT, Nat.reduceLeDiff, Nat.reduceAdd, Nat.zero_lt_succ, zi_eq0, zi_01, zi_eq1, zi_or, Nat.reduceEqDiff, not_true_eq_false, not_false_eq_true, va_up_self, zi_0ne1, zi_1ne0, tb_isBoardNumber, tb_isWithin, tb_isRowNumber, h1, hE0, ss_bad]
  · rw [if_pos (Or.inl h1)]
    refine ⟨f, ?_, h⟩
    simp only [ke_95, kk_95_0, kk_95_18, kk_95_20, kk_95_36, kl_95_0, kl_95_18, kl_95_20, kl_95_36, ge_iconst, ge_lconst, ge_null, ge_iload, ge_lload, ge_aload, ge_istore, ge_lstore, ge_astore, ge_astoreN, ge_iinc, ge_iadd, ge_isub, ge_imul, ge_iand, ge_ior, ge_ixor, ge_ishl, ge_ishr, ge_iushr, ge_ladd, ge_lsub, ge_lmul, ge_lcmp, ge_idiv, ge_irem, ge_ldiv, ge_ineg, ge_i2l, ge_l2i, ge_lneg, ge_dupI, ge_dupR, ge_popI, ge_dup2, ge_goto, ge_if_eq, ge_if_ne, ge_if_lt, ge_if_ge, ge_if_gt, ge_if_le, ge_ic_eq, ge_ic_ne, ge_ic_lt, ge_ic_ge, ge_ic_gt, ge_ic_le, ge_ifnullN, ge_ifnullR, ge_ifnnN, ge_ifnnR, ge_switch, ge_getf, ge_putfI, ge_putfL, ge_putfR, ge_iald, ge_lald, ge_aald, ge_iast, ge_last, ge_aast, ge_alen, ge_new, ge_newI, ge_newL, ge_newQ, ge_oi, ge_copy, ge_max, ge_is0, ge_is1, ge_iv1, ge_is2, ge_iv2, ge_is3, ge_iv3, ge_is4, ge_iv4, ge_is5, ge_iv5, ge_iv6, ge_ret, ge_iret, ge_zret, ge_lret, ge_aretR, ge_aretN, ge_ld0, ge_lds, ge_sum0, ge_sumI, ge_sumL, ge_sumR, ge_sumN, ge_st0, ge_st1, ge_st2, ge_su0, ge_su1, ge_su2, ge_ap1, ge_ap0, qm_gf, qm_pf, qm_ia, qm_is, qm_la, qm_ls, qm_aa, qm_al, qm_isK, qm_kv, qm_cp, List.getElem?_cons_zero, List.getElem?_cons_succ, List.length_cons, List.length_nil, List.set_cons_zero, List.set_cons_succ, decide_true, if_true, if_false, eq_self, and_true, true_and, or_true, true_or, and_false, false_and, or_false, false_or, ↓reduceIte, Nat.reduceLT, Nat.reduceLeDiff, Nat.reduceAdd, Nat.zero_lt_succ, zi_eq0, zi_01, zi_eq1, zi_or, Nat.reduceEqDiff, not_true_eq_false, not_false_eq_true, va_up_self, zi_0ne1, zi_1ne0, tb_isBoardNumber, tb_isWithin, tb_isRowNumber, h1, ss_bad]
end TB3
