/-! the class's Arrows.findFor and Board.takeDiagonals -/
section AR3
variable (X : qm_X) (d N S : Nat)
variable {a qw qp qr qy b qb hh : Nat} {kd wd fu : Int32} {p : Nat → Int32}
def ar_P (hc : Nat → Nat → Bool) (hh : Nat) (y z : Nat → Int32) : (Nat → Int32) × (Nat → Int32) := ar_pout hc hh (2 ^ hh - 1) 1 (y, z)
def ar_R (hc : Nat → Nat → Bool) (sh : Int32) (hh : Nat) (y z g : Nat → Int32) : (Nat → Int32) × (Nat → Int32) := ar_rout hc sh hh (2 ^ hh - 1) 1 ((ar_P hc hh y z).1, g)
def ar_U (hc : Nat → Nat → Bool) (sh : Int32) (hh : Nat) (y z g u : Nat → Int32) : Nat → Int32 := ar_ways (ar_P hc hh y z).2 (ar_R hc sh hh y z g).2 (2 ^ hh - 1) 1 (upd (zf_fill u 0 3136) 0 1)
theorem ar_findFor (f : Nat → qm_C) (sh : Int32) (y z g u : Nat → Int32) (hn : hh ≤ 6) (a1 : a ≠ qw) (a2 : a ≠ qp) (a3 : a ≠ qr) (a4 : a ≠ qy) (w1 : qw ≠ qp) (w2 : qw ≠ qr) (w3 : qw ≠ qy) (p1 : qp ≠ qr) (p2 : qp ≠ qy) (r1 : qr ≠ qy) (b0 : b ≠ a) (b1 : b ≠ qw) (b2 : b ≠ qp) (b3 : b ≠ qr) (c0 : qb ≠ a) (c1 : qb ≠ qw) (c2 : qb ≠ qp) (c3 : qb ≠ qr) (hr : f a = .inr (0, [.ref qw, .ref qp, .ref qr, .ref qy, .int fu])) (hw : f qw = .inl (0, 384, .inl y)) (hp : f qp = .inl (0, 64, .inl z)) (hg : f qr = .inl (0, 64, .inl g)) (hy : f qy = .inl (0, 3136, .inl u)) (hrb : f b = .inr (1, [.int kd, .int (nI hh), .int wd, .ref qb])) (hqb : f qb = .inl (0, 6, .inl p)) : qm_ex qm_M X (d + 5) 1 [.ref a, .ref b, .int sh] (N, S, f) = some (none, (N, S, va_up (va_up (va_up (va_up (va_up (va_up f a (.inr (0, [.ref qw, .ref qp, .ref qr, .ref qy, .int (nI (2 ^ hh - 1))]))) qw (.inl (0, 384, .inl (ar_P (bd_hc (nI hh) wd p) hh y z).1))) qp (.inl (0, 64, .inl (ar_P (bd_hc (nI hh) wd p) hh y z).2))) qw (.inl (0, 384, .inl (ar_R (bd_hc (nI hh) wd p) sh hh y z g).1))) qr (.inl (0, 64, .inl (ar_R (bd_hc (nI hh) wd p) sh hh y z g).2))) qy (.inl (0, 3136, .inl (ar_U (bd_hc (nI hh) wd p) sh hh y z g u))))) := by
  have hb := zb_1shl hh (by omega)
  have hlo := zb_low7 hh (by omega)
  have hp2 : 2 ^ hh ≤ 2 ^ 6 := Nat.pow_le_pow_right (by decide) hn
  have hp0 : 0 < 2 ^ hh := Nat.two_pow_pos hh
  have z0 : (0 : Int32).toNatClampNeg = 0 := by decide
  have i0 : qm_in 0 3136 = true := by decide
  have e1 := Ne.symm a1
  have e2 := Ne.symm a2
  have e3 := Ne.symm a3
  have e4 := Ne.symm a4
  have e5 := Ne.symm w1
  have e6 := Ne.symm w2
  have e7 := Ne.symm w3
  have e8 := Ne.symm p1
  have e9 := Ne.symm p2
  have e10 := Ne.symm r1
  have h1 := ar_findPaths X d N S (va_up f a (.inr (0, [.ref qw, .ref qp, .ref qr, .ref qy, .int (nI (2 ^ hh - 1))]))) (2 ^ hh - 1) (y, z) (kd := kd) (wd := wd) (p := p) (hh := hh) (b := b) (qb := qb) (by omega) hn a1 a2 w1 b1 b2 c1 c2 (va_up_self _ _ _) (by rw [va_up_ne _ _ e1]; exact hw) (by rw [va_up_ne _ _ e2]; exact hp) (by rw [va_up_ne _ _ b0]; exact hrb) (by rw [va_up_ne _ _ c0]; exact hqb)
  rw [← ar_P] at h1
  have h2 := ar_findRings X d N S (va_up (va_up (va_up f a (.inr (0, [.ref qw, .ref qp, .ref qr, .ref qy, .int (nI (2 ^ hh - 1))]))) qw (.inl (0, 384, .inl (ar_P (bd_hc (nI hh) wd p) hh y z).1))) qp (.inl (0, 64, .inl (ar_P (bd_hc (nI hh) wd p) hh y z).2))) sh (2 ^ hh - 1) ((ar_P (bd_hc (nI hh) wd p) hh y z).1, g) (kd := kd) (wd := wd) (p := p) (hh := hh) (b := b) (qb := qb) (by omega) hn a1 a3 w2 b1 b3 c1 c3 (by rw [va_up_ne _ _ a2, va_up_ne _ _ a1]; exact va_up_self f a _) (by rw [va_up_ne _ _ w1]; exact va_up_self _ qw _) (by rw [va_up_ne _ _ e8, va_up_ne _ _ e6, va_up_ne _ _ e3]; exact hg) (by rw [va_up_ne _ _ b2, va_up_ne _ _ b1, va_up_ne _ _ b0]; exact hrb) (by rw [va_up_ne _ _ c2, va_up_ne _ _ c1, va_up_ne _ _ c0]; exact hqb)
  rw [← ar_R] at h2
  have h3 := ja_fill X (d + 3) N S (va_up (va_up (va_up (va_up (va_up f a (.inr (0, [.ref qw, .ref qp, .ref qr, .ref qy, .int (nI (2 ^ hh - 1))]))) qw (.inl (0, 384, .inl (ar_P (bd_hc (nI hh) wd p) hh y z).1))) qp (.inl (0, 64, .inl (ar_P (bd_hc (nI hh) wd p) hh y z).2))) qw (.inl (0, 384, .inl (ar_R (bd_hc (nI hh) wd p) sh hh y z g).1))) qr (.inl (0, 64, .inl (ar_R (bd_hc (nI hh) wd p) sh hh y z g).2))) (q := qy) (t := 0) (n := 3136) u 0 (by omega) (by rw [va_up_ne _ _ e10, va_up_ne _ _ e7, va_up_ne _ _ e9, va_up_ne _ _ e7, va_up_ne _ _ e4]; exact hy)
  have h4 := ar_ways_loop X (d + 2) N S (b := b) (qw := qw) (z := (ar_P (bd_hc (nI hh) wd p) hh y z).2) (g := (ar_R (bd_hc (nI hh) wd p) sh hh y z g).2) sh (2 ^ hh - 1) (by omega) a4 p2 r1 (2 ^ hh - 1) 1 (va_up (va_up (va_up (va_up (va_up (va_up f a (.inr (0, [.ref qw, .ref qp, .ref qr, .ref qy, .int (nI (2 ^ hh - 1))]))) qw (.inl (0, 384, .inl (ar_P (bd_hc (nI hh) wd p) hh y z).1))) qp (.inl (0, 64, .inl (ar_P (bd_hc (nI hh) wd p) hh y z).2))) qw (.inl (0, 384, .inl (ar_R (bd_hc (nI hh) wd p) sh hh y z g).1))) qr (.inl (0, 64, .inl (ar_R (bd_hc (nI hh) wd p) sh hh y z g).2))) qy (.inl (0, 3136, .inl (upd (zf_fill u 0 3136) 0 1)))) (upd (zf_fill u 0 3136) 0 1) (by omega) (by rw [va_up_ne _ _ a4, va_up_ne _ _ a3, va_up_ne _ _ a1, va_up_ne _ _ a2, va_up_ne _ _ a1]; exact va_up_self f a _) (by rw [va_up_ne _ _ p2, va_up_ne _ _ p1, va_up_ne _ _ e5]; exact va_up_self _ qp _) (by rw [va_up_ne _ _ r1]; exact va_up_self _ qr _) (va_up_self _ _ _)
  rw [va_up_up, ← ar_U] at h4
  rw [← h4]
  simp only [ke_1, kk_1_0, kl_1_0, kl_1_40, kl_1_59, ge_iconst, ge_lconst, ge_null, ge_iload, ge_lload, ge_aload, ge_istore, ge_lstore, ge_astore, ge_astoreN, ge_iinc, ge_iadd, ge_isub, ge_imul, ge_iand, ge_ior, ge_ixor, ge_ishl, ge_ishr, ge_iushr, ge_ladd, ge_lsub, ge_lmul, ge_lcmp, ge_idiv, ge_irem, ge_ldiv, ge_ineg, ge_i2l, ge_l2i, ge_lneg, ge_dupI, ge_dupR, ge_popI, ge_dup2, ge_goto, ge_if_eq, ge_if_ne, ge_if_lt, ge_if_ge, ge_if_gt, ge_if_le, ge_ic_eq, ge_ic_ne, ge_ic_lt, ge_ic_ge, ge_ic_gt, ge_ic_le, ge_ifnullN, ge_ifnullR, ge_ifnnN, ge_ifnnR, ge_switch, ge_getf, ge_putfI, ge_putfL, ge_putfR, ge_iald, ge_lald, ge_aald, ge_iast, ge_last, ge_aast, ge_alen, ge_new, ge_newI, ge_newL, ge_newQ, ge_oi, ge_copy, ge_max, ge_is0, ge_is1, ge_iv1, ge_is2, ge_iv2, ge_is3, ge_iv3, ge_is4, ge_iv4, ge_is5, ge_iv5, ge_iv6, ge_ret, ge_iret, ge_zret, ge_lret, ge_aretR, ge_aretN, ge_ld0, ge_lds, ge_sum0, ge_sumI, ge_sumL, ge_sumR, ge_sumN, ge_st0, ge_st1, ge_st2, ge_su0, ge_su1, ge_su2, ge_ap1, ge_ap0, qm_gf, qm_pf, qm_ia, qm_is, qm_la, qm_ls, qm_aa, qm_al, qm_isK, qm_kv, qm_cp, List.getElem?_cons_zero, List.getElem?_cons_succ, List.length_cons, List.length_nil, List.set_cons_zero, List.set_cons_succ, decide_true, if_true, if_false, eq_self, and_true, true_and, or_true, true_or, and_false, false_and, or_false, false_or, ↓reduceIte, Nat.reduceLT, Nat.reduceLeDiff, Nat.reduceAdd, Nat.zero_lt_succ, zi_eq0, zi_01, zi_eq1, zi_or, Nat.reduceEqDiff, not_true_eq_false, not_false_eq_true, va_up_self, zi_0ne1, zi_1ne0, hr, hrb, hb, hlo, h1, h2, h3, z0, i0, va_up_ne, ne_eq, a1, a2, a3, a4, va_up_up]
  rfl
/-- the cells of one colour, turned by an eighth -/
def bd_dgi (ht wd : Int32) (g : Nat → Int32) (od : Int32) (i : Nat) : Nat → Nat → (Nat → Int32) → Nat → Int32
  | 0, _, v => v
  | m + 1, j, v => bd_dgi ht wd g od i m (j + 1) (if bd_hc ht wd g i j = true ∧ nI ((i + j) % 2) = od then upd v ((i + j) / 2) (v ((i + j) / 2) ||| nI (2 ^ ((i + 6 - j) / 2))) else v)
def bd_dg (ht wd : Int32) (g : Nat → Int32) (od : Int32) (ww : Nat) : Nat → Nat → (Nat → Int32) → Nat → Int32
  | 0, _, v => v
  | m + 1, i, v => bd_dg ht wd g od ww m (i + 1) (bd_dgi ht wd g od i ww 0 v)
theorem zi_half : ∀ i, i < 6 → ∀ j, j < 6 → (nI i + nI j) / 2 = nI ((i + j) / 2) ∧ (nI i - nI j + 6) / 2 = nI ((i + 6 - j) / 2) ∧ (nI i + nI j) - (nI i + nI j) / 2 * 2 = nI ((i + j) % 2) := by decide +kernel
end AR3
