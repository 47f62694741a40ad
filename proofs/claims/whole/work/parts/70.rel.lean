/-! the model's state against the class's -/
def mRr (s : md_S) (r : ss_R) : Prop := ∀ k, k < 8 → gA s 2 k = r.1 k ∧ ∀ n, n ≤ 36 → r.1 k = nI n → ∀ i, i < n → gA s 3 (36 * k + i) = r.2 k i
def mRb (s : md_S) (b : ss_B) : Prop := ∀ k, k < 12 → gA s 5 k = b.1 k ∧ (¬ b.1 k = -1 → gA s 6 k = nI (b.2.1 k) ∧ gA s 7 k = nI (b.2.2.1 k) ∧ (∀ i, i < b.2.1 k → gA s 8 (6 * k + i) = b.2.2.2 k i) ∧ ((b.1 k = 2 ∨ b.1 k = 3) → gA s 9 k = b.2.2.2 k 0))
def mRt (s : md_S) (t : ss_T) : Prop := (∀ k, k < 6 → gA s 1 k = t.1 k) ∧ gI s 0 = t.2.2.2.2.2 ∧ gI s 2 = t.2.2.1 ∧ gL s 3 = t.2.1 ∧ gL s 4 = t.2.2.2.1 ∧ gL s 5 = t.2.2.2.2.1
def mRw (s : md_S) : Prop := qm_in (gI s 25) 6 = true
def mR (s : md_S) (r : ss_R) (b : ss_B) (t : ss_T) : Prop := mRr s r ∧ mRb s b ∧ mRt s t ∧ mRw s
theorem mRr_of {s s' : md_S} {r : ss_R} (h : mRr s r) (e2 : gA s' 2 = gA s 2) (e3 : gA s' 3 = gA s 3) : mRr s' r := by
  unfold mRr at h ⊢
  rw [e2, e3]
  exact h
theorem mRb_of {s s' : md_S} {b : ss_B} (h : mRb s b) (e5 : gA s' 5 = gA s 5) (e6 : gA s' 6 = gA s 6) (e7 : gA s' 7 = gA s 7) (e8 : gA s' 8 = gA s 8) (e9 : gA s' 9 = gA s 9) : mRb s' b := by
  unfold mRb at h ⊢
  rw [e5, e6, e7, e8, e9]
  exact h
theorem mRt_of {s s' : md_S} {t : ss_T} (h : mRt s t) (e1 : gA s' 1 = gA s 1) (e0 : gI s' 0 = gI s 0) (e2 : gI s' 2 = gI s 2) (e3 : gL s' 3 = gL s 3) (e4 : gL s' 4 = gL s 4) (e5 : gL s' 5 = gL s 5) : mRt s' t := by
  unfold mRt at h ⊢
  rw [e1, e0, e2, e3, e4, e5]
  exact h
/-- what no answer depends on has changed -/
theorem mR_of {s s' : md_S} {r : ss_R} {b : ss_B} {t : ss_T} (h : mR s r b t) (e2 : gA s' 2 = gA s 2) (e3 : gA s' 3 = gA s 3) (e5 : gA s' 5 = gA s 5) (e6 : gA s' 6 = gA s 6) (e7 : gA s' 7 = gA s 7) (e8 : gA s' 8 = gA s 8) (e9 : gA s' 9 = gA s 9) (e1 : gA s' 1 = gA s 1) (i0 : gI s' 0 = gI s 0) (i2 : gI s' 2 = gI s 2) (l3 : gL s' 3 = gL s 3) (l4 : gL s' 4 = gL s 4) (l5 : gL s' 5 = gL s 5) (w : mRw s') : mR s' r b t := ⟨mRr_of h.1 e2 e3, mRb_of h.2.1 e5 e6 e7 e8 e9, mRt_of h.2.2.1 e1 i0 i2 l3 l4 l5, w⟩
theorem mR_no {s : md_S} {r : ss_R} {b : ss_B} {t : ss_T} (h : mR s r b t) {x : Int32} (hx : qm_in x 6 = true) : mR (mt s x) r b (ss_ref t x) := by
  obtain ⟨h1, h2, ⟨t1, t2, t3, t4, t5, t6⟩, h4⟩ := h
  refine ⟨mRr_of h1 rfl rfl, mRb_of h2 rfl rfl rfl rfl rfl, ⟨fun k hk => ?_, rfl, t3, t4, t5, t6⟩, h4⟩
  show upd (gA s 1) x.toNatClampNeg (gA s 1 x.toNatClampNeg + 1) k = upd t.1 x.toNatClampNeg (t.1 x.toNatClampNeg + 1) k
  unfold upd
  by_cases e : k = x.toNatClampNeg
  · rw [if_pos e, if_pos e, ← e, t1 k hk]
  · rw [if_neg e, if_neg e, t1 k hk]
theorem mR_ask {s : md_S} {r : ss_R} {b : ss_B} {t : ss_T} (h : mR s r b t) (v : Int32) : mR (sI s 2 v) r b (ss_ask t v) := by
  obtain ⟨h1, h2, ⟨t1, t2, t3, t4, t5, t6⟩, h4⟩ := h
  exact ⟨mRr_of h1 rfl rfl, mRb_of h2 rfl rfl rfl rfl rfl, ⟨t1, t2, rfl, t4, t5, t6⟩, h4⟩
theorem mR_way {s : md_S} {r : ss_R} {b : ss_B} {t : ss_T} (h : mR s r b t) (v : Int64) : mR (sL s 3 v) r b (ss_way t v) := by
  obtain ⟨h1, h2, ⟨t1, t2, t3, t4, t5, t6⟩, h4⟩ := h
  exact ⟨mRr_of h1 rfl rfl, mRb_of h2 rfl rfl rfl rfl rfl, ⟨t1, t2, t3, rfl, t5, t6⟩, h4⟩
theorem mR_fr {s : md_S} {r : ss_R} {b : ss_B} {t : ss_T} (h : mR s r b t) (u v : Int64) : mR (sL (sL s 4 u) 5 v) r b (ss_fr t u v) := by
  obtain ⟨h1, h2, ⟨t1, t2, t3, t4, t5, t6⟩, h4⟩ := h
  exact ⟨mRr_of h1 rfl rfl, mRb_of h2 rfl rfl rfl rfl rfl, ⟨t1, t2, t3, t4, rfl, rfl⟩, h4⟩
theorem mR_B {s : md_S} {r : ss_R} {b : ss_B} {t : ss_T} (h : mR s r b t) (I : ss_I r b) {k : Nat} (hk : k < 12) (h2 : ¬ b.1 k = -1) : mB s k (b.2.1 k) (b.2.2.1 k) (ss_c b k) := by
  obtain ⟨e1, e2⟩ := h.2.1 k hk
  obtain ⟨e3, e4, e5, e6⟩ := e2 h2
  obtain ⟨i1, i2, i3⟩ := I.2 k hk
  obtain ⟨i4, i5, i6, i7⟩ := i3 h2
  refine ⟨hk, i5, i1, i6, i2, e3, e4, fun i hi => ?_⟩
  obtain ⟨c1, c2, c3⟩ := ss_c_ok I hk h2 hi
  exact ⟨c1, by rw [e5 i hi, c3]⟩
theorem mR_k {s : md_S} {r : ss_R} {b : ss_B} {t : ss_T} (h : mR s r b t) {k : Nat} (hk : k < 12) : gA s 5 k = b.1 k := (h.2.1 k hk).1
theorem mR_z {s : md_S} {r : ss_R} {b : ss_B} {t : ss_T} (h : mR s r b t) {k : Nat} (hk : k < 8) : gA s 2 k = r.1 k := (h.1 k hk).1
theorem mR_p {s : md_S} {r : ss_R} {b : ss_B} {t : ss_T} (h : mR s r b t) {k n : Nat} (hk : k < 8) (hn : n ≤ 36) (e : r.1 k = nI n) {i : Nat} (hi : i < n) : gA s 3 (36 * k + i) = r.2 k i := (h.1 k hk).2 n hn e i hi
theorem ss_k4 {r : ss_R} {b : ss_B} (I : ss_I r b) {k : Nat} (hk : k < 12) (h2 : ¬ b.1 k = -1) : b.1 k = 0 ∨ b.1 k = 1 ∨ b.1 k = 2 ∨ b.1 k = 3 := ((I.2 k hk).2.2 h2).1
theorem ss_kpos {r : ss_R} {b : ss_B} (I : ss_I r b) {k : Nat} (hk : k < 12) (h2 : ¬ b.1 k = -1) : ¬ b.1 k < 0 := by
  rcases ss_k4 I hk h2 with h | h | h | h <;> rw [h] <;> decide
/-- a board put anew: kinds 0, 1 -/
theorem mR_come {s : md_S} {r : ss_R} {b : ss_B} {t : ss_T} (h : mR s r b t) (I : ss_I r b) {k hh ww : Nat} {kd : Int32} {p : Nat → Int32} (hk : k < 12) (h6 : hh ≤ 6) (hkd : ¬ (kd = 2 ∨ kd = 3)) (hp : ∀ i, i < hh → gA s 10 i = p i) : mR (mcome s k kd hh ww) r (ss_put b k kd hh ww p) t := by
  refine ⟨mRr_of h.1 rfl rfl, fun q hq => ?_, mRt_of h.2.2.1 rfl rfl rfl rfl rfl rfl, h.2.2.2⟩
  obtain ⟨e1, e2⟩ := h.2.1 q hq
  have s5 : gA (mcome s k kd hh ww) 5 = upd (gA s 5) k kd := rfl
  have s6 : gA (mcome s k kd hh ww) 6 = upd (gA s 6) k (nI hh) := rfl
  have s7 : gA (mcome s k kd hh ww) 7 = upd (gA s 7) k (nI ww) := rfl
  have s8 : gA (mcome s k kd hh ww) 8 = fb_put (gA s 8) (fun i => if i < hh then gA s 10 i else 0) (6 * k) 6 := rfl
  have s9 : gA (mcome s k kd hh ww) 9 = gA s 9 := rfl
  rw [s5, s6, s7, s8, s9]
  by_cases e : q = k
  · subst e
    have b1 : (ss_put b q kd hh ww p).1 q = kd := va_up_self _ _ _
    have b2 : (ss_put b q kd hh ww p).2.1 q = hh := va_up_self _ _ _
    have b3 : (ss_put b q kd hh ww p).2.2.1 q = ww := va_up_self _ _ _
    have b4 : (ss_put b q kd hh ww p).2.2.2 q = zf_put (b.2.2.2 q) p 6 := va_up_self _ _ _
    rw [b1, b2, b3, b4]
    refine ⟨pk_us, fun _ => ⟨pk_us, pk_us, fun i hi => ?_, fun z => absurd z hkd⟩⟩
    rw [fb_put_in (by omega) (by omega), Nat.add_sub_cancel_left, if_pos hi, hp i hi]
    exact (if_pos (show i < 6 by omega)).symm
  · have b1 : (ss_put b k kd hh ww p).1 q = b.1 q := va_up_ne _ _ e
    have b2 : (ss_put b k kd hh ww p).2.1 q = b.2.1 q := va_up_ne _ _ e
    have b3 : (ss_put b k kd hh ww p).2.2.1 q = b.2.2.1 q := va_up_ne _ _ e
    have b4 : (ss_put b k kd hh ww p).2.2.2 q = b.2.2.2 q := va_up_ne _ _ e
    rw [b1, b2, b3, b4, pk_un e, pk_un e, pk_un e]
    refine ⟨e1, fun z => ?_⟩
    obtain ⟨x1, x2, x3, x4⟩ := e2 z
    have q6 := (I.2 q hq).1
    refine ⟨x1, x2, fun i hi => ?_, x4⟩
    rw [fb_put_out (by omega)]
    exact x3 i hi
/-- the same for rings, whose differences are written too -/
theorem mR_ring {s : md_S} {r : ss_R} {b : ss_B} {t : ss_T} (h : mR s r b t) (I : ss_I r b) {k hh ww : Nat} {kd v : Int32} {p : Nat → Int32} (hk : k < 12) (h6 : hh ≤ 6) (hp : ∀ i, i < hh → gA s 10 i = p i) (hv : v = p 0) : mR (sA (mcome s k kd hh ww) 9 (upd (gA s 9) k v)) r (ss_put b k kd hh ww p) t := by
  refine ⟨mRr_of h.1 rfl rfl, fun q hq => ?_, mRt_of h.2.2.1 rfl rfl rfl rfl rfl rfl, h.2.2.2⟩
  obtain ⟨e1, e2⟩ := h.2.1 q hq
  have s5 : gA (sA (mcome s k kd hh ww) 9 (upd (gA s 9) k v)) 5 = upd (gA s 5) k kd := rfl
  have s6 : gA (sA (mcome s k kd hh ww) 9 (upd (gA s 9) k v)) 6 = upd (gA s 6) k (nI hh) := rfl
  have s7 : gA (sA (mcome s k kd hh ww) 9 (upd (gA s 9) k v)) 7 = upd (gA s 7) k (nI ww) := rfl
  have s8 : gA (sA (mcome s k kd hh ww) 9 (upd (gA s 9) k v)) 8 = fb_put (gA s 8) (fun i => if i < hh then gA s 10 i else 0) (6 * k) 6 := rfl
  have s9 : gA (sA (mcome s k kd hh ww) 9 (upd (gA s 9) k v)) 9 = upd (gA s 9) k v := rfl
  rw [s5, s6, s7, s8, s9]
  by_cases e : q = k
  · subst e
    have b1 : (ss_put b q kd hh ww p).1 q = kd := va_up_self _ _ _
    have b2 : (ss_put b q kd hh ww p).2.1 q = hh := va_up_self _ _ _
    have b3 : (ss_put b q kd hh ww p).2.2.1 q = ww := va_up_self _ _ _
    have b4 : (ss_put b q kd hh ww p).2.2.2 q = zf_put (b.2.2.2 q) p 6 := va_up_self _ _ _
    rw [b1, b2, b3, b4]
    refine ⟨pk_us, fun _ => ⟨pk_us, pk_us, fun i hi => ?_, fun _ => ?_⟩⟩
    · rw [fb_put_in (by omega) (by omega), Nat.add_sub_cancel_left, if_pos hi, hp i hi]
      exact (if_pos (show i < 6 by omega)).symm
    · rw [pk_us, hv]
      exact (if_pos (show 0 < 6 by omega)).symm
  · have b1 : (ss_put b k kd hh ww p).1 q = b.1 q := va_up_ne _ _ e
    have b2 : (ss_put b k kd hh ww p).2.1 q = b.2.1 q := va_up_ne _ _ e
    have b3 : (ss_put b k kd hh ww p).2.2.1 q = b.2.2.1 q := va_up_ne _ _ e
    have b4 : (ss_put b k kd hh ww p).2.2.2 q = b.2.2.2 q := va_up_ne _ _ e
    rw [b1, b2, b3, b4, pk_un e, pk_un e, pk_un e, pk_un e]
    refine ⟨e1, fun z => ?_⟩
    obtain ⟨x1, x2, x3, x4⟩ := e2 z
    have q6 := (I.2 q hq).1
    refine ⟨x1, x2, fun i hi => ?_, x4⟩
    rw [fb_put_out (by omega)]
    exact x3 i hi
/-- the class's invariant of a board put anew -/
theorem ssI_put {r : ss_R} {b : ss_B} (I : ss_I r b) {k hh ww : Nat} {kd : Int32} {p : Nat → Int32} (hk : k < 12) (hkd : kd = 0 ∨ kd = 1 ∨ kd = 2 ∨ kd = 3) (h1 : 1 ≤ hh) (h6 : hh ≤ 6) (w1 : 1 ≤ ww) (w6 : ww ≤ 6) (hp : ∀ i, i < hh → ∃ c, c < 2 ^ ww ∧ p i = nI c) : ss_I r (ss_put b k kd hh ww p) := by
  refine ⟨I.1, fun q hq => ?_⟩
  by_cases e : q = k
  · subst e
    have b1 : (ss_put b q kd hh ww p).1 q = kd := va_up_self _ _ _
    have b2 : (ss_put b q kd hh ww p).2.1 q = hh := va_up_self _ _ _
    have b3 : (ss_put b q kd hh ww p).2.2.1 q = ww := va_up_self _ _ _
    have b4 : (ss_put b q kd hh ww p).2.2.2 q = zf_put (b.2.2.2 q) p 6 := va_up_self _ _ _
    rw [b1, b2, b3, b4]
    refine ⟨h6, w6, fun _ => ⟨hkd, h1, w1, fun i hi => ?_⟩⟩
    obtain ⟨c, c1, c2⟩ := hp i hi
    exact ⟨c, c1, by rw [← c2]; exact if_pos (show i < 6 by omega)⟩
  · have b1 : (ss_put b k kd hh ww p).1 q = b.1 q := va_up_ne _ _ e
    have b2 : (ss_put b k kd hh ww p).2.1 q = b.2.1 q := va_up_ne _ _ e
    have b3 : (ss_put b k kd hh ww p).2.2.1 q = b.2.2.1 q := va_up_ne _ _ e
    have b4 : (ss_put b k kd hh ww p).2.2.2 q = b.2.2.2 q := va_up_ne _ _ e
    rw [b1, b2, b3, b4]
    exact I.2 q hq
/-- a call of the model answers and leaves as o says -/
def MDo (X : qm_X) (N S d m : Nat) (g : Nat → qm_C) (mid : Nat) (args : List Value) (s : md_S) (o : ss_A) : Prop := ∃ s', qm_ex qm_M X d mid args (N, S, mh m g s) = some (some o.1, (N, S, mh m g s')) ∧ mR s' o.2.1 o.2.2.1 o.2.2.2
theorem mq_1 : ((0 : Int32) ≤ -1) = False := by decide
theorem mq_3 : ((0 : Int32) ≤ -3) = False := by decide
theorem mq_0 : ((0 : Int32) ≤ 0) = True := by decide
theorem cc_eq {p : Nat → Int32} {c : Nat → Nat} : ∀ {n : Nat}, (∀ i, i < n → c i < 64 ∧ p i = nI (c i)) → zf_cc p n = nI (mcc c n)
  | 0, _ => rfl
  | n + 1, h => by
    rw [zf_cc, cc_eq (fun i hi => h i (by omega)), (h n (by omega)).2, zb_bc_ok _ (h n (by omega)).1, nI_add, ← bc_pc _ (h n (by omega)).1]
    rfl
theorem cell_bit {c j : Nat} (hj : j < 31) : nI c &&& ((1 : Int32) <<< (nI j &&& 31)) = 0 ↔ c.testBit j = false := by rw [zb_1shl j hj, fa_bit hj]
theorem place_iff {h w : Nat} (h1 : 1 ≤ h) (h6 : h ≤ 6) (w1 : 1 ≤ w) (w6 : w ≤ 6) (i j : Int32) : ((0 ≤ i ∧ i ≤ nI (h - 1)) ∧ (0 ≤ j ∧ j ≤ nI (w - 1))) ↔ (0 ≤ i ∧ i < nI h ∧ 0 ≤ j ∧ j < nI w) := by
  have key : ∀ (x : Int32) (n : Nat), 1 ≤ n → n ≤ 6 → (x ≤ nI (n - 1) ↔ x < nI n) := fun x n n1 n6 => by
    rw [fa_le, fa_lt, nI_toInt (by omega), nI_toInt (by omega)]
    omega
  rw [key i h h1 h6, key j w w1 w6, and_assoc]
theorem place_nat {h w : Nat} (h6 : h ≤ 6) (w6 : w ≤ 6) {i j : Int32} (z : 0 ≤ i ∧ i < nI h ∧ 0 ≤ j ∧ j < nI w) : ∃ i' j', i' < h ∧ j' < w ∧ i = nI i' ∧ j = nI j' := by
  obtain ⟨a, a1, a2⟩ := zi_nat (by omega) z.1 z.2.1
  obtain ⟨c, c1, c2⟩ := zi_nat (by omega) z.2.2.1 z.2.2.2
  exact ⟨a, c, a1, c1, a2, c2⟩
theorem mqe_01 : ((0 : Int32) = 1) = False := by decide
theorem mqe_02 : ((0 : Int32) = 2) = False := by decide
theorem mqe_03 : ((0 : Int32) = 3) = False := by decide
theorem mqe_04 : ((0 : Int32) = 4) = False := by decide
theorem mqe_10 : ((1 : Int32) = 0) = False := by decide
theorem mqe_12 : ((1 : Int32) = 2) = False := by decide
theorem mqe_13 : ((1 : Int32) = 3) = False := by decide
theorem mqe_14 : ((1 : Int32) = 4) = False := by decide
theorem mqe_20 : ((2 : Int32) = 0) = False := by decide
theorem mqe_21 : ((2 : Int32) = 1) = False := by decide
theorem mqe_23 : ((2 : Int32) = 3) = False := by decide
theorem mqe_24 : ((2 : Int32) = 4) = False := by decide
theorem mqe_30 : ((3 : Int32) = 0) = False := by decide
theorem mqe_31 : ((3 : Int32) = 1) = False := by decide
theorem mqe_32 : ((3 : Int32) = 2) = False := by decide
theorem mqe_34 : ((3 : Int32) = 4) = False := by decide
theorem mqe_40 : ((4 : Int32) = 0) = False := by decide
theorem mqe_41 : ((4 : Int32) = 1) = False := by decide
theorem mqe_42 : ((4 : Int32) = 2) = False := by decide
theorem mqe_43 : ((4 : Int32) = 3) = False := by decide
