/-! least sums: the class's numbers -/
def iZ (a : Int) : Int32 := Int32.ofInt a
theorem iZ_toInt {a : Int} (h1 : -10000000 ≤ a) (h2 : a ≤ 10000000) : (iZ a).toInt = a := Int32.toInt_ofInt_of_le (by omega) (by omega)
theorem iZ_add (a b : Int) : iZ a + iZ b = iZ (a + b) := (Int32.ofInt_add a b).symm
def sml (a : Int) : Prop := -10000000 ≤ a ∧ a ≤ 10000000
theorem iZ_eq {a b : Int} (ha : sml a) (hb : sml b) : iZ a = iZ b ↔ a = b := by
  constructor
  · intro h
    have := congrArg Int32.toInt h
    rwa [iZ_toInt ha.1 ha.2, iZ_toInt hb.1 hb.2] at this
  · intro h; rw [h]
theorem iZ_lt {a b : Int} (ha : sml a) (hb : sml b) : iZ a < iZ b ↔ a < b := by
  rw [Int32.lt_iff_toInt_lt, iZ_toInt ha.1 ha.2, iZ_toInt hb.1 hb.2]
/-- v is the least sum, o the number of ways to it; F a: the number of ways to sum a -/
def rp (v o : Int32) (F : Int → Nat) : Prop := ((∀ a, F a = 0) ∧ o = 0) ∨ (∃ a, F a ≠ 0 ∧ (∀ b, F b ≠ 0 → a ≤ b) ∧ v = iZ a ∧ o = nI (F a))
def off (p : Int32 × Int32) (x t : Int32) : Int32 × Int32 := if p.2 = 0 ∨ x < p.1 then (x, t) else if x = p.1 then (p.1, p.2 + t) else p
theorem rp_off {p : Int32 × Int32} {x t : Int32} {F G H : Int → Nat} (hF : rp p.1 p.2 F) (hG : rp x t G) (t0 : ¬ t = 0) (bF : ∀ a, F a ≠ 0 → sml a) (bG : ∀ a, G a ≠ 0 → sml a) (bs : ∀ a, F a < 2 ^ 31) (hH : ∀ a, H a = F a + G a) : rp (off p x t).1 (off p x t).2 H := by
  rcases hG with hG | ⟨c, c1, c2, c3, c4⟩
  · exact absurd hG.2 t0
  unfold off
  rcases hF with hF | ⟨a, a1, a2, a3, a4⟩
  · rw [if_pos (Or.inl hF.2)]
    refine Or.inr ⟨c, by rw [hH]; omega, fun b hb => c2 b (by rw [hH, hF.1] at hb; omega), c3, ?_⟩
    rw [hH, hF.1, Nat.zero_add]
    exact c4
  · have o0 : ¬ p.2 = 0 := by
      rw [a4]
      exact nI_ne0 (by omega) (bs a)
    have sa := bF a a1
    have sc := bG c c1
    have ab : ∀ b, H b ≠ 0 → a ≤ b ∨ c ≤ b := fun b hb => by
      rw [hH] at hb
      by_cases z : F b = 0
      · exact Or.inr (c2 b (by omega))
      · exact Or.inl (a2 b z)
    by_cases l : c < a
    · rw [if_pos (Or.inr (by rw [c3, a3]; exact (iZ_lt sc sa).mpr l))]
      have fc : F c = 0 := by
        by_cases z : F c = 0
        · exact z
        · have := a2 c z; omega
      refine Or.inr ⟨c, by rw [hH]; omega, fun b hb => ?_, c3, by rw [hH, fc, Nat.zero_add]; exact c4⟩
      rcases ab b hb with z | z <;> omega
    · have nl : ¬ (p.2 = 0 ∨ x < p.1) := not_or.mpr ⟨o0, by rw [c3, a3]; exact fun z => l ((iZ_lt sc sa).mp z)⟩
      rw [if_neg nl]
      by_cases e : c = a
      · subst e
        rw [if_pos (by rw [c3, a3])]
        refine Or.inr ⟨c, by rw [hH]; omega, fun b hb => ?_, a3, ?_⟩
        · rcases ab b hb with z | z <;> exact z
        · show p.2 + t = nI (H c)
          rw [hH, ← nI_add, a4, c4]
      · rw [if_neg (by rw [c3, a3]; exact fun z => e ((iZ_eq sc sa).mp z))]
        have ga : G a = 0 := by
          by_cases z : G a = 0
          · exact z
          · have := c2 a z; omega
        refine Or.inr ⟨a, by rw [hH]; omega, fun b hb => ?_, a3, by rw [hH, ga, Nat.add_zero]; exact a4⟩
        rcases ab b hb with z | z <;> omega
theorem rp_cong {v o : Int32} {F G : Int → Nat} (h : ∀ a, F a = G a) (r : rp v o F) : rp v o G := by
  have : F = G := funext h
  rw [← this]; exact r
theorem rp_shift {v o : Int32} {F : Int → Nat} (w : Int) (r : rp v o F) : rp (v + iZ w) o (fun a => F (a - w)) := by
  rcases r with r | ⟨a, a1, a2, a3, a4⟩
  · exact Or.inl ⟨fun a => r.1 _, r.2⟩
  · have e : a + w - w = a := by omega
    refine Or.inr ⟨a + w, by show F (a + w - w) ≠ 0; rw [e]; exact a1, fun b hb => ?_, by rw [a3, iZ_add], by show o = nI (F (a + w - w)); rw [e]; exact a4⟩
    have := a2 _ hb
    omega
theorem rp_o0 {v o : Int32} {F : Int → Nat} (r : rp v o F) (bs : ∀ a, F a < 2 ^ 31) : o = 0 ↔ ∀ a, F a = 0 := by
  rcases r with r | ⟨a, a1, a2, a3, a4⟩
  · exact ⟨fun _ => r.1, fun _ => r.2⟩
  · refine ⟨fun z => ?_, fun z => absurd (z a) a1⟩
    rw [a4] at z
    exact absurd z (nI_ne0 (by omega) (bs a))
/-- what has come to set x when set s is at its column k -/
def qL (W : Nat → Int → Nat) (c : Nat) (wt : Nat → Int) (s k x : Nat) (a : Int) : Nat := W x a + fb_sm (fun j => if x.testBit j = true ∧ c.testBit j = true ∧ (s < x - 2 ^ j ∨ (s = x - 2 ^ j ∧ j < k)) then W (x - 2 ^ j) (a - wt j) else 0) 6
theorem qL_step {W : Nat → Int → Nat} {c s k : Nat} {wt : Nat → Int} (hs : s < 64) (hk : k < 6) {x : Nat} (hx : x < 64) (a : Int) : qL W c wt s (k + 1) x a = qL W c wt s k x a + (if x = s ||| 2 ^ k ∧ c.testBit k = true ∧ s.testBit k = false then W s (a - wt k) else 0) := by
  unfold qL
  rw [Nat.add_assoc]
  congr 1
  refine fb_sm_one hk (fun j hj hjk => ?_) ?_
  · have : (s < x - 2 ^ j ∨ (s = x - 2 ^ j ∧ j < k + 1)) ↔ (s < x - 2 ^ j ∨ (s = x - 2 ^ j ∧ j < k)) := by omega
    simp only [this]
  · by_cases c1 : x = s ||| 2 ^ k ∧ c.testBit k = true ∧ s.testBit k = false
    · obtain ⟨q1, q2⟩ := qb_or s hs k hk c1.2.2
      have x1 : x = s + 2 ^ k := c1.1.trans q1
      have x2 : x - 2 ^ k = s := by omega
      rw [if_pos c1, if_pos ⟨by rw [x1]; exact q2, c1.2.1, Or.inr ⟨x2.symm, by omega⟩⟩, if_neg (fun z => by rw [x2] at z; omega), x2, Nat.zero_add]
    · rw [if_neg c1, Nat.add_zero]
      by_cases c2 : x.testBit k = true ∧ c.testBit k = true
      · obtain ⟨p1, p2⟩ := qb_sub x hx k hk c2.1
        have ne : ¬ s = x - 2 ^ k := fun e => c1 (by
          have h3 : s.testBit k = false := by rw [e]; exact p2
          exact ⟨by rw [(qb_or s hs k hk h3).1]; omega, c2.2, h3⟩)
        have : (s < x - 2 ^ k ∨ (s = x - 2 ^ k ∧ k < k + 1)) ↔ (s < x - 2 ^ k ∨ (s = x - 2 ^ k ∧ k < k)) := by omega
        simp only [this, Nat.add_zero]
      · rw [if_neg (fun z => c2 ⟨z.1, z.2.1⟩), if_neg (fun z => c2 ⟨z.1, z.2.1⟩)]
theorem qL_six {W : Nat → Int → Nat} {c s x : Nat} {wt : Nat → Int} (a : Int) : qL W c wt (s + 1) 6 x a = qL W c wt s 0 x a := by
  unfold qL
  congr 1
  refine fb_sm_cong (fun j hj => ?_)
  have : (s + 1 < x - 2 ^ j ∨ (s + 1 = x - 2 ^ j ∧ j < 6)) ↔ (s < x - 2 ^ j ∨ (s = x - 2 ^ j ∧ j < 0)) := by omega
  simp only [this]
theorem qL_self {W : Nat → Int → Nat} {c s k : Nat} {wt : Nat → Int} (hs : s < 64) (a : Int) : qL W c wt s k s a = W s a := by
  unfold qL
  rw [fb_sm_0, Nat.add_zero]
  intro j hj
  refine if_neg (fun z => ?_)
  have p2 : 0 < 2 ^ j := Nat.two_pow_pos j
  have := (qb_sub s hs j hj z.1).1
  omega
theorem qL_top {W : Nat → Int → Nat} {c x : Nat} {wt : Nat → Int} (hx : x < 64) (a : Int) : qL W c wt 63 0 x a = W x a := by
  unfold qL
  rw [fb_sm_0, Nat.add_zero]
  intro j hj
  have p2 : 0 < 2 ^ j := Nat.two_pow_pos j
  exact if_neg (fun z => by omega)
theorem qL_end {W : Nat → Int → Nat} {c x : Nat} {wt : Nat → Int} (a : Int) : qL W c wt 0 6 x a = W x a + fb_sm (fun j => if (x.testBit j && c.testBit j) = true then W (x - 2 ^ j) (a - wt j) else 0) 6 := by
  unfold qL
  congr 1
  refine fb_sm_cong (fun j hj => ?_)
  have p2 : 0 < 2 ^ j := Nat.two_pow_pos j
  have : (0 < x - 2 ^ j ∨ (0 = x - 2 ^ j ∧ j < 6)) ↔ True := ⟨fun _ => trivial, fun _ => by omega⟩
  simp only [this, and_true, Bool.and_eq_true]
/-- bounds of a row's numbers -/
def bW (W : Nat → Int → Nat) (Q : Nat) (M : Int) : Prop := ∀ s a, W s a ≤ Q ∧ (W s a ≠ 0 → -M ≤ a ∧ a ≤ M)
theorem qL_b {W : Nat → Int → Nat} {Q : Nat} {M : Int} {c : Nat} {wt : Nat → Int} (b : bW W Q M) (hw : ∀ j, j < 6 → c.testBit j = true → -1000 ≤ wt j ∧ wt j ≤ 1000) (s k x : Nat) (a : Int) : qL W c wt s k x a ≤ 7 * Q ∧ (qL W c wt s k x a ≠ 0 → -(M + 1000) ≤ a ∧ a ≤ M + 1000) := by
  unfold qL
  constructor
  · have h1 := (b x a).1
    have h2 : fb_sm (fun j => if x.testBit j = true ∧ c.testBit j = true ∧ (s < x - 2 ^ j ∨ (s = x - 2 ^ j ∧ j < k)) then W (x - 2 ^ j) (a - wt j) else 0) 6 ≤ 6 * Q := fb_sm_bound (fun j _ => by
      split
      · exact (b _ _).1
      · exact Nat.zero_le _)
    omega
  · intro h
    by_cases z : W x a = 0
    · by_cases z2 : ∀ j, j < 6 → (if x.testBit j = true ∧ c.testBit j = true ∧ (s < x - 2 ^ j ∨ (s = x - 2 ^ j ∧ j < k)) then W (x - 2 ^ j) (a - wt j) else 0) = 0
      · rw [z, fb_sm_0 z2] at h
        exact absurd rfl h
      · have ⟨j, hj⟩ := Classical.not_forall.mp z2
        have ⟨hj6, hj2⟩ := Classical.not_imp.mp hj
        by_cases y : x.testBit j = true ∧ c.testBit j = true ∧ (s < x - 2 ^ j ∨ (s = x - 2 ^ j ∧ j < k))
        · rw [if_pos y] at hj2
          have h1 := (b _ _).2 hj2
          have h2 := hw j hj6 y.2.1
          omega
        · rw [if_neg y] at hj2
          exact absurd rfl hj2
    · have := (b x a).2 z
      omega
abbrev l2 : Type := (Nat → Int32) × (Nat → Int32)
theorem lt_of_at (s : Nat) (x t : Int32) (v : l2) (y : Nat) : ((lt_of s x t v).1 y, (lt_of s x t v).2 y) = if y = s then off (v.1 s, v.2 s) x t else (v.1 y, v.2 y) := by
  unfold lt_of off
  by_cases e : y = s
  · subst e
    rw [if_pos rfl]
    by_cases c1 : v.2 y = 0 ∨ x < v.1 y
    · rw [if_pos c1, if_pos c1]
      exact Prod.ext pk_us pk_us
    · rw [if_neg c1, if_neg c1]
      by_cases c2 : x = v.1 y
      · rw [if_pos c2, if_pos c2]
        exact Prod.ext rfl pk_us
      · rw [if_neg c2, if_neg c2]
  · rw [if_neg e]
    by_cases c1 : v.2 s = 0 ∨ x < v.1 s
    · rw [if_pos c1]
      exact Prod.ext (pk_un e) (pk_un e)
    · rw [if_neg c1]
      by_cases c2 : x = v.1 s
      · rw [if_pos c2]
        exact Prod.ext rfl (pk_un e)
      · rw [if_neg c2]
theorem lt_in_W {W : Nat → Int → Nat} {Q : Nat} {M : Int} {c s : Nat} {wt : Nat → Int} {ii wd : Int32} {g : Int32 → Int32} (hc : c < 64) (hs : s < 64) (b : bW W Q M) (hQ : 7 * Q < 2 ^ 31) (hM : M ≤ 6000) (hw : ∀ j, j < 6 → c.testBit j = true → -1000 ≤ wt j ∧ wt j ≤ 1000) (hg : ∀ j, j < 6 → c.testBit j = true → g (ii * wd + nI j) = iZ (wt j)) (o : Int32) (ho : ((∀ a, W s a = 0) ∧ o = 0) ∨ (¬ (∀ a, W s a = 0) ∧ o = nI (c &&& (63 - s)))) : ∀ m k (v : l2), k + m = 6 → (∀ x, x < 64 → rp (v.1 x) (v.2 x) (qL W c wt s k x)) → ∀ x, x < 64 → rp ((lt_in o ii wd g s m k v).1 x) ((lt_in o ii wd g s m k v).2 x) (qL W c wt s 6 x)
  | 0, k, v, e, h, x, hx => by
    have e' : k = 6 := by omega
    subst e'
    exact h x hx
  | m + 1, k, v, e, h, x, hx => by
    rw [lt_in]
    refine lt_in_W hc hs b hQ hM hw hg o ho m (k + 1) _ (by omega) (fun y hy => ?_) x hx
    have hst := qL_step (W := W) (c := c) (wt := wt) hs (show k < 6 by omega) hy
    rcases ho with ⟨w0, o0⟩ | ⟨w0, o0⟩
    · rw [o0, if_pos (by rw [Int32.zero_and])]
      refine rp_cong (fun a => ?_) (h y hy)
      rw [hst, w0]
      split <;> rfl
    · rw [o0]
      have hq := qb_open2 c hc s hs k (by omega)
      by_cases c1 : c.testBit k = true ∧ s.testBit k = false
      · rw [if_neg (fun z => hq.mp z c1)]
        have hat := lt_of_at (s ||| 2 ^ k) (v.1 s + g (ii * wd + nI k)) (v.2 s) v y
        have a1 := congrArg Prod.fst hat
        have a2 := congrArg Prod.snd hat
        by_cases c2 : y = s ||| 2 ^ k
        · rw [if_pos c2] at a1 a2
          have a1' : (lt_of (s ||| 2 ^ k) (v.1 s + g (ii * wd + nI k)) (v.2 s) v).1 y = _ := a1
          have a2' : (lt_of (s ||| 2 ^ k) (v.1 s + g (ii * wd + nI k)) (v.2 s) v).2 y = _ := a2
          rw [a1', a2']
          have hself : rp (v.1 s) (v.2 s) (W s) := rp_cong (fun a => qL_self hs a) (h s hs)
          have hsh := rp_shift (wt k) hself
          rw [← hg k (by omega) c1.1] at hsh
          have hy2 := h _ (zb_or_lt hs (show k < 6 by omega))
          refine rp_off (p := (v.1 (s ||| 2 ^ k), v.2 (s ||| 2 ^ k))) hy2 hsh (fun z => w0 ((rp_o0 hself (fun a => by have := (b s a).1; omega)).mp z)) (fun a ha => ?_) (fun a ha => ?_) (fun a => ?_) (fun a => ?_)
          · have := (qL_b b hw s k (s ||| 2 ^ k) a).2 ha
            exact ⟨by omega, by omega⟩
          · have h1 := (b s _).2 ha
            have h2 := hw k (by omega) c1.1
            exact ⟨by omega, by omega⟩
          · have := (qL_b b hw s k (s ||| 2 ^ k) a).1
            omega
          · rw [hst, if_pos ⟨c2, c1⟩, c2]
        · rw [if_neg c2] at a1 a2
          have a1' : (lt_of (s ||| 2 ^ k) (v.1 s + g (ii * wd + nI k)) (v.2 s) v).1 y = v.1 y := a1
          have a2' : (lt_of (s ||| 2 ^ k) (v.1 s + g (ii * wd + nI k)) (v.2 s) v).2 y = v.2 y := a2
          rw [a1', a2']
          refine rp_cong (fun a => ?_) (h y hy)
          rw [hst, if_neg (fun z => c2 z.1), Nat.add_zero]
      · rw [if_pos (hq.mpr c1)]
        refine rp_cong (fun a => ?_) (h y hy)
        rw [hst, if_neg (fun z => c1 z.2), Nat.add_zero]
theorem lt_ho {W : Nat → Int → Nat} {Q : Nat} {M : Int} {c s : Nat} (hc : c < 64) (hs : s < 64) (b : bW W Q M) (hQ : 7 * Q < 2 ^ 31) {v : l2} (h : rp (v.1 s) (v.2 s) (W s)) : ((∀ a, W s a = 0) ∧ nb_open (nI c) v.2 s = 0) ∨ (¬ (∀ a, W s a = 0) ∧ nb_open (nI c) v.2 s = nI (c &&& (63 - s))) := by
  have h0 := rp_o0 h (fun a => by have := (b s a).1; omega)
  unfold nb_open
  by_cases z : ∀ a, W s a = 0
  · exact Or.inl ⟨z, if_pos (h0.mpr z)⟩
  · exact Or.inr ⟨z, by rw [if_neg (fun y => z (h0.mp y)), zb_not c hc s hs]⟩
theorem lt_sets_W {W : Nat → Int → Nat} {Q : Nat} {M : Int} {c : Nat} {wt : Nat → Int} {ii wd : Int32} {g : Int32 → Int32} (hc : c < 64) (b : bW W Q M) (hQ : 7 * Q < 2 ^ 31) (hM : M ≤ 6000) (hw : ∀ j, j < 6 → c.testBit j = true → -1000 ≤ wt j ∧ wt j ≤ 1000) (hg : ∀ j, j < 6 → c.testBit j = true → g (ii * wd + nI j) = iZ (wt j)) : ∀ s (v : l2), s < 64 → (∀ x, x < 64 → rp (v.1 x) (v.2 x) (qL W c wt s 0 x)) → ∀ x, x < 64 → rp ((lt_sets (nI c) ii wd g (s + 1) v).1 x) ((lt_sets (nI c) ii wd g (s + 1) v).2 x) (qL W c wt 0 6 x)
  | 0, v, hs, h, x, hx => by
    rw [lt_sets, lt_sets]
    exact lt_in_W hc hs b hQ hM hw hg _ (lt_ho hc hs b hQ (rp_cong (fun a => qL_self hs a) (h 0 hs))) 6 0 v (by omega) h x hx
  | s + 1, v, hs, h, x, hx => by
    rw [lt_sets]
    refine lt_sets_W hc b hQ hM hw hg s _ (by omega) (fun y hy => ?_) x hx
    exact rp_cong (fun a => qL_six a) (lt_in_W hc hs b hQ hM hw hg _ (lt_ho hc hs b hQ (rp_cong (fun a => qL_self hs a) (h (s + 1) hs))) 6 0 v (by omega) h y hy)
def tL (c : Nat → Nat) (wt : Nat → Nat → Int) : Nat → Nat → Int → Nat
  | 0, s, a => if s = 0 ∧ a = 0 then 1 else 0
  | i + 1, s, a => tL c wt i s a + fb_sm (fun j => if (s.testBit j && (c i).testBit j) = true then tL c wt i (s - 2 ^ j) (a - wt i j) else 0) 6
theorem tL_b {c : Nat → Nat} {wt : Nat → Nat → Int} {h : Nat} (hw : ∀ i, i < h → ∀ j, j < 6 → (c i).testBit j = true → -1000 ≤ wt i j ∧ wt i j ≤ 1000) : ∀ i, i ≤ h → bW (tL c wt i) (7 ^ i) (1000 * i)
  | 0, _ => fun s a => by
    rw [tL]
    by_cases z : s = 0 ∧ a = 0
    · rw [if_pos z]
      exact ⟨by decide, fun _ => by omega⟩
    · rw [if_neg z]
      exact ⟨Nat.zero_le _, fun y => absurd rfl y⟩
  | i + 1, hi => fun s a => by
    have ih := tL_b hw i (by omega)
    have e := qL_end (W := tL c wt i) (c := c i) (x := s) (wt := wt i) a
    have q := qL_b ih (hw i (by omega)) 0 6 s a
    rw [tL, ← e]
    refine ⟨?_, fun z => ?_⟩
    · rw [Nat.pow_succ]; omega
    · have := q.2 z
      omega
theorem lt_rows_W {c : Nat → Nat} {wt : Nat → Nat → Int} {p : Nat → Int32} {h : Nat} {wd : Int32} {g : Int32 → Int32} (hh : h ≤ 6) (hc : ∀ i, i < h → c i < 64 ∧ p i = nI (c i)) (hw : ∀ i, i < h → ∀ j, j < 6 → (c i).testBit j = true → -1000 ≤ wt i j ∧ wt i j ≤ 1000) (hg : ∀ i, i < h → ∀ j, j < 6 → (c i).testBit j = true → g (nI i * wd + nI j) = iZ (wt i j)) : ∀ m k (v : l2), k + m = h → (∀ x, x < 64 → rp (v.1 x) (v.2 x) (tL c wt k x)) → ∀ x, x < 64 → rp ((lt_rows p wd g m k v).1 x) ((lt_rows p wd g m k v).2 x) (tL c wt h x)
  | 0, k, v, e, hv, x, hx => by
    have e' : k = h := by omega
    subst e'
    exact hv x hx
  | m + 1, k, v, e, hv, x, hx => by
    rw [lt_rows, (hc k (by omega)).2]
    refine lt_rows_W hh hc hw hg m (k + 1) _ (by omega) (fun y hy => ?_) x hx
    have h7 : 7 ^ k ≤ 7 ^ 6 := Nat.pow_le_pow_right (by decide) (by omega)
    have := lt_sets_W (W := tL c wt k) (hc k (by omega)).1 (tL_b hw k (by omega)) (by omega) (by omega) (hw k (by omega)) (hg k (by omega)) 63 v (by omega) (fun x hx => rp_cong (fun a => (qL_top hx a).symm) (hv x hx)) y hy
    exact rp_cong (fun a => qL_end a) this
theorem lt_V_ok {c : Nat → Nat} {wt : Nat → Nat → Int} {p : Nat → Int32} {h : Nat} {wd : Int32} {g : Int32 → Int32} (hh : h ≤ 6) (hc : ∀ i, i < h → c i < 64 ∧ p i = nI (c i)) (hw : ∀ i, i < h → ∀ j, j < 6 → (c i).testBit j = true → -1000 ≤ wt i j ∧ wt i j ≤ 1000) (hg : ∀ i, i < h → ∀ j, j < 6 → (c i).testBit j = true → g (nI i * wd + nI j) = iZ (wt i j)) (u o : Nat → Int32) {x : Nat} (hx : x < 64) : rp ((lt_V p h wd g u o).1 x) ((lt_V p h wd g u o).2 x) (tL c wt h x) := by
  unfold lt_V
  refine lt_rows_W hh hc hw hg h 0 _ (by omega) (fun y hy => ?_) x hx
  show rp (upd u 0 0 y) (upd (zf_fill o 0 64) 0 1 y) (tL c wt 0 y)
  by_cases e : y = 0
  · subst e
    rw [pk_us, pk_us]
    refine Or.inr ⟨0, by rw [tL, if_pos ⟨rfl, rfl⟩]; omega, fun b hb => ?_, rfl, by rw [tL, if_pos ⟨rfl, rfl⟩]; rfl⟩
    rw [tL] at hb
    by_cases z : (0 : Nat) = 0 ∧ b = 0
    · omega
    · rw [if_neg z] at hb
      exact absurd rfl hb
  · rw [pk_un e, pk_un e]
    refine Or.inl ⟨fun a => by rw [tL, if_neg (fun z => e z.1)], ?_⟩
    exact if_pos hy
/-- the sums of the stands of K -/
def tLK (c : Nat → Nat) (wt : Nat → Nat → Int) (h K : Nat) (n : Nat) (a : Int) : Nat := fb_sm (fun s => if bc s = K then tL c wt h s a else 0) n
theorem lt_all_ok {W : Nat → Int → Nat} {Q : Nat} {M : Int} {v : l2} (K : Nat) (hK : K < 2 ^ 31) (b : bW W Q M) (hQ : 64 * Q < 2 ^ 31) (hM : M ≤ 6000) (hv : ∀ x, x < 64 → rp (v.1 x) (v.2 x) (W x)) : ∀ m s (r : Int32 × Int32), s + m = 64 → rp r.1 r.2 (fun a => fb_sm (fun s => if bc s = K then W s a else 0) s) → rp (lt_all v (nI K) m s r).1 (lt_all v (nI K) m s r).2 (fun a => fb_sm (fun s => if bc s = K then W s a else 0) 64)
  | 0, s, r, e, hr => by
    have e' : s = 64 := by omega
    subst e'
    exact hr
  | m + 1, s, r, e, hr => by
    have h6 := bc_le6 (s := s) (by omega)
    rw [lt_all, ← bc_pc s (by omega)]
    refine lt_all_ok K hK b hQ hM hv m (s + 1) _ (by omega) ?_
    have hs := hv s (by omega)
    have o0 := rp_o0 hs (fun a => by have := (b s a).1; omega)
    by_cases c : bc s = K
    · by_cases z : ∀ a, W s a = 0
      · rw [if_neg (fun y => by rw [o0.mpr z] at y; exact absurd y.2 (by decide))]
        refine rp_cong (fun a => ?_) hr
        rw [fb_sm_succ, z a]
        split <;> rfl
      · have op : 0 < v.2 s := by
          rcases hs with hs | ⟨a, a1, a2, a3, a4⟩
          · exact absurd hs.1 z
          · rw [a4]
            exact nI_lt (a := 0) (by omega) (by have := (b s a).1; omega)
        rw [if_pos ⟨by rw [c], op⟩]
        have : lt_ch v s r = off r (v.1 s) (v.2 s) := rfl
        rw [this]
        refine rp_off hr hs (fun y => z (o0.mp y)) (fun a ha => ?_) (fun a ha => ?_) (fun a => ?_) (fun a => ?_)
        · by_cases z2 : ∀ t, t < s → (if bc t = K then W t a else 0) = 0
          · exact absurd (fb_sm_0 z2) ha
          · have ⟨j, hj⟩ := Classical.not_forall.mp z2
            have ⟨hj6, hj2⟩ := Classical.not_imp.mp hj
            by_cases y : bc j = K
            · rw [if_pos y] at hj2
              have := (b _ _).2 hj2
              exact ⟨by omega, by omega⟩
            · rw [if_neg y] at hj2
              exact absurd rfl hj2
        · have := (b _ _).2 ha
          exact ⟨by omega, by omega⟩
        · have h2 : fb_sm (fun s => if bc s = K then W s a else 0) s ≤ s * Q := fb_sm_bound (fun j _ => by
            split
            · exact (b _ _).1
            · exact Nat.zero_le _)
          have h3 : s * Q ≤ 64 * Q := Nat.mul_le_mul_right _ (by omega)
          omega
        · rw [fb_sm_succ, if_pos c]
    · rw [if_neg (fun y => c ((nI_eq (by omega) hK).mp y.1))]
      refine rp_cong (fun a => ?_) hr
      rw [fb_sm_succ, if_neg c, Nat.add_zero]
theorem lt_ok {c : Nat → Nat} {wt : Nat → Nat → Int} {p : Nat → Int32} {h : Nat} {wd : Int32} {g : Int32 → Int32} (hh : h ≤ 6) (hc : ∀ i, i < h → c i < 64 ∧ p i = nI (c i)) (hw : ∀ i, i < h → ∀ j, j < 6 → (c i).testBit j = true → -1000 ≤ wt i j ∧ wt i j ≤ 1000) (hg : ∀ i, i < h → ∀ j, j < 6 → (c i).testBit j = true → g (nI i * wd + nI j) = iZ (wt i j)) (u o : Nat → Int32) (K : Nat) (hK : K < 2 ^ 31) : rp (lt_all (lt_V p h wd g u o) (nI K) 64 0 (0, 0)).1 (lt_all (lt_V p h wd g u o) (nI K) 64 0 (0, 0)).2 (tLK c wt h K 64) := by
  have h7 : 7 ^ h ≤ 7 ^ 6 := Nat.pow_le_pow_right (by decide) hh
  exact lt_all_ok K hK (tL_b hw h (Nat.le_refl _)) (by omega) (by omega) (fun x hx => lt_V_ok hh hc hw hg u o hx) 64 0 (0, 0) (by omega) (Or.inl ⟨fun _ => rfl, rfl⟩)
