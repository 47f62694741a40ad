/-! stairs: the product formula, the walk over all stairs -/
/-- all stairs of r rows more, each at least lo -/
def sl (n : Nat) : Nat → Nat → List (List Nat)
  | 0, _ => [[]]
  | r + 1, lo => (List.range (n + 1 - lo)).flatMap (fun t => (sl n r (lo + t)).map ((lo + t) :: ·))
def px (p : List Nat) : Nat → Nat := fun q => p.getD q 0
def lf (al : (Nat → Nat) → Bool) (a : Int32 × (Nat → Int32)) (x : List Nat) : Int32 × (Nat → Int32) := if al (px x) = true then (a.1 + 1, if a.1 = 0 then (fun q => nI (px x q)) else a.2) else a
theorem px_up (p : List Nat) (l : Nat) : up (px p) p.length l = px (p ++ [l]) := by
  funext q
  unfold up px
  by_cases c : q = p.length
  · rw [if_pos c, c, List.getD_eq_getElem?_getD, List.getElem?_append_right (Nat.le_refl _), Nat.sub_self]
    rfl
  · rw [if_neg c, List.getD_eq_getElem?_getD, List.getD_eq_getElem?_getD]
    by_cases c2 : q < p.length
    · rw [List.getElem?_append_left c2]
    · rw [List.getElem?_eq_none (by omega), List.getElem?_eq_none (by rw [List.length_append, List.length_singleton]; omega)]
theorem foldl_fm {α β γ : Type} (f : γ → β → γ) (g : α → List β) : ∀ (l : List α) (a : γ), (l.flatMap g).foldl f a = l.foldl (fun a x => (g x).foldl f a) a
  | [], _ => rfl
  | x :: l, a => by rw [List.flatMap_cons, List.foldl_append, foldl_fm f g l, List.foldl_cons]
theorem foldl_cg {α γ : Type} {f g : γ → α → γ} : ∀ {l : List α} {a : γ}, (∀ x, x ∈ l → ∀ a, f a x = g a x) → l.foldl f a = l.foldl g a
  | [], _, _ => rfl
  | x :: l, a, h => by
    rw [List.foldl_cons, List.foldl_cons, h x List.mem_cons_self, foldl_cg (fun y hy => h y (List.mem_cons_of_mem _ hy))]
theorem tS_sl {n : Nat} {al : (Nat → Nat) → Bool} : ∀ r (p : List Nat) a, tS n al r p.length (px p) a = (sl n r (if p.length = 0 then 0 else px p (p.length - 1))).foldl (fun a x => lf al a (p ++ x)) a
  | 0, p, a => by
    rw [tS, sl, List.foldl_cons, List.foldl_nil, List.append_nil]
    rfl
  | r + 1, p, a => by
    rw [tS, sl, foldl_fm]
    generalize (if p.length = 0 then 0 else px p (p.length - 1)) = lo
    refine foldl_cg (fun t _ a => ?_)
    rw [px_up]
    have ih := tS_sl (n := n) (al := al) r (p ++ [lo + t]) a
    have e1 : (p ++ [lo + t]).length = p.length + 1 := by rw [List.length_append, List.length_singleton]
    have e2 : px (p ++ [lo + t]) p.length = lo + t := by rw [← px_up]; unfold up; rw [if_pos rfl]
    rw [e1, if_neg (by omega), Nat.add_sub_cancel, e2] at ih
    rw [ih, List.foldl_map]
    refine foldl_cg (fun x _ a => ?_)
    rw [List.append_assoc]
    rfl
theorem tS_all {n : Nat} {al : (Nat → Nat) → Bool} (a : Int32 × (Nat → Int32)) : tS n al n 0 (fun _ => 0) a = (sl n n 0).foldl (lf al) a := by
  have h := tS_sl (n := n) (al := al) n [] a
  have e : px [] = fun _ => 0 := by
    funext q
    rfl
  rw [e] at h
  exact h
/-! the next stairs -/
def fx (n : Nat) (x : List Nat) : Nat → Option Nat
  | 0 => none
  | i + 1 => if x.getD i 0 = n then fx n x i else some i
def nx (n : Nat) (x : List Nat) : Option (List Nat) := match fx n x n with
  | none => none
  | some i => some (x.take i ++ List.replicate (n - i) (x.getD i 0 + 1))
def chn (n : Nat) : List Nat → List (List Nat) → Bool
  | x, [] => (nx n x).isNone
  | x, y :: l => decide (nx n x = some y) && chn n y l
def sok (n : Nat) (x : List Nat) : Prop := x.length = n ∧ ∀ i, i < n → x.getD i 0 ≤ n ∧ ∀ q, q < i → x.getD q 0 ≤ x.getD i 0
theorem sl_ok : ∀ n, n < 7 → (sl n n 0 = List.replicate n 0 :: (sl n n 0).tail ∧ chn n (List.replicate n 0) (sl n n 0).tail = true ∧ (sl n n 0).tail.length < 924) := by decide +kernel
theorem sl_len {n : Nat} : ∀ r lo x, x ∈ sl n r lo → x.length = r
  | 0, lo, x, h => by
    rw [sl, List.mem_singleton] at h
    rw [h]
    rfl
  | r + 1, lo, x, h => by
    rw [sl, List.mem_flatMap] at h
    obtain ⟨t, _, h2⟩ := h
    obtain ⟨y, hy, e⟩ := List.mem_map.mp h2
    rw [← e, List.length_cons, sl_len r _ y hy]
theorem sl_ge {n : Nat} : ∀ r lo x, x ∈ sl n r lo → ∀ i, i < r → lo ≤ x.getD i 0 ∧ x.getD i 0 ≤ n ∧ ∀ q, q < i → x.getD q 0 ≤ x.getD i 0
  | 0, lo, x, h, i, hi => by omega
  | r + 1, lo, x, h, i, hi => by
    rw [sl, List.mem_flatMap] at h
    obtain ⟨t, h1, h2⟩ := h
    obtain ⟨y, hy, e⟩ := List.mem_map.mp h2
    have ht := List.mem_range.mp h1
    have ih := sl_ge r (lo + t) y hy
    subst e
    cases i with
    | zero =>
      rw [List.getD_cons_zero]
      exact ⟨by omega, by omega, fun q hq => by omega⟩
    | succ i =>
      obtain ⟨i1, i2, i3⟩ := ih i (by omega)
      rw [List.getD_cons_succ]
      refine ⟨by omega, i2, fun q hq => ?_⟩
      cases q with
      | zero => rw [List.getD_cons_zero]; exact i1
      | succ q => rw [List.getD_cons_succ]; exact i3 q (by omega)
theorem sl_sok {n : Nat} {x : List Nat} (h : x ∈ sl n n 0) : sok n x := ⟨sl_len n 0 x h, fun i hi => (sl_ge n 0 x h i hi).2⟩
/-! the class's search for the next -/
theorem fx_ok {n : Nat} (hn : n ≤ 6) {x : List Nat} {v : Nat → Int32} (hs : sok n x) (hv : ∀ q, q < n → v q = nI (px x q)) : ∀ i, i ≤ n → lg_find v n i = fx n x i
  | 0, _ => rfl
  | i + 1, hi => by
    have h1 := (hs.2 i (by omega)).1
    rw [lg_find, fx, fx_ok hn hs hv i (by omega), hv i (by omega)]
    have : (nI (px x i) = nI n) ↔ (x.getD i 0 = n) := nI_eq (by unfold px; omega) (by omega)
    simp only [this]
theorem fx_lt {n : Nat} {x : List Nat} {i : Nat} : ∀ {m : Nat}, fx n x m = some i → i < m
  | 0, h => by cases h
  | m + 1, h => by
    rw [fx] at h
    by_cases c : x.getD m 0 = n
    · rw [if_pos c] at h
      have := fx_lt h
      omega
    · rw [if_neg c] at h
      cases h
      omega
theorem lg_fill_at (r : Int32) : ∀ m k (v : Nat → Int32) q, lg_fill r m k v q = if k ≤ q ∧ q < k + m then r else v q
  | 0, k, v, q => by rw [lg_fill, if_neg (by omega)]
  | m + 1, k, v, q => by
    rw [lg_fill, lg_fill_at r m (k + 1)]
    by_cases c : q = k
    · rw [if_neg (by omega), if_pos (by omega), c, pk_us]
    · rw [pk_un c]
      by_cases c2 : k + 1 ≤ q ∧ q < k + 1 + m
      · rw [if_pos c2, if_pos (by omega)]
      · rw [if_neg c2, if_neg (by omega)]
theorem nx_at {n i : Nat} {x : List Nat} (hl : x.length = n) (hi : i < n) {q : Nat} (hq : q < n) : px (x.take i ++ List.replicate (n - i) (x.getD i 0 + 1)) q = if i ≤ q ∧ q < i + (n - i) then x.getD i 0 + 1 else px x q := by
  unfold px
  have e : (x.take i).length = i := by rw [List.length_take]; omega
  by_cases c : i ≤ q
  · rw [if_pos (by omega), List.getD_eq_getElem?_getD, List.getElem?_append_right (by omega), e, List.getElem?_replicate, if_pos (by omega)]
    rfl
  · rw [if_neg (by omega), List.getD_eq_getElem?_getD, List.getElem?_append_left (by omega), List.getElem?_take, if_pos (by omega), List.getD_eq_getElem?_getD]
theorem nx_none {n : Nat} (hn : n ≤ 6) {x : List Nat} {v : Nat → Int32} (hs : sok n x) (hv : ∀ q, q < n → v q = nI (px x q)) (h : nx n x = none) : lg_find v n n = none := by
  rw [fx_ok hn hs hv n (Nat.le_refl _)]
  unfold nx at h
  cases e : fx n x n with
  | none => rfl
  | some i => rw [e] at h; cases h
theorem nx_some {n : Nat} (hn : n ≤ 6) {x y : List Nat} {v : Nat → Int32} (hs : sok n x) (hv : ∀ q, q < n → v q = nI (px x q)) (h : nx n x = some y) : ∃ i, lg_find v n n = some i ∧ ∀ q, q < n → lg_fill (v i + 1) (n - i) i v q = nI (px y q) := by
  rw [fx_ok hn hs hv n (Nat.le_refl _)]
  unfold nx at h
  cases e : fx n x n with
  | none => rw [e] at h; cases h
  | some i =>
    rw [e] at h
    injection h with h
    have hi := fx_lt e
    refine ⟨i, rfl, fun q hq => ?_⟩
    rw [← h, nx_at hs.1 hi hq, lg_fill_at]
    by_cases c : i ≤ q ∧ q < i + (n - i)
    · rw [if_pos c, if_pos c, hv i hi, ← nI_1]
      rfl
    · rw [if_neg c, if_neg c, hv q hq]
/-! the product formula -/
theorem st_open : ∀ w, w < 7 → ∀ l, l < w + 1 → ∀ u, u < 2 ^ l → (List.range w).countP (fun j => (2 ^ l - 1).testBit j && !u.testBit j) = l - bc u ∧ bc u ≤ l := by decide +kernel
theorem st_fm {c w k : Nat} (hw : w ≤ 6) {x : List Nat} (hx : ux x < 64) : ∀ n, n ≤ w → ((List.range n).flatMap (fun j => if (c.testBit j && !(ux x).testBit j) = true then [x ++ [j]] else [])).countP (fun y => decide (bc (ux y) = k)) = if bc (ux x) + 1 = k then (List.range n).countP (fun j => c.testBit j && !(ux x).testBit j) else 0
  | 0, _ => by
    simp
  | n + 1, hn => by
    rw [List.range_succ, List.flatMap_append, List.countP_append, st_fm hw hx n (by omega), List.flatMap_singleton, List.countP_append, List.countP_singleton]
    by_cases e : (c.testBit n && !(ux x).testBit n) = true
    · have ub : (ux x).testBit n = false := by
        rw [Bool.and_eq_true] at e
        simpa using e.2
      have hb := bc_or (ux x) hx n (by omega) ub
      rw [if_pos e, if_pos e, List.countP_singleton, ux_j x (show n ≠ 9 by omega), hb]
      by_cases z : bc (ux x) + 1 = k
      · rw [if_pos z, if_pos z, if_pos (decide_eq_true z)]
      · rw [if_neg z, if_neg z, if_neg (fun y => z (of_decide_eq_true y))]
    · rw [if_neg e, if_neg e, List.countP_nil]
      by_cases z : bc (ux x) + 1 = k
      · rw [if_pos z, if_pos z]
      · rw [if_neg z, if_neg z]
theorem st_pX {w l k : Nat} (hw : w ≤ 6) (hl : l ≤ w) {x : List Nat} (hx : ux x < 2 ^ l) : (pX (2 ^ l - 1) w x).countP (fun y => decide (bc (ux y) = k)) = (if bc (ux x) = k then 1 else 0) + (if bc (ux x) + 1 = k then l - bc (ux x) else 0) := by
  have h64 : ux x < 64 := Nat.lt_of_lt_of_le hx (show 2 ^ l ≤ 2 ^ 6 from Nat.pow_le_pow_right (by decide) (by omega))
  unfold pX
  rw [List.countP_append, st_fm hw h64 w (Nat.le_refl _), (st_open w (by omega) l (by omega) (ux x) hx).1, List.countP_singleton, ux_9, Nat.add_comm]
  simp only [decide_eq_true_eq]
def sT (pre : Nat → Nat) (w i k : Nat) : Nat := (pE (fun q => 2 ^ pre q - 1) w i).countP (fun y => decide (bc (ux y) = k))
theorem st_step {w l : Nat} (hw : w ≤ 6) (hl : l ≤ w) : ∀ L : List (List Nat), (∀ x, x ∈ L → ux x < 2 ^ l) → ((L.flatMap (pX (2 ^ l - 1) w)).countP (fun y => decide (bc (ux y) = 0)) = L.countP (fun y => decide (bc (ux y) = 0))) ∧ ∀ k, (L.flatMap (pX (2 ^ l - 1) w)).countP (fun y => decide (bc (ux y) = k + 1)) = L.countP (fun y => decide (bc (ux y) = k + 1)) + L.countP (fun y => decide (bc (ux y) = k)) * (l - k) ∧ (l < k → L.countP (fun y => decide (bc (ux y) = k)) = 0)
  | [], _ => by simp
  | x :: L, h => by
    have hx := h x List.mem_cons_self
    obtain ⟨i1, i2⟩ := st_step hw hl L (fun y hy => h y (List.mem_cons_of_mem _ hy))
    refine ⟨?_, fun k => ⟨?_, fun hk => ?_⟩⟩
    · rw [List.flatMap_cons, List.countP_append, st_pX hw hl hx, i1, List.countP_cons]
      simp only [decide_eq_true_eq]
      rw [if_neg (show ¬ bc (ux x) + 1 = 0 by omega)]
      omega
    · rw [List.flatMap_cons, List.countP_append, st_pX hw hl hx, (i2 k).1, List.countP_cons, List.countP_cons]
      simp only [decide_eq_true_eq]
      by_cases c : bc (ux x) = k
      · rw [if_neg (by omega), if_pos (by omega), if_pos c, c, Nat.add_mul]
        omega
      · rw [if_neg (show ¬ bc (ux x) + 1 = k + 1 by omega), if_neg c]
        simp only [Nat.add_zero]
        omega
    · have := (st_open w (by omega) l (by omega) (ux x) hx).2
      rw [List.countP_cons, (i2 k).2 hk]
      simp only [decide_eq_true_eq]
      rw [if_neg (by omega)]
theorem st_lt {pre : Nat → Nat} {w l : Nat} (hw : w ≤ 6) : ∀ i, (∀ q, q < i → pre q ≤ l) → ∀ x, x ∈ pE (fun q => 2 ^ pre q - 1) w i → ux x < 2 ^ l
  | 0, _, x, h => by
    rw [pE, List.mem_singleton] at h
    rw [h]
    exact Nat.two_pow_pos l
  | i + 1, hp, x, h => by
    rw [pE, List.mem_flatMap] at h
    obtain ⟨y, hy, hx⟩ := h
    have ih := st_lt hw i (fun q hq => hp q (by omega)) y hy
    obtain ⟨j, e, hj⟩ := pX_mem hx
    rw [e, ux_app]
    rcases hj with hj | hj
    · rw [if_pos hj]; exact ih
    · rw [if_neg (by omega)]
      have h2 := hj.2.1
      rw [Nat.testBit_two_pow_sub_one, decide_eq_true_eq] at h2
      have := hp i (by omega)
      exact Nat.or_lt_two_pow ih (Nat.pow_lt_pow_right (by decide) (by omega))
theorem nb_sin_at (x : Int32) : ∀ k (z : Nat → Int32) q, nb_sin x k z q = if 1 ≤ q ∧ q ≤ k then z q + z (q - 1) * (x - nI (q - 1)) else z q
  | 0, z, q => by rw [nb_sin, if_neg (by omega)]
  | k + 1, z, q => by
    rw [nb_sin, nb_sin_at x k]
    by_cases c : q = k + 1
    · rw [if_neg (by omega), if_pos (by omega), c, pk_us]
      rfl
    · rw [pk_un c]
      by_cases c2 : 1 ≤ q ∧ q ≤ k
      · rw [if_pos c2, if_pos (by omega), pk_un (by omega)]
      · rw [if_neg c2, if_neg (by omega)]
theorem st_sout {pre : Nat → Nat} {v : Nat → Int32} {n w : Nat} (hw : w ≤ 6) (hv : ∀ q, q < n → v q = nI (pre q)) (hp : ∀ i, i < n → pre i ≤ w ∧ ∀ q, q < i → pre q ≤ pre i) : ∀ m i (z : Nat → Int32), i + m = n → (∀ q, q < 7 → z q = nI (sT pre w i q)) → ∀ q, q < 7 → nb_sout v m i z q = nI (sT pre w n q)
  | 0, i, z, e, h, q, hq => by
    have e' : i = n := by omega
    subst e'
    exact h q hq
  | m + 1, i, z, e, h, q, hq => by
    rw [nb_sout]
    refine st_sout hw hv hp m (i + 1) _ (by omega) (fun q hq => ?_) q hq
    obtain ⟨p1, p2⟩ := hp i (by omega)
    obtain ⟨s1, s2⟩ := st_step hw p1 _ (st_lt (w := w) hw i (fun q hq => p2 q hq))
    rw [nb_sin_at, hv i (by omega)]
    cases q with
    | zero =>
      rw [if_neg (by omega), h 0 hq]
      unfold sT
      rw [pE, s1]
    | succ k =>
      rw [if_pos (by omega), h _ hq, Nat.add_sub_cancel, h k (by omega)]
      obtain ⟨s3, s4⟩ := s2 k
      have e3 : sT pre w (i + 1) (k + 1) = sT pre w i (k + 1) + sT pre w i k * (pre i - k) := by
        unfold sT
        rw [pE, s3]
      rw [e3, ← nI_add, ← pk_mul]
      by_cases c : pre i < k
      · have : sT pre w i k = 0 := s4 c
        rw [this, show nI 0 = 0 from rfl, Int32.zero_mul, Int32.zero_mul]
      · rw [pk_sub (by omega)]
theorem st_N {pre : Nat → Nat} {n w : Nat} (hw : w ≤ 6) (hp : ∀ i, i < n → pre i ≤ w) (k : Nat) : tN (fun q => 2 ^ pre q - 1) n k = sT pre w n k := by
  have hc : ∀ i, i < n → (fun q => 2 ^ pre q - 1) i < 2 ^ w := fun i hi => by
    have h1 : 2 ^ pre i ≤ 2 ^ w := Nat.pow_le_pow_right (by decide) (hp i hi)
    have h2 : 0 < 2 ^ w := Nat.two_pow_pos w
    show 2 ^ pre i - 1 < 2 ^ w
    omega
  rw [tN_cnt hw hc, pE_tE hw, ← List.countP_eq_length_filter]
  rfl
theorem st_okk {x : List Nat} {v : Nat → Int32} {n : Nat} (hn : n ≤ 6) (hs : sok n x) (hv : ∀ q, q < n → v q = nI (px x q)) (z : Nat → Int32) {q : Nat} (hq : q < 7) : nb_sout v n 0 (upd (zf_fill z 0 7) 0 1) q = nI (tN (fun q => 2 ^ px x q - 1) n q) := by
  rw [st_N (pre := px x) hn (fun i hi => (hs.2 i hi).1)]
  refine st_sout hn hv hs.2 n 0 _ (by omega) (fun k hk => ?_) q hq
  unfold sT
  rw [pE, List.countP_singleton]
  have h0 : bc (ux []) = 0 := by decide
  rw [h0]
  cases k with
  | zero => rw [pk_us]; rfl
  | succ k =>
    rw [pk_un (by omega)]
    exact if_pos hk
theorem st_one {v : Nat → Int32} {n : Nat} : ∀ m i (z : Nat → Int32), i + m = n → z 0 = 1 → z 1 = lg_sum v i → nb_sout v m i z 1 = lg_sum v n
  | 0, i, z, e, h0, h1 => by
    have e' : i = n := by omega
    subst e'
    exact h1
  | m + 1, i, z, e, h0, h1 => by
    rw [nb_sout]
    refine st_one m (i + 1) _ (by omega) ?_ ?_
    · rw [nb_sin_at, if_neg (by omega), h0]
    · rw [nb_sin_at, if_pos (by omega), h1, lg_sum, Nat.sub_self, h0, show nI 0 = 0 from rfl, Int32.one_mul, Int32.sub_zero]
/-- the class's test is the model's -/
theorem st_al {x : List Nat} {v Z : Nat → Int32} {n h : Nat} {c : Nat → Nat} (hn : n ≤ 6) (hh : h ≤ 6) (hs : sok n x) (hv : ∀ q, q < n → v q = nI (px x q)) (hZ : ∀ q, q < 7 → Z q = nI (tN c h q)) (z : Nat → Int32) : (nb_same Z (nb_sout v n 0 (upd (zf_fill z 0 7) 0 1)) = true ↔ tal n (fun k => lN (tN c h k)) (px x) = true) ∧ (nb_same Z (nb_sout v n 0 (upd (zf_fill z 0 7) 0 1)) = true → lg_sum v n = Z 1) := by
  constructor
  · unfold tal
    rw [nb_same_iff, tq_iff]
    have key : ∀ q, q < 7 → ((Z q = nb_sout v n 0 (upd (zf_fill z 0 7) 0 1) q) ↔ (lN (tN (fun q => 2 ^ px x q - 1) n q) = lN (tN c h q))) := fun q hq => by
      have x1 := tN_le c hh q
      have x2 := tN_le (fun q => 2 ^ px x q - 1) hn q
      rw [hZ q hq, st_okk hn hs hv z hq, lN_eq (by omega) (by omega), nI_eq (by omega) (by omega)]
      exact eq_comm
    exact ⟨fun y q hq => (key q hq).mp (y q hq), fun y q hq => (key q hq).mpr (y q hq)⟩
  · intro y
    rw [nb_same_iff] at y
    rw [y 1 (by omega)]
    refine (st_one n 0 _ (by omega) pk_us ?_).symm
    rw [pk_un (by omega)]
    rfl
