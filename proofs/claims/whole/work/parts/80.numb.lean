/-! the class's numbers of stands are the model's -/
theorem qb_or : ∀ s, s < 64 → ∀ k, k < 6 → s.testBit k = false → s ||| 2 ^ k = s + 2 ^ k ∧ (s + 2 ^ k).testBit k = true := by decide +kernel
theorem qb_sub : ∀ x, x < 64 → ∀ k, k < 6 → x.testBit k = true → 2 ^ k ≤ x ∧ (x - 2 ^ k).testBit k = false := by decide +kernel
theorem qb_open : ∀ c, c < 64 → ∀ s, s < 64 → ∀ k, k < 6 → (nI (c &&& (63 - s)) &&& ((1 : Int32) <<< (nI k &&& 31)) = 0 ↔ ¬ (c.testBit k = true ∧ s.testBit k = false)) := by
  intro c hc s hs k hk
  rw [cell_bit (by omega), Nat.testBit_and]
  have : (63 - s).testBit k = !s.testBit k := by
    revert s k
    decide +kernel
  rw [this]
  cases c.testBit k <;> cases s.testBit k <;> decide
/-- what has come to set x when set s is at its column k -/
def qP (W : Nat → Nat) (c s k x : Nat) : Nat := W x + fb_sm (fun j => if x.testBit j = true ∧ c.testBit j = true ∧ (s < x - 2 ^ j ∨ (s = x - 2 ^ j ∧ j < k)) then W (x - 2 ^ j) else 0) 6
theorem fb_sm_one {f g : Nat → Nat} {n k v : Nat} (hk : k < n) (h1 : ∀ j, j < n → j ≠ k → g j = f j) (h2 : g k = f k + v) : fb_sm g n = fb_sm f n + v := by
  have e := fb_sm_upd f (g k) (i := k) (n := n) hk
  have e2 : fb_sm (fun j => if j = k then g k else f j) n = fb_sm g n := fb_sm_cong (fun j hj => by
    by_cases c : j = k
    · rw [if_pos c, c]
    · rw [if_neg c, h1 j hj c])
  rw [e2] at e
  omega
theorem qP_step {W : Nat → Nat} {c s k : Nat} (hs : s < 64) (hk : k < 6) {x : Nat} (hx : x < 64) : qP W c s (k + 1) x = qP W c s k x + (if x = s ||| 2 ^ k ∧ c.testBit k = true ∧ s.testBit k = false then W s else 0) := by
  unfold qP
  rw [Nat.add_assoc]
  congr 1
  refine fb_sm_one hk (fun j hj hjk => ?_) ?_
  · have : (s < x - 2 ^ j ∨ (s = x - 2 ^ j ∧ j < k + 1)) ↔ (s < x - 2 ^ j ∨ (s = x - 2 ^ j ∧ j < k)) := by omega
    simp only [this]
  · by_cases c1 : x = s ||| 2 ^ k ∧ c.testBit k = true ∧ s.testBit k = false
    · obtain ⟨q1, q2⟩ := qb_or s hs k hk c1.2.2
      have x1 : x = s + 2 ^ k := c1.1.trans q1
      have x2 : x - 2 ^ k = s := by omega
      rw [if_pos c1, if_pos ⟨by rw [x1]; exact q2, c1.2.1, Or.inr ⟨x2.symm, by omega⟩⟩, if_neg (fun z => by rw [x2] at z; omega), x2, Nat.zero_add]
    · rw [if_neg c1, Nat.add_zero]
      by_cases c2 : x.testBit k = true ∧ c.testBit k = true
      · obtain ⟨p1, p2⟩ := qb_sub x hx k hk c2.1
        have ne : ¬ s = x - 2 ^ k := fun e => c1 (by
          have h3 : s.testBit k = false := by rw [e]; exact p2
          exact ⟨by rw [(qb_or s hs k hk h3).1]; omega, c2.2, h3⟩)
        have : (s < x - 2 ^ k ∨ (s = x - 2 ^ k ∧ k < k + 1)) ↔ (s < x - 2 ^ k ∨ (s = x - 2 ^ k ∧ k < k)) := by omega
        simp only [this, Nat.add_zero]
      · rw [if_neg (fun z => c2 ⟨z.1, z.2.1⟩), if_neg (fun z => c2 ⟨z.1, z.2.1⟩)]
theorem qP_six {W : Nat → Nat} {c s x : Nat} : qP W c (s + 1) 6 x = qP W c s 0 x := by
  unfold qP
  congr 1
  refine fb_sm_cong (fun j hj => ?_)
  have : (s + 1 < x - 2 ^ j ∨ (s + 1 = x - 2 ^ j ∧ j < 6)) ↔ (s < x - 2 ^ j ∨ (s = x - 2 ^ j ∧ j < 0)) := by omega
  simp only [this]
theorem qP_self {W : Nat → Nat} {c s k : Nat} (hs : s < 64) : qP W c s k s = W s := by
  unfold qP
  rw [fb_sm_0, Nat.add_zero]
  intro j hj
  refine if_neg (fun z => ?_)
  have p2 : 0 < 2 ^ j := Nat.two_pow_pos j
  have := (qb_sub s hs j hj z.1).1
  omega
theorem qP_top {W : Nat → Nat} {c x : Nat} (hx : x < 64) : qP W c 63 0 x = W x := by
  unfold qP
  rw [fb_sm_0, Nat.add_zero]
  intro j hj
  have p2 : 0 < 2 ^ j := Nat.two_pow_pos j
  exact if_neg (fun z => by omega)
theorem qP_end {W : Nat → Nat} {c x : Nat} : qP W c 0 6 x = W x + fb_sm (fun j => if (x.testBit j && c.testBit j) = true then W (x - 2 ^ j) else 0) 6 := by
  unfold qP
  congr 1
  refine fb_sm_cong (fun j hj => ?_)
  have p2 : 0 < 2 ^ j := Nat.two_pow_pos j
  have : (0 < x - 2 ^ j ∨ (0 = x - 2 ^ j ∧ j < 6)) ↔ True := ⟨fun _ => trivial, fun _ => by omega⟩
  simp only [this, and_true, Bool.and_eq_true]
theorem nb_in_W {W : Nat → Nat} {c s : Nat} (hc : c < 64) (hs : s < 64) (hW : W s < 2 ^ 31) (o : Int32) (ho : o = if W s = 0 then 0 else nI (c &&& (63 - s))) : ∀ m k (w : Nat → Int32), k + m = 6 → (∀ x, x < 64 → w x = nI (qP W c s k x)) → ∀ x, x < 64 → nb_in o s m k w x = nI (qP W c s 6 x)
  | 0, k, w, e, h, x, hx => by
    have e' : k = 6 := by omega
    subst e'
    exact h x hx
  | m + 1, k, w, e, h, x, hx => by
    rw [nb_in]
    refine nb_in_W hc hs hW o ho m (k + 1) _ (by omega) (fun y hy => ?_) x hx
    have ws : w s = nI (W s) := by rw [h s hs, qP_self hs]
    rw [qP_step hs (show k < 6 by omega) hy, ← nI_add]
    by_cases c0 : W s = 0
    · rw [if_pos c0] at ho
      rw [ho, if_pos (by rw [Int32.zero_and])]
      have : (if y = s ||| 2 ^ k ∧ c.testBit k = true ∧ s.testBit k = false then W s else 0) = 0 := by
        rw [c0]
        split <;> rfl
      rw [this, h y hy]
      exact (Int32.add_zero _).symm
    · rw [if_neg c0] at ho
      rw [ho]
      have hq := qb_open c hc s hs k (by omega)
      by_cases c1 : c.testBit k = true ∧ s.testBit k = false
      · rw [if_neg (fun z => hq.mp z c1)]
        by_cases c2 : y = s ||| 2 ^ k
        · rw [if_pos ⟨c2, c1⟩, c2, pk_us, h _ (zb_or_lt hs (by omega)), ws]
        · rw [if_neg (fun z => c2 z.1), pk_un c2, h y hy]
          exact (Int32.add_zero _).symm
      · rw [if_pos (hq.mpr c1), if_neg (fun z => c1 z.2), h y hy]
        exact (Int32.add_zero _).symm
theorem nb_out_W {W : Nat → Nat} {c : Nat} (hc : c < 64) (hW : ∀ x, x < 64 → W x < 2 ^ 31) : ∀ s (w : Nat → Int32), s < 64 → (∀ x, x < 64 → w x = nI (qP W c s 0 x)) → ∀ x, x < 64 → nb_out (nI c) (s + 1) w x = nI (qP W c 0 6 x)
  | 0, w, hs, h, x, hx => by
    rw [nb_out, nb_out]
    refine nb_in_W hc hs (hW 0 hs) _ ?_ 6 0 w (by omega) h x hx
    unfold nb_open
    rw [h 0 hs, qP_self hs, zb_not c hc 0 (by omega)]
    by_cases c0 : W 0 = 0
    · rw [c0]; rfl
    · rw [if_neg c0, if_neg (nI_ne0 (by omega) (hW 0 hs))]
  | s + 1, w, hs, h, x, hx => by
    rw [nb_out]
    refine nb_out_W hc hW s _ (by omega) (fun y hy => ?_) x hx
    rw [← qP_six]
    refine nb_in_W hc hs (hW _ hs) _ ?_ 6 0 w (by omega) h y hy
    unfold nb_open
    rw [h _ hs, qP_self hs, zb_not c hc _ hs]
    by_cases c0 : W (s + 1) = 0
    · rw [c0]; rfl
    · rw [if_neg c0, if_neg (nI_ne0 (by omega) (hW _ hs))]
theorem nb_rows_W {c : Nat → Nat} {p : Nat → Int32} {h : Nat} (hh : h ≤ 6) (hc : ∀ i, i < h → c i < 64 ∧ p i = nI (c i)) : ∀ m k (w : Nat → Int32), k + m = h → (∀ x, x < 64 → w x = nI (tW c k x)) → ∀ x, x < 64 → nb_rows p m k w x = nI (tW c h x)
  | 0, k, w, e, hw, x, hx => by
    have e' : k = h := by omega
    subst e'
    exact hw x hx
  | m + 1, k, w, e, hw, x, hx => by
    rw [nb_rows, (hc k (by omega)).2]
    refine nb_rows_W hh hc m (k + 1) _ (by omega) (fun y hy => ?_) x hx
    have := nb_out_W (W := tW c k) (hc k (by omega)).1 (fun x _ => by
      have h1 := tW_le c k x
      have h2 : 7 ^ k ≤ 7 ^ 6 := Nat.pow_le_pow_right (by decide) (by omega)
      omega) 63 w (by omega) (fun x hx => by rw [qP_top hx, hw x hx]) y hy
    rw [this, qP_end]
    rfl
theorem nb_W_ok {c : Nat → Nat} {p : Nat → Int32} {h : Nat} (hh : h ≤ 6) (hc : ∀ i, i < h → c i < 64 ∧ p i = nI (c i)) (w : Nat → Int32) {x : Nat} (hx : x < 64) : nb_W p w h x = nI (tW c h x) := by
  unfold nb_W
  refine nb_rows_W hh hc h 0 _ (by omega) (fun y hy => ?_) x hx
  rw [tW]
  by_cases e : y = 0
  · rw [e, pk_us]; rfl
  · rw [pk_un e, if_neg e]
    exact if_pos hy
theorem nb_size_ok {w : Nat → Int32} {W : Nat → Nat} (hw : ∀ x, x < 64 → w x = nI (W x)) : ∀ m k (z : Nat → Int32), k + m = 64 → (∀ q, q < 7 → z q = nI (fb_sm (fun s => if bc s = q then W s else 0) k)) → ∀ q, q < 7 → nb_size w m k z q = nI (fb_sm (fun s => if bc s = q then W s else 0) 64)
  | 0, k, z, e, h, q, hq => by
    have e' : k = 64 := by omega
    subst e'
    exact h q hq
  | m + 1, k, z, e, h, q, hq => by
    rw [nb_size]
    refine nb_size_ok hw m (k + 1) _ (by omega) (fun y hy => ?_) q hq
    have hb := bc_pc k (by omega)
    have hb6 := bc_le6 (s := k) (by omega)
    rw [fb_sm_succ, ← nI_add, ← hb]
    by_cases c : y = bc k
    · rw [c, pk_us, if_pos rfl, h _ (by omega), hw k (by omega)]
    · rw [pk_un c, if_neg (fun z => c z.symm), h y hy]
      exact (Int32.add_zero _).symm
theorem nb_N_ok {c : Nat → Nat} {p : Nat → Int32} {h : Nat} (hh : h ≤ 6) (hc : ∀ i, i < h → c i < 64 ∧ p i = nI (c i)) {q : Nat} (hq : q < 7) : nb_N p h q = nI (tN c h q) := by
  unfold nb_N nb_Z tN
  exact nb_size_ok (fun x hx => nb_W_ok hh hc _ hx) 64 0 _ (by omega) (fun y hy => by
    show zf_fill _ 0 7 y = _
    exact if_pos hy) q hq
theorem nb_gr_ok {c : Nat → Nat} {p : Nat → Int32} {h : Nat} (hh : h ≤ 6) (hc : ∀ i, i < h → c i < 64 ∧ p i = nI (c i)) : ∀ k, k ≤ 6 → nb_gr (nb_N p h) k = tG (tN c h) k
  | 0, _ => rfl
  | k + 1, hk => by
    rw [nb_gr, tG, nb_N_ok hh hc (by omega), nb_gr_ok hh hc k (by omega)]
    have := tN_le c hh (k + 1)
    by_cases e : tN c h (k + 1) = 0
    · rw [if_pos e, if_pos (by rw [e]; rfl)]
    · rw [if_neg e, if_neg (nI_ne0 (by omega) (by omega))]
theorem tG_le (n : Nat → Nat) : ∀ k, tG n k ≤ k
  | 0 => Nat.le_refl _
  | k + 1 => by
    have := tG_le n k
    rw [tG]
    split <;> omega
