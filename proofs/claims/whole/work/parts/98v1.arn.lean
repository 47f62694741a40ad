/-! the class's walks, paths and rings count those lists -/
def okm (hc : Nat → Nat → Bool) (m : Nat) : Bool := (List.range 36).all (fun q => !m.testBit q || hc (5 - q / 6) (q % 6))
theorem okm_iff {hc : Nat → Nat → Bool} {m : Nat} : okm hc m = true ↔ ∀ q, q < 36 → m.testBit q = true → hc (5 - q / 6) (q % 6) = true := by
  unfold okm
  rw [List.all_eq_true]
  constructor
  · intro h q hq hb
    have := h q (List.mem_range.mpr hq)
    rw [hb] at this
    exact this
  · intro h q hq
    have := h q (List.mem_range.mp hq)
    cases hb : m.testBit q with
    | false => rfl
    | true => rw [this hb]; rfl
theorem okm_or (hc : Nat → Nat → Bool) (a b : Nat) : okm hc (a ||| b) = (okm hc a && okm hc b) := by
  rw [Bool.eq_iff_iff, Bool.and_eq_true, okm_iff, okm_iff, okm_iff]
  constructor
  · intro h
    exact ⟨fun q hq hb => h q hq (by rw [Nat.testBit_or, hb]; rfl), fun q hq hb => h q hq (by rw [Nat.testBit_or, hb, Bool.or_true])⟩
  · intro h q hq hb
    rw [Nat.testBit_or, Bool.or_eq_true] at hb
    rcases hb with hb | hb
    · exact h.1 q hq hb
    · exact h.2 q hq hb
theorem okm_0 (hc : Nat → Nat → Bool) : okm hc 0 = true := okm_iff.mpr (fun q _ hb => by rw [Nat.zero_testBit] at hb; cases hb)
theorem okm_cb (hc : Nat → Nat → Bool) {i j : Nat} (hi : i < 6) (hj : j < 6) : okm hc (cb i j) = hc i j := by
  rw [Bool.eq_iff_iff, okm_iff]
  have e1 : 5 - (6 * (5 - i) + j) / 6 = i := by omega
  have e2 : (6 * (5 - i) + j) % 6 = j := by omega
  constructor
  · intro h
    have := h (6 * (5 - i) + j) (by omega) (by unfold cb; rw [Nat.testBit_two_pow_self])
    rw [e1, e2] at this
    exact this
  · intro h q hq hb
    unfold cb at hb
    rw [Nat.testBit_two_pow] at hb
    rw [← of_decide_eq_true hb, e1, e2]
    exact h
def cN (hc : Nat → Nat → Bool) (L : List Nat) : Nat := L.countP (okm hc)
theorem cN_map (hc : Nat → Nat → Bool) (L : List Nat) {i j : Nat} (hi : i < 6) (hj : j < 6) : cN hc (L.map (fun m => m ||| cb i j)) = if hc i j = true then cN hc L else 0 := by
  unfold cN
  rw [List.countP_map]
  induction L with
  | nil => split <;> rfl
  | cons m L ih =>
    rw [List.countP_cons, List.countP_cons, ih]
    have : (okm hc ∘ fun m => m ||| cb i j) m = (okm hc m && hc i j) := by
      show okm hc (m ||| cb i j) = _
      rw [okm_or, okm_cb hc hi hj]
    rw [this]
    cases hc i j <;> cases okm hc m <;> rfl
theorem cp_fm {α : Type} (P : α → Bool) (f : Nat → List α) : ∀ n, ((List.range n).flatMap f).countP P = fb_sm (fun k => (f k).countP P) n
  | 0 => rfl
  | n + 1 => by rw [List.range_succ, List.flatMap_append, List.countP_append, cp_fm P f n, List.flatMap_singleton, fb_sm_succ]
theorem sb_and : ∀ s, s < 64 → ∀ t, t < 6 → s &&& (63 - 2 ^ t) = (if s.testBit t = true then s - 2 ^ t else s) := by decide +kernel
theorem wlk_f : ∀ f f' s t, s < 64 → t < 6 → s ≤ f → s ≤ f' → wlk f s t = wlk f' s t
  | 0, 0, s, t, _, _, _, _ => rfl
  | 0, f' + 1, s, t, h1, h2, h3, h4 => by
    have e : s = 0 := by omega
    subst e
    rw [wlk, wlk, Nat.zero_testBit]
    rfl
  | f + 1, 0, s, t, h1, h2, h3, h4 => by
    have e : s = 0 := by omega
    subst e
    rw [wlk, wlk, Nat.zero_testBit]
    rfl
  | f + 1, f' + 1, s, t, h1, h2, h3, h4 => by
    rw [wlk, wlk]
    by_cases c : s.testBit t = true
    · have := (qb_sub s h1 t h2 c).1
      have p2 : 0 < 2 ^ t := Nat.two_pow_pos t
      rw [if_pos c, if_pos c]
      congr 1
      refine fm_cong (fun k hk => ?_)
      rw [wlk_f f f' (s - 2 ^ t) k (by omega) (List.mem_range.mp hk) (by omega) (by omega)]
    · rw [if_neg c, if_neg c]
theorem wlk_S (f s t : Nat) : wlk (f + 1) s t = if s.testBit t = true then (if s - 2 ^ t = 0 then [0] else (List.range 6).flatMap (fun k => (wlk f (s - 2 ^ t) k).map (fun m => m ||| cb k t))) else [] := by
  rw [wlk]
  simp only [nbq]
theorem wlk_g (f : Nat) {s t : Nat} (hs : s < 64) (ht : t < 6) (hf : s ≤ f) : wlk (f + 1) s t = if s.testBit t = true then (if s - 2 ^ t = 0 then [0] else (List.range 6).flatMap (fun k => (wlk (f + 1) (s - 2 ^ t) k).map (fun m => m ||| cb k t))) else [] := by
  have p2 : 0 < 2 ^ t := Nat.two_pow_pos t
  rw [wlk_S f s t]
  have e : (List.range 6).flatMap (fun k => (wlk f (s - 2 ^ t) k).map (fun m => m ||| cb k t)) = (List.range 6).flatMap (fun k => (wlk (f + 1) (s - 2 ^ t) k).map (fun m => m ||| cb k t)) := fm_cong (fun k hk => by
    rw [wlk_f f (f + 1) (s - 2 ^ t) k (by omega) (List.mem_range.mp hk) (by omega) (by omega)])
  rw [e]
theorem wlk_eq {s t : Nat} (hs : s < 64) (ht : t < 6) : wlk 64 s t = if s.testBit t = true then (if s - 2 ^ t = 0 then [0] else (List.range 6).flatMap (fun k => (wlk 64 (s - 2 ^ t) k).map (fun m => m ||| cb k t))) else [] := wlk_g 63 hs ht (by omega)
theorem rlk_f : ∀ f f' s t, s < 64 → t < 6 → s ≤ f → s ≤ f' → rlk f s t = rlk f' s t
  | 0, 0, s, t, _, _, _, _ => rfl
  | 0, f' + 1, s, t, h1, h2, h3, h4 => by
    have e : s = 0 := by omega
    subst e
    rw [rlk, rlk, Nat.zero_testBit]
    rfl
  | f + 1, 0, s, t, h1, h2, h3, h4 => by
    have e : s = 0 := by omega
    subst e
    rw [rlk, rlk, Nat.zero_testBit]
    rfl
  | f + 1, f' + 1, s, t, h1, h2, h3, h4 => by
    rw [rlk, rlk]
    by_cases c : s.testBit t = true
    · have := (qb_sub s h1 t h2 c).1
      have p2 : 0 < 2 ^ t := Nat.two_pow_pos t
      rw [if_pos c, if_pos c]
      congr 1
      congr 1
      refine fm_cong (fun k hk => ?_)
      rw [rlk_f f f' (s - 2 ^ t) k (by omega) (List.mem_range.mp hk) (by omega) (by omega)]
    · rw [if_neg c, if_neg c]
theorem rlk_S (f s t : Nat) : rlk (f + 1) s t = if s.testBit t = true then (if s - 2 ^ t = 0 then [0] else if t = zb_tz s then [] else (List.range 6).flatMap (fun k => (rlk f (s - 2 ^ t) k).map (fun m => m ||| cb k t))) else [] := by
  rw [rlk]
  simp only [nbq]
theorem rlk_g (f : Nat) {s t : Nat} (hs : s < 64) (ht : t < 6) (hf : s ≤ f) : rlk (f + 1) s t = if s.testBit t = true then (if s - 2 ^ t = 0 then [0] else if t = zb_tz s then [] else (List.range 6).flatMap (fun k => (rlk (f + 1) (s - 2 ^ t) k).map (fun m => m ||| cb k t))) else [] := by
  have p2 : 0 < 2 ^ t := Nat.two_pow_pos t
  rw [rlk_S f s t]
  have e : (List.range 6).flatMap (fun k => (rlk f (s - 2 ^ t) k).map (fun m => m ||| cb k t)) = (List.range 6).flatMap (fun k => (rlk (f + 1) (s - 2 ^ t) k).map (fun m => m ||| cb k t)) := fm_cong (fun k hk => by
    rw [rlk_f f (f + 1) (s - 2 ^ t) k (by omega) (List.mem_range.mp hk) (by omega) (by omega)])
  rw [e]
theorem rlk_eq {s t : Nat} (hs : s < 64) (ht : t < 6) : rlk 64 s t = if s.testBit t = true then (if s - 2 ^ t = 0 then [0] else if t = zb_tz s then [] else (List.range 6).flatMap (fun k => (rlk 64 (s - 2 ^ t) k).map (fun m => m ||| cb k t))) else [] := rlk_g 63 hs ht (by omega)
theorem bit_out {n s k : Nat} (hs : s < 2 ^ n) (hk : n ≤ k) : s.testBit k = false := Nat.testBit_lt_two_pow (Nat.lt_of_lt_of_le hs (Nat.pow_le_pow_right (by decide) hk))
theorem ar_wl_ok {hc : Nat → Nat → Bool} {y : Nat → Int32} {bf t n : Nat} {G : Nat → Nat} (hy : ∀ k, k < n → y (bf * 6 + k) = nI (G k)) : ∀ m k, k + m = n → ar_wl hc y bf t m k (nI (fb_sm (fun k => if hc k t = true then G k else 0) k)) = nI (fb_sm (fun k => if hc k t = true then G k else 0) n)
  | 0, k, e => by
    have e' : k = n := by omega
    subst e'
    rfl
  | m + 1, k, e => by
    rw [ar_wl, ← ar_wl_ok hy m (k + 1) (by omega), fb_sm_succ]
    by_cases c : hc k t = true
    · rw [if_pos c, if_pos c, hy k (by omega), nI_add]
    · rw [if_neg c, if_neg c]
      rfl
/-- what walksTo answers, of any family of lists -/
theorem ar_to_ok {hc : Nat → Nat → Bool} {y : Nat → Int32} {s t n : Nat} {L : Nat → Nat → List Nat} (hn : n ≤ 6) (hs : s < 2 ^ n) (ht : t < n) (hL0 : ∀ k, n ≤ k → k < 6 → s.testBit t = true → L (s - 2 ^ t) k = []) (hy : s.testBit t = true → ¬ s - 2 ^ t = 0 → ∀ k, k < n → y ((s - 2 ^ t) * 6 + k) = nI (cN hc (L (s - 2 ^ t) k))) : ar_to hc n y s t = nI (cN hc (if s.testBit t = true then (if s - 2 ^ t = 0 then [0] else (List.range 6).flatMap (fun k => (L (s - 2 ^ t) k).map (fun m => m ||| cb k t))) else [])) := by
  have h64 : s < 64 := Nat.lt_of_lt_of_le hs (show 2 ^ n ≤ 2 ^ 6 from Nat.pow_le_pow_right (by decide) hn)
  unfold ar_to
  rw [sb_and s h64 t (by omega)]
  by_cases c : s.testBit t = true
  · have h1 := (qb_sub s h64 t (by omega) c).1
    have p2 : 0 < 2 ^ t := Nat.two_pow_pos t
    rw [if_pos c, if_pos c, if_neg (by omega)]
    by_cases z : s - 2 ^ t = 0
    · rw [if_pos z, if_pos z]
      unfold cN
      rw [List.countP_singleton, okm_0]
      rfl
    · rw [if_neg z, if_neg z]
      have h2 := ar_wl_ok (hc := hc) (t := t) (hy c z) n 0 (by omega)
      refine Eq.trans h2 ?_
      congr 1
      unfold cN
      rw [cp_fm]
      have e1 : fb_sm (fun k => List.countP (okm hc) ((L (s - 2 ^ t) k).map (fun m => m ||| cb k t))) 6 = fb_sm (fun k => if hc k t = true then cN hc (L (s - 2 ^ t) k) else 0) 6 := fb_sm_cong (fun k hk => cN_map hc _ hk (by omega))
      rw [e1]
      symm
      refine fb_sm_cut hn (fun k h3 h4 => ?_)
      rw [hL0 k h3 h4 c]
      split <;> rfl
  · rw [if_neg c, if_neg c, if_pos rfl]
    rfl
/-! paths -/
theorem ar_pin_ok {hc : Nat → Nat → Bool} {n s : Nat} (hn : n ≤ 6) (hs : s < 2 ^ n) (h0 : 0 < s) : ∀ m t (v : (Nat → Int32) × (Nat → Int32)), t + m = n → (∀ s', 0 < s' → s' < s → ∀ k, k < n → v.1 (s' * 6 + k) = nI (cN hc (wlk 64 s' k))) → (∀ k, k < t → v.1 (s * 6 + k) = nI (cN hc (wlk 64 s k))) → v.2 s = nI (fb_sm (fun k => cN hc (wlk 64 s k)) t) → (∀ s', 0 < s' → s' < s + 1 → ∀ k, k < n → (ar_pin hc n s m t v).1 (s' * 6 + k) = nI (cN hc (wlk 64 s' k))) ∧ (ar_pin hc n s m t v).2 s = nI (fb_sm (fun k => cN hc (wlk 64 s k)) n) ∧ ∀ s', s' ≠ s → (ar_pin hc n s m t v).2 s' = v.2 s'
  | 0, t, v, e, h1, h2, h3 => by
    have e' : t = n := by omega
    subst e'
    rw [ar_pin]
    refine ⟨fun s' a b k hk => ?_, h3, fun _ _ => rfl⟩
    by_cases c : s' = s
    · rw [c]; exact h2 k hk
    · exact h1 s' a (by omega) k hk
  | m + 1, t, v, e, h1, h2, h3 => by
    have h64 : s < 64 := Nat.lt_of_lt_of_le hs (show 2 ^ n ≤ 2 ^ 6 from Nat.pow_le_pow_right (by decide) hn)
    have key : ar_to hc n v.1 s t = nI (cN hc (wlk 64 s t)) := by
      rw [wlk_eq h64 (by omega)]
      refine ar_to_ok (L := fun s k => wlk 64 s k) hn hs (by omega) (fun k a b c => ?_) (fun c z k hk => ?_)
      · show wlk 64 (s - 2 ^ t) k = []
        rw [wlk_eq (Nat.lt_of_le_of_lt (Nat.sub_le _ _) h64) b, if_neg (by rw [bit_out (Nat.lt_of_le_of_lt (Nat.sub_le _ _) hs) a]; decide)]
      · have p2 : 0 < 2 ^ t := Nat.two_pow_pos t
        exact h1 (s - 2 ^ t) (by omega) (by omega) k hk
    rw [ar_pin, key, pk_us]
    obtain ⟨i1, i2, i3⟩ := ar_pin_ok hn hs h0 m (t + 1) (upd v.1 (s * 6 + t) (nI (cN hc (wlk 64 s t))), upd v.2 s (v.2 s + nI (cN hc (wlk 64 s t)))) (by omega) (fun s' a b k hk => by
      show upd v.1 (s * 6 + t) _ (s' * 6 + k) = _
      rw [pk_un (by omega)]
      exact h1 s' a b k hk) (fun k hk => by
      show upd v.1 (s * 6 + t) _ (s * 6 + k) = _
      by_cases c : k = t
      · rw [c, pk_us]
      · rw [pk_un (by omega)]
        exact h2 k (by omega)) (by
      show upd v.2 s _ s = _
      rw [pk_us, h3, nI_add, fb_sm_succ])
    refine ⟨i1, i2, fun s' hs' => ?_⟩
    rw [i3 s' hs']
    exact pk_un hs'
theorem ar_pout_ok {hc : Nat → Nat → Bool} {n : Nat} (hn : n ≤ 6) : ∀ m s (v : (Nat → Int32) × (Nat → Int32)), s + m = 2 ^ n → 0 < s → (∀ s', 0 < s' → s' < s → ∀ k, k < n → v.1 (s' * 6 + k) = nI (cN hc (wlk 64 s' k))) → (∀ s', 0 < s' → s' < s → v.2 s' = nI (fb_sm (fun k => cN hc (wlk 64 s' k)) n)) → ∀ s', 0 < s' → s' < 2 ^ n → (ar_pout hc n m s v).2 s' = nI (fb_sm (fun k => cN hc (wlk 64 s' k)) n)
  | 0, s, v, e, h0, h1, h2, s', a, b => by
    rw [ar_pout]
    exact h2 s' a (by omega)
  | m + 1, s, v, e, h0, h1, h2, s', a, b => by
    rw [ar_pout]
    obtain ⟨i1, i2, i3⟩ := ar_pin_ok (hc := hc) hn (show s < 2 ^ n by omega) h0 n 0 (v.1, upd v.2 s 0) (by omega) h1 (fun k hk => by omega) pk_us
    refine ar_pout_ok hn m (s + 1) _ (by omega) (by omega) i1 (fun s1 a1 b1 => ?_) s' a b
    by_cases c : s1 = s
    · rw [c]; exact i2
    · rw [i3 s1 c]
      show upd v.2 s 0 s1 = _
      rw [pk_un c]
      exact h2 s1 a1 (by omega)
theorem plk_N {hc : Nat → Nat → Bool} {n s : Nat} (hn : n ≤ 6) (hs : s < 2 ^ n) : fb_sm (fun k => cN hc (wlk 64 s k)) n = cN hc (plk s) := by
  have h64 : s < 64 := Nat.lt_of_lt_of_le hs (show 2 ^ n ≤ 2 ^ 6 from Nat.pow_le_pow_right (by decide) hn)
  unfold cN plk
  rw [cp_fm]
  symm
  refine fb_sm_cut hn (fun k h3 h4 => ?_)
  rw [wlk_eq h64 h4, if_neg (by rw [bit_out hs h3]; decide)]
  rfl
theorem ar_P_ok {hc : Nat → Nat → Bool} {n : Nat} (hn : n ≤ 6) (y z : Nat → Int32) {s : Nat} (h0 : 0 < s) (hs : s < 2 ^ n) : (ar_P hc n y z).2 s = nI (cN hc (plk s)) := by
  have p2 : 0 < 2 ^ n := Nat.two_pow_pos n
  unfold ar_P
  rw [ar_pout_ok hn (2 ^ n - 1) 1 (y, z) (by omega) (by omega) (fun s' a b => by omega) (fun s' a b => by omega) s h0 hs, plk_N hn hs]
/-! rings -/
theorem tz_ok : ∀ s, s < 64 → 0 < s → s.testBit (zb_tz s) = true ∧ (s - 2 ^ zb_tz s = 0 ↔ ¬ 1 < zb_pc s) ∧ zb_pc s ≤ 6 := by decide +kernel
theorem ar_y_ok {hc : Nat → Nat → Bool} {y : Nat → Int32} {n s t : Nat} (hn : n ≤ 6) (hs : s < 2 ^ n) (h0 : 0 < s) (ht : t < n) (h1 : ∀ s', 0 < s' → s' < s → ∀ k, k < n → y (s' * 6 + k) = nI (cN hc (rlk 64 s' k))) : ar_y hc n s t y = upd y (s * 6 + t) (nI (cN hc (rlk 64 s t))) := by
  have h64 : s < 64 := Nat.lt_of_lt_of_le hs (show 2 ^ n ≤ 2 ^ 6 from Nat.pow_le_pow_right (by decide) hn)
  obtain ⟨z1, z2, _⟩ := tz_ok s h64 h0
  unfold ar_y
  congr 1
  rw [rlk_eq h64 (by omega)]
  by_cases c : t = zb_tz s ∧ 1 < zb_pc s
  · rw [if_pos c, if_pos (by rw [c.1]; exact z1), if_neg (by rw [c.1, z2]; exact not_not_intro c.2), if_pos c.1]
    rfl
  · rw [if_neg c]
    have e : (if s.testBit t = true then (if s - 2 ^ t = 0 then [0] else if t = zb_tz s then [] else (List.range 6).flatMap (fun k => (rlk 64 (s - 2 ^ t) k).map (fun m => m ||| cb k t))) else []) = (if s.testBit t = true then (if s - 2 ^ t = 0 then [0] else (List.range 6).flatMap (fun k => (rlk 64 (s - 2 ^ t) k).map (fun m => m ||| cb k t))) else []) := by
      by_cases q : s.testBit t = true
      · rw [if_pos q, if_pos q]
        by_cases q2 : s - 2 ^ t = 0
        · rw [if_pos q2, if_pos q2]
        · rw [if_neg q2, if_neg q2, if_neg (fun q3 => c ⟨q3, by
            rw [q3] at q2
            exact Classical.not_not.mp (fun q4 => q2 (z2.mpr q4))⟩)]
      · rw [if_neg q, if_neg q]
    rw [e]
    refine ar_to_ok (L := fun s k => rlk 64 s k) hn hs ht (fun k a b c => ?_) (fun c z k hk => ?_)
    · show rlk 64 (s - 2 ^ t) k = []
      rw [rlk_eq (Nat.lt_of_le_of_lt (Nat.sub_le _ _) h64) b, if_neg (by rw [bit_out (Nat.lt_of_le_of_lt (Nat.sub_le _ _) hs) a]; decide)]
    · have p2 : 0 < 2 ^ t := Nat.two_pow_pos t
      exact h1 (s - 2 ^ t) (by omega) (by omega) k hk
def rgT (hc : Nat → Nat → Bool) (sh s k : Nat) : Nat := if hc k (zb_tz s) = true ∧ sh ≤ zb_pc s then cN hc (rlk 64 s k) else 0
theorem ar_rin_ok {hc : Nat → Nat → Bool} {n s sh : Nat} (hn : n ≤ 6) (hs : s < 2 ^ n) (h0 : 0 < s) (hsh : sh ≤ 6) : ∀ m t (v : (Nat → Int32) × (Nat → Int32)), t + m = n → (∀ s', 0 < s' → s' < s → ∀ k, k < n → v.1 (s' * 6 + k) = nI (cN hc (rlk 64 s' k))) → (∀ k, k < t → v.1 (s * 6 + k) = nI (cN hc (rlk 64 s k))) → v.2 s = nI (fb_sm (rgT hc sh s) t) → (∀ s', 0 < s' → s' < s + 1 → ∀ k, k < n → (ar_rin hc (nI sh) n s m t v).1 (s' * 6 + k) = nI (cN hc (rlk 64 s' k))) ∧ (ar_rin hc (nI sh) n s m t v).2 s = nI (fb_sm (rgT hc sh s) n) ∧ ∀ s', s' ≠ s → (ar_rin hc (nI sh) n s m t v).2 s' = v.2 s'
  | 0, t, v, e, h1, h2, h3 => by
    have e' : t = n := by omega
    subst e'
    rw [ar_rin]
    refine ⟨fun s' a b k hk => ?_, h3, fun _ _ => rfl⟩
    by_cases c : s' = s
    · rw [c]; exact h2 k hk
    · exact h1 s' a (by omega) k hk
  | m + 1, t, v, e, h1, h2, h3 => by
    have h64 : s < 64 := Nat.lt_of_lt_of_le hs (show 2 ^ n ≤ 2 ^ 6 from Nat.pow_le_pow_right (by decide) hn)
    have hpc := (tz_ok s h64 h0).2.2
    rw [ar_rin, ar_y_ok hn hs h0 (by omega) h1, pk_us]
    have hle : (nI sh ≤ nI (zb_pc s)) ↔ (sh ≤ zb_pc s) := ⟨fun q => Classical.not_not.mp (fun q2 => nI_ge (a := zb_pc s) (b := sh) (by omega) (by omega) q), fun q => nI_le q (by omega)⟩
    simp only [hle]
    obtain ⟨i1, i2, i3⟩ := ar_rin_ok (sh := sh) hn hs h0 hsh m (t + 1) (upd v.1 (s * 6 + t) (nI (cN hc (rlk 64 s t))), if hc t (zb_tz s) = true ∧ sh ≤ zb_pc s then upd v.2 s (v.2 s + nI (cN hc (rlk 64 s t))) else v.2) (by omega) (fun s' a b k hk => by
      show upd v.1 (s * 6 + t) _ (s' * 6 + k) = _
      rw [pk_un (by omega)]
      exact h1 s' a b k hk) (fun k hk => by
      show upd v.1 (s * 6 + t) _ (s * 6 + k) = _
      by_cases c : k = t
      · rw [c, pk_us]
      · rw [pk_un (by omega)]
        exact h2 k (by omega)) (by
      show (if hc t (zb_tz s) = true ∧ sh ≤ zb_pc s then upd v.2 s (v.2 s + nI (cN hc (rlk 64 s t))) else v.2) s = _
      rw [fb_sm_succ]
      unfold rgT
      by_cases c : hc t (zb_tz s) = true ∧ sh ≤ zb_pc s
      · rw [if_pos c, if_pos c, pk_us, h3, nI_add]
        rfl
      · rw [if_neg c, if_neg c, h3]
        rfl)
    refine ⟨i1, i2, fun s' hs' => ?_⟩
    rw [i3 s' hs']
    show (if hc t (zb_tz s) = true ∧ sh ≤ zb_pc s then upd v.2 s (v.2 s + nI (cN hc (rlk 64 s t))) else v.2) s' = v.2 s'
    by_cases c : hc t (zb_tz s) = true ∧ sh ≤ zb_pc s
    · rw [if_pos c, pk_un hs']
    · rw [if_neg c]
theorem ar_rout_ok {hc : Nat → Nat → Bool} {n sh : Nat} (hn : n ≤ 6) (hsh : sh ≤ 6) : ∀ m s (v : (Nat → Int32) × (Nat → Int32)), s + m = 2 ^ n → 0 < s → (∀ s', 0 < s' → s' < s → ∀ k, k < n → v.1 (s' * 6 + k) = nI (cN hc (rlk 64 s' k))) → (∀ s', 0 < s' → s' < s → v.2 s' = nI (fb_sm (rgT hc sh s') n)) → ∀ s', 0 < s' → s' < 2 ^ n → (ar_rout hc (nI sh) n m s v).2 s' = nI (fb_sm (rgT hc sh s') n)
  | 0, s, v, e, h0, h1, h2, s', a, b => by
    rw [ar_rout]
    exact h2 s' a (by omega)
  | m + 1, s, v, e, h0, h1, h2, s', a, b => by
    rw [ar_rout]
    obtain ⟨i1, i2, i3⟩ := ar_rin_ok (hc := hc) (sh := sh) hn (show s < 2 ^ n by omega) h0 hsh n 0 (v.1, upd v.2 s 0) (by omega) h1 (fun k hk => by omega) pk_us
    refine ar_rout_ok hn hsh m (s + 1) _ (by omega) (by omega) i1 (fun s1 a1 b1 => ?_) s' a b
    by_cases c : s1 = s
    · rw [c]; exact i2
    · rw [i3 s1 c]
      show upd v.2 s 0 s1 = _
      rw [pk_un c]
      exact h2 s1 a1 (by omega)
theorem rgk_N {hc : Nat → Nat → Bool} {n s sh : Nat} (hn : n ≤ 6) (hs : s < 2 ^ n) : fb_sm (rgT hc sh s) n = if sh ≤ zb_pc s then cN hc (rgk s) else 0 := by
  have h64 : s < 64 := Nat.lt_of_lt_of_le hs (show 2 ^ n ≤ 2 ^ 6 from Nat.pow_le_pow_right (by decide) hn)
  by_cases c : sh ≤ zb_pc s
  · rw [if_pos c]
    unfold rgk
    have e0 : cN hc ((List.range 6).flatMap (fun t => (rlk 64 s t).map (fun m => m ||| cb t (zb_tz s)))) = fb_sm (fun t => cN hc ((rlk 64 s t).map (fun m => m ||| cb t (zb_tz s)))) 6 := cp_fm _ _ 6
    rw [e0]
    have e1 : fb_sm (fun t => cN hc ((rlk 64 s t).map (fun m => m ||| cb t (zb_tz s)))) 6 = fb_sm (rgT hc sh s) 6 := fb_sm_cong (fun k hk => by
      rw [cN_map hc _ hk (zb_tz_lt s)]
      unfold rgT
      simp only [c, and_true])
    rw [e1]
    symm
    refine fb_sm_cut hn (fun k h3 h4 => ?_)
    unfold rgT
    rw [rlk_eq h64 h4, if_neg (c := s.testBit k = true) (by rw [bit_out hs h3]; decide)]
    split <;> rfl
  · rw [if_neg c]
    exact fb_sm_0 (fun k _ => if_neg (fun q => c q.2))
theorem ar_R_ok {hc : Nat → Nat → Bool} {n sh : Nat} (hn : n ≤ 6) (hsh : sh ≤ 6) (y z g : Nat → Int32) {s : Nat} (h0 : 0 < s) (hs : s < 2 ^ n) : (ar_R hc (nI sh) n y z g).2 s = nI (if sh ≤ zb_pc s then cN hc (rgk s) else 0) := by
  have p2 : 0 < 2 ^ n := Nat.two_pow_pos n
  unfold ar_R
  rw [ar_rout_ok hn hsh (2 ^ n - 1) 1 _ (by omega) (by omega) (fun s' a b => by omega) (fun s' a b => by omega) s h0 hs, rgk_N hn hs]
