/-! least sums: class and model -/
def wtI (p : Nat → Int32) (w : Nat) : Nat → Nat → Int := fun i j => (p (w * i + j)).toInt
def ls_f (p : Nat → Int32) (c : Nat → Nat) (w h K : Nat) (P : List Nat → Bool) : ls_T := (tE c w h 0 0 K).foldl (fun a x => lsk (wS p w (xf x) h) (P x) a) (0, 0, 1000000, 0)
def wOK (p : Nat → Int32) (n : Nat) : Prop := ∀ j, j < n → -1000 ≤ p j ∧ p j ≤ 1000
theorem wlt {w h i j : Nat} (hi : i < h) (hj : j < w) : w * i + j < h * w := by
  have h1 : w * (i + 1) ≤ w * h := Nat.mul_le_mul_left w (by omega)
  rw [Nat.mul_succ] at h1
  rw [Nat.mul_comm h w]
  omega
theorem wOK_I {p : Nat → Int32} {n : Nat} (h : wOK p n) {j : Nat} (hj : j < n) : -1000 ≤ (p j).toInt ∧ (p j).toInt ≤ 1000 := by
  obtain ⟨h1, h2⟩ := h j hj
  rw [Int32.le_iff_toInt_le] at h1 h2
  have e1 : (-1000 : Int32).toInt = -1000 := by decide
  have e2 : (1000 : Int32).toInt = 1000 := by decide
  omega
theorem tE_mem {c : Nat → Nat} {w h K : Nat} (hw : w ≤ 6) {x : List Nat} (hx : x ∈ tE c w h 0 0 K) : x ∈ pE c w h := by
  rw [pE_tE hw] at hx
  exact (List.mem_filter.mp hx).1
theorem wZ_b {p : Nat → Int32} {w h : Nat} (ok : wOK p (h * w)) {x : List Nat} (hv : tv w x) (hl : x.length = h) : ∀ i, i ≤ h → -(1000 * (i : Int)) ≤ wZ (wtI p w) (xf x) i ∧ wZ (wtI p w) (xf x) i ≤ 1000 * i
  | 0, _ => ⟨by rw [wZ]; decide, by rw [wZ]; decide⟩
  | i + 1, hi => by
    have ih := wZ_b ok hv hl i (by omega)
    rw [wZ]
    rcases tv_x hl hv i (by omega) with z | z
    · rw [if_pos z]; omega
    · by_cases z9 : xf x i = 9
      · rw [if_pos z9]; omega
      · rw [if_neg z9]
        have := wOK_I ok (wlt (show i < h by omega) z)
        unfold wtI at ih ⊢
        omega
theorem ls_li {p : Nat → Int32} {c : Nat → Nat} {w h : Nat} (hw : w ≤ 6) (hh : h ≤ 6) (ok : wOK p (h * w)) (K : Nat) (P : List Nat → Bool) : li (fun b => (tE c w h 0 0 K).countP (fun x => decide (wZ (wtI p w) (xf x) h = b))) (fun b => ((tE c w h 0 0 K).filter P).countP (fun x => decide (wZ (wtI p w) (xf x) h = b))) ((tE c w h 0 0 K).countP P) (ls_f p c w h K P) := by
  have hlen : (tE c w h 0 0 K).length < 2 ^ 20 := by
    rw [tE_len]
    exact tO_lt c hw hh 0 0 K
  have := li_fold (fun x => wZ (wtI p w) (xf x) h) (fun x => wS p w (xf x) h) P (tE c w h 0 0 K) (fun _ => 0) (fun _ => 0) 0 (0, 0, 1000000, 0) ⟨Or.inl ⟨fun _ => rfl, rfl, rfl⟩, rfl, Or.inl ⟨fun _ => rfl, rfl⟩⟩ (fun x hx => by
    obtain ⟨m1, m2, m3⟩ := pE_ok hw h x (tE_mem hw hx)
    have := wZ_b ok m3 m1 h (Nat.le_refl _)
    exact ⟨wS_ok p w (xf x) h, ⟨by omega, by omega⟩, by omega⟩) (fun b hb => absurd rfl hb) (fun b hb => absurd rfl hb) (fun b => by omega) (by omega)
  simp only [Nat.zero_add] at this
  exact this
theorem ls_same {p : Nat → Int32} {c : Nat → Nat} {w h K : Nat} (hw : w ≤ 6) (hh : h ≤ 6) (hc : ∀ i, i < h → c i < 2 ^ w) (ok : wOK p (h * w)) (ne : tN c h K ≠ 0) (P : List Nat → Bool) {v o : Int32} (R : rp v o (tLK c (wtI p w) h K 64)) : v = (ls_f p c w h K P).2.2.1 ∧ o.toInt64 = (ls_f p c w h K P).1 := by
  have L := (ls_li (c := c) hw hh ok K P).1
  have hlen : (tE c w h 0 0 K).length < 2 ^ 20 := by
    rw [tE_len]
    exact tO_lt c hw hh 0 0 K
  have eF : ∀ b, tLK c (wtI p w) h K 64 b = (tE c w h 0 0 K).countP (fun x => decide (wZ (wtI p w) (xf x) h = b)) := tLK_cnt hw hc K
  rw [tN_cnt hw hc] at ne
  have hex : ∃ b, tLK c (wtI p w) h K 64 b ≠ 0 := by
    cases hl : tE c w h 0 0 K with
    | nil => rw [hl] at ne; exact absurd rfl ne
    | cons y l =>
      refine ⟨wZ (wtI p w) (xf y) h, ?_⟩
      rw [eF, hl, List.countP_cons, if_pos (decide_eq_true rfl)]
      omega
  obtain ⟨b0, hb0⟩ := hex
  rcases R with R | ⟨a, a1, a2, a3, a4⟩
  · exact absurd (R.1 b0) hb0
  rcases L with L | ⟨m, m1, m2, m3, m4⟩
  · have := (eF b0).trans (L.1 b0)
    exact absurd this hb0
  have m1' : tLK c (wtI p w) h K 64 m ≠ 0 := by rw [eF]; exact m1
  have e1 := a2 m m1'
  have e2 := m2 a (by rw [eF] at a1; exact a1)
  have e3 : a = m := by omega
  subst e3
  refine ⟨a3.trans m4.symm, ?_⟩
  rw [a4, m3, eF]
  refine nI_l ?_
  have := List.countP_le_length (p := fun x => decide (wZ (wtI p w) (xf x) h = a)) (l := tE c w h 0 0 K)
  omega
theorem xf_set {x : List Nat} {i j q : Nat} (hi : i < x.length) : xf (x.set i j) q = if q = i then j else xf x q := by
  unfold xf
  by_cases e : q = i
  · subst e
    rw [if_pos rfl]
    simp [List.getD, hi]
  · have e' : ¬ i = q := fun z => e z.symm
    rw [if_neg e]
    simp [List.getD, List.getElem?_set, e']
theorem wZ_set {wt : Nat → Nat → Int} {x : List Nat} {i j : Nat} (hi : i < x.length) (h9 : xf x i = 9) (hj : j ≠ 9) : ∀ q, wZ wt (xf (x.set i j)) q = wZ wt (xf x) q + (if i < q then wt i j else 0)
  | 0 => by rw [wZ, wZ, if_neg (Nat.not_lt_zero _)]; rfl
  | q + 1 => by
    rw [wZ, wZ, wZ_set hi h9 hj q, xf_set hi]
    by_cases e : q = i
    · subst e
      rw [if_pos rfl, if_neg hj, if_neg (Nat.lt_irrefl _), if_pos (Nat.lt_succ_self _), h9, if_pos rfl]
    · rw [if_neg e]
      by_cases z : i < q
      · rw [if_pos z, if_pos (show i < q + 1 by omega)]
        omega
      · rw [if_neg z, if_neg (show ¬ i < q + 1 by omega)]
        omega
theorem un_lt {c : Nat → Nat} {w h i j : Nat} (hc : ∀ i, i < h → c i < 2 ^ w) : ∀ q, q < h → un c i j q < 2 ^ w := fun q hq => by
  unfold un
  by_cases z : q = i
  · rw [if_pos z]; exact Nat.two_pow_pos w
  · rw [if_neg z]; exact Nat.lt_of_le_of_lt Nat.and_le_left (hc q hq)
theorem lk_same {p : Nat → Int32} {c : Nat → Nat} {w h K i j : Nat} (hw : w ≤ 6) (hh : h ≤ 6) (hc : ∀ i, i < h → c i < 2 ^ w) (ok : wOK p (h * w)) (hi : i < h) (hj : j < w) (hb : (c i).testBit j = true) {v o : Int32} (R : rp v o (tLK (un c i j) (wtI p w) h K 64)) : (o = 0 ↔ (ls_f p c w h (K + 1) (fun x => decide (xf x i = j))).2.1 = 0) ∧ (¬ o = 0 → v + p (w * i + j) = (ls_f p c w h (K + 1) (fun x => decide (xf x i = j))).2.2.2) := by
  have hc6 : ∀ q, q < h → c q < 64 := fun q hq => mz_c64 hw (hc q hq)
  obtain ⟨-, L2, L3⟩ := ls_li (c := c) hw hh ok (K + 1) (fun x => decide (xf x i = j))
  have hlen : (tE (un c i j) w h 0 0 K).length < 2 ^ 20 := by
    rw [tE_len]
    exact tO_lt _ hw hh 0 0 K
  have eF : ∀ b, tLK (un c i j) (wtI p w) h K 64 b = (tE (un c i j) w h 0 0 K).countP (fun x => decide (wZ (wtI p w) (xf x) h = b)) := tLK_cnt hw (un_lt hc) K
  have eN : (tE c w h 0 0 (K + 1)).countP (fun x => decide (xf x i = j)) = (tE (un c i j) w h 0 0 K).length := by
    rw [List.countP_eq_length_filter, tE_with hw hj hi hc6 hb, List.length_map]
  have eG : ∀ b, ((tE c w h 0 0 (K + 1)).filter (fun x => decide (xf x i = j))).countP (fun x => decide (wZ (wtI p w) (xf x) h = b)) = tLK (un c i j) (wtI p w) h K 64 (b - wtI p w i j) := fun b => by
    rw [tE_with hw hj hi hc6 hb, List.countP_map, eF]
    refine List.countP_congr (fun x hx => ?_)
    have m0 := tE_mem hw hx
    obtain ⟨m1, m2, m3⟩ := pE_ok hw h x m0
    have u9 := ((pE_un hw (show j < 6 by omega) hi hc6 h (Nat.le_refl _) x m0).2 hi).2
    have e := wZ_set (wt := wtI p w) (x := x) (i := i) (j := j) (by omega) u9 (by omega) h
    rw [if_pos hi] at e
    show decide (wZ (wtI p w) (xf (x.set i j)) h = b) = true ↔ _
    rw [e, decide_eq_true_eq, decide_eq_true_eq]
    omega
  rw [eN] at L2 L3
  have o0 := rp_o0 R (fun a => by
    rw [eF]
    have := List.countP_le_length (p := fun x => decide (wZ (wtI p w) (xf x) h = a)) (l := tE (un c i j) w h 0 0 K)
    omega)
  have z0 : (∀ a, tLK (un c i j) (wtI p w) h K 64 a = 0) ↔ (tE (un c i j) w h 0 0 K).length = 0 := by
    constructor
    · intro z
      cases hl : tE (un c i j) w h 0 0 K with
      | nil => rfl
      | cons y l =>
        have := z (wZ (wtI p w) (xf y) h)
        rw [eF, hl, List.countP_cons, if_pos (decide_eq_true rfl)] at this
        omega
    · intro z a
      rw [eF]
      have := List.countP_le_length (p := fun x => decide (wZ (wtI p w) (xf x) h = a)) (l := tE (un c i j) w h 0 0 K)
      omega
  have l0 : (ls_f p c w h (K + 1) (fun x => decide (xf x i = j))).2.1 = 0 ↔ (tE (un c i j) w h 0 0 K).length = 0 := by
    rw [L2, ← lN_0]
    exact lN_iff (by omega) (by omega)
  refine ⟨(o0.trans z0).trans l0.symm, fun on => ?_⟩
  rcases R with R | ⟨a, a1, a2, a3, a4⟩
  · exact absurd R.2 on
  rcases L3 with L3 | ⟨m, m1, m2, m3, m4⟩
  · exact absurd (o0.mpr (z0.mpr L3.2)) on
  have m1' : tLK (un c i j) (wtI p w) h K 64 (m - wtI p w i j) ≠ 0 := by rw [← eG]; exact m1
  have e1 := a2 _ m1'
  have e2 := m2 (a + wtI p w i j) (by
    have e := eG (a + wtI p w i j)
    rw [show a + wtI p w i j - wtI p w i j = a by omega] at e
    exact fun z => a1 (e.symm.trans z))
  have e3 : m = a + wtI p w i j := by omega
  rw [m4, e3, ← iZ_add, a3]
  congr 1
  exact (iZ_toI _).symm
theorem tN_most (c : Nat → Nat) (h : Nat) : tN c h (tG (tN c h) 6) ≠ 0 := by
  by_cases z : tG (tN c h) 6 = 0
  · rw [z]
    have := tN_0 c h
    omega
  · exact tG_pos 6 z
theorem lt_w_ok {g : Nat → Int32} {w h i j : Nat} (hh : h ≤ 6) (hw : w ≤ 6) (hi : i < h) (hj : j < w) : lt_w (nI (h * w)) g (nI i * nI w + nI j) = iZ (wtI g w i j) := by
  have hl := wlt hi hj
  have h36 : h * w ≤ 36 := Nat.mul_le_mul hh hw
  have e : nI i * nI w + nI j = nI (w * i + j) := by rw [pk_mul, nI_add, Nat.mul_comm]
  unfold lt_w
  rw [e, if_pos ⟨nI_le (a := 0) (Nat.zero_le _) (by omega), nI_lt hl (by omega)⟩, nI_clamp (by omega)]
  exact (iZ_toI _).symm
theorem lt_ok2 {c : Nat → Nat} {g p : Nat → Int32} {w h : Nat} (hw : w ≤ 6) (hh : h ≤ 6) (hc : ∀ i, i < h → c i < 2 ^ w ∧ p i = nI (c i)) (ok : wOK g (h * w)) (u o : Nat → Int32) (K : Nat) (hK : K < 2 ^ 31) : rp (lt_all (lt_V p h (nI w) (lt_w (nI (h * w)) g) u o) (nI K) 64 0 (0, 0)).1 (lt_all (lt_V p h (nI w) (lt_w (nI (h * w)) g) u o) (nI K) 64 0 (0, 0)).2 (tLK c (wtI g w) h K 64) := by
  have hjw : ∀ i, i < h → ∀ j, (c i).testBit j = true → j < w := fun i hi j hj => by
    by_cases z : j < w
    · exact z
    · have : (c i).testBit j = false := Nat.testBit_lt_two_pow (Nat.lt_of_lt_of_le (hc i hi).1 (Nat.pow_le_pow_right (by omega) (by omega)))
      rw [this] at hj
      cases hj
  exact lt_ok hh (fun i hi => ⟨mz_c64 hw (hc i hi).1, (hc i hi).2⟩) (fun i hi j _ hb => wOK_I ok (wlt hi (hjw i hi j hb))) (fun i hi j _ hb => lt_w_ok hh hw hi (hjw i hi j hb)) u o K hK
