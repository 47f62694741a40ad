/-! all stands, against the model's -/
def pdk (c : Nat → Nat) (n : Nat) : Nat → Nat → List Nat → List (List Nat)
  | 0, _, x => [x]
  | r + 1, i, x => (pX (c i) n x).flatMap (pdk c n r (i + 1))
theorem fm_single {α : Type} : ∀ l : List α, l.flatMap (fun x => [x]) = l
  | [] => rfl
  | a :: l => by rw [List.flatMap_cons, fm_single l]; rfl
theorem pE_pd (c : Nat → Nat) (n : Nat) : ∀ r i, pE c n (i + r) = (pE c n i).flatMap (pdk c n r i)
  | 0, i => (fm_single _).symm
  | r + 1, i => by
    rw [show i + (r + 1) = (i + 1) + r by omega, pE_pd c n r (i + 1), pE, List.flatMap_assoc]
    rfl
/-- the least ring of the first places -/
def rMn (x : Nat → Nat) (n : Nat) : Nat → Nat
  | 0 => 7
  | q + 1 => if rB x n q = 0 then rMn x n q else mik (zb_pc (rB x n q)) (rMn x n q)
theorem bc_99 (v : Nat) : bc v < 99 := by
  have : bc v ≤ 12 := fb_ct_le _ 12
  omega
theorem rKf_ok (x : Nat → Nat) (n : Nat) (k : Nat → Nat → e4T) : ∀ r q, q + r = n → rKf x n r q (rD x n q) (rM x n 99 q) (rMn x n q) k = k (rM x n 99 n) (rMn x n n)
  | 0, q, e => by
    have e' : q = n := by omega
    subst e'
    rfl
  | r + 1, q, e => by
    have ih := rKf_ok x n k r (q + 1) (by omega)
    rw [rKf, frc_eq, rFf_eq, ← rB]
    have hD : rD x n (q + 1) = rD x n q ||| rB x n q := rfl
    by_cases z : rB x n q = 0
    · have hM : rM x n 99 (q + 1) = rM x n 99 q := by
        rw [rM, if_neg (fun y => y.1 z), Nat.add_zero]
      have hN : rMn x n (q + 1) = rMn x n q := by
        rw [rMn, if_pos z]
      rw [hD, z, Nat.or_zero, hM, hN] at ih
      rw [z]
      exact ih
    · have hM : rM x n 99 (q + 1) = rM x n 99 q + 1 := by
        rw [rM, if_pos ⟨z, bc_99 _⟩]
      have hN : rMn x n (q + 1) = mik (zb_pc (rB x n q)) (rMn x n q) := by
        rw [rMn, if_neg z]
      rw [hD, hM, hN] at ih
      rw [if_neg (fun y => z (nbq.mp y)), frc_eq, frc_eq, frc_eq]
      exact ih
theorem rMn_ok {x : Nat → Nat} {n sh : Nat} (hn : n ≤ 6) (hsh : sh ≤ 7) (h : ∀ q, q < n → x q = 9 ∨ x q < n) : ∀ q, q ≤ n → (rM x n sh q = 0 ↔ sh ≤ rMn x n q)
  | 0, _ => ⟨fun _ => hsh, fun _ => rfl⟩
  | q + 1, hq => by
    have ih := rMn_ok hn hsh h q (by omega)
    have hb := bc_pc _ (rB_lt hn h (show q < n by omega))
    rw [rM, rMn]
    by_cases z : rB x n q = 0
    · rw [if_pos z, if_neg (fun y => y.1 z), Nat.add_zero]
      exact ih
    · rw [if_neg z, mik_le, ← hb]
      by_cases y : bc (rB x n q) < sh
      · rw [if_pos ⟨z, y⟩]
        constructor
        · intro w; omega
        · intro w; omega
      · rw [if_neg (fun w => y w.2), Nat.add_zero, ih]
        constructor
        · intro w; exact ⟨by omega, w⟩
        · intro w; exact w.2
theorem sx_bad {hc : Nat → Nat → Bool} {n sh p0 c0 : Nat} : ∀ r i x u m p, okm hc m = false → (sxk n r i x u m p).countP (qE hc sh p0 c0) = 0
  | 0, i, x, u, m, p, h => by
    have e := rKf_ok (fun q => x.getD q 9) n (fun c mn => (m, p, c, mn)) n 0 (by omega)
    have e2 : rKf (fun q => x.getD q 9) n n 0 0 0 7 (fun c mn => (m, p, c, mn)) = (m, p, rM (fun q => x.getD q 9) n 99 n, rMn (fun q => x.getD q 9) n n) := e
    rw [sxk, e2, List.countP_singleton]
    unfold qE
    rw [h, Bool.false_and]
    rfl
  | r + 1, i, x, u, m, p, h => by
    rw [sxk, List.countP_append, sx_bad r _ _ _ _ _ h, cp_fm, Nat.zero_add]
    refine fb_sm_0 (fun j _ => ?_)
    by_cases z : u.testBit j = true
    · rw [if_pos z]; rfl
    · rw [if_neg z]
      exact sx_bad r _ _ _ _ _ (by rw [okm_or, h, Bool.false_and])
def qX (n sh p0 c0 : Nat) (x : List Nat) : Bool := decide (n - bc (ux x) = p0) && (decide (rM (xf x) n 99 n = c0) && decide (sh ≤ rMn (xf x) n n))
theorem sx_ok {hc : Nat → Nat → Bool} {c : Nat → Nat} {n sh p0 c0 : Nat} (hn : n ≤ 6) (hcc : ∀ i, i < n → ∀ j, j < n → hc i j = (c i).testBit j) : ∀ r i x m p, i + r = n → x.length = i → ux x < 64 → p + bc (ux x) = i → okm hc m = true → (pdk c n r i x).countP (qX n sh p0 c0) = (sxk n r i x (ux x) m p).countP (qE hc sh p0 c0)
  | 0, i, x, m, p, e, hl, hu, hp, ho => by
    have e' := rKf_ok (fun q => x.getD q 9) n (fun c mn => (m, p, c, mn)) n 0 (by omega)
    have e2 : rKf (fun q => x.getD q 9) n n 0 0 0 7 (fun c mn => (m, p, c, mn)) = (m, p, rM (fun q => x.getD q 9) n 99 n, rMn (fun q => x.getD q 9) n n) := e'
    rw [sxk, e2, pdk, List.countP_singleton, List.countP_singleton]
    unfold qE qX
    rw [ho, Bool.true_and, show n - bc (ux x) = p by omega]
    rfl
  | r + 1, i, x, m, p, e, hl, hu, hp, ho => by
    rw [sxk, pdk, List.countP_append]
    unfold pX
    rw [List.flatMap_append, List.countP_append, List.flatMap_assoc, cp_fm, cp_fm, List.flatMap_singleton, Nat.add_comm]
    have l1 : ∀ j, (x ++ [j]).length = i + 1 := fun j => by rw [List.length_append, hl]; rfl
    congr 1
    · have ih := sx_ok (sh := sh) (p0 := p0) (c0 := c0) hn hcc r (i + 1) (x ++ [9]) m (p + 1) (by omega) (l1 9) (by rw [ux_9]; exact hu) (by rw [ux_9]; omega) ho
      rw [ux_9] at ih
      exact ih
    · refine fb_sm_cong (fun j hj => ?_)
      by_cases z : (ux x).testBit j = true
      · rw [if_pos z, if_neg (by rw [z]; simp)]
        rfl
      · have z' : (ux x).testBit j = false := by simpa using z
        rw [if_neg z]
        by_cases y : (c i).testBit j = true
        · rw [if_pos (by rw [y, z']; rfl), List.flatMap_singleton]
          have hb := bc_or (ux x) hu j (by omega) z'
          have ih := sx_ok (sh := sh) (p0 := p0) (c0 := c0) hn hcc r (i + 1) (x ++ [j]) (m ||| cb i j) p (by omega) (l1 j) (by rw [ux_j x (by omega)]; exact zb_or_lt hu (by omega)) (by rw [ux_j x (by omega), hb]; omega) (by rw [okm_or, ho, okm_cb hc (by omega) (by omega), hcc i (by omega) j hj, y]; rfl)
          rw [ux_j x (by omega)] at ih
          exact ih
        · have y' : (c i).testBit j = false := by simpa using y
          rw [if_neg (by rw [y']; simp)]
          symm
          exact sx_bad r _ _ _ _ _ (by rw [okm_or, okm_cb hc (by omega) (by omega), hcc i (by omega) j hj, y', Bool.and_false])
theorem pE_bc {c : Nat → Nat} {w : Nat} (hw : w ≤ 6) : ∀ i x, x ∈ pE c w i → bc (ux x) ≤ i
  | 0, x, h => by
    rw [pE, List.mem_singleton] at h
    subst h
    decide
  | i + 1, x, h => by
    rw [pE, List.mem_flatMap] at h
    obtain ⟨y, hy, hx⟩ := h
    have ih := pE_bc hw i y hy
    obtain ⟨j, e, hj⟩ := pX_mem hx
    rw [e, ux_app]
    rcases hj with hj | hj
    · rw [if_pos hj]; omega
    · rw [if_neg (by omega), bc_or _ (pE_ok hw i y hy).2.1 j (by omega) hj.2.2]
      omega
theorem sx_all {hc : Nat → Nat → Bool} {c : Nat → Nat} {n sh p0 c0 : Nat} (hn : n ≤ 6) (hcc : ∀ i, i < n → ∀ j, j < n → hc i j = (c i).testBit j) : (pE c n n).countP (qX n sh p0 c0) = (sxk n n 0 [] 0 0 0).countP (qE hc sh p0 c0) := by
  have h1 := pE_pd c n n 0
  have h2 := sx_ok (sh := sh) (p0 := p0) (c0 := c0) hn hcc n 0 [] 0 0 (by omega) rfl (by decide) (by decide) (okm_0 hc)
  rw [Nat.zero_add] at h1
  rw [h1, pE, List.flatMap_singleton]
  exact h2
/-- the model's number of rounds -/
theorem rd_sx {hc : Nat → Nat → Bool} {c : Nat → Nat} {n K M : Nat} (hn : n ≤ 6) (hK : K ≤ n) (hcc : ∀ i, i < n → ∀ j, j < n → hc i j = (c i).testBit j) : (tE c n n 0 0 K).countP (fun x => decide (rM (xf x) n 99 n = M)) = (sxk n n 0 [] 0 0 0).countP (qE hc 1 (n - K) M) := by
  rw [← sx_all hn hcc, pE_tE hn, List.countP_filter]
  refine List.countP_congr (fun x hx => ?_)
  have hb := pE_bc hn n x hx
  obtain ⟨h1, h2, h3⟩ := pE_ok hn n x hx
  have h4 := rMn_ok (sh := 1) hn (by omega) (tv_x h1 h3) n (Nat.le_refl _)
  have h5 : rM (xf x) n 1 n = 0 := by
    have key : ∀ q, rM (xf x) n 1 q = 0 ∨ n < q := fun q => by
      induction q with
      | zero => exact Or.inl rfl
      | succ q ih =>
        by_cases z : n < q + 1
        · exact Or.inr z
        · refine Or.inl ?_
          rw [rM, ih.resolve_right (by omega), Nat.zero_add]
          refine if_neg (fun y => ?_)
          have lt := rB_lt hn (tv_x h1 h3) (show q < n by omega)
          have b0 : ∀ v, v < 64 → bc v < 1 → v = 0 := by decide +kernel
          exact y.1 (b0 _ lt y.2)
    exact (key n).resolve_right (by omega)
  have h6 := h4.mp h5
  unfold qX
  simp only [Bool.and_eq_true, decide_eq_true_eq]
  constructor
  · intro y
    exact ⟨by omega, y.1, h6⟩
  · intro y
    exact ⟨y.2.1, by omega⟩
theorem rd_0 {c : Nat → Nat} {n K : Nat} (P : List Nat → Bool) (hn : n ≤ 6) (hK : n < K) : (tE c n n 0 0 K).countP P = 0 := by
  rw [pE_tE hn, List.countP_filter]
  refine List.countP_eq_zero.mpr (fun x hx y => ?_)
  have hb := pE_bc hn n x hx
  rw [Bool.and_eq_true, decide_eq_true_eq] at y
  omega
/-- the model's number of stands of long rings -/
theorem lr_sx {hc : Nat → Nat → Bool} {c : Nat → Nat} {n sh : Nat} (hn : n ≤ 6) (hsh : sh ≤ 7) (hcc : ∀ i, i < n → ∀ j, j < n → hc i j = (c i).testBit j) : (tE c n n 0 0 n).countP (fun x => decide (rM (xf x) n sh n = 0)) = fb_sm (fun M => (sxk n n 0 [] 0 0 0).countP (qE hc sh 0 M)) 7 := by
  have e1 : fb_sm (fun M => (sxk n n 0 [] 0 0 0).countP (qE hc sh 0 M)) 7 = fb_sm (fun M => (pE c n n).countP (qX n sh 0 M)) 7 := fb_sm_cong (fun M _ => (sx_all hn hcc).symm)
  rw [e1, pE_tE hn, List.countP_filter]
  have key : ∀ l : List (List Nat), (∀ x, x ∈ l → x ∈ pE c n n) → l.countP (fun x => decide (rM (xf x) n sh n = 0) && decide (bc (ux x) = n)) = fb_sm (fun M => l.countP (qX n sh 0 M)) 7 := fun l => by
    induction l with
    | nil =>
      intro _
      exact (fb_sm_0 (fun _ _ => rfl)).symm
    | cons x l ih =>
      intro hl
      have hx := hl x List.mem_cons_self
      have hb := pE_bc hn n x hx
      obtain ⟨h1, h2, h3⟩ := pE_ok hn n x hx
      have h4 := rMn_ok (sh := sh) hn hsh (tv_x h1 h3) n (Nat.le_refl _)
      have hle : ∀ q, rM (xf x) n 99 q ≤ q := fun q => by
        induction q with
        | zero => exact Nat.le_refl _
        | succ q ih =>
          rw [rM]
          split <;> omega
      have h99 := hle n
      rw [List.countP_cons, ih (fun y hy => hl y (List.mem_cons_of_mem _ hy))]
      have e2 : fb_sm (fun M => (x :: l).countP (qX n sh 0 M)) 7 = fb_sm (fun M => l.countP (qX n sh 0 M)) 7 + (if (decide (rM (xf x) n sh n = 0) && decide (bc (ux x) = n)) = true then 1 else 0) := by
        refine fb_sm_one (k := rM (xf x) n 99 n) (by omega) (fun M _ hM => ?_) ?_
        · rw [List.countP_cons, if_neg, Nat.add_zero]
          unfold qX
          intro y
          simp only [Bool.and_eq_true, decide_eq_true_eq] at y
          exact hM y.2.1.symm
        · rw [List.countP_cons]
          congr 1
          have : (qX n sh 0 (rM (xf x) n 99 n) x = true) ↔ ((decide (rM (xf x) n sh n = 0) && decide (bc (ux x) = n)) = true) := by
            unfold qX
            simp only [Bool.and_eq_true, decide_eq_true_eq, h4]
            constructor
            · intro y; exact ⟨y.2.2, by omega⟩
            · intro y; exact ⟨by omega, trivial, y.1⟩
          simp only [this]
      rw [e2]
  exact key _ (fun _ h => h)
