/-! the model: its heap as a function of its state -/
/-- ints, longs by their fields; int arrays, long arrays by their places behind the object -/
abbrev md_S : Type := (Nat → Int32) × (Nat → Int64) × (Nat → Nat → Int32) × (Nat → Nat → Int64)
def gI (s : md_S) (k : Nat) : Int32 := s.1 k
def gL (s : md_S) (k : Nat) : Int64 := s.2.1 k
def gA (s : md_S) (k : Nat) : Nat → Int32 := s.2.2.1 k
def gB (s : md_S) (k : Nat) : Nat → Int64 := s.2.2.2 k
def sI (s : md_S) (k : Nat) (x : Int32) : md_S := (upd s.1 k x, s.2)
def sL (s : md_S) (k : Nat) (x : Int64) : md_S := (s.1, vp_updL s.2.1 k x, s.2.2)
def sA (s : md_S) (k : Nat) (p : Nat → Int32) : md_S := (s.1, s.2.1, va_up s.2.2.1 k p, s.2.2.2)
def sB (s : md_S) (k : Nat) (p : Nat → Int64) : md_S := (s.1, s.2.1, s.2.2.1, va_up s.2.2.2 k p)
theorem gs_II (s : md_S) (k j : Nat) (x : Int32) : gI (sI s k x) j = if j = k then x else gI s j := rfl
theorem gs_IL (s : md_S) (k j : Nat) (x : Int64) : gI (sL s k x) j = gI s j := rfl
theorem gs_IA (s : md_S) (k j : Nat) (x : Nat → Int32) : gI (sA s k x) j = gI s j := rfl
theorem gs_IB (s : md_S) (k j : Nat) (x : Nat → Int64) : gI (sB s k x) j = gI s j := rfl
theorem gs_LI (s : md_S) (k j : Nat) (x : Int32) : gL (sI s k x) j = gL s j := rfl
theorem gs_LL (s : md_S) (k j : Nat) (x : Int64) : gL (sL s k x) j = if j = k then x else gL s j := rfl
theorem gs_LA (s : md_S) (k j : Nat) (x : Nat → Int32) : gL (sA s k x) j = gL s j := rfl
theorem gs_LB (s : md_S) (k j : Nat) (x : Nat → Int64) : gL (sB s k x) j = gL s j := rfl
theorem gs_AI (s : md_S) (k j : Nat) (x : Int32) : gA (sI s k x) j = gA s j := rfl
theorem gs_AL (s : md_S) (k j : Nat) (x : Int64) : gA (sL s k x) j = gA s j := rfl
theorem gs_AA (s : md_S) (k j : Nat) (x : Nat → Int32) : gA (sA s k x) j = if j = k then x else gA s j := rfl
theorem gs_AB (s : md_S) (k j : Nat) (x : Nat → Int64) : gA (sB s k x) j = gA s j := rfl
theorem gs_BI (s : md_S) (k j : Nat) (x : Int32) : gB (sI s k x) j = gB s j := rfl
theorem gs_BL (s : md_S) (k j : Nat) (x : Int64) : gB (sL s k x) j = gB s j := rfl
theorem gs_BA (s : md_S) (k j : Nat) (x : Nat → Int32) : gB (sA s k x) j = gB s j := rfl
theorem gs_BB (s : md_S) (k j : Nat) (x : Nat → Int64) : gB (sB s k x) j = if j = k then x else gB s j := rfl
theorem sA_id (s : md_S) (k : Nat) : sA s k (gA s k) = s := by unfold sA gA; rw [va_up_id _ _ rfl]
theorem sA_A (s : md_S) (k : Nat) (p q : Nat → Int32) : sA (sA s k p) k q = sA s k q := by unfold sA; simp only [va_up_up]
theorem sB_id (s : md_S) (k : Nat) : sB s k (gB s k) = s := by unfold sB gB; rw [va_up_id _ _ rfl]
theorem sB_B (s : md_S) (k : Nat) (p q : Nat → Int64) : sB (sB s k p) k q = sB s k q := by unfold sB; simp only [va_up_up]
def md_o (m : Nat) (s : md_S) : qm_C := .inr (9, [.int (gI s 0), .ref (m + 1), .int (gI s 2), .long (gL s 3), .long (gL s 4), .long (gL s 5), .ref (m + 2), .ref (m + 3), .ref (m + 4), .ref (m + 5), .ref (m + 6), .ref (m + 7), .ref (m + 8), .ref (m + 9), .ref (m + 10), .ref (m + 11), .ref (m + 12), .ref (m + 13), .ref (m + 14), .ref (m + 15), .ref (m + 16), .int (gI s 21), .ref (m + 17), .int (gI s 23), .int (gI s 24), .int (gI s 25), .int (gI s 26), .int (gI s 27), .long (gL s 28), .long (gL s 29), .int (gI s 30), .int (gI s 31), .int (gI s 32), .ref (m + 18)])
def md_n (j : Nat) : Nat := match j with
  | 1 => 6
  | 2 => 8
  | 3 => 288
  | 4 => 36
  | 5 => 12
  | 6 => 12
  | 7 => 12
  | 8 => 72
  | 9 => 12
  | 10 => 6
  | 11 => 64
  | 12 => 7
  | 13 => 7
  | 14 => 6
  | 15 => 6
  | 16 => 6
  | 17 => 6
  | 18 => 2048
  | _ => 0
def md_l (j : Nat) : Bool := match j with
  | 11 => true
  | 12 => true
  | 13 => true
  | 18 => true
  | _ => false
def md_a (s : md_S) (j : Nat) : qm_C := if md_l j = true then .inl (1, md_n j, .inr (.inl (gB s j))) else .inl (0, md_n j, .inl (gA s j))
def mh (m : Nat) (g : Nat → qm_C) (s : md_S) : Nat → qm_C := fun a => if a < m ∨ m + 19 ≤ a then g a else if a = m then md_o m s else md_a s (a - m)
section MH
variable (X : qm_X) (N S m : Nat) (g : Nat → qm_C) (s : md_S)
theorem mh_0 : mh m g s m = md_o m s := by
  unfold mh
  rw [if_neg (by omega), if_pos rfl]
theorem mh_at {j : Nat} (h1 : 1 ≤ j) (h2 : j ≤ 18) : mh m g s (m + j) = md_a s j := by
  unfold mh
  rw [if_neg (by omega), if_neg (by omega), Nat.add_sub_cancel_left]
theorem mh_out {a : Nat} (h : a < m ∨ m + 19 ≤ a) : mh m g s a = g a := if_pos h
theorem mh_wo (s' : md_S) (h : s'.2.2 = s.2.2) : va_up (mh m g s) m (md_o m s') = mh m g s' := by
  funext a
  unfold va_up
  by_cases e : a = m
  · rw [if_pos e, e, mh_0]
  · rw [if_neg e]
    unfold mh
    rw [if_neg e, if_neg e]
    unfold md_a gA gB
    rw [h]
theorem mh_wA (j : Nat) (h1 : 1 ≤ j) (h2 : j ≤ 18) (hl : md_l j = false) (p : Nat → Int32) : va_up (mh m g s) (m + j) (.inl (0, md_n j, .inl p)) = mh m g (sA s j p) := by
  funext a
  unfold va_up
  by_cases e : a = m + j
  · rw [if_pos e, e, mh_at m g _ h1 h2]
    unfold md_a
    simp only [hl, gs_AA, ↓reduceIte, Bool.false_eq_true]
  · rw [if_neg e]
    unfold mh
    by_cases e2 : a < m ∨ m + 19 ≤ a
    · rw [if_pos e2, if_pos e2]
    · rw [if_neg e2, if_neg e2]
      by_cases e3 : a = m
      · rw [if_pos e3, if_pos e3]
        rfl
      · rw [if_neg e3, if_neg e3]
        unfold md_a
        have e5 : ¬ a - m = j := by omega
        simp only [gs_AA, gs_BA, e5, ↓reduceIte]
theorem mh_wB (j : Nat) (h1 : 1 ≤ j) (h2 : j ≤ 18) (hl : md_l j = true) (p : Nat → Int64) : va_up (mh m g s) (m + j) (.inl (1, md_n j, .inr (.inl p))) = mh m g (sB s j p) := by
  funext a
  unfold va_up
  by_cases e : a = m + j
  · rw [if_pos e, e, mh_at m g _ h1 h2]
    unfold md_a
    simp only [hl, gs_BB, ↓reduceIte]
  · rw [if_neg e]
    unfold mh
    by_cases e2 : a < m ∨ m + 19 ≤ a
    · rw [if_pos e2, if_pos e2]
    · rw [if_neg e2, if_neg e2]
      by_cases e3 : a = m
      · rw [if_pos e3, if_pos e3]
        rfl
      · rw [if_neg e3, if_neg e3]
        unfold md_a
        have e5 : ¬ a - m = j := by omega
        simp only [gs_BB, gs_AB, e5, ↓reduceIte]
theorem mh_K : qm_isK (N, S, mh m g s) (some (.ref m)) 9 = true := by
  simp only [qm_isK, mh_0, md_o, decide_true]
theorem mg_0 : qm_gf (N, S, mh m g s) m 9 0 = some (.int (gI s 0)) := by
  simp only [qm_gf, mh_0]
  rfl
theorem mg_1 : qm_gf (N, S, mh m g s) m 9 1 = some (.ref (m + 1)) := by
  simp only [qm_gf, mh_0]
  rfl
theorem mg_2 : qm_gf (N, S, mh m g s) m 9 2 = some (.int (gI s 2)) := by
  simp only [qm_gf, mh_0]
  rfl
theorem mg_3 : qm_gf (N, S, mh m g s) m 9 3 = some (.long (gL s 3)) := by
  simp only [qm_gf, mh_0]
  rfl
theorem mg_4 : qm_gf (N, S, mh m g s) m 9 4 = some (.long (gL s 4)) := by
  simp only [qm_gf, mh_0]
  rfl
theorem mg_5 : qm_gf (N, S, mh m g s) m 9 5 = some (.long (gL s 5)) := by
  simp only [qm_gf, mh_0]
  rfl
theorem mg_6 : qm_gf (N, S, mh m g s) m 9 6 = some (.ref (m + 2)) := by
  simp only [qm_gf, mh_0]
  rfl
theorem mg_7 : qm_gf (N, S, mh m g s) m 9 7 = some (.ref (m + 3)) := by
  simp only [qm_gf, mh_0]
  rfl
theorem mg_8 : qm_gf (N, S, mh m g s) m 9 8 = some (.ref (m + 4)) := by
  simp only [qm_gf, mh_0]
  rfl
theorem mg_9 : qm_gf (N, S, mh m g s) m 9 9 = some (.ref (m + 5)) := by
  simp only [qm_gf, mh_0]
  rfl
theorem mg_10 : qm_gf (N, S, mh m g s) m 9 10 = some (.ref (m + 6)) := by
  simp only [qm_gf, mh_0]
  rfl
theorem mg_11 : qm_gf (N, S, mh m g s) m 9 11 = some (.ref (m + 7)) := by
  simp only [qm_gf, mh_0]
  rfl
theorem mg_12 : qm_gf (N, S, mh m g s) m 9 12 = some (.ref (m + 8)) := by
  simp only [qm_gf, mh_0]
  rfl
theorem mg_13 : qm_gf (N, S, mh m g s) m 9 13 = some (.ref (m + 9)) := by
  simp only [qm_gf, mh_0]
  rfl
theorem mg_14 : qm_gf (N, S, mh m g s) m 9 14 = some (.ref (m + 10)) := by
  simp only [qm_gf, mh_0]
  rfl
theorem mg_15 : qm_gf (N, S, mh m g s) m 9 15 = some (.ref (m + 11)) := by
  simp only [qm_gf, mh_0]
  rfl
theorem mg_16 : qm_gf (N, S, mh m g s) m 9 16 = some (.ref (m + 12)) := by
  simp only [qm_gf, mh_0]
  rfl
theorem mg_17 : qm_gf (N, S, mh m g s) m 9 17 = some (.ref (m + 13)) := by
  simp only [qm_gf, mh_0]
  rfl
theorem mg_18 : qm_gf (N, S, mh m g s) m 9 18 = some (.ref (m + 14)) := by
  simp only [qm_gf, mh_0]
  rfl
theorem mg_19 : qm_gf (N, S, mh m g s) m 9 19 = some (.ref (m + 15)) := by
  simp only [qm_gf, mh_0]
  rfl
theorem mg_20 : qm_gf (N, S, mh m g s) m 9 20 = some (.ref (m + 16)) := by
  simp only [qm_gf, mh_0]
  rfl
theorem mg_21 : qm_gf (N, S, mh m g s) m 9 21 = some (.int (gI s 21)) := by
  simp only [qm_gf, mh_0]
  rfl
theorem mg_22 : qm_gf (N, S, mh m g s) m 9 22 = some (.ref (m + 17)) := by
  simp only [qm_gf, mh_0]
  rfl
theorem mg_23 : qm_gf (N, S, mh m g s) m 9 23 = some (.int (gI s 23)) := by
  simp only [qm_gf, mh_0]
  rfl
theorem mg_24 : qm_gf (N, S, mh m g s) m 9 24 = some (.int (gI s 24)) := by
  simp only [qm_gf, mh_0]
  rfl
theorem mg_25 : qm_gf (N, S, mh m g s) m 9 25 = some (.int (gI s 25)) := by
  simp only [qm_gf, mh_0]
  rfl
theorem mg_26 : qm_gf (N, S, mh m g s) m 9 26 = some (.int (gI s 26)) := by
  simp only [qm_gf, mh_0]
  rfl
theorem mg_27 : qm_gf (N, S, mh m g s) m 9 27 = some (.int (gI s 27)) := by
  simp only [qm_gf, mh_0]
  rfl
theorem mg_28 : qm_gf (N, S, mh m g s) m 9 28 = some (.long (gL s 28)) := by
  simp only [qm_gf, mh_0]
  rfl
theorem mg_29 : qm_gf (N, S, mh m g s) m 9 29 = some (.long (gL s 29)) := by
  simp only [qm_gf, mh_0]
  rfl
theorem mg_30 : qm_gf (N, S, mh m g s) m 9 30 = some (.int (gI s 30)) := by
  simp only [qm_gf, mh_0]
  rfl
theorem mg_31 : qm_gf (N, S, mh m g s) m 9 31 = some (.int (gI s 31)) := by
  simp only [qm_gf, mh_0]
  rfl
theorem mg_32 : qm_gf (N, S, mh m g s) m 9 32 = some (.int (gI s 32)) := by
  simp only [qm_gf, mh_0]
  rfl
theorem mg_33 : qm_gf (N, S, mh m g s) m 9 33 = some (.ref (m + 18)) := by
  simp only [qm_gf, mh_0]
  rfl
theorem mp_0 (x : Int32) : qm_pf (N, S, mh m g s) m 9 0 0 (.int x) = some (N, S, mh m g (sI s 0 x)) := by
  rw [← mh_wo m g s (sI s 0 x) rfl]
  simp only [qm_pf, mh_0]
  rfl
theorem mp_2 (x : Int32) : qm_pf (N, S, mh m g s) m 9 2 0 (.int x) = some (N, S, mh m g (sI s 2 x)) := by
  rw [← mh_wo m g s (sI s 2 x) rfl]
  simp only [qm_pf, mh_0]
  rfl
theorem mp_21 (x : Int32) : qm_pf (N, S, mh m g s) m 9 21 0 (.int x) = some (N, S, mh m g (sI s 21 x)) := by
  rw [← mh_wo m g s (sI s 21 x) rfl]
  simp only [qm_pf, mh_0]
  rfl
theorem mp_23 (x : Int32) : qm_pf (N, S, mh m g s) m 9 23 0 (.int x) = some (N, S, mh m g (sI s 23 x)) := by
  rw [← mh_wo m g s (sI s 23 x) rfl]
  simp only [qm_pf, mh_0]
  rfl
theorem mp_24 (x : Int32) : qm_pf (N, S, mh m g s) m 9 24 0 (.int x) = some (N, S, mh m g (sI s 24 x)) := by
  rw [← mh_wo m g s (sI s 24 x) rfl]
  simp only [qm_pf, mh_0]
  rfl
theorem mp_25 (x : Int32) : qm_pf (N, S, mh m g s) m 9 25 0 (.int x) = some (N, S, mh m g (sI s 25 x)) := by
  rw [← mh_wo m g s (sI s 25 x) rfl]
  simp only [qm_pf, mh_0]
  rfl
theorem mp_26 (x : Int32) : qm_pf (N, S, mh m g s) m 9 26 0 (.int x) = some (N, S, mh m g (sI s 26 x)) := by
  rw [← mh_wo m g s (sI s 26 x) rfl]
  simp only [qm_pf, mh_0]
  rfl
theorem mp_27 (x : Int32) : qm_pf (N, S, mh m g s) m 9 27 0 (.int x) = some (N, S, mh m g (sI s 27 x)) := by
  rw [← mh_wo m g s (sI s 27 x) rfl]
  simp only [qm_pf, mh_0]
  rfl
theorem mp_30 (x : Int32) : qm_pf (N, S, mh m g s) m 9 30 0 (.int x) = some (N, S, mh m g (sI s 30 x)) := by
  rw [← mh_wo m g s (sI s 30 x) rfl]
  simp only [qm_pf, mh_0]
  rfl
theorem mp_31 (x : Int32) : qm_pf (N, S, mh m g s) m 9 31 0 (.int x) = some (N, S, mh m g (sI s 31 x)) := by
  rw [← mh_wo m g s (sI s 31 x) rfl]
  simp only [qm_pf, mh_0]
  rfl
theorem mp_32 (x : Int32) : qm_pf (N, S, mh m g s) m 9 32 0 (.int x) = some (N, S, mh m g (sI s 32 x)) := by
  rw [← mh_wo m g s (sI s 32 x) rfl]
  simp only [qm_pf, mh_0]
  rfl
theorem mp_3 (x : Int64) : qm_pf (N, S, mh m g s) m 9 3 1 (.long x) = some (N, S, mh m g (sL s 3 x)) := by
  rw [← mh_wo m g s (sL s 3 x) rfl]
  simp only [qm_pf, mh_0]
  rfl
theorem mp_4 (x : Int64) : qm_pf (N, S, mh m g s) m 9 4 1 (.long x) = some (N, S, mh m g (sL s 4 x)) := by
  rw [← mh_wo m g s (sL s 4 x) rfl]
  simp only [qm_pf, mh_0]
  rfl
theorem mp_5 (x : Int64) : qm_pf (N, S, mh m g s) m 9 5 1 (.long x) = some (N, S, mh m g (sL s 5 x)) := by
  rw [← mh_wo m g s (sL s 5 x) rfl]
  simp only [qm_pf, mh_0]
  rfl
theorem mp_28 (x : Int64) : qm_pf (N, S, mh m g s) m 9 28 1 (.long x) = some (N, S, mh m g (sL s 28 x)) := by
  rw [← mh_wo m g s (sL s 28 x) rfl]
  simp only [qm_pf, mh_0]
  rfl
theorem mp_29 (x : Int64) : qm_pf (N, S, mh m g s) m 9 29 1 (.long x) = some (N, S, mh m g (sL s 29 x)) := by
  rw [← mh_wo m g s (sL s 29 x) rfl]
  simp only [qm_pf, mh_0]
  rfl
theorem ma_1 (i : Int32) : qm_ia X (N, S, mh m g s) (m + 1) i = if qm_in i 6 = true then some (gA s 1 i.toNatClampNeg) else none := by
  simp only [qm_ia, mh_at m g s (j := 1) (by omega) (by omega)]
  rfl
theorem mas_1 (i x : Int32) : qm_is (N, S, mh m g s) (m + 1) i x = if qm_in i 6 = true then some (N, S, mh m g (sA s 1 (upd (gA s 1) i.toNatClampNeg x))) else none := by
  rw [← mh_wA m g s 1 (by omega) (by omega) rfl]
  simp only [qm_is, mh_at m g s (j := 1) (by omega) (by omega)]
  rfl
theorem ma_2 (i : Int32) : qm_ia X (N, S, mh m g s) (m + 2) i = if qm_in i 8 = true then some (gA s 2 i.toNatClampNeg) else none := by
  simp only [qm_ia, mh_at m g s (j := 2) (by omega) (by omega)]
  rfl
theorem mas_2 (i x : Int32) : qm_is (N, S, mh m g s) (m + 2) i x = if qm_in i 8 = true then some (N, S, mh m g (sA s 2 (upd (gA s 2) i.toNatClampNeg x))) else none := by
  rw [← mh_wA m g s 2 (by omega) (by omega) rfl]
  simp only [qm_is, mh_at m g s (j := 2) (by omega) (by omega)]
  rfl
theorem ma_3 (i : Int32) : qm_ia X (N, S, mh m g s) (m + 3) i = if qm_in i 288 = true then some (gA s 3 i.toNatClampNeg) else none := by
  simp only [qm_ia, mh_at m g s (j := 3) (by omega) (by omega)]
  rfl
theorem mas_3 (i x : Int32) : qm_is (N, S, mh m g s) (m + 3) i x = if qm_in i 288 = true then some (N, S, mh m g (sA s 3 (upd (gA s 3) i.toNatClampNeg x))) else none := by
  rw [← mh_wA m g s 3 (by omega) (by omega) rfl]
  simp only [qm_is, mh_at m g s (j := 3) (by omega) (by omega)]
  rfl
theorem ma_4 (i : Int32) : qm_ia X (N, S, mh m g s) (m + 4) i = if qm_in i 36 = true then some (gA s 4 i.toNatClampNeg) else none := by
  simp only [qm_ia, mh_at m g s (j := 4) (by omega) (by omega)]
  rfl
theorem mas_4 (i x : Int32) : qm_is (N, S, mh m g s) (m + 4) i x = if qm_in i 36 = true then some (N, S, mh m g (sA s 4 (upd (gA s 4) i.toNatClampNeg x))) else none := by
  rw [← mh_wA m g s 4 (by omega) (by omega) rfl]
  simp only [qm_is, mh_at m g s (j := 4) (by omega) (by omega)]
  rfl
theorem ma_5 (i : Int32) : qm_ia X (N, S, mh m g s) (m + 5) i = if qm_in i 12 = true then some (gA s 5 i.toNatClampNeg) else none := by
  simp only [qm_ia, mh_at m g s (j := 5) (by omega) (by omega)]
  rfl
theorem mas_5 (i x : Int32) : qm_is (N, S, mh m g s) (m + 5) i x = if qm_in i 12 = true then some (N, S, mh m g (sA s 5 (upd (gA s 5) i.toNatClampNeg x))) else none := by
  rw [← mh_wA m g s 5 (by omega) (by omega) rfl]
  simp only [qm_is, mh_at m g s (j := 5) (by omega) (by omega)]
  rfl
theorem ma_6 (i : Int32) : qm_ia X (N, S, mh m g s) (m + 6) i = if qm_in i 12 = true then some (gA s 6 i.toNatClampNeg) else none := by
  simp only [qm_ia, mh_at m g s (j := 6) (by omega) (by omega)]
  rfl
theorem mas_6 (i x : Int32) : qm_is (N, S, mh m g s) (m + 6) i x = if qm_in i 12 = true then some (N, S, mh m g (sA s 6 (upd (gA s 6) i.toNatClampNeg x))) else none := by
  rw [← mh_wA m g s 6 (by omega) (by omega) rfl]
  simp only [qm_is, mh_at m g s (j := 6) (by omega) (by omega)]
  rfl
theorem ma_7 (i : Int32) : qm_ia X (N, S, mh m g s) (m + 7) i = if qm_in i 12 = true then some (gA s 7 i.toNatClampNeg) else none := by
  simp only [qm_ia, mh_at m g s (j := 7) (by omega) (by omega)]
  rfl
theorem mas_7 (i x : Int32) : qm_is (N, S, mh m g s) (m + 7) i x = if qm_in i 12 = true then some (N, S, mh m g (sA s 7 (upd (gA s 7) i.toNatClampNeg x))) else none := by
  rw [← mh_wA m g s 7 (by omega) (by omega) rfl]
  simp only [qm_is, mh_at m g s (j := 7) (by omega) (by omega)]
  rfl
theorem ma_8 (i : Int32) : qm_ia X (N, S, mh m g s) (m + 8) i = if qm_in i 72 = true then some (gA s 8 i.toNatClampNeg) else none := by
  simp only [qm_ia, mh_at m g s (j := 8) (by omega) (by omega)]
  rfl
theorem mas_8 (i x : Int32) : qm_is (N, S, mh m g s) (m + 8) i x = if qm_in i 72 = true then some (N, S, mh m g (sA s 8 (upd (gA s 8) i.toNatClampNeg x))) else none := by
  rw [← mh_wA m g s 8 (by omega) (by omega) rfl]
  simp only [qm_is, mh_at m g s (j := 8) (by omega) (by omega)]
  rfl
theorem ma_9 (i : Int32) : qm_ia X (N, S, mh m g s) (m + 9) i = if qm_in i 12 = true then some (gA s 9 i.toNatClampNeg) else none := by
  simp only [qm_ia, mh_at m g s (j := 9) (by omega) (by omega)]
  rfl
theorem mas_9 (i x : Int32) : qm_is (N, S, mh m g s) (m + 9) i x = if qm_in i 12 = true then some (N, S, mh m g (sA s 9 (upd (gA s 9) i.toNatClampNeg x))) else none := by
  rw [← mh_wA m g s 9 (by omega) (by omega) rfl]
  simp only [qm_is, mh_at m g s (j := 9) (by omega) (by omega)]
  rfl
theorem ma_10 (i : Int32) : qm_ia X (N, S, mh m g s) (m + 10) i = if qm_in i 6 = true then some (gA s 10 i.toNatClampNeg) else none := by
  simp only [qm_ia, mh_at m g s (j := 10) (by omega) (by omega)]
  rfl
theorem mas_10 (i x : Int32) : qm_is (N, S, mh m g s) (m + 10) i x = if qm_in i 6 = true then some (N, S, mh m g (sA s 10 (upd (gA s 10) i.toNatClampNeg x))) else none := by
  rw [← mh_wA m g s 10 (by omega) (by omega) rfl]
  simp only [qm_is, mh_at m g s (j := 10) (by omega) (by omega)]
  rfl
theorem ml_11 (i : Int32) : qm_la (N, S, mh m g s) (m + 11) i = if qm_in i 64 = true then some (gB s 11 i.toNatClampNeg) else none := by
  simp only [qm_la, mh_at m g s (j := 11) (by omega) (by omega)]
  rfl
theorem mls_11 (i : Int32) (x : Int64) : qm_ls (N, S, mh m g s) (m + 11) i x = if qm_in i 64 = true then some (N, S, mh m g (sB s 11 (vp_updL (gB s 11) i.toNatClampNeg x))) else none := by
  rw [← mh_wB m g s 11 (by omega) (by omega) rfl]
  simp only [qm_ls, mh_at m g s (j := 11) (by omega) (by omega)]
  rfl
theorem ml_12 (i : Int32) : qm_la (N, S, mh m g s) (m + 12) i = if qm_in i 7 = true then some (gB s 12 i.toNatClampNeg) else none := by
  simp only [qm_la, mh_at m g s (j := 12) (by omega) (by omega)]
  rfl
theorem mls_12 (i : Int32) (x : Int64) : qm_ls (N, S, mh m g s) (m + 12) i x = if qm_in i 7 = true then some (N, S, mh m g (sB s 12 (vp_updL (gB s 12) i.toNatClampNeg x))) else none := by
  rw [← mh_wB m g s 12 (by omega) (by omega) rfl]
  simp only [qm_ls, mh_at m g s (j := 12) (by omega) (by omega)]
  rfl
theorem ml_13 (i : Int32) : qm_la (N, S, mh m g s) (m + 13) i = if qm_in i 7 = true then some (gB s 13 i.toNatClampNeg) else none := by
  simp only [qm_la, mh_at m g s (j := 13) (by omega) (by omega)]
  rfl
theorem mls_13 (i : Int32) (x : Int64) : qm_ls (N, S, mh m g s) (m + 13) i x = if qm_in i 7 = true then some (N, S, mh m g (sB s 13 (vp_updL (gB s 13) i.toNatClampNeg x))) else none := by
  rw [← mh_wB m g s 13 (by omega) (by omega) rfl]
  simp only [qm_ls, mh_at m g s (j := 13) (by omega) (by omega)]
  rfl
theorem ma_14 (i : Int32) : qm_ia X (N, S, mh m g s) (m + 14) i = if qm_in i 6 = true then some (gA s 14 i.toNatClampNeg) else none := by
  simp only [qm_ia, mh_at m g s (j := 14) (by omega) (by omega)]
  rfl
theorem mas_14 (i x : Int32) : qm_is (N, S, mh m g s) (m + 14) i x = if qm_in i 6 = true then some (N, S, mh m g (sA s 14 (upd (gA s 14) i.toNatClampNeg x))) else none := by
  rw [← mh_wA m g s 14 (by omega) (by omega) rfl]
  simp only [qm_is, mh_at m g s (j := 14) (by omega) (by omega)]
  rfl
theorem ma_15 (i : Int32) : qm_ia X (N, S, mh m g s) (m + 15) i = if qm_in i 6 = true then some (gA s 15 i.toNatClampNeg) else none := by
  simp only [qm_ia, mh_at m g s (j := 15) (by omega) (by omega)]
  rfl
theorem mas_15 (i x : Int32) : qm_is (N, S, mh m g s) (m + 15) i x = if qm_in i 6 = true then some (N, S, mh m g (sA s 15 (upd (gA s 15) i.toNatClampNeg x))) else none := by
  rw [← mh_wA m g s 15 (by omega) (by omega) rfl]
  simp only [qm_is, mh_at m g s (j := 15) (by omega) (by omega)]
  rfl
theorem ma_16 (i : Int32) : qm_ia X (N, S, mh m g s) (m + 16) i = if qm_in i 6 = true then some (gA s 16 i.toNatClampNeg) else none := by
  simp only [qm_ia, mh_at m g s (j := 16) (by omega) (by omega)]
  rfl
theorem mas_16 (i x : Int32) : qm_is (N, S, mh m g s) (m + 16) i x = if qm_in i 6 = true then some (N, S, mh m g (sA s 16 (upd (gA s 16) i.toNatClampNeg x))) else none := by
  rw [← mh_wA m g s 16 (by omega) (by omega) rfl]
  simp only [qm_is, mh_at m g s (j := 16) (by omega) (by omega)]
  rfl
theorem ma_17 (i : Int32) : qm_ia X (N, S, mh m g s) (m + 17) i = if qm_in i 6 = true then some (gA s 17 i.toNatClampNeg) else none := by
  simp only [qm_ia, mh_at m g s (j := 17) (by omega) (by omega)]
  rfl
theorem mas_17 (i x : Int32) : qm_is (N, S, mh m g s) (m + 17) i x = if qm_in i 6 = true then some (N, S, mh m g (sA s 17 (upd (gA s 17) i.toNatClampNeg x))) else none := by
  rw [← mh_wA m g s 17 (by omega) (by omega) rfl]
  simp only [qm_is, mh_at m g s (j := 17) (by omega) (by omega)]
  rfl
theorem ml_18 (i : Int32) : qm_la (N, S, mh m g s) (m + 18) i = if qm_in i 2048 = true then some (gB s 18 i.toNatClampNeg) else none := by
  simp only [qm_la, mh_at m g s (j := 18) (by omega) (by omega)]
  rfl
theorem mls_18 (i : Int32) (x : Int64) : qm_ls (N, S, mh m g s) (m + 18) i x = if qm_in i 2048 = true then some (N, S, mh m g (sB s 18 (vp_updL (gB s 18) i.toNatClampNeg x))) else none := by
  rw [← mh_wB m g s 18 (by omega) (by omega) rfl]
  simp only [qm_ls, mh_at m g s (j := 18) (by omega) (by omega)]
  rfl
end MH
/-- a loop upward: F is what is left to run, P what holds -/
theorem gl {σ : Type} {α : Type} (F : Nat → σ → α) (P : Nat → σ → Prop) (n : Nat) (hs : ∀ q s, q < n → P q s → ∃ s', F q s = F (q + 1) s' ∧ P (q + 1) s') : ∀ r q s, q + r = n → P q s → ∃ s', F q s = F n s' ∧ P n s'
  | 0, q, s, e, h => by
    have e' : q = n := by omega
    subst e'
    exact ⟨s, rfl, h⟩
  | r + 1, q, s, e, h => by
    obtain ⟨s1, e1, h1⟩ := hs q s (by omega) h
    obtain ⟨s2, e2, h2⟩ := gl F P n hs r (q + 1) s1 (by omega) h1
    exact ⟨s2, e1.trans e2, h2⟩
/-- the same, from 0 -/
theorem gl0 {σ : Type} {α : Type} (F : Nat → σ → α) (P : Nat → σ → Prop) (n : Nat) (s : σ) (h : P 0 s) (hs : ∀ q s, q < n → P q s → ∃ s', F q s = F (q + 1) s' ∧ P (q + 1) s') : ∃ s', F 0 s = F n s' ∧ P n s' := gl F P n hs n 0 s (by omega) h
/-- a loop whose state is a function of its counter -/
theorem glf {α : Type} (F : Nat → α) (n : Nat) (hs : ∀ q, q < n → F q = F (q + 1)) : ∀ r q, q + r = n → F q = F n
  | 0, q, e => by
    have e' : q = n := by omega
    rw [e']
  | r + 1, q, e => (hs q (by omega)).trans (glf F n hs r (q + 1) (by omega))
theorem glf0 {α : Type} (F : Nat → α) (n : Nat) (hs : ∀ q, q < n → F q = F (q + 1)) : F 0 = F n := glf F n hs n 0 (by omega)
