/-! the state of the class: what its cells hold -/
/-- rows: sizes, places -/
abbrev ss_R : Type := (Nat → Int32) × (Nat → Nat → Int32)
/-- boards: kind, height, width, cells -/
abbrev ss_B : Type := (Nat → Int32) × (Nat → Nat) × (Nat → Nat) × (Nat → Nat → Int32)
/-- what is told: counts of findings, ways, asked, upper, lower, finding -/
abbrev ss_T : Type := (Nat → Int32) × Int64 × Int32 × Int64 × Int64 × Int32
def ss_o (z : Nat) (t : ss_T) : qm_C := .inr (8, [.ref (z + 1), .ref (z + 2), .ref (z + 3), .ref (z + 4), .ref (z + 6), .ref (z + 9), .ref (z + 12), .ref (z + 14), .ref (z + 16), .ref (z + 19), .ref (z + 21), .long t.2.1, .int t.2.2.1, .long t.2.2.2.1, .long t.2.2.2.2.1, .int t.2.2.2.2.2])
/-- the cells that are neither rows nor boards; most hold what no answer depends on -/
def tbP (z : Nat) (t : ss_T) (j : Nat) (c : qm_C) : Prop := match j with
  | 0 => c = ss_o z t
  | 1 => ∃ g : Nat → Option Nat, (∀ k, k < 8 → g k = some (z + 26 + 2 * k)) ∧ c = .inl (2, 8, .inr (.inr (.inr (.inr g))))
  | 2 => ∃ g : Nat → Option Nat, (∀ k, k < 12 → g k = some (z + 42 + 2 * k)) ∧ c = .inl (3, 12, .inr (.inr (.inr (.inr g))))
  | 3 => c = .inl (0, 6, .inl t.1)
  | 4 => ∃ x y w : Int32, c = .inr (1, [.int x, .int y, .int w, .ref (z + 5)])
  | 5 => ∃ v : Nat → Int32, c = .inl (0, 6, .inl v)
  | 6 => c = .inr (5, [.ref (z + 7), .ref (z + 8)])
  | 7 => ∃ v : Nat → Int32, c = .inl (0, 64, .inl v)
  | 8 => ∃ v : Nat → Int32, c = .inl (0, 7, .inl v)
  | 9 => c = .inr (5, [.ref (z + 10), .ref (z + 11)])
  | 10 => ∃ v : Nat → Int32, c = .inl (0, 64, .inl v)
  | 11 => ∃ v : Nat → Int32, c = .inl (0, 7, .inl v)
  | 12 => c = .inr (6, [.ref (z + 13)])
  | 13 => ∃ v : Nat → Int32, c = .inl (0, 448, .inl v)
  | 14 => c = .inr (2, [.ref (z + 15)])
  | 15 => ∃ v : Nat → Int32, c = .inl (0, 2368, .inl v)
  | 16 => ∃ l h : Int32, c = .inr (4, [.ref (z + 17), .ref (z + 18), .int l, .int h])
  | 17 => ∃ v : Nat → Int32, c = .inl (0, 64, .inl v)
  | 18 => ∃ v : Nat → Int32, c = .inl (0, 64, .inl v)
  | 19 => ∃ l : Int32, c = .inr (3, [.int l, .ref (z + 20)])
  | 20 => ∃ v : Nat → Int32, c = .inl (0, 6, .inl v)
  | 21 => ∃ l : Int32, c = .inr (0, [.ref (z + 22), .ref (z + 23), .ref (z + 24), .ref (z + 25), .int l])
  | 22 => ∃ v : Nat → Int32, c = .inl (0, 384, .inl v)
  | 23 => ∃ v : Nat → Int32, c = .inl (0, 64, .inl v)
  | 24 => ∃ v : Nat → Int32, c = .inl (0, 64, .inl v)
  | 25 => ∃ v : Nat → Int32, c = .inl (0, 3136, .inl v)
  | _ => False
def ss_row (z : Nat) (r : ss_R) (k : Nat) : qm_C := .inr (7, [.int (r.1 k), .ref (z + 27 + 2 * k)])
def ss_brd (z : Nat) (b : ss_B) (k : Nat) : qm_C := .inr (1, [.int (b.1 k), .int (nI (b.2.1 k)), .int (nI (b.2.2.1 k)), .ref (z + 43 + 2 * k)])
/-- the heap f holds the class's state at z, and is elsewhere as g is -/
def TBk (z : Nat) (g : Nat → qm_C) (r : ss_R) (b : ss_B) (t : ss_T) (f : Nat → qm_C) : Prop :=
  (∀ j, j < 26 → tbP z t j (f (z + j))) ∧ (∀ k, k < 8 → f (z + 26 + 2 * k) = ss_row z r k ∧ f (z + 27 + 2 * k) = .inl (0, 36, .inl (r.2 k))) ∧ (∀ k, k < 12 → f (z + 42 + 2 * k) = ss_brd z b k ∧ f (z + 43 + 2 * k) = .inl (0, 6, .inl (b.2.2.2 k))) ∧ (∀ j, j < z ∨ z + 66 ≤ j → f j = g j)
theorem tk_w {z : Nat} {g f : Nat → qm_C} {r : ss_R} {b : ss_B} {t t' : ss_T} (j0 : Nat) {v : qm_C} (h0 : j0 < 26) (h : TBk z g r b t f) (hj : ∀ j, j < 26 → j ≠ j0 → ∀ c, tbP z t j c → tbP z t' j c) (hv : tbP z t' j0 v) : TBk z g r b t' (va_up f (z + j0) v) := by
  refine ⟨fun j h1 => ?_, fun k hk => ?_, fun k hk => ?_, fun j h1 => ?_⟩
  · by_cases e : j = j0
    · subst e
      rw [va_up_self]
      exact hv
    · rw [va_up_ne _ _ (by omega)]
      exact hj j h1 e _ (h.1 j h1)
  · rw [va_up_ne _ _ (by omega), va_up_ne _ _ (by omega)]
    exact h.2.1 k hk
  · rw [va_up_ne _ _ (by omega), va_up_ne _ _ (by omega)]
    exact h.2.2.1 k hk
  · rw [va_up_ne _ _ (by omega)]
    exact h.2.2.2 j h1
/-- a write of what no answer depends on -/
theorem tk_s {z : Nat} {g f : Nat → qm_C} {r : ss_R} {b : ss_B} {t : ss_T} (j0 : Nat) {v : qm_C} (h : TBk z g r b t f) (h0 : j0 < 26) (hv : tbP z t j0 v) : TBk z g r b t (va_up f (z + j0) v) := tk_w j0 h0 h (fun _ _ _ _ h => h) hv
theorem tbP_t {z j : Nat} {c : qm_C} {t t' : ss_T} (h0 : j ≠ 0) (e : t.1 = t'.1) (h : tbP z t j c) : tbP z t' j c := by
  unfold tbP at h ⊢
  split at h
  case h_1 => exact absurd rfl h0
  case h_4 => rw [← e]; exact h
  all_goals exact h
theorem tbP_f {z j : Nat} {c : qm_C} {t t' : ss_T} (h3 : j ≠ 3) (e : t.2 = t'.2) (h : tbP z t j c) : tbP z t' j c := by
  unfold tbP at h ⊢
  split at h
  case h_1 => unfold ss_o at h ⊢; rw [← e]; exact h
  case h_4 => exact absurd rfl h3
  all_goals exact h
/-- a write of what is told -/
theorem tk_t {z : Nat} {g f : Nat → qm_C} {r : ss_R} {b : ss_B} {t : ss_T} (t' : ss_T) (h : TBk z g r b t f) (e : t.1 = t'.1) : TBk z g r b t' (va_up f z (ss_o z t')) := tk_w (t := t) (t' := t') 0 (by omega) h (fun _ _ h0 _ h => tbP_t h0 e h) rfl
theorem tk_f {z : Nat} {g f : Nat → qm_C} {r : ss_R} {b : ss_B} {t : ss_T} (fc : Nat → Int32) (h : TBk z g r b t f) : TBk z g r b (fc, t.2) (va_up f (z + 3) (.inl (0, 6, .inl fc))) := tk_w (t := t) (t' := (fc, t.2)) 3 (by omega) h (fun _ _ h0 _ h => tbP_f (t := t) (t' := (fc, t.2)) h0 rfl h) rfl
theorem tk_rs {z : Nat} {g f : Nat → qm_C} {r : ss_R} {b : ss_B} {t : ss_T} (k : Nat) (x : Int32) (hk : k < 8) (h : TBk z g r b t f) : TBk z g (va_up r.1 k x, r.2) b t (va_up f (z + 26 + 2 * k) (.inr (7, [.int x, .ref (z + 27 + 2 * k)]))) := by
  refine ⟨fun j h1 => ?_, fun i hi => ?_, fun i hi => ?_, fun j h1 => ?_⟩
  · rw [va_up_ne _ _ (by omega)]
    exact h.1 j h1
  · rw [va_up_ne _ (j := z + 27 + 2 * i) _ (by omega)]
    refine ⟨?_, (h.2.1 i hi).2⟩
    by_cases e : i = k
    · subst e
      rw [va_up_self]
      simp only [ss_row, va_up_self]
    · rw [va_up_ne _ _ (by omega), (h.2.1 i hi).1]
      simp only [ss_row, va_up_ne _ _ e]
  · rw [va_up_ne _ _ (by omega), va_up_ne _ _ (by omega)]
    exact h.2.2.1 i hi
  · rw [va_up_ne _ _ (by omega)]
    exact h.2.2.2 j h1
theorem tk_rp {z : Nat} {g f : Nat → qm_C} {r : ss_R} {b : ss_B} {t : ss_T} (k : Nat) (p : Nat → Int32) (hk : k < 8) (h : TBk z g r b t f) : TBk z g (r.1, va_up r.2 k p) b t (va_up f (z + 27 + 2 * k) (.inl (0, 36, .inl p))) := by
  refine ⟨fun j h1 => ?_, fun i hi => ?_, fun i hi => ?_, fun j h1 => ?_⟩
  · rw [va_up_ne _ _ (by omega)]
    exact h.1 j h1
  · rw [va_up_ne _ (j := z + 26 + 2 * i) _ (by omega)]
    refine ⟨(h.2.1 i hi).1, ?_⟩
    by_cases e : i = k
    · subst e
      rw [va_up_self]
      simp only [va_up_self]
    · rw [va_up_ne _ _ (by omega), (h.2.1 i hi).2]
      simp only [va_up_ne _ _ e]
  · rw [va_up_ne _ _ (by omega), va_up_ne _ _ (by omega)]
    exact h.2.2.1 i hi
  · rw [va_up_ne _ _ (by omega)]
    exact h.2.2.2 j h1
theorem tk_bo {z : Nat} {g f : Nat → qm_C} {r : ss_R} {b : ss_B} {t : ss_T} (k : Nat) (x : Int32) (y w : Nat) (hk : k < 12) (h : TBk z g r b t f) : TBk z g r (va_up b.1 k x, va_up b.2.1 k y, va_up b.2.2.1 k w, b.2.2.2) t (va_up f (z + 42 + 2 * k) (.inr (1, [.int x, .int (nI y), .int (nI w), .ref (z + 43 + 2 * k)]))) := by
  refine ⟨fun j h1 => ?_, fun i hi => ?_, fun i hi => ?_, fun j h1 => ?_⟩
  · rw [va_up_ne _ _ (by omega)]
    exact h.1 j h1
  · rw [va_up_ne _ _ (by omega), va_up_ne _ _ (by omega)]
    exact h.2.1 i hi
  · rw [va_up_ne _ (j := z + 43 + 2 * i) _ (by omega)]
    refine ⟨?_, (h.2.2.1 i hi).2⟩
    by_cases e : i = k
    · subst e
      rw [va_up_self]
      simp only [ss_brd, va_up_self]
    · rw [va_up_ne _ _ (by omega), (h.2.2.1 i hi).1]
      simp only [ss_brd, va_up_ne _ _ e]
  · rw [va_up_ne _ _ (by omega)]
    exact h.2.2.2 j h1
theorem tk_bc {z : Nat} {g f : Nat → qm_C} {r : ss_R} {b : ss_B} {t : ss_T} (k : Nat) (p : Nat → Int32) (hk : k < 12) (h : TBk z g r b t f) : TBk z g r (b.1, b.2.1, b.2.2.1, va_up b.2.2.2 k p) t (va_up f (z + 43 + 2 * k) (.inl (0, 6, .inl p))) := by
  refine ⟨fun j h1 => ?_, fun i hi => ?_, fun i hi => ?_, fun j h1 => ?_⟩
  · rw [va_up_ne _ _ (by omega)]
    exact h.1 j h1
  · rw [va_up_ne _ _ (by omega), va_up_ne _ _ (by omega)]
    exact h.2.1 i hi
  · rw [va_up_ne _ (j := z + 42 + 2 * i) _ (by omega)]
    refine ⟨(h.2.2.1 i hi).1, ?_⟩
    by_cases e : i = k
    · subst e
      rw [va_up_self]
      simp only [va_up_self]
    · rw [va_up_ne _ _ (by omega), (h.2.2.1 i hi).2]
      simp only [va_up_ne _ _ e]
  · rw [va_up_ne _ _ (by omega)]
    exact h.2.2.2 j h1
