/-! locals of the machine and of the JVM's frames -/
def qm_prs (ls : List Slot) : List (Nat × Value) := (List.range ls.length).filterMap (fun (i : Nat) => match ls[i]? with
  | some (.val v) => some (i, v)
  | _ => none)
theorem qm_prs_mem {ls : List Slot} {i : Nat} {v : Value} : (i, v) ∈ qm_prs ls ↔ ls[i]? = some (.val v) := by
  unfold qm_prs
  rw [List.mem_filterMap]
  constructor
  · rintro ⟨j, -, hj⟩
    split at hj
    · rename_i w hw
      cases hj
      exact hw
    · cases hj
  · intro h
    refine ⟨i, List.mem_range.mpr (List.getElem?_eq_some_iff.mp h).1, ?_⟩
    rw [h]
def qm_lr (ar : Array Slot) (ls : List Slot) : Prop := lv_has ar ls.length (qm_prs ls)
theorem qm_lr_at {ar : Array Slot} {ls : List Slot} {i : Nat} {v : Value} (h : qm_lr ar ls) (hv : qm_ld ls i = some v) : ar[i]? = some (.val v) := by
  unfold qm_ld at hv
  split at hv
  · rename_i w hw
    cases hv
    exact h.2.2 (i, _) (qm_prs_mem.mpr hw)
  · cases hv
theorem qm_cut_len (ls : List Slot) (i : Nat) : (qm_cut ls i).length = ls.length := by
  unfold qm_cut
  split
  · rfl
  · split
    · simp
    · rfl
/-- what stands in a cut list stood there, and is no long just ahead of the place -/
theorem qm_cut_at {ls : List Slot} {i j : Nat} {v : Value} (h : (qm_cut ls i)[j]? = some (.val v)) : ls[j]? = some (.val v) ∧ ¬ (j + 1 = i ∧ v.category = 2 ∧ ∃ x, v = .long x) := by
  unfold qm_cut at h
  split at h
  · exact ⟨h, fun q => by omega⟩
  · rename_i k
    split at h
    · rename_i x hx
      by_cases hj : j = k
      · subst hj
        have hl := (List.getElem?_eq_some_iff.mp hx).1
        rw [List.getElem?_set_self hl] at h
        cases h
      · rw [List.getElem?_set_ne (Ne.symm hj)] at h
        exact ⟨h, fun q => by omega⟩
    · rename_i hn
      refine ⟨h, fun q => ?_⟩
      obtain ⟨q1, -, x, rfl⟩ := q
      have : j = k := by omega
      subst this
      exact hn x h
/-- no doubles in the lists -/
def qm_nd (ls : List Slot) : Prop := ∀ (i : Nat) (x : UInt64), ls[i]? ≠ some (.val (.double x))
theorem qm_cat2 {v : Value} (h : v.category = 2) (hd : ∀ x, v ≠ .double x) : ∃ x, v = .long x := by
  cases v with
  | long x => exact ⟨x, rfl⟩
  | double x => exact absurd rfl (hd x)
  | _ => simp [Value.category] at h
theorem qm_lr_st1 {ar : Array Slot} {ls : List Slot} {i : Nat} {v : Value} (hnd : qm_nd ls) (h : lv_has ar ls.length ((i, v) :: (qm_prs ls).filter (fun q => !(q.1 == i) && !(q.1 + 1 == i && q.2.category == 2)))) : qm_lr ar (qm_st1 ls i v) := by
  refine ⟨by rw [h.1]; simp [qm_st1, qm_cut_len], h.2.1, fun q hq => ?_⟩
  obtain ⟨j, w⟩ := q
  apply h.2.2
  have hw := qm_prs_mem.mp hq
  unfold qm_st1 at hw
  by_cases hj : j = i
  · subst hj
    have hl : j < (qm_cut ls j).length := by
      have := (List.getElem?_eq_some_iff.mp hw).1
      simpa using this
    rw [List.getElem?_set_self hl] at hw
    cases hw
    exact List.mem_cons_self
  · rw [List.getElem?_set_ne (Ne.symm hj)] at hw
    obtain ⟨h1, h2⟩ := qm_cut_at hw
    refine List.mem_cons_of_mem _ (List.mem_filter.mpr ⟨qm_prs_mem.mpr h1, ?_⟩)
    simp only [Bool.and_eq_true, Bool.not_eq_true', beq_eq_false_iff_ne, ne_eq, Bool.and_eq_false_iff]
    refine ⟨hj, ?_⟩
    by_cases hc : w.category = 2
    · left
      intro q
      exact h2 ⟨q, hc, qm_cat2 hc (fun x e => hnd j x (by rw [← e]; exact h1))⟩
    · right
      exact hc
theorem qm_lr_st2 {ar : Array Slot} {ls : List Slot} {i : Nat} {v : Value} (hnd : qm_nd ls) (h : lv_has ar ls.length ((i, v) :: (qm_prs ls).filter (fun q => !(q.1 == i) && (!(q.1 == i + 1) && !(q.1 + 1 == i && q.2.category == 2))))) : qm_lr ar (qm_st2 ls i v) := by
  refine ⟨by rw [h.1]; simp [qm_st2, qm_cut_len], h.2.1, fun q hq => ?_⟩
  obtain ⟨j, w⟩ := q
  apply h.2.2
  have hw := qm_prs_mem.mp hq
  unfold qm_st2 at hw
  by_cases hj : j = i
  · subst hj
    have hl : j < ((qm_cut ls j).set (j + 1) Slot.unset).length := by
      have := (List.getElem?_eq_some_iff.mp hw).1
      simpa using this
    rw [List.getElem?_set_self hl] at hw
    cases hw
    exact List.mem_cons_self
  · rw [List.getElem?_set_ne (Ne.symm hj)] at hw
    by_cases hj1 : j = i + 1
    · subst hj1
      have hl : i + 1 < (qm_cut ls i).length := by
        have := (List.getElem?_eq_some_iff.mp hw).1
        simpa using this
      rw [List.getElem?_set_self hl] at hw
      cases hw
    · rw [List.getElem?_set_ne (Ne.symm hj1)] at hw
      obtain ⟨h1, h2⟩ := qm_cut_at hw
      refine List.mem_cons_of_mem _ (List.mem_filter.mpr ⟨qm_prs_mem.mpr h1, ?_⟩)
      simp only [Bool.and_eq_true, Bool.not_eq_true', beq_eq_false_iff_ne, ne_eq, Bool.and_eq_false_iff]
      refine ⟨hj, hj1, ?_⟩
      by_cases hc : w.category = 2
      · left
        intro q
        exact h2 ⟨q, hc, qm_cat2 hc (fun x e => hnd j x (by rw [← e]; exact h1))⟩
      · right
        exact hc
theorem qm_nd_st1 {ls : List Slot} {i : Nat} {v : Value} (h : qm_nd ls) (hv : ∀ x, v ≠ .double x) : qm_nd (qm_st1 ls i v) := by
  intro j x hj
  unfold qm_st1 at hj
  by_cases hji : j = i
  · subst hji
    have hl : j < (qm_cut ls j).length := by
      have := (List.getElem?_eq_some_iff.mp hj).1
      simpa using this
    rw [List.getElem?_set_self hl] at hj
    cases hj
    exact hv x rfl
  · rw [List.getElem?_set_ne (Ne.symm hji)] at hj
    exact h j x (qm_cut_at hj).1
theorem qm_nd_st2 {ls : List Slot} {i : Nat} {v : Value} (h : qm_nd ls) (hv : ∀ x, v ≠ .double x) : qm_nd (qm_st2 ls i v) := by
  intro j x hj
  unfold qm_st2 at hj
  by_cases hji : j = i
  · subst hji
    have hl : j < ((qm_cut ls j).set (j + 1) Slot.unset).length := by
      have := (List.getElem?_eq_some_iff.mp hj).1
      simpa using this
    rw [List.getElem?_set_self hl] at hj
    cases hj
    exact hv x rfl
  · rw [List.getElem?_set_ne (Ne.symm hji)] at hj
    by_cases hj1 : j = i + 1
    · subst hj1
      have hl : i + 1 < (qm_cut ls i).length := by
        have := (List.getElem?_eq_some_iff.mp hj).1
        simpa using this
      rw [List.getElem?_set_self hl] at hj
      cases hj
    · rw [List.getElem?_set_ne (Ne.symm hj1)] at hj
      exact h j x (qm_cut_at hj).1
