/-! rings of six places -/
theorem ck6_0 : ck 6 (fun x => rk 6 x 6 0 0) 5 [0] = true := by decide +kernel
theorem ck6_1 : ck 6 (fun x => rk 6 x 6 0 0) 5 [1] = true := by decide +kernel
theorem ck6_2 : ck 6 (fun x => rk 6 x 6 0 0) 5 [2] = true := by decide +kernel
theorem ck6_3 : ck 6 (fun x => rk 6 x 6 0 0) 5 [3] = true := by decide +kernel
theorem ck6_4 : ck 6 (fun x => rk 6 x 6 0 0) 5 [4] = true := by decide +kernel
theorem ck6_5 : ck 6 (fun x => rk 6 x 6 0 0) 5 [5] = true := by decide +kernel
theorem ck6_9 : ck 6 (fun x => rk 6 x 6 0 0) 5 [9] = true := by decide +kernel
theorem ck6 : ck 6 (fun x => rk 6 x 6 0 0) 6 [] = true := by
  rw [ck, Bool.and_eq_true, List.all_eq_true]
  refine ⟨fun j hj => ?_, ck6_9⟩
  have h := List.mem_range.mp hj
  have : j = 0 ∨ j = 1 ∨ j = 2 ∨ j = 3 ∨ j = 4 ∨ j = 5 := by omega
  rcases this with e | e | e | e | e | e
  · subst e; rw [ck6_0, Bool.or_true]
  · subst e; rw [ck6_1, Bool.or_true]
  · subst e; rw [ck6_2, Bool.or_true]
  · subst e; rw [ck6_3, Bool.or_true]
  · subst e; rw [ck6_4, Bool.or_true]
  · subst e; rw [ck6_5, Bool.or_true]
