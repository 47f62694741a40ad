/-! what holds between two calls of the law -/
theorem mh_mh (m : Nat) (g : Nat → qm_C) (s : md_S) : mh m (mh m g s) s = mh m g s := by
  funext a
  unfold mh
  by_cases c : a < m ∨ m + 19 ≤ a
  · rw [if_pos c, if_pos c]
  · rw [if_neg c, if_neg c]
theorem mh_lt {m a : Nat} (g : Nat → qm_C) (s : md_S) (h : a < m) : mh m g s a = g a := if_pos (Or.inl h)
theorem mh_cg {m : Nat} {g g' : Nat → qm_C} (s : md_S) (h : ∀ j, j < m ∨ m + 19 ≤ j → g j = g' j) : mh m g s = mh m g' s := by
  funext a
  unfold mh
  by_cases c : a < m ∨ m + 19 ≤ a
  · rw [if_pos c, if_pos c, h a c]
  · rw [if_neg c, if_neg c]
theorem tk_move {z : Nat} {g f f' g' : Nat → qm_C} {r : ss_R} {b : ss_B} {t : ss_T} (h : TBk z g r b t f) (hi : ∀ j, z ≤ j → j < z + 66 → f' j = f j) (ho : ∀ j, j < z ∨ z + 66 ≤ j → f' j = g' j) : TBk z g' r b t f' := by
  refine ⟨fun j hj => ?_, fun k hk => ?_, fun k hk => ?_, ho⟩
  · rw [hi (z + j) (by omega) (by omega)]
    exact h.1 j hj
  · rw [hi _ (by omega) (by omega), hi _ (by omega) (by omega)]
    exact h.2.1 k hk
  · rw [hi _ (by omega) (by omega), hi _ (by omega) (by omega)]
    exact h.2.2.1 k hk
/-- between two calls: the script's place bs, the class's state and the model's show one state -/
def lwI (z bs : Nat) (r : ss_R) (b : ss_B) (t : ss_T) (s : md_S) (f : Nat → qm_C) : Prop := f bs = qm_no ∧ TBk z f r b t f ∧ f = mh (z + 66) f s ∧ mR s r b t ∧ ss_I r b
theorem lw_two {X : qm_X} {N S z bs m1 m2 : Nat} {as : List Value} {r : ss_R} {b : ss_B} {t : ss_T} {s : md_S} {f : Nat → qm_C} {o : ss_A} (hb : bs < z) (J : lwI z bs r b t s f) (h1 : TBo X N S 60 z f m1 (.ref z :: as) f o) (h2 : ∀ g, MDo X N S 60 (z + 66) g m2 (.ref (z + 66) :: as) s o) (hI : ss_I o.2.1 o.2.2.1) : ∃ f1 f2 s2, qm_ex qm_M X 60 m1 (.ref z :: as) (N, S, f) = some (some o.1, (N, S, f1)) ∧ qm_ex qm_M X 60 m2 (.ref (z + 66) :: as) (N, S, f1) = some (some o.1, (N, S, f2)) ∧ f1 bs = qm_no ∧ f1 (z + 66) = md_o (z + 66) s ∧ lwI z bs o.2.1 o.2.2.1 o.2.2.2 s2 f2 := by
  obtain ⟨J1, J2, J3, J4, J5⟩ := J
  obtain ⟨f1, e1, k1⟩ := h1
  obtain ⟨s2, e2, R2⟩ := h2 f1
  have o1 : ∀ j, j < z ∨ z + 66 ≤ j → f1 j = f j := k1.2.2.2
  have hm : mh (z + 66) f1 s = f1 := by
    funext a
    by_cases c : a < z + 66 ∨ z + 66 + 19 ≤ a
    · exact if_pos c
    · have h3 := congrFun J3 a
      rw [o1 a (by omega), h3]
      unfold mh
      rw [if_neg c, if_neg c]
  rw [hm] at e2
  refine ⟨f1, mh (z + 66) f1 s2, s2, e1, e2, by rw [o1 bs (Or.inl hb)]; exact J1, by rw [← hm]; exact mh_0 (z + 66) f1 s, ?_, ?_, (mh_mh _ _ _).symm, R2, hI⟩
  · rw [mh_lt _ _ (by omega), o1 bs (Or.inl hb)]
    exact J1
  · exact tk_move k1 (fun j _ hj => mh_lt _ _ hj) (fun _ _ => rfl)
