/-! stairs alike: what the model's search does not depend on -/
theorem tq_cg2 {f f' g g' : Nat → Int64} : ∀ n, (∀ k, k < n → f k = f' k ∧ g k = g' k) → tq f g n = tq f' g' n
  | 0, _ => rfl
  | n + 1, h => by
    rw [tq, tq, tq_cg2 n (fun k hk => h k (by omega)), (h n (by omega)).1, (h n (by omega)).2]
theorem tal_cong {n : Nat} {sg sg' : Nat → Int64} (h : ∀ k, k < 7 → sg k = sg' k) (pre : Nat → Nat) : tal n sg pre = tal n sg' pre := tq_cg2 7 (fun k hk => ⟨rfl, h k hk⟩)
/-- two searches that differ in what lay there before -/
def tSe (a a' : Int32 × (Nat → Int32)) : Prop := a.1 = a'.1 ∧ (a.1 = 0 ∨ a.2 = a'.2)
theorem tS_ind {n : Nat} {al al' : (Nat → Nat) → Bool} (hal : ∀ pre, al pre = al' pre) : ∀ r i pre a a', tSe a a' → tSe (tS n al r i pre a) (tS n al' r i pre a')
  | 0, i, pre, a, a', h => by
    rw [tS, tS, ← hal]
    cases al pre
    · exact h
    · obtain ⟨h1, h2⟩ := h
      refine ⟨by show a.1 + 1 = a'.1 + 1; rw [h1], Or.inr ?_⟩
      show (if a.1 = 0 then (fun q => nI (pre q)) else a.2) = (if a'.1 = 0 then (fun q => nI (pre q)) else a'.2)
      rw [← h1]
      by_cases z : a.1 = 0
      · rw [if_pos z, if_pos z]
      · rw [if_neg z, if_neg z]
        exact h2.resolve_left z
  | r + 1, i, pre, a, a', h => by
    rw [tS, tS]
    have key : ∀ (l : List Nat) a a', tSe a a' → tSe (l.foldl (fun a t => tS n al r (i + 1) (up pre i ((if i = 0 then 0 else pre (i - 1)) + t)) a) a) (l.foldl (fun a t => tS n al' r (i + 1) (up pre i ((if i = 0 then 0 else pre (i - 1)) + t)) a) a') := fun l => by
      induction l with
      | nil => exact fun _ _ h => h
      | cons t l ih => exact fun a a' h => ih _ _ (tS_ind hal r (i + 1) _ a a' h)
    exact key _ a a' h
