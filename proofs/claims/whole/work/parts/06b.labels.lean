/-! labels of a method's code, and the two lists of methods side by side -/
theorem qm_lk_ok {o : Nat} {ini : Bool} {rt : Option FieldType} {cc : ByteArray} : ∀ {tab : qm_T}, (∀ q ∈ tab, 0 ≤ q.1 ∧ qm_chain o ini rt cc q.1.toNat q.2) → ∀ t : Int, 0 ≤ t → qm_chain o ini rt cc t.toNat (qm_lk tab t)
  | [], _, _, _ => trivial
  | (k, c) :: r, h, t, ht => by
    rw [qm_lk]
    split
    · rename_i e
      rw [e]
      exact (h (k, c) List.mem_cons_self).2
    · exact qm_lk_ok (fun q hq => h q (List.mem_cons_of_mem _ hq)) t ht
def qm_G1 (x : qm_Inf) (y : Nat × qm_T) : Prop := y.1 = x.2.2.1 ∧ ∃ ini : Bool, (ini = true → x.1.name = "<init>") ∧ ∀ t : Int, 0 ≤ t → qm_chain x.2.2.2.2.1 ini x.2.2.2.1 x.2.1 t.toNat (qm_lk y.2 t)
/-- the code of every method is what its table says -/
def qm_Good (M : qm_Ms) : Prop := ∀ (mid : Nat) (x : qm_Inf), qm_info[mid]? = some x → (M mid).1 = x.2.2.1 ∧ ∃ ini : Bool, (ini = true → x.1.name = "<init>") ∧ ∀ t : Int, 0 ≤ t → qm_chain x.2.2.2.2.1 ini x.2.2.2.1 x.2.1 t.toNat (qm_lk (M mid).2 t)
def qm_G2 : List qm_Inf → List (Nat × qm_T) → Prop
  | [], [] => True
  | x :: xs, y :: ys => qm_G1 x y ∧ qm_G2 xs ys
  | [], _ :: _ => False
  | _ :: _, [] => False
theorem qm_G2_app : ∀ {a : List qm_Inf} {b : List (Nat × qm_T)} {c : List qm_Inf} {d : List (Nat × qm_T)}, qm_G2 a b → qm_G2 c d → qm_G2 (a ++ c) (b ++ d)
  | [], [], _, _, _, h => h
  | x :: xs, y :: ys, _, _, h, k => ⟨h.1, qm_G2_app h.2 k⟩
  | [], _ :: _, _, _, h, _ => h.elim
  | _ :: _, [], _, _, h, _ => h.elim
theorem qm_G2_at : ∀ {a : List qm_Inf} {b : List (Nat × qm_T)}, qm_G2 a b → ∀ (i : Nat) (x : qm_Inf), a[i]? = some x → qm_G1 x (b.getD i (0, []))
  | [], [], _, i, x, e => by simp at e
  | x :: xs, y :: ys, h, 0, z, e => by
    cases e
    exact h.1
  | x :: xs, y :: ys, h, i + 1, z, e => by
    rw [List.getElem?_cons_succ] at e
    exact qm_G2_at h.2 i z e
  | [], _ :: _, h, _, _, _ => h.elim
  | _ :: _, [], h, _, _, _ => h.elim
