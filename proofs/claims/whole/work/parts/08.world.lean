/-! the machine's heap and the JVM's -/
def qm_e (dA : Nat → ClassId) (x : qm_C) : va_E := match x with
  | .inl (_, n, .inl f) => .inl (dA 0, n, .inl f)
  | .inl (_, n, .inr (.inl f)) => .inl (dA 1, n, .inr (.inl f))
  | .inl (t, n, .inr (.inr f)) => .inl (dA t, n, .inr (.inr f))
  | .inr o => .inr o
def qm_L (X : qm_X) (N : Nat) : List Nat := (List.range N).map (fun k => X.1 + k)
def qm_w (dA : Nat → ClassId) (X : qm_X) (h : qm_H) : va_W := va_pl (qm_L X h.1) (fun a => qm_e dA (h.2.2 a))
def qm_tys (dA : Nat → ClassId) : List (ClassId × FieldType) := [(dA 0, .int), (dA 1, .long), (dA 2, .object RX7), (dA 3, .object RX1)]
def qm_KK (D : va_G) (dA : Nat → ClassId) (s : State) : Prop := va_K D vwCl (qm_tys dA) s ∧ (∀ w ∈ qm_nb, va_Nw w s) ∧ va_AO RX7 s ∧ va_AO RX1 s
def qm_Rep (D : va_G) (dA : Nat → ClassId) (X : qm_X) (s : State) (H : Heap) (h : qm_H) : Prop := H.size = X.1 + h.1 ∧ va_P D vwCl (qm_w dA X h) H ∧ (∀ a, (a < X.1 ∨ X.1 + h.1 ≤ a) → h.2.2 a = qm_no) ∧ va_X X.2.1 X.2.2.1 X.2.2.2 s H ∧ X.2.1 < X.1
def qm_A (X : qm_X) : Nat → Prop := fun q => X.1 ≤ q
theorem qm_KK_moved {D : va_G} {dA : Nat → ClassId} {s U : State} (hW : s.WarmedH U.vm) (h : qm_KK D dA s) : qm_KK D dA U := by
  refine ⟨va_K.moved hW.alike h.1, fun w hw => ?_, va_AO.moved hW.alike h.2.2.1, va_AO.moved hW.alike h.2.2.2⟩
  have hN := (List.mem_filter.mp hw).2
  have hz := h.2.1 w hw
  cases w with
  | methodLinkNest a b x hst => exact va_Nw.warmM hW hz
  | _ => cases hN
theorem qm_L_mem {X : qm_X} {N a : Nat} : a ∈ qm_L X N ↔ X.1 ≤ a ∧ a < X.1 + N := by
  unfold qm_L
  rw [List.mem_map]
  constructor
  · rintro ⟨k, hk, rfl⟩
    have := List.mem_range.mp hk
    omega
  · intro h
    exact ⟨a - X.1, List.mem_range.mpr (by omega), by omega⟩
theorem qm_w_at {dA : Nat → ClassId} {X : qm_X} {h : qm_H} {k : Nat} {q : Nat × va_E} (e : (qm_w dA X h)[k]? = some q) : k < h.1 ∧ q.1 = X.1 + k := by
  unfold qm_w va_pl qm_L at e
  rw [List.getElem?_map, List.getElem?_map] at e
  by_cases hk : k < h.1
  · rw [List.getElem?_range hk] at e
    cases e
    exact ⟨hk, rfl⟩
  · rw [List.getElem?_eq_none (by rw [List.length_range]; omega)] at e
    cases e
theorem qm_w_D (dA : Nat → ClassId) (X : qm_X) (h : qm_H) : va_D (qm_A X) (qm_w dA X h) := by
  refine ⟨fun i j a b hi hj hab => ?_, fun k q hk => ?_⟩
  · have h1 := (qm_w_at hi).2
    have h2 := (qm_w_at hj).2
    omega
  · have := (qm_w_at hk).2
    show X.1 ≤ q.1
    omega
section QMH
variable {D : va_G} {dA : Nat → ClassId} {X : qm_X} {s : State} {H : Heap} {h : qm_H}
theorem qm_in_L (r : qm_Rep D dA X s H h) {a : Nat} (hn : h.2.2 a ≠ qm_no) : a ∈ qm_L X h.1 := by
  rw [qm_L_mem]
  by_cases ha : a < X.1 ∨ X.1 + h.1 ≤ a
  · exact absurd (r.2.2.1 a ha) hn
  · omega
theorem qm_get (r : qm_Rep D dA X s H h) {a : Nat} {x : qm_C} (hx : h.2.2 a = x) (hn : x ≠ qm_no) : ∃ k : Nat, (qm_w dA X h)[k]? = some (a, qm_e dA x) := by
  obtain ⟨k, hk⟩ := va_pl_get (X := []) (f := fun a => qm_e dA (h.2.2 a)) (qm_in_L r (by rw [hx]; exact hn))
  refine ⟨k, ?_⟩
  rw [← hx]
  exact hk
theorem qm_set (dA : Nat → ClassId) (X : qm_X) (h : qm_H) {a k : Nat} {e0 : va_E} (x : qm_C) (hk : (qm_w dA X h)[k]? = some (a, e0)) : (qm_w dA X h).set k (a, qm_e dA x) = qm_w dA X (h.1, h.2.1, va_up h.2.2 a x) := by
  have hq := qm_w_at hk
  have ha : a ∈ qm_L X h.1 := qm_L_mem.mpr (by have := hq.2; dsimp only at this; omega)
  obtain ⟨k2, hk2⟩ := va_pl_get (X := []) (f := fun a => qm_e dA (h.2.2 a)) ha
  have hkk : k2 = k := by
    have h2 := (qm_w_at (dA := dA) (X := X) (h := h) (k := k2) hk2).2
    have h1 := hq.2
    dsimp only at h1 h2
    omega
  subst hkk
  have e1 := va_pl_set (X := []) (e := qm_e dA x) (qm_w_D dA X h) ha hk2
  refine e1.trans ?_
  show va_pl _ _ = va_pl _ _
  apply va_pl_congr
  intro b
  by_cases hb : b = a
  · subst hb; simp [va_up]
  · simp [va_up, hb]
theorem qm_S0 {locs : List Loc} (hl : ∀ q ∈ locs, X.1 ≤ q.base) : va_S (qm_A X) H H locs := ⟨Nat.le_refl _, fun _ _ _ => rfl, hl⟩
/-- behind a store into a cell -/
theorem qm_Rep_set (r : qm_Rep D dA X s H h) {a k : Nat} {e0 : va_E} {x : qm_C} (hk : (qm_w dA X h)[k]? = some (a, e0)) {H1 : Heap} {locs1 : List Loc} (hP : va_P D vwCl ((qm_w dA X h).set k (a, qm_e dA x)) H1) (hS : va_S (qm_A X) H H1 locs1) (hz : H1.size ≤ X.1 + h.1) : qm_Rep D dA X s H1 (h.1, h.2.1, va_up h.2.2 a x) := by
  have ha := (qm_w_at hk)
  obtain ⟨r1, r2, r3, r4, r5⟩ := r
  rw [qm_set dA X h x hk] at hP
  refine ⟨?_, hP, fun b hb => ?_, r4.kept ?_, r5⟩
  · have := hS.1
    show H1.size = X.1 + h.1
    omega
  · have hba : b ≠ a := by
      have := ha.2
      dsimp only at this hb
      omega
    show va_up h.2.2 a x b = qm_no
    rw [va_up_ne _ _ hba]
    exact r3 b hb
  · exact hS.2.1 X.2.1 (by omega) (fun z => by unfold qm_A at z; omega)
/-- behind a making -/
theorem qm_Rep_new (r : qm_Rep D dA X s H h) {q n : Nat} {x : qm_C} (hx : x ≠ qm_no) {H1 : Heap} {locs1 : List Loc} (hP : va_P D vwCl (qm_w dA X h ++ [(q, qm_e dA x)]) H1) (hD : va_D (qm_A X) (qm_w dA X h ++ [(q, qm_e dA x)])) (hS : va_S (qm_A X) H H1 locs1) (hz : H1.size ≤ X.1 + h.1 + 1) : q = X.1 + h.1 ∧ qm_Rep D dA X s H1 (qm_mk X h n x) := by
  obtain ⟨r1, r2, r3, r4, r5⟩ := r
  have hlen : (qm_w dA X h).length = h.1 := by simp [qm_w, va_pl, qm_L]
  have hlast : (qm_w dA X h ++ [(q, qm_e dA x)])[h.1]? = some (q, qm_e dA x) := by
    rw [List.getElem?_append_right (by omega), hlen, Nat.sub_self]
    rfl
  have hq1 : q < H1.size := (hP _ _ hlast).lt
  have hq2 : X.1 ≤ q := hD.2 _ _ hlast
  have hq : q = X.1 + h.1 := by
    by_cases hlt : q < X.1 + h.1
    · have hm : (qm_w dA X h)[q - X.1]? = some (q, qm_e dA (h.2.2 q)) := by
        unfold qm_w va_pl qm_L
        rw [List.getElem?_map, List.getElem?_map, List.getElem?_range (by omega)]
        show some (X.1 + (q - X.1), qm_e dA (h.2.2 (X.1 + (q - X.1)))) = _
        rw [show X.1 + (q - X.1) = q by omega]
      have hm2 : (qm_w dA X h ++ [(q, qm_e dA x)])[q - X.1]? = some (q, qm_e dA (h.2.2 q)) := by
        rw [List.getElem?_append_left (by omega)]
        exact hm
      have := hD.1 _ _ _ _ hm2 hlast rfl
      omega
    · omega
  refine ⟨hq, ?_⟩
  subst hq
  refine ⟨?_, ?_, fun b hb => ?_, r4.kept ?_, r5⟩
  · show H1.size = X.1 + (h.1 + 1)
    omega
  · have e1 : qm_w dA X (qm_mk X h n x) = qm_w dA X h ++ [(X.1 + h.1, qm_e dA x)] := by
      have hni : X.1 + h.1 ∉ qm_L X h.1 := fun z => by have := qm_L_mem.mp z; omega
      have e2 := va_pl_push (L := qm_L X h.1) (f := fun a => qm_e dA (h.2.2 a)) (e := qm_e dA x) hni
      refine Eq.trans ?_ e2.symm
      show va_pl (qm_L X (h.1 + 1)) _ = _
      have e3 : qm_L X (h.1 + 1) = qm_L X h.1 ++ [X.1 + h.1] := by simp [qm_L, List.range_succ]
      rw [e3]
      apply va_pl_congr
      intro b
      show qm_e dA (va_up h.2.2 (X.1 + h.1) x b) = _
      by_cases hb : b = X.1 + h.1
      · subst hb; simp [va_up]
      · simp [va_up, hb]
    rw [e1]
    exact hP
  · have hba : b ≠ X.1 + h.1 := by
      have : b < X.1 ∨ X.1 + (h.1 + 1) ≤ b := hb
      omega
    show va_up h.2.2 (X.1 + h.1) x b = qm_no
    rw [va_up_ne _ _ hba]
    have : b < X.1 ∨ X.1 + (h.1 + 1) ≤ b := hb
    exact r3 b (by omega)
  · exact hS.2.1 X.2.1 (by omega) (fun z => by unfold qm_A at z; omega)
theorem qm_in_vp {i : Int32} {n : Nat} (h : qm_in i n = true) : vp_in i n := by
  unfold qm_in at h
  rw [Bool.and_eq_true, decide_eq_true_eq, decide_eq_true_eq] at h
  exact vp_in_iff.mpr h
end QMH
