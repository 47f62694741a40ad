/-! calls, and the whole run of a method -/
def qm_ws (x : qm_Inf) : List Cond := Cond.code x.1 x.2.1 x.2.2.1 x.2.2.2.1 :: qm_tb
def qm_rm (d mc ms : Nat) : Room := { frames := d, cells := mc, slots := ms, locals := 60 * d }
def qm_Pc (D : va_G) (dA : Nat → ClassId) (X : qm_X) (as : List Value) (h : qm_H) : Array Value → State → Prop := va_Pc as (fun U => qm_Rep D dA X U U.heap h ∧ qm_KK D dA U)
def qm_MetAll (l : Launch) (D : va_G) (dA : Nat → ClassId) (X : qm_X) (d : Nat) (Cal : qm_Cal) : Prop := ∀ (mid : Nat) (as : List Value) (h : qm_H) (rr : qm_R), Cal mid as h = some rr → ∀ x : qm_Inf, qm_info[mid]? = some x → plainName x.1.cls = true → Met l x.1 (qm_ws x) (qm_rm d (rr.2.1 - h.1) (rr.2.2.1 - h.2.1)) (qm_Pc D dA X as h) (qm_Qc D dA X rr) (rr.2.1 - h.1) (rr.2.2.1 - h.2.1) (qm_A X)
def qm_Mono (Cal : qm_Cal) : Prop := ∀ (mid : Nat) (as : List Value) (h : qm_H) (rr : qm_R), Cal mid as h = some rr → h.1 ≤ rr.2.1 ∧ h.2.1 ≤ rr.2.2.1
theorem qm_tb_good : ∀ w ∈ qm_tb, goodWord w = true := fun _ h => (List.mem_filter.mp h).2
theorem qm_ws_good {x : qm_Inf} (hx : x ∈ qm_info) : GoodIn qm_tb (qm_ws x) := by
  intro w hw
  rcases List.mem_cons.mp hw with rfl | hw
  · exact ⟨List.mem_filter.mpr ⟨qm_inf_cd x hx, rfl⟩, good_of_word rfl⟩
  · exact ⟨hw, good_of_word (qm_tb_good w hw)⟩
theorem qm_KK_same {D : va_G} {dA : Nat → ClassId} {u U : State} (h : u.vm = U.vm) (hk : qm_KK D dA u) : qm_KK D dA U := by
  have ha : u.vm.Alike U.vm := by rw [h]; exact Vm.Alike.refl _
  refine ⟨va_K.moved ha hk.1, fun w hw => ?_, va_AO.moved ha hk.2.2.1, va_AO.moved ha hk.2.2.2⟩
  have hN := (List.mem_filter.mp hw).2
  have hz := hk.2.1 w hw
  cases w with
  | methodLinkNest a b x hst => exact va_Nw.same rfl h hz
  | _ => cases hN
theorem qm_blind (D : va_G) (dA : Nat → ClassId) (X : qm_X) (as : List Value) (h : qm_H) : FrameBlind (qm_Pc D dA X as h) := by
  intro a U g mk q
  obtain ⟨q0, q1, q2⟩ := q
  exact ⟨q0, qm_Rep_moved (U := U.calling g mk a) (Vm.Alike.refl U.vm) q1, qm_KK_same (u := U) (U := U.calling g mk a) rfl q2⟩
section QMC
variable {p : Program} {l : Launch} {e : Env} {R : Room} {s : State} {m : MethodId} {args : Array Value} {below : List Frame} {meth : Method} {c : Code} {H : Heap} {locs : List Loc} {cells slots : Nat} {Q : State → Prop} {cc : ByteArray} {pc len o nL d : Nat} {ini : Bool} {rt : Option FieldType} {i : Instr} {u : qm_I} {ls ls' : List Slot} {st st' r rest : List Value} {ar : Array Slot} {D : va_G} {dA : Nat → ClassId} {X : qm_X} {h h' h0 : qm_H} {a : Nat} {v : Value} {Cal : qm_Cal} {rr : qm_R}
theorem qm_call_W {mc ms : Nat} {as : Array Value} {st0 : List Value} (hr : va_Run p l e R s m args below meth c H locs cells slots mc ms (F0 m pc ar st0) rest (qm_Qc D dA X rr as) (qm_A X)) (hl : ∀ q ∈ locs, X.1 ≤ q.base) (kk : ∀ (H1 : Heap) (locs1 : List Loc), qm_Rep D dA X s H1 rr.2 → (∀ q ∈ locs1, X.1 ≤ q.base) → W p l e R s m args below meth c H1 locs1 (cells + mc) (slots + ms) Q (F0 m (pc + 3) ar (rr.1.toList ++ rest))) : W p l e R s m args below meth c H locs cells slots Q (F0 m pc ar st0) := by
  intro T hT XX
  obtain ⟨v, st₀, t, T', L, h0, X', hL, e1, e2, ⟨hv, hrep⟩, stp⟩ := hr T hT XX
  have hv' : v = rr.1 := by cases hv; rfl
  subst hv'
  have hal : t.vm.Alike s.vm := by rw [← e2]; exact X'.warmed.alike.symm
  obtain ⟨t2, a1, b1⟩ := kk T'.heap (locs ++ L) (by rw [e1]; exact qm_Rep_moved hal hrep) (fun q hq => by
    rcases List.mem_append.mp hq with h | h
    · exact hl q h
    · exact hL q h) T' rfl X'
  exact ⟨t2, stp t2 a1, b1⟩
theorem qm_pre (hK : qm_KK D dA s) (rep : qm_Rep D dA X s H h) (as : List Value) : ∀ U : State, U.heap = H → s.WarmedH U.vm → qm_Pc D dA X as h as.toArray U := by
  intro U hU hW
  exact ⟨rfl, by rw [hU]; exact qm_Rep_moved hW.alike rep, qm_KK_moved hW hK⟩
theorem qm_CallB {x : qm_Inf} {mid n : Nat} {q : Nat × Nat} (hx : x ∈ qm_info) (hq : qm_infB x q = true) (hts : ∀ w ∈ qm_tb, w.before args s = true) {own : String} (hlk : (Cond.methodLink own n x.1).before args s = true) (hfr : d + 1 ≤ R.frames) (hlo : 60 * d + 60 ≤ R.locals) (mc ms : Nat) : CallB R s args own n x.1 x.2.1 x.2.2.1 x.2.2.2.1 (qm_ws x) (qm_rm d mc ms) mc ms x.2.2.2.2.2 := by
  unfold qm_infB at hq
  simp only [Bool.and_eq_true, decide_eq_true_eq] at hq
  obtain ⟨⟨⟨⟨⟨h1, -⟩, -⟩, h4⟩, h5⟩, h6⟩ := hq
  refine callB_of x.2.2.2.2.2 hts (qm_ws_good hx) rfl rfl rfl (hts _ (qm_at_mem h1)) hlk ⟨h4.1, h4.2, h5⟩ ⟨hfr, ?_⟩
  show 8 + (x.2.2.1 + 11) + 60 * d ≤ R.locals
  omega
theorem qm_CallN {x : qm_Inf} {mid n : Nat} {q : Nat × Nat} (hx : x ∈ qm_info) (hq : qm_infB x q = true) (hts : ∀ w ∈ qm_tb, w.before args s = true) {own host : String} (hlk : (Cond.methodLinkNest own n x.1 host).before args s = true) (hfr : d + 1 ≤ R.frames) (hlo : 60 * d + 60 ≤ R.locals) (mc ms : Nat) : va_CN R s args own n x.1 host x.2.1 x.2.2.1 x.2.2.2.1 (qm_ws x) (qm_rm d mc ms) mc ms x.2.2.2.2.2 := by
  have hq0 := hq
  unfold qm_infB at hq
  simp only [Bool.and_eq_true, decide_eq_true_eq] at hq
  obtain ⟨⟨⟨⟨⟨h1, -⟩, -⟩, h4⟩, h5⟩, h6⟩ := hq
  have hc : Cond.code x.1 x.2.1 x.2.2.1 x.2.2.2.1 ∈ qm_tb := (qm_ws_good hx _ List.mem_cons_self).1
  refine ⟨⟨rfl, rfl, hfr, ?_, pay_in hts (qm_ws_good hx), List.mem_cons_self⟩, hts _ hc, hts _ (qm_at_mem h1), h4, fun sig hs => ?_, hlk⟩
  · show 8 + (x.2.2.1 + 11) + 60 * d ≤ R.locals
    omega
  · rw [hs] at h5
    exact (Option.some.inj h5).symm
theorem qm_recv (hK : qm_KK D dA s) (rep : qm_Rep D dA X s H h) {b ci : Nat} {fs : List Value} (hb : h.2.2 b = .inr (ci, fs)) (hci : ci < 10) : ∃ cell : Cell, H[b]? = some cell ∧ cell.vm.isStatics = false ∧ s.vm.findClass (qm_own ci) = some cell.cls := by
  have hne : (Sum.inr (ci, fs) : qm_C) ≠ qm_no := by
    intro z
    have : ci = 99 := congrArg (fun y : qm_C => match y with | .inr t => t.1 | .inl _ => 0) z
    omega
  obtain ⟨k0, hk0⟩ := qm_get rep hb hne
  have hcl : ∃ q : vw_C, vwCl[ci]? = some q ∧ q.1 = qm_own ci := by
    match ci, hci with
    | 0, _ => exact ⟨_, rfl, rfl⟩
    | 1, _ => exact ⟨_, rfl, rfl⟩
    | 2, _ => exact ⟨_, rfl, rfl⟩
    | 3, _ => exact ⟨_, rfl, rfl⟩
    | 4, _ => exact ⟨_, rfl, rfl⟩
    | 5, _ => exact ⟨_, rfl, rfl⟩
    | 6, _ => exact ⟨_, rfl, rfl⟩
    | 7, _ => exact ⟨_, rfl, rfl⟩
    | 8, _ => exact ⟨_, rfl, rfl⟩
    | 9, _ => exact ⟨_, rfl, rfl⟩
    | k + 10, h => omega
  obtain ⟨q, hq, hq1⟩ := hcl
  rw [← hq1]
  exact va_recv hK.1 rep.2.1 hq hk0
theorem qm_last {T : List Value} {b : Nat} (h : T.getLast? = some (.ref b)) : T = T.dropLast ++ [.ref b] := by
  cases T with
  | nil => cases h
  | cons x xs =>
    have hne : x :: xs ≠ [] := List.cons_ne_nil _ _
    have h1 : (x :: xs).getLast hne = .ref b := by
      rw [List.getLast?_eq_some_getLast hne] at h
      exact Option.some.inj h
    rw [← h1]
    exact (List.dropLast_concat_getLast hne).symm
theorem qm_isK_inv {w : Option Value} {ci : Nat} (hk : qm_isK h w ci = true) : ∃ b fs, w = some (.ref b) ∧ h.2.2 b = .inr (ci, fs) := by
  unfold qm_isK at hk
  split at hk
  · rename_i b
    split at hk
    · rename_i c0 fs hc
      rw [decide_eq_true_eq] at hk
      subst hk
      exact ⟨b, fs, rfl, hc⟩
    · cases hk
  · cases hk
/-- a call: the machine's is the JVM's -/
theorem qm_call_ok (C : qm_Cx p R s m args meth c cc nL o ini rt D dA X h0) (hM : qm_MetAll l D dA X d Cal) (hmo : qm_Mono Cal) (hfr : d + 1 ≤ R.frames) (hlo : 60 * d + 60 ≤ R.locals) (har : ar.size = nL) (hh : h0.1 ≤ h.1) (hh2 : h0.2.1 ≤ h.2.1) {is is' : List qm_I} (hc : h'.1 - h0.1 ≤ R.cells) (hsl : h'.2.1 - h0.2.1 ≤ R.slots) (hd : decode cc pc = .ok (i, len)) (hn : qm_nrm o ini rt pc i len u = true) (hp : qm_call Cal u is ls st h = some (is', ls', st', h')) : is' = is ∧ ls' = ls ∧ h.1 ≤ h'.1 ∧ h.2.1 ≤ h'.2.1 ∧ (qm_K p l e R s m args below meth c Q D dA X h0 h' (pc + len) ar st' → qm_K p l e R s m args below meth c Q D dA X h0 h pc ar st) := by
  obtain ⟨hx, hb, hown, hts, hK, hml, -, -, -, hsz, -, -⟩ := C
  have S : CallFix p m c cc nL s args qm_tb (qm_own o) := ⟨hx, hb, hml, hown, hts⟩
  have fin : ∀ {rr : qm_R} {st0 rest : List Value} {as : Array Value}, h.1 ≤ rr.2.1 → h.2.1 ≤ rr.2.2.1 → qm_K p l e R s m args below meth c Q D dA X h0 rr.2 (pc + 3) ar (rr.1.toList ++ rest) → (∀ (H : Heap) (locs : List Loc), qm_Rep D dA X s H h → va_Run p l e R s m args below meth c H locs (h.1 - h0.1) (h.2.1 - h0.2.1) (rr.2.1 - h.1) (rr.2.2.1 - h.2.1) (F0 m pc ar st0) rest (qm_Qc D dA X rr as) (qm_A X)) → qm_K p l e R s m args below meth c Q D dA X h0 h pc ar st0 := by
    intro rr st0 rest as m1 m2 kk hrun H locs rep hl
    refine qm_call_W (hrun H locs rep) hl (fun H1 locs1 rep1 hl1 => ?_)
    refine W.cs (cells' := rr.2.1 - h0.1) (slots' := rr.2.2.1 - h0.2.1) (by omega) (by omega) ?_
    exact kk H1 locs1 rep1 hl1
  have site : ∀ {q : Nat × Nat × Nat × Nat × Nat × Nat × Nat × Nat × Nat}, q ∈ qm_cs → ∃ x, qm_info[q.2.2.2.1]? = some x ∧ plainName x.1.cls = true ∧ x ∈ qm_info ∧ (∃ y, qm_infB x y = true) := by
    intro q hq
    have hok := List.all_eq_true.mp qm_cs_ok q hq
    unfold qm_csB at hok
    split at hok
    · rename_i x hx9
      rw [Bool.and_eq_true] at hok
      have hmem := List.mem_of_getElem? hx9
      exact ⟨x, hx9, hok.1, hmem, qm_inf_ok x hmem⟩
    · cases hok
  cases i with
  | invokevirtual n =>
    simp only [qm_nrm] at hn
    obtain ⟨⟨q1, q2, q3, q4, q5, q6, q7, q8, q9⟩, hq, hn⟩ := List.any_eq_true.mp hn
    simp only [decide_eq_true_eq] at hn
    obtain ⟨rfl, rfl, rfl, rfl, rfl⟩ := hn
    simp only [qm_call] at hp
    by_cases hg : q5 ≤ st.length ∧ qm_sum (st.drop q5) ≤ 8 ∧ qm_isK h (st.take q5).getLast? q6 = true
    · rw [if_pos hg] at hp
      obtain ⟨rr, hC, e1⟩ := qm_map_inv hp
      cases e1
      obtain ⟨m1, m2⟩ := hmo _ _ _ _ hC
      refine ⟨rfl, rfl, m1, m2, fun kk => ?_⟩
      obtain ⟨x, hx9, hpl, hmem, y, hy⟩ := site hq
      have hok := List.all_eq_true.mp qm_cs_ok _ hq
      unfold qm_csB at hok
      dsimp only at hok hx9
      rw [hx9] at hok
      simp only [Bool.and_eq_true, decide_eq_true_eq] at hok
      obtain ⟨-, ⟨⟨k1, k2⟩, k3⟩, k4, k5, k6⟩ := hok
      obtain ⟨b, fs, hlast, hbc⟩ := qm_isK_inv hg.2.2
      have hsplit := qm_last hlast
      have has : (st.take q5).reverse = .ref b :: (st.take q5).dropLast.reverse := by
        conv => lhs; rw [hsplit]
        simp
      rw [has] at hC
      have hcls : x.1.cls = qm_own x.2.2.2.2.1 := by
        unfold qm_infB at hy
        simp only [Bool.and_eq_true, decide_eq_true_eq] at hy
        exact hy.1.1.1.2
      refine fin m1 m2 kk (fun H locs rep => ?_) (as := (Value.ref b :: (st.take q5).dropLast.reverse).toArray)
      refine va_runV (C := x.1.cls) (As := (st.take q5).dropLast.reverse) (b := b) S (hM _ _ _ _ hC x hx9 hpl) ⟨qm_CallB (mid := 0) hmem hy hts (hts _ (qm_at_mem k1)) hfr hlo _ _, hts _ (qm_at_mem k2), hts _ (qm_at_mem k3)⟩ ⟨qm_blind D dA X _ h, ?_, qm_pre hK rep _⟩ rfl ?_ har ?_ (lv_room hg.2.1) hd ⟨?_, ?_⟩
      · rw [hcls, ← k5]
        exact qm_recv hK rep hbc k6
      · have := congrArg List.length hsplit
        simp only [List.length_take, List.length_append, List.length_cons, List.length_nil] at this
        rw [List.length_reverse]
        omega
      · show st = _
        rw [List.reverse_reverse]
        conv => lhs; rw [← List.take_append_drop q5 st]
        conv => lhs; rw [hsplit]
        simp
      · show h.1 - h0.1 + (rr.2.1 - h.1) ≤ R.cells
        have : rr.2.1 - h0.1 ≤ R.cells := hc
        omega
      · show h.2.1 - h0.2.1 + (rr.2.2.1 - h.2.1) ≤ R.slots
        have : rr.2.2.1 - h0.2.1 ≤ R.slots := hsl
        omega
    · rw [if_neg hg] at hp; cases hp
  | invokespecial n =>
    simp only [qm_nrm, Bool.or_eq_true] at hn
    rcases hn with hn | hn
    · obtain ⟨⟨q1, q2, q3, q4, q5, q6, q7, q8, q9⟩, hq, hn⟩ := List.any_eq_true.mp hn
      simp only [decide_eq_true_eq] at hn
      obtain ⟨rfl, rfl, hq3, rfl, rfl⟩ := hn
      simp only [qm_call] at hp
      by_cases hg : q5 ≤ st.length ∧ qm_sum (st.drop q5) ≤ 8 ∧ qm_isK h (st.take q5).getLast? q6 = true
      · rw [if_pos hg] at hp
        obtain ⟨rr, hC, e1⟩ := qm_map_inv hp
        cases e1
        obtain ⟨m1, m2⟩ := hmo _ _ _ _ hC
        refine ⟨rfl, rfl, m1, m2, fun kk => ?_⟩
        obtain ⟨x, hx9, hpl, hmem, y, hy⟩ := site hq
        have hok := List.all_eq_true.mp qm_cs_ok _ hq
        unfold qm_csB at hok
        dsimp only at hok hx9
        rw [hx9] at hok
        obtain ⟨b, fs, hlast, hbc⟩ := qm_isK_inv hg.2.2
        have hsplit := qm_last hlast
        have has : (st.take q5).reverse = .ref b :: (st.take q5).dropLast.reverse := by
          conv => lhs; rw [hsplit]
          simp
        rw [has] at hC
        have hst : st = (st.take q5).dropLast.reverse.reverse ++ .ref b :: st.drop q5 := by
          rw [List.reverse_reverse]
          conv => lhs; rw [← List.take_append_drop q5 st]
          conv => lhs; rw [hsplit]
          simp
        have hlen : ∀ n9, q5 = n9 + 1 → (st.take q5).dropLast.reverse.length = n9 := by
          intro n9 h9
          have := congrArg List.length hsplit
          simp only [List.length_take, List.length_append, List.length_cons, List.length_nil] at this
          rw [List.length_reverse]
          omega
        refine fin m1 m2 kk (fun H locs rep => ?_) (as := (Value.ref b :: (st.take q5).dropLast.reverse).toArray)
        have b1 : h.1 - h0.1 + (rr.2.1 - h.1) ≤ R.cells := by
          have : rr.2.1 - h0.1 ≤ R.cells := hc
          omega
        have b2 : h.2.1 - h0.2.1 + (rr.2.2.1 - h.2.1) ≤ R.slots := by
          have : rr.2.2.1 - h0.2.1 ≤ R.slots := hsl
          omega
        rcases hq3 with rfl | rfl
        · simp only [Bool.and_eq_true, decide_eq_true_eq] at hok
          obtain ⟨-, ⟨k1, k2⟩, k3, k4, k5⟩ := hok
          have hcb := qm_CallB (mid := 0) (R := R) (d := d) hmem hy hts (hts _ (qm_at_mem k1)) hfr hlo (rr.2.1 - h.1) (rr.2.2.1 - h.2.1)
          rw [k4] at hcb
          exact va_runI (As := (st.take q5).dropLast.reverse) (b := b) S (hM _ _ _ _ hC x hx9 hpl) ⟨hcb, k3, hts _ (qm_at_mem k2)⟩ ⟨qm_blind D dA X _ h, qm_pre hK rep _⟩ rfl (hlen _ k5) har hst (lv_room hg.2.1) hd ⟨b1, b2⟩
        · simp only [Bool.and_eq_true, decide_eq_true_eq] at hok
          obtain ⟨-, ⟨k1, k2⟩, k3, k4, k5⟩ := hok
          have hcb := qm_CallN (mid := 0) (R := R) (d := d) hmem hy hts (va_Nw.use rfl (hK.2.1 _ (qm_atN_mem k1))) hfr hlo (rr.2.1 - h.1) (rr.2.2.1 - h.2.1)
          rw [k4] at hcb
          exact va_runIN (As := (st.take q5).dropLast.reverse) (b := b) S (hM _ _ _ _ hC x hx9 hpl) ⟨hcb, k3, hts _ (qm_at_mem k2)⟩ ⟨qm_blind D dA X _ h, qm_pre hK rep _⟩ rfl (hlen _ k5) har hst (lv_room hg.2.1) hd ⟨b1, b2⟩
      · rw [if_neg hg] at hp; cases hp
    · obtain ⟨q, hq, hn⟩ := List.any_eq_true.mp hn; simp only [decide_eq_true_eq] at hn; obtain ⟨-, -, -, rfl⟩ := hn; cases hp
  | invokestatic n =>
    simp only [qm_nrm, Bool.or_eq_true] at hn
    rcases hn with (hn | hn) | hn
    · obtain ⟨⟨q1, q2, q3, q4, q5, q6, q7, q8, q9⟩, hq, hn⟩ := List.any_eq_true.mp hn
      simp only [decide_eq_true_eq] at hn
      obtain ⟨rfl, rfl, hq3, rfl, rfl⟩ := hn
      simp only [qm_call] at hp
      by_cases hg : q5 ≤ st.length ∧ qm_sum (st.drop q5) ≤ 8
      · rw [if_pos hg] at hp
        obtain ⟨rr, hC, e1⟩ := qm_map_inv hp
        cases e1
        obtain ⟨m1, m2⟩ := hmo _ _ _ _ hC
        refine ⟨rfl, rfl, m1, m2, fun kk => ?_⟩
        obtain ⟨x, hx9, hpl, hmem, y, hy⟩ := site hq
        have hok := List.all_eq_true.mp qm_cs_ok _ hq
        unfold qm_csB at hok
        dsimp only at hok hx9
        rw [hx9] at hok
        have hst : st = (st.take q5).reverse.reverse ++ st.drop q5 := by
          rw [List.reverse_reverse]
          exact (List.take_append_drop q5 st).symm
        have hlen : ∀ n9, q5 = n9 → (st.take q5).reverse.length = n9 := by
          intro n9 h9
          rw [List.length_reverse, List.length_take]
          omega
        refine fin m1 m2 kk (fun H locs rep => ?_) (as := (st.take q5).reverse.toArray)
        have b1 : h.1 - h0.1 + (rr.2.1 - h.1) ≤ R.cells := by
          have : rr.2.1 - h0.1 ≤ R.cells := hc
          omega
        have b2 : h.2.1 - h0.2.1 + (rr.2.2.1 - h.2.1) ≤ R.slots := by
          have : rr.2.2.1 - h0.2.1 ≤ R.slots := hsl
          omega
        rcases hq3 with rfl | rfl
        · simp only [Bool.and_eq_true, decide_eq_true_eq] at hok
          obtain ⟨-, ⟨k1, k2⟩, k3⟩ := hok
          exact va_runS (As := (st.take q5).reverse) S (hM _ _ _ _ hC x hx9 hpl) ⟨qm_CallB (mid := 0) hmem hy hts (hts _ (qm_at_mem k1)) hfr hlo _ _, hts _ (qm_at_mem k2)⟩ ⟨qm_blind D dA X _ h, qm_pre hK rep _⟩ rfl (hlen _ k3) har hst (lv_room hg.2) hd ⟨b1, b2⟩
        · simp only [Bool.and_eq_true, decide_eq_true_eq] at hok
          obtain ⟨-, ⟨k1, k2⟩, k3⟩ := hok
          exact va_runSN (As := (st.take q5).reverse) S (hM _ _ _ _ hC x hx9 hpl) ⟨qm_CallN (mid := 0) hmem hy hts (va_Nw.use rfl (hK.2.1 _ (qm_atN_mem k1))) hfr hlo _ _, hts _ (qm_at_mem k2), trivial⟩ ⟨qm_blind D dA X _ h, qm_pre hK rep _⟩ rfl (hlen _ k3) har hst (lv_room hg.2) hd ⟨b1, b2⟩
      · rw [if_neg hg] at hp; cases hp
    · obtain ⟨q, hq, hn⟩ := List.any_eq_true.mp hn; simp only [decide_eq_true_eq] at hn; obtain ⟨-, -, -, rfl⟩ := hn; cases hp
    · obtain ⟨q, hq, hn⟩ := List.any_eq_true.mp hn; simp only [decide_eq_true_eq] at hn; obtain ⟨-, -, -, rfl⟩ := hn; cases hp
  | iconst n => simp only [qm_nrm, decide_eq_true_eq] at hn; obtain ⟨-, rfl⟩ := hn; cases hp
  | bipush n => simp only [qm_nrm, decide_eq_true_eq] at hn; obtain ⟨-, rfl⟩ := hn; cases hp
  | sipush n => simp only [qm_nrm, decide_eq_true_eq] at hn; obtain ⟨-, rfl⟩ := hn; cases hp
  | ldc n => simp only [qm_nrm] at hn; obtain ⟨q, hq, hn⟩ := List.any_eq_true.mp hn; simp only [decide_eq_true_eq] at hn; obtain ⟨-, -, -, rfl⟩ := hn; cases hp
  | ldc_w n => simp only [qm_nrm] at hn; obtain ⟨q, hq, hn⟩ := List.any_eq_true.mp hn; simp only [decide_eq_true_eq] at hn; obtain ⟨-, -, -, rfl⟩ := hn; cases hp
  | lconst n => simp only [qm_nrm, decide_eq_true_eq] at hn; obtain ⟨-, rfl⟩ := hn; cases hp
  | ldc2_w n => simp only [qm_nrm] at hn; obtain ⟨q, hq, hn⟩ := List.any_eq_true.mp hn; simp only [decide_eq_true_eq] at hn; obtain ⟨-, -, -, rfl⟩ := hn; cases hp
  | aconst_null => simp only [qm_nrm, decide_eq_true_eq] at hn; obtain ⟨-, rfl⟩ := hn; cases hp
  | iload_n n => simp only [qm_nrm, decide_eq_true_eq] at hn; obtain ⟨-, rfl⟩ := hn; cases hp
  | iload n => simp only [qm_nrm, decide_eq_true_eq] at hn; obtain ⟨-, rfl⟩ := hn; cases hp
  | lload_n n => simp only [qm_nrm, decide_eq_true_eq] at hn; obtain ⟨-, rfl⟩ := hn; cases hp
  | lload n => simp only [qm_nrm, decide_eq_true_eq] at hn; obtain ⟨-, rfl⟩ := hn; cases hp
  | aload_n n => simp only [qm_nrm, decide_eq_true_eq] at hn; obtain ⟨-, rfl⟩ := hn; cases hp
  | aload n => simp only [qm_nrm, decide_eq_true_eq] at hn; obtain ⟨-, rfl⟩ := hn; cases hp
  | istore_n n => simp only [qm_nrm, decide_eq_true_eq] at hn; obtain ⟨-, rfl⟩ := hn; cases hp
  | istore n => simp only [qm_nrm, decide_eq_true_eq] at hn; obtain ⟨-, rfl⟩ := hn; cases hp
  | lstore_n n => simp only [qm_nrm, decide_eq_true_eq] at hn; obtain ⟨-, rfl⟩ := hn; cases hp
  | lstore n => simp only [qm_nrm, decide_eq_true_eq] at hn; obtain ⟨-, rfl⟩ := hn; cases hp
  | astore_n n => simp only [qm_nrm, decide_eq_true_eq] at hn; obtain ⟨-, rfl⟩ := hn; cases hp
  | astore n => simp only [qm_nrm, decide_eq_true_eq] at hn; obtain ⟨-, rfl⟩ := hn; cases hp
  | iinc n d => simp only [qm_nrm, decide_eq_true_eq] at hn; obtain ⟨-, rfl⟩ := hn; cases hp
  | iadd => simp only [qm_nrm, decide_eq_true_eq] at hn; obtain ⟨-, rfl⟩ := hn; cases hp
  | isub => simp only [qm_nrm, decide_eq_true_eq] at hn; obtain ⟨-, rfl⟩ := hn; cases hp
  | imul => simp only [qm_nrm, decide_eq_true_eq] at hn; obtain ⟨-, rfl⟩ := hn; cases hp
  | iand => simp only [qm_nrm, decide_eq_true_eq] at hn; obtain ⟨-, rfl⟩ := hn; cases hp
  | ior => simp only [qm_nrm, decide_eq_true_eq] at hn; obtain ⟨-, rfl⟩ := hn; cases hp
  | ixor => simp only [qm_nrm, decide_eq_true_eq] at hn; obtain ⟨-, rfl⟩ := hn; cases hp
  | ishl => simp only [qm_nrm, decide_eq_true_eq] at hn; obtain ⟨-, rfl⟩ := hn; cases hp
  | ishr => simp only [qm_nrm, decide_eq_true_eq] at hn; obtain ⟨-, rfl⟩ := hn; cases hp
  | iushr => simp only [qm_nrm, decide_eq_true_eq] at hn; obtain ⟨-, rfl⟩ := hn; cases hp
  | idiv => simp only [qm_nrm, decide_eq_true_eq] at hn; obtain ⟨-, rfl⟩ := hn; cases hp
  | irem => simp only [qm_nrm, decide_eq_true_eq] at hn; obtain ⟨-, rfl⟩ := hn; cases hp
  | ineg => simp only [qm_nrm, decide_eq_true_eq] at hn; obtain ⟨-, rfl⟩ := hn; cases hp
  | i2l => simp only [qm_nrm, decide_eq_true_eq] at hn; obtain ⟨-, rfl⟩ := hn; cases hp
  | l2i => simp only [qm_nrm, decide_eq_true_eq] at hn; obtain ⟨-, rfl⟩ := hn; cases hp
  | lneg => simp only [qm_nrm, decide_eq_true_eq] at hn; obtain ⟨-, rfl⟩ := hn; cases hp
  | ladd => simp only [qm_nrm, decide_eq_true_eq] at hn; obtain ⟨-, rfl⟩ := hn; cases hp
  | lsub => simp only [qm_nrm, decide_eq_true_eq] at hn; obtain ⟨-, rfl⟩ := hn; cases hp
  | lmul => simp only [qm_nrm, decide_eq_true_eq] at hn; obtain ⟨-, rfl⟩ := hn; cases hp
  | lcmp => simp only [qm_nrm, decide_eq_true_eq] at hn; obtain ⟨-, rfl⟩ := hn; cases hp
  | ldiv => simp only [qm_nrm, decide_eq_true_eq] at hn; obtain ⟨-, rfl⟩ := hn; cases hp
  | dup => simp only [qm_nrm, decide_eq_true_eq] at hn; obtain ⟨-, rfl⟩ := hn; cases hp
  | pop => simp only [qm_nrm, decide_eq_true_eq] at hn; obtain ⟨-, rfl⟩ := hn; cases hp
  | dup2 => simp only [qm_nrm, decide_eq_true_eq] at hn; obtain ⟨-, rfl⟩ := hn; cases hp
  | goto t => simp only [qm_nrm, decide_eq_true_eq] at hn; obtain ⟨-, -, rfl⟩ := hn; cases hp
  | ifCond cd t => simp only [qm_nrm, decide_eq_true_eq] at hn; obtain ⟨-, -, rfl⟩ := hn; cases hp
  | if_icmp cd t => simp only [qm_nrm, decide_eq_true_eq] at hn; obtain ⟨-, -, rfl⟩ := hn; cases hp
  | ifnull t => simp only [qm_nrm, decide_eq_true_eq] at hn; obtain ⟨-, -, rfl⟩ := hn; cases hp
  | ifnonnull t => simp only [qm_nrm, decide_eq_true_eq] at hn; obtain ⟨-, -, rfl⟩ := hn; cases hp
  | tableswitch d lo hi offs => simp only [qm_nrm, decide_eq_true_eq] at hn; obtain ⟨rfl, -⟩ := hn; cases hp
  | lookupswitch d ps => simp only [qm_nrm, decide_eq_true_eq] at hn; obtain ⟨rfl, -⟩ := hn; cases hp
  | return_ => simp only [qm_nrm, decide_eq_true_eq] at hn; obtain ⟨-, -, rfl⟩ := hn; cases hp
  | lreturn => simp only [qm_nrm, decide_eq_true_eq] at hn; obtain ⟨-, -, rfl⟩ := hn; cases hp
  | areturn => simp only [qm_nrm, decide_eq_true_eq] at hn; obtain ⟨-, -, rfl⟩ := hn; cases hp
  | ireturn =>
    simp only [qm_nrm, decide_eq_true_eq] at hn
    obtain ⟨-, hn⟩ := hn
    rcases hn with ⟨-, rfl⟩ | ⟨-, rfl⟩ <;> cases hp
  | aaload => simp only [qm_nrm, decide_eq_true_eq] at hn; obtain ⟨-, rfl⟩ := hn; cases hp
  | aastore => simp only [qm_nrm, decide_eq_true_eq] at hn; obtain ⟨-, rfl⟩ := hn; cases hp
  | arraylength => simp only [qm_nrm, decide_eq_true_eq] at hn; obtain ⟨-, rfl⟩ := hn; cases hp
  | iaload => simp only [qm_nrm, decide_eq_true_eq] at hn; obtain ⟨-, rfl⟩ := hn; cases hp
  | iastore => simp only [qm_nrm, decide_eq_true_eq] at hn; obtain ⟨-, rfl⟩ := hn; cases hp
  | laload => simp only [qm_nrm, decide_eq_true_eq] at hn; obtain ⟨-, rfl⟩ := hn; cases hp
  | lastore => simp only [qm_nrm, decide_eq_true_eq] at hn; obtain ⟨-, rfl⟩ := hn; cases hp
  | newarray t => simp only [qm_nrm, decide_eq_true_eq] at hn; obtain ⟨-, -, rfl⟩ := hn; cases hp
  | getfield n => simp only [qm_nrm] at hn; obtain ⟨q, hq, hn⟩ := List.any_eq_true.mp hn; simp only [decide_eq_true_eq] at hn; obtain ⟨-, -, -, rfl⟩ := hn; cases hp
  | new n => simp only [qm_nrm] at hn; obtain ⟨q, hq, hn⟩ := List.any_eq_true.mp hn; simp only [decide_eq_true_eq] at hn; obtain ⟨-, -, -, rfl⟩ := hn; cases hp
  | anewarray n => simp only [qm_nrm] at hn; obtain ⟨q, hq, hn⟩ := List.any_eq_true.mp hn; simp only [decide_eq_true_eq] at hn; obtain ⟨-, -, -, rfl⟩ := hn; cases hp
  | putfield n => simp only [qm_nrm] at hn; obtain ⟨q, hq, hn⟩ := List.any_eq_true.mp hn; simp only [decide_eq_true_eq] at hn; obtain ⟨-, -, -, hu, -⟩ := hn; rw [hu] at hp; cases hp
  | _ => cases hn
end QMC
