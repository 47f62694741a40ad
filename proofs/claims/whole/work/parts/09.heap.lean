/-! heap instructions, by the kit's rows -/
theorem qm_Wsize {p : Program} {l : Launch} {e : Env} {R : Room} {s : State} {m : MethodId} {args : Array Value} {below : List Frame} {meth : Method} {c : Code} {H : Heap} {locs : List Loc} {cells slots : Nat} {Q : State → Prop} {g : JFrame} (k : H.size ≤ s.heap.size + cells → W p l e R s m args below meth c H locs cells slots Q g) : W p l e R s m args below meth c H locs cells slots Q g := fun T hT X => k (by rw [← hT]; exact X.heapSize) T hT X
/-- what stays the same through a method's body -/
def qm_Cx (p : Program) (R : Room) (s : State) (m : MethodId) (args : Array Value) (meth : Method) (c : Code) (cc : ByteArray) (nL o : Nat) (ini : Bool) (rt : Option FieldType) (D : va_G) (dA : Nat → ClassId) (X : qm_X) (h0 : qm_H) : Prop :=
  p.tables.exec = Jvm.exec ∧ c.code = cc ∧ s.vm.findClass (qm_own o) = some m.cls ∧ (∀ w ∈ qm_tb, w.before args s = true) ∧ qm_KK D dA s ∧ c.maxLocals = nL ∧ meth.sig.returnType = rt ∧ meth.locks = false ∧ (ini = true → meth.name = "<init>") ∧ s.heap.size = X.1 + h0.1 ∧ 1 ≤ R.frames ∧ 60 ≤ R.locals
section QMI
variable {p : Program} {l : Launch} {e : Env} {R : Room} {s : State} {m : MethodId} {args : Array Value} {below : List Frame} {meth : Method} {c : Code} {H : Heap} {locs : List Loc} {cells slots : Nat} {Q : State → Prop} {cc : ByteArray} {pc len o nL : Nat} {ini : Bool} {rt : Option FieldType} {i : Instr} {u : qm_I} {ls ls' : List Slot} {st st' r : List Value} {ar : Array Slot} {D : va_G} {dA : Nat → ClassId} {X : qm_X} {h h' h0 : qm_H} {a : Nat} {v : Value}
/-- behind an instruction: the new heap is held by the JVM's, what was written lies in the world -/
def qm_K (p : Program) (l : Launch) (e : Env) (R : Room) (s : State) (m : MethodId) (args : Array Value) (below : List Frame) (meth : Method) (c : Code) (Q : State → Prop) (D : va_G) (dA : Nat → ClassId) (X : qm_X) (h0 h : qm_H) (pc : Nat) (ar : Array Slot) (st : List Value) : Prop := ∀ (H : Heap) (locs : List Loc), qm_Rep D dA X s H h → (∀ q ∈ locs, X.1 ≤ q.base) → W p l e R s m args below meth c H locs (h.1 - h0.1) (h.2.1 - h0.2.1) Q (F0 m pc ar st)
theorem qm_h_get {n ci k pos : Nat} (C : qm_Cx p R s m args meth c cc nL o ini rt D dA X h0) (hd : decode cc pc = .ok (.getfield n, 3)) (hs : (o, n, ci, k, pos) ∈ qm_fs) (hg : qm_gf h a ci k = some v) (kk : qm_K p l e R s m args below meth c Q D dA X h0 h (pc + 3) ar (v :: r)) : qm_K p l e R s m args below meth c Q D dA X h0 h pc ar (.ref a :: r) := by
  intro H locs rep hl
  obtain ⟨hx, hb, hown, hts, hK, -⟩ := C
  have hok := List.all_eq_true.mp qm_fs_ok _ hs
  unfold qm_fsB at hok
  split at hok
  · rename_i q hq
    rw [Bool.and_eq_true, decide_eq_true_eq] at hok
    unfold qm_gf at hg
    split at hg
    · rename_i c0 fs hc
      by_cases hcc : c0 = ci
      · rw [if_pos hcc] at hg
        subst hcc
        have hne : (Sum.inr (c0, fs) : qm_C) ≠ qm_no := by
          intro z
          have : c0 = 99 := congrArg (fun y : qm_C => match y with | .inr t => t.1 | .inl _ => 0) z
          subst this
          simp [vwCl] at hq
        obtain ⟨k0, hk0⟩ := qm_get rep hc hne
        exact va_get hx hb hts (qm_cl hq).1 hown hK.1 rep.2.1 k0 hk0 hq k hok.1 (hts _ (qm_at_mem hok.2)) (fun _ z => z) hg hd (kk H locs rep hl)
      · rw [if_neg hcc] at hg; cases hg
    · cases hg
  · cases hok
theorem qm_kv_ok {t : Option FieldType} {kd : Nat} (hk : kd = qm_fkd t) (hv : qm_kv v = kd) : ∃ ty, t = some ty ∧ narrow ty v = v ∧ fits ty v = true := by
  subst hk
  unfold qm_fkd at hv
  split at hv
  · cases v <;> simp [qm_kv] at hv
    exact ⟨_, rfl, rfl, rfl⟩
  · cases v <;> simp [qm_kv] at hv
    exact ⟨_, rfl, rfl, rfl⟩
  · cases v <;> simp [qm_kv] at hv
    exact ⟨_, rfl, rfl, rfl⟩
  · cases v <;> simp [qm_kv] at hv
    exact ⟨_, rfl, rfl, rfl⟩
  · cases v <;> simp [qm_kv] at hv
theorem qm_h_put {n ci k pos kd : Nat} (C : qm_Cx p R s m args meth c cc nL o ini rt D dA X h0) (hh : h0.1 ≤ h.1) (hd : decode cc pc = .ok (.putfield n, 3)) (hs : (o, n, ci, k, pos) ∈ qm_fs) (hf : qm_finB ini o (o, n, ci, k, pos) kd = true) (hg : qm_pf h a ci k kd v = some h') (kk : qm_K p l e R s m args below meth c Q D dA X h0 h' (pc + 3) ar r) : qm_K p l e R s m args below meth c Q D dA X h0 h pc ar (v :: .ref a :: r) := by
  intro H locs rep hl
  obtain ⟨hx, hb, hown, hts, hK, -, -, -, hin, hsz, -, -⟩ := C
  have hok := List.all_eq_true.mp qm_fs_ok _ hs
  unfold qm_fsB at hok
  split at hok
  · rename_i q hq
    rw [Bool.and_eq_true, decide_eq_true_eq] at hok
    unfold qm_finB at hf
    rw [hq] at hf
    dsimp only at hf hq hok
    rw [Bool.and_eq_true, decide_eq_true_eq] at hf
    unfold qm_pf at hg
    split at hg
    · rename_i c0 fs hc
      by_cases hcc : c0 = ci ∧ k < fs.length ∧ qm_kv v = kd
      · rw [if_pos hcc] at hg
        obtain ⟨hcc, hkl, hkv⟩ := hcc
        cases hg
        subst hcc
        have hne : (Sum.inr (c0, fs) : qm_C) ≠ qm_no := by
          intro z
          have : c0 = 99 := congrArg (fun y : qm_C => match y with | .inr t => t.1 | .inl _ => 0) z
          subst this
          simp [vwCl] at hq
        obtain ⟨k0, hk0⟩ := qm_get rep hc hne
        obtain ⟨w1, ⟨ty0, hty⟩, hnm⟩ := qm_cl hq
        obtain ⟨ty, ht1, ht2, ht3⟩ := qm_kv_ok hf.1 hkv
        cases hfin : (q.2.1 k).2.2.2 with
        | false =>
          refine va_put hx hb hts w1 ty0 hty hnm hown hK.1 rep.2.1 (qm_w_D dA X h) (qm_S0 hl) k0 hk0 hq k hok.1 (hts _ (qm_at_mem hok.2)) (fun _ z => z) hfin ht1 ht2 ht3 hkl hd (fun H1 locs1 hP hD hS => ?_)
          refine qm_Wsize (fun hz => ?_)
          exact kk H1 locs1 (qm_Rep_set rep (x := .inr (c0, fs.set k v)) hk0 hP hS (by omega)) hS.2.2
        | true =>
          have hf2 := hf.2
          rw [hfin] at hf2
          simp at hf2
          refine va_putF hx hb hts w1 ty0 hty hnm hown hK.1 rep.2.1 (qm_w_D dA X h) (qm_S0 hl) k0 hk0 hq k hok.1 (hts _ (qm_at_mem hok.2)) (fun _ z => z) hfin (hin hf2.1) hf2.2 ht1 ht2 ht3 hkl hd (fun H1 locs1 hP hD hS => ?_)
          refine qm_Wsize (fun hz => ?_)
          exact kk H1 locs1 (qm_Rep_set rep (x := .inr (c0, fs.set k v)) hk0 hP hS (by omega)) hS.2.2
      · rw [if_neg hcc] at hg; cases hg
    · cases hg
  · cases hok
theorem qm_inl_ne {t : Nat × vp_A} : (Sum.inl t : qm_C) ≠ qm_no := fun z => by cases z
theorem qm_h_iald {x : Int32} {j : Int32} (C : qm_Cx p R s m args meth c cc nL o ini rt D dA X h0) (hd : decode cc pc = .ok (.iaload, 1)) (hg : qm_ia X h a j = some x) (kk : qm_K p l e R s m args below meth c Q D dA X h0 h (pc + 1) ar (.int x :: r)) : qm_K p l e R s m args below meth c Q D dA X h0 h pc ar (.int j :: .ref a :: r) := by
  intro H locs rep hl
  obtain ⟨hx, hb, hown, hts, hK, -⟩ := C
  unfold qm_ia at hg
  split at hg
  · rename_i t n f hc
    by_cases hi : qm_in j n = true
    · rw [if_pos hi] at hg
      cases hg
      obtain ⟨k0, hk0⟩ := qm_get rep hc qm_inl_ne
      exact va_iald hx hb hK.1 rep.2.1 k0 0 hk0 rfl (qm_in_vp hi) hd (kk H locs rep hl)
    · rw [if_neg hi] at hg; cases hg
  · cases hg
  · by_cases hi : a = X.2.1 ∧ qm_in j X.2.2.1 = true
    · rw [if_pos hi] at hg
      cases hg
      obtain ⟨rfl, hi⟩ := hi
      exact va_sld (H0 := H) (A := qm_A X) hx hb rep.2.2.2.1 (by have := rep.1; have := rep.2.2.2.2; omega) (fun z => by unfold qm_A at z; have := rep.2.2.2.2; omega) (qm_S0 hl) (qm_in_vp hi) hd (kk H locs rep hl)
    · rw [if_neg hi] at hg; cases hg
theorem qm_h_alen {x : Int32} (C : qm_Cx p R s m args meth c cc nL o ini rt D dA X h0) (hd : decode cc pc = .ok (.arraylength, 1)) (hg : qm_al X h a = some x) (kk : qm_K p l e R s m args below meth c Q D dA X h0 h (pc + 1) ar (.int x :: r)) : qm_K p l e R s m args below meth c Q D dA X h0 h pc ar (.ref a :: r) := by
  intro H locs rep hl
  obtain ⟨hx, hb, hown, hts, hK, -⟩ := C
  unfold qm_al at hg
  split at hg
  · rename_i t n f hc
    cases hg
    obtain ⟨k0, hk0⟩ := qm_get rep hc qm_inl_ne
    exact va_alen hx hb hK.1 rep.2.1 k0 0 hk0 rfl rfl hd (kk H locs rep hl)
  · cases hg
  · by_cases hi : a = X.2.1
    · rw [if_pos hi] at hg
      cases hg
      subst hi
      exact va_slen (H0 := H) (A := qm_A X) hx hb rep.2.2.2.1 (by have := rep.1; have := rep.2.2.2.2; omega) (fun z => by unfold qm_A at z; have := rep.2.2.2.2; omega) (qm_S0 hl) hd (kk H locs rep hl)
    · rw [if_neg hi] at hg; cases hg
theorem qm_h_lald {x : Int64} {j : Int32} (C : qm_Cx p R s m args meth c cc nL o ini rt D dA X h0) (hd : decode cc pc = .ok (.laload, 1)) (hg : qm_la h a j = some x) (kk : qm_K p l e R s m args below meth c Q D dA X h0 h (pc + 1) ar (.long x :: r)) : qm_K p l e R s m args below meth c Q D dA X h0 h pc ar (.int j :: .ref a :: r) := by
  intro H locs rep hl
  obtain ⟨hx, hb, hown, hts, hK, -⟩ := C
  unfold qm_la at hg
  split at hg
  · rename_i t n f hc
    by_cases hi : qm_in j n = true
    · rw [if_pos hi] at hg
      cases hg
      obtain ⟨k0, hk0⟩ := qm_get rep hc qm_inl_ne
      exact va_lald hx hb hK.1 rep.2.1 k0 1 hk0 rfl (qm_in_vp hi) hd (kk H locs rep hl)
    · rw [if_neg hi] at hg; cases hg
  · cases hg
theorem qm_h_iast {x j : Int32} (C : qm_Cx p R s m args meth c cc nL o ini rt D dA X h0) (hh : h0.1 ≤ h.1) (hd : decode cc pc = .ok (.iastore, 1)) (hg : qm_is h a j x = some h') (kk : qm_K p l e R s m args below meth c Q D dA X h0 h' (pc + 1) ar r) : qm_K p l e R s m args below meth c Q D dA X h0 h pc ar (.int x :: .int j :: .ref a :: r) := by
  intro H locs rep hl
  obtain ⟨hx, hb, hown, hts, hK, -, -, -, -, hsz, -, -⟩ := C
  unfold qm_is at hg
  split at hg
  · rename_i t n f hc
    by_cases hi : qm_in j n = true
    · rw [if_pos hi] at hg
      cases hg
      obtain ⟨k0, hk0⟩ := qm_get rep hc qm_inl_ne
      refine va_iast hx hb hK.1 rep.2.1 (qm_w_D dA X h) (qm_S0 hl) k0 0 hk0 rfl (qm_in_vp hi) hd (fun H1 locs1 hP hD hS => ?_)
      refine qm_Wsize (fun hz => ?_)
      exact kk H1 locs1 (qm_Rep_set rep (x := .inl (t, n, .inl (upd f j.toNatClampNeg x))) hk0 hP hS (by omega)) hS.2.2
    · rw [if_neg hi] at hg; cases hg
  · cases hg
theorem qm_h_last {x : Int64} {j : Int32} (C : qm_Cx p R s m args meth c cc nL o ini rt D dA X h0) (hh : h0.1 ≤ h.1) (hd : decode cc pc = .ok (.lastore, 1)) (hg : qm_ls h a j x = some h') (kk : qm_K p l e R s m args below meth c Q D dA X h0 h' (pc + 1) ar r) : qm_K p l e R s m args below meth c Q D dA X h0 h pc ar (.long x :: .int j :: .ref a :: r) := by
  intro H locs rep hl
  obtain ⟨hx, hb, hown, hts, hK, -, -, -, -, hsz, -, -⟩ := C
  unfold qm_ls at hg
  split at hg
  · rename_i t n f hc
    by_cases hi : qm_in j n = true
    · rw [if_pos hi] at hg
      cases hg
      obtain ⟨k0, hk0⟩ := qm_get rep hc qm_inl_ne
      refine va_last hx hb hK.1 rep.2.1 (qm_w_D dA X h) (qm_S0 hl) k0 1 hk0 rfl (qm_in_vp hi) hd (fun H1 locs1 hP hD hS => ?_)
      refine qm_Wsize (fun hz => ?_)
      exact kk H1 locs1 (qm_Rep_set rep (x := .inl (t, n, .inr (.inl (vp_updL f j.toNatClampNeg x)))) hk0 hP hS (by omega)) hS.2.2
    · rw [if_neg hi] at hg; cases hg
  · cases hg
theorem qm_h_aald {j : Int32} (C : qm_Cx p R s m args meth c cc nL o ini rt D dA X h0) (hd : decode cc pc = .ok (.aaload, 1)) (hg : qm_aa h a j = some v) (kk : qm_K p l e R s m args below meth c Q D dA X h0 h (pc + 1) ar (v :: r)) : qm_K p l e R s m args below meth c Q D dA X h0 h pc ar (.int j :: .ref a :: r) := by
  intro H locs rep hl
  obtain ⟨hx, hb, hown, hts, hK, -⟩ := C
  unfold qm_aa at hg
  split at hg
  · rename_i t n f hc
    by_cases hi : qm_in j n = true ∧ (t = 2 ∨ t = 3)
    · rw [if_pos hi] at hg
      cases hg
      obtain ⟨k0, hk0⟩ := qm_get rep hc qm_inl_ne
      rcases hi.2 with rfl | rfl
      · exact va_aldq hx hb hK.1 rep.2.1 k0 2 hk0 rfl (qm_in_vp hi.1) hd (kk H locs rep hl)
      · exact va_aldq hx hb hK.1 rep.2.1 k0 3 hk0 rfl (qm_in_vp hi.1) hd (kk H locs rep hl)
    · rw [if_neg hi] at hg; cases hg
  · cases hg
theorem qm_h_aast {j : Int32} {y : Nat} (C : qm_Cx p R s m args meth c cc nL o ini rt D dA X h0) (hh : h0.1 ≤ h.1) (hd : decode cc pc = .ok (.aastore, 1)) (hg : qm_as h a j y = some h') (kk : qm_K p l e R s m args below meth c Q D dA X h0 h' (pc + 1) ar r) : qm_K p l e R s m args below meth c Q D dA X h0 h pc ar (.ref y :: .int j :: .ref a :: r) := by
  intro H locs rep hl
  obtain ⟨hx, hb, hown, hts, hK, -, -, -, -, hsz, -, -⟩ := C
  unfold qm_as at hg
  split at hg
  · rename_i t n f c0 fs hc hy
    by_cases hi : qm_in j n = true ∧ (t = 2 ∨ t = 3) ∧ c0 = qm_el t
    · rw [if_pos hi] at hg
      cases hg
      obtain ⟨k0, hk0⟩ := qm_get rep hc qm_inl_ne
      obtain ⟨hi1, hi2, hi3⟩ := hi
      have hne : (Sum.inr (c0, fs) : qm_C) ≠ qm_no := by
        intro z
        have h9 : c0 = 99 := congrArg (fun y : qm_C => match y with | .inr t => t.1 | .inl _ => 0) z
        rw [h9] at hi3
        unfold qm_el at hi3
        split at hi3 <;> cases hi3
      obtain ⟨k1, hk1⟩ := qm_get rep hy hne
      rcases hi2 with rfl | rfl
      · subst hi3
        refine va_astq (r := (RX7, TX7, 2)) hx hb hK.1 rep.2.1 (qm_w_D dA X h) (qm_S0 hl) k0 2 k1 7 hk0 rfl hk1 rfl (qm_in_vp hi1) hd (fun H1 locs1 hP hD hS => ?_)
        refine qm_Wsize (fun hz => ?_)
        exact kk H1 locs1 (qm_Rep_set rep (x := .inl (2, n, .inr (.inr (.inr (.inr (va_up f j.toNatClampNeg (some y))))))) hk0 hP hS (by omega)) hS.2.2
      · subst hi3
        refine va_astq (r := (RX1, TX1, 4)) hx hb hK.1 rep.2.1 (qm_w_D dA X h) (qm_S0 hl) k0 3 k1 1 hk0 rfl hk1 rfl (qm_in_vp hi1) hd (fun H1 locs1 hP hD hS => ?_)
        refine qm_Wsize (fun hz => ?_)
        exact kk H1 locs1 (qm_Rep_set rep (x := .inl (3, n, .inr (.inr (.inr (.inr (va_up f j.toNatClampNeg (some y))))))) hk0 hP hS (by omega)) hS.2.2
    · rw [if_neg hi] at hg; cases hg
  · cases hg
theorem qm_h_copy {n : Nat} {a0 a1 : Nat} {sp dp k : Int32} (C : qm_Cx p R s m args meth c cc nL o ini rt D dA X h0) (har : ar.size = nL) (hh : h0.1 ≤ h.1) (hd : decode cc pc = .ok (.invokestatic n, 3)) (hlk : Cond.methodLink (qm_own o) n arraycopyName ∈ qm_tb) (hr : qm_sum r ≤ 8) (hg : qm_cp h a0 sp a1 dp k = some h') (kk : qm_K p l e R s m args below meth c Q D dA X h0 h' (pc + 3) ar r) : qm_K p l e R s m args below meth c Q D dA X h0 h pc ar (.int k :: .int dp :: .ref a1 :: .int sp :: .ref a0 :: r) := by
  intro H locs rep hl
  obtain ⟨hx, hb, hown, hts, hK, hml, -, -, -, hsz, hfr, hlo⟩ := C
  unfold qm_cp at hg
  split at hg
  · rename_i t0 n0 f t1 n1 g hc0 hc1
    by_cases hi : ¬ sp < 0 ∧ ¬ dp < 0 ∧ ¬ k < 0 ∧ sp.toNatClampNeg + k.toNatClampNeg ≤ n0 ∧ dp.toNatClampNeg + k.toNatClampNeg ≤ n1
    · rw [if_pos hi] at hg
      cases hg
      obtain ⟨h1, h2, h3, h4, h5⟩ := hi
      obtain ⟨k0, hk0⟩ := qm_get rep hc0 qm_inl_ne
      obtain ⟨k1, hk1⟩ := qm_get rep hc1 qm_inl_ne
      refine va_copyi (ty := .int) hx hb (by rw [hml, har]) hown (hts _ hlk) (hts _ qm_ac1) (hts _ qm_ac2) (hts _ qm_ac3) hK.1 rep.2.1 (qm_w_D dA X h) (qm_S0 hl) k0 k1 0 0 hk0 hk1 rfl rfl rfl h1 h2 h3 h4 h5 (fun _ _ => rfl) hfr ?_ hd (fun H1 locs1 hP hD hS => ?_)
      · unfold qm_sum at hr
        have : nativeFrameWords "java/lang/System" "arraycopy" 5 + 11 ≤ 52 := by decide
        omega
      · refine qm_Wsize (fun hz => ?_)
        exact kk H1 locs1 (qm_Rep_set rep (x := .inl (t1, n1, .inl (va_cpy f g sp.toNatClampNeg dp.toNatClampNeg k.toNatClampNeg))) hk1 hP hS (by omega)) hS.2.2
    · rw [if_neg hi] at hg; cases hg
  · cases hg
theorem qm_h_oi {n : Nat} (C : qm_Cx p R s m args meth c cc nL o ini rt D dA X h0) (har : ar.size = nL) (hd : decode cc pc = .ok (.invokespecial n, 3)) (hlk : Cond.methodLink (qm_own o) n objectInit ∈ qm_tb) (hr : qm_sum r ≤ 8) (kk : qm_K p l e R s m args below meth c Q D dA X h0 h (pc + 3) ar r) : qm_K p l e R s m args below meth c Q D dA X h0 h pc ar (.ref a :: r) := by
  intro H locs rep hl
  obtain ⟨hx, hb, hown, hts, hK, hml, -, -, -, hsz, hfr, hlo⟩ := C
  refine W.objInit hx hb hown (hts _ hlk) (hts _ qm_oi1) (hts _ qm_oi2) rfl (by rw [hml]; exact har) rfl hd hfr ?_ ?_
  · unfold qm_sum at hr
    show 2 * 0 + _ + 12 ≤ _
    omega
  · exact kk H locs rep hl
theorem qm_h_mx {n : Nat} {x y : Int32} (C : qm_Cx p R s m args meth c cc nL o ini rt D dA X h0) (har : ar.size = nL) (hc : h.1 - h0.1 ≤ R.cells) (hsl : h.2.1 - h0.2.1 ≤ R.slots) (hd : decode cc pc = .ok (.invokestatic n, 3)) (hlk : Cond.methodLink (qm_own o) n Lib.Math.max.name ∈ qm_tb) (hr : qm_sum r ≤ 8) (kk : qm_K p l e R s m args below meth c Q D dA X h0 h (pc + 3) ar (.int (if x < y then y else x) :: r)) : qm_K p l e R s m args below meth c Q D dA X h0 h pc ar (.int y :: .int x :: r) := by
  intro H locs rep hl
  obtain ⟨hx, hb, hown, hts, hK, hml, -, -, -, hsz, hfr, hlo⟩ := C
  refine va_mmax hx hb (by rw [hml, har]) hown (hts _ hlk) (hts _ qm_mx1) (hts _ qm_mx2) (hts _ qm_mx3) hfr ?_ hc hsl hd (kk H locs rep hl)
  unfold qm_sum at hr
  omega
theorem qm_def_ok {ci : Nat} {q : vw_C} (hq : vwCl[ci]? = some q) {fs : List Value} (hf : qm_def ci = some fs) : fs.length = q.2.2 ∧ ∃ ty : Nat → FieldType, (∀ k, k < q.2.2 → parseFieldDescriptor (q.2.1 k).2.2.1 = some (ty k)) ∧ ∀ j, j < q.2.2 → defaultValue (ty j) = vp_V fs j := by
  match ci, hq, hf with
  | 0, hq, hf => cases hq; cases hf; exact ⟨rfl, tyX0, tyX0_ok, by decide +kernel⟩
  | 1, hq, hf => cases hq; cases hf; exact ⟨rfl, tyX1, tyX1_ok, by decide +kernel⟩
  | 2, hq, hf => cases hq; cases hf; exact ⟨rfl, tyX2, tyX2_ok, by decide +kernel⟩
  | 3, hq, hf => cases hq; cases hf; exact ⟨rfl, tyX3, tyX3_ok, by decide +kernel⟩
  | 4, hq, hf => cases hq; cases hf; exact ⟨rfl, tyX4, tyX4_ok, by decide +kernel⟩
  | 5, hq, hf => cases hq; cases hf; exact ⟨rfl, tyX5, tyX5_ok, by decide +kernel⟩
  | 6, hq, hf => cases hq; cases hf; exact ⟨rfl, tyX6, tyX6_ok, by decide +kernel⟩
  | 7, hq, hf => cases hq; cases hf; exact ⟨rfl, tyX7, tyX7_ok, by decide +kernel⟩
  | 8, hq, hf => cases hq; cases hf; exact ⟨rfl, tyX8, tyX8_ok, by decide +kernel⟩
  | 9, hq, hf => cases hq; cases hf; exact ⟨rfl, tyX9, tyX9_ok, by decide +kernel⟩
  | k + 10, hq, hf => simp [vwCl] at hq
theorem qm_h_new {n ci p1 p2 p3 : Nat} {fs : List Value} (C : qm_Cx p R s m args meth c cc nL o ini rt D dA X h0) (hh : h0.1 ≤ h.1) (hh2 : h0.2.1 ≤ h.2.1) (hd : decode cc pc = .ok (.new n, 3)) (hs : (o, n, ci, p1, p2, p3) ∈ qm_nw) (hf : qm_def ci = some fs) (hc : h.1 + 1 - h0.1 ≤ R.cells) (hsl : h.2.1 + fs.length - h0.2.1 ≤ R.slots) (kk : qm_K p l e R s m args below meth c Q D dA X h0 (qm_mk X h fs.length (.inr (ci, fs))) (pc + 3) ar (.ref (X.1 + h.1) :: r)) : qm_K p l e R s m args below meth c Q D dA X h0 h pc ar r := by
  intro H locs rep hl
  obtain ⟨hx, hb, hown, hts, hK, -, -, -, -, hsz, -, -⟩ := C
  have hok := List.all_eq_true.mp qm_nw_ok _ hs
  unfold qm_nwB at hok
  split at hok
  · rename_i q hq
    rw [Bool.and_eq_true, Bool.and_eq_true] at hok
    obtain ⟨hlen, ty, hty, hdef⟩ := qm_def_ok hq hf
    refine va_new (ci := ci) (fs := fs) (C := q.1) (T := q.2.1) (N := q.2.2) hx hb hts (qm_cl hq).1 ty hty hown (hts _ (qm_at_mem hok.1.1)) (hts _ (qm_at_mem hok.1.2)) (hts _ (qm_at_mem hok.2)) hK.1 rep.2.1 (qm_w_D dA X h) (qm_S0 hl) (fun y hy => by unfold qm_A; have := rep.1; omega) hq hdef (by omega) (by omega) hd (fun q1 H1 hP hD hS => ?_)
    refine qm_Wsize (fun hz => ?_)
    have hne : (Sum.inr (ci, fs) : qm_C) ≠ qm_no := by
      intro z
      have : ci = 99 := congrArg (fun y : qm_C => match y with | .inr t => t.1 | .inl _ => 0) z
      subst this
      simp [vwCl] at hq
    obtain ⟨e1, rep1⟩ := qm_Rep_new rep (n := fs.length) (x := .inr (ci, fs)) hne hP hD hS (by omega)
    subst e1
    have k1 := kk H1 locs rep1 hl
    have a1 : (qm_mk X h fs.length (.inr (ci, fs))).1 - h0.1 = h.1 - h0.1 + 1 := by show h.1 + 1 - h0.1 = _; omega
    have a2 : (qm_mk X h fs.length (.inr (ci, fs))).2.1 - h0.2.1 = h.2.1 - h0.2.1 + q.2.2 := by show h.2.1 + fs.length - h0.2.1 = _; omega
    rw [a1, a2] at k1
    exact k1
  · cases hok
theorem qm_h_newI {n : Int32} (C : qm_Cx p R s m args meth c cc nL o ini rt D dA X h0) (hh : h0.1 ≤ h.1) (hh2 : h0.2.1 ≤ h.2.1) (hd : decode cc pc = .ok (.newarray .int, 2)) (hn : ¬ n < 0) (hn2 : n.toNatClampNeg ≤ 4096) (hc : h.1 + 1 - h0.1 ≤ R.cells) (hsl : h.2.1 + n.toNatClampNeg - h0.2.1 ≤ R.slots) (kk : qm_K p l e R s m args below meth c Q D dA X h0 (qm_mk X h n.toNatClampNeg (.inl (0, n.toNatClampNeg, .inl (fun _ => 0)))) (pc + 2) ar (.ref (X.1 + h.1) :: r)) : qm_K p l e R s m args below meth c Q D dA X h0 h pc ar (.int n :: r) := by
  intro H locs rep hl
  obtain ⟨hx, hb, hown, hts, hK, -, -, -, -, hsz, -, -⟩ := C
  refine va_newa (atype := .int) (ty := .int) (a0 := (n.toNatClampNeg, .inl (fun _ => 0))) hx hb (hts _ qm_arI) rfl hK.1 rep.2.1 (qm_w_D dA X h) (qm_S0 hl) (fun y hy => by unfold qm_A; have := rep.1; omega) (fun _ => rfl) hn rfl (by show n.toNatClampNeg * 4 ≤ 536870912; omega) (by omega) (by omega) hd (fun q1 cA H1 hK1 hP hD hS => ?_)
  have hcA : cA = dA 0 := by
    have e1 := (hK1.2 4 (cA, .int) rfl).2
    have e2 := (hK.1.2 0 (dA 0, .int) rfl).2
    exact Option.some.inj (Eq.trans e1.symm e2)
  subst hcA
  refine qm_Wsize (fun hz => ?_)
  obtain ⟨e1, rep1⟩ := qm_Rep_new rep (n := n.toNatClampNeg) (x := .inl (0, n.toNatClampNeg, .inl (fun _ => 0))) qm_inl_ne hP hD hS (by omega)
  subst e1
  have k1 := kk H1 locs rep1 hl
  have a1 : (qm_mk X h n.toNatClampNeg (.inl (0, n.toNatClampNeg, .inl (fun _ => 0)))).1 - h0.1 = h.1 - h0.1 + 1 := by show h.1 + 1 - h0.1 = _; omega
  have a2 : (qm_mk X h n.toNatClampNeg (.inl (0, n.toNatClampNeg, .inl (fun _ => 0)))).2.1 - h0.2.1 = h.2.1 - h0.2.1 + n.toNatClampNeg := by show h.2.1 + n.toNatClampNeg - h0.2.1 = _; omega
  rw [a1, a2] at k1
  exact k1
theorem qm_h_newL {n : Int32} (C : qm_Cx p R s m args meth c cc nL o ini rt D dA X h0) (hh : h0.1 ≤ h.1) (hh2 : h0.2.1 ≤ h.2.1) (hd : decode cc pc = .ok (.newarray .long, 2)) (hn : ¬ n < 0) (hn2 : n.toNatClampNeg ≤ 4096) (hc : h.1 + 1 - h0.1 ≤ R.cells) (hsl : h.2.1 + n.toNatClampNeg - h0.2.1 ≤ R.slots) (kk : qm_K p l e R s m args below meth c Q D dA X h0 (qm_mk X h n.toNatClampNeg (.inl (1, n.toNatClampNeg, .inr (.inl (fun _ => 0))))) (pc + 2) ar (.ref (X.1 + h.1) :: r)) : qm_K p l e R s m args below meth c Q D dA X h0 h pc ar (.int n :: r) := by
  intro H locs rep hl
  obtain ⟨hx, hb, hown, hts, hK, -, -, -, -, hsz, -, -⟩ := C
  refine va_newa (atype := .long) (ty := .long) (a0 := (n.toNatClampNeg, .inr (.inl (fun _ => 0)))) hx hb (hts _ qm_arL) rfl hK.1 rep.2.1 (qm_w_D dA X h) (qm_S0 hl) (fun y hy => by unfold qm_A; have := rep.1; omega) (fun _ => rfl) hn rfl (by show n.toNatClampNeg * 8 ≤ 536870912; omega) (by omega) (by omega) hd (fun q1 cA H1 hK1 hP hD hS => ?_)
  have hcA : cA = dA 1 := by
    have e1 := (hK1.2 4 (cA, .long) rfl).2
    have e2 := (hK.1.2 1 (dA 1, .long) rfl).2
    exact Option.some.inj (Eq.trans e1.symm e2)
  subst hcA
  refine qm_Wsize (fun hz => ?_)
  obtain ⟨e1, rep1⟩ := qm_Rep_new rep (n := n.toNatClampNeg) (x := .inl (1, n.toNatClampNeg, .inr (.inl (fun _ => 0)))) qm_inl_ne hP hD hS (by omega)
  subst e1
  have k1 := kk H1 locs rep1 hl
  have a1 : (qm_mk X h n.toNatClampNeg (.inl (1, n.toNatClampNeg, .inr (.inl (fun _ => 0))))).1 - h0.1 = h.1 - h0.1 + 1 := by show h.1 + 1 - h0.1 = _; omega
  have a2 : (qm_mk X h n.toNatClampNeg (.inl (1, n.toNatClampNeg, .inr (.inl (fun _ => 0))))).2.1 - h0.2.1 = h.2.1 - h0.2.1 + n.toNatClampNeg := by show h.2.1 + n.toNatClampNeg - h0.2.1 = _; omega
  rw [a1, a2] at k1
  exact k1
theorem qm_h_newQ {n : Int32} {k t pos : Nat} (C : qm_Cx p R s m args meth c cc nL o ini rt D dA X h0) (hh : h0.1 ≤ h.1) (hh2 : h0.2.1 ≤ h.2.1) (hd : decode cc pc = .ok (.anewarray k, 3)) (hs : (o, k, t, pos) ∈ qm_an) (hn : ¬ n < 0) (hn2 : n.toNatClampNeg ≤ 4096) (hc : h.1 + 1 - h0.1 ≤ R.cells) (hsl : h.2.1 + n.toNatClampNeg - h0.2.1 ≤ R.slots) (kk : qm_K p l e R s m args below meth c Q D dA X h0 (qm_mk X h n.toNatClampNeg (.inl (t, n.toNatClampNeg, .inr (.inr (.inr (.inr (fun _ => none))))))) (pc + 3) ar (.ref (X.1 + h.1) :: r)) : qm_K p l e R s m args below meth c Q D dA X h0 h pc ar (.int n :: r) := by
  intro H locs rep hl
  obtain ⟨hx, hb, hown, hts, hK, -, -, -, -, hsz, -, -⟩ := C
  have hok := List.all_eq_true.mp qm_an_ok _ hs
  rw [Bool.and_eq_true, decide_eq_true_eq] at hok
  obtain ⟨hok1, hok2⟩ := hok
  dsimp only at hok1 hok2
  have ao : va_AO (if t = 2 then RX7 else RX1) s := by
    rcases hok2 with rfl | rfl
    · exact hK.2.2.1
    · exact hK.2.2.2
  refine va_newq hx hb hown (hts _ (qm_at_mem hok1)) ao hK.1 rep.2.1 (qm_w_D dA X h) (qm_S0 hl) (fun y hy => by unfold qm_A; have := rep.1; omega) hn rfl (by omega) (by omega) (by omega) hd (fun q1 cA H1 hK1 hP hD hS => ?_)
  have hcA : cA = dA t := by
    have e1 := (hK1.2 4 (cA, .object (if t = 2 then RX7 else RX1)) rfl).2
    obtain ⟨-, -, -, -, -, e1⟩ := e1
    rcases hok2 with rfl | rfl
    · have e2 := (hK.1.2 2 (dA 2, .object RX7) rfl).2
      obtain ⟨-, -, -, -, -, e2⟩ := e2
      exact Option.some.inj (Eq.trans e1.symm e2)
    · have e2 := (hK.1.2 3 (dA 3, .object RX1) rfl).2
      obtain ⟨-, -, -, -, -, e2⟩ := e2
      exact Option.some.inj (Eq.trans e1.symm e2)
  subst hcA
  refine qm_Wsize (fun hz => ?_)
  obtain ⟨e1, rep1⟩ := qm_Rep_new rep (n := n.toNatClampNeg) (x := .inl (t, n.toNatClampNeg, .inr (.inr (.inr (.inr (fun _ => none)))))) qm_inl_ne hP hD hS (by omega)
  subst e1
  have k1 := kk H1 locs rep1 hl
  have a1 : (qm_mk X h n.toNatClampNeg (.inl (t, n.toNatClampNeg, .inr (.inr (.inr (.inr (fun _ => none))))))).1 - h0.1 = h.1 - h0.1 + 1 := by show h.1 + 1 - h0.1 = _; omega
  have a2 : (qm_mk X h n.toNatClampNeg (.inl (t, n.toNatClampNeg, .inr (.inr (.inr (.inr (fun _ => none))))))).2.1 - h0.2.1 = h.2.1 - h0.2.1 + n.toNatClampNeg := by show h.2.1 + n.toNatClampNeg - h0.2.1 = _; omega
  rw [a1, a2] at k1
  exact k1
end QMI
