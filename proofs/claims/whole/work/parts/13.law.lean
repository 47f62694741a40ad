/-! THE CLAIM OUT OF ONE WALK OF THE LAW'S BODY. Your part is whole_start (and what it stands on); all else here is the same for every law, but numbers. -/
def R_law : String := "TowerBoardsLaw"
def lw_P (b : Addr) (xs : List Int32) (args : Array Value) (s : State) : Prop := args = #[.ref b] ∧ s.IntsAt b xs ∧ xs.length ≤ 3072 ∧ (Jvm.Cond.and given_1 narrow_1).before args s = true
def lw_Q (_ : Array Value) (s : State) (o : Outcome) (t : State) : Prop := o = .returned (some (.int 1)) ∧ Framed s o t [] 600000 7302250
def lw_Z (below : List Frame) (a : Array Value) (s : State) : State → Prop := fun t => ∃ o, t.status = .running ∧ Ended t below o ∧ lw_Q a s o t
/-- the law's own end, with 1 on the stack, nothing written that was there before, its room as the claim has it -/
theorem lw_ret {p : Program} {l : Launch} {e : Env} {s : State} {m : MethodId} {below : List Frame} {meth : Method} {c : Code} {b : Nat} (hx : p.tables.exec = Jvm.exec) (hb : c.code = code) (hr : meth.sig.returnType = ret) (hlocks : meth.locks = false) {pc : Nat} {H : Heap} {ls : Array Slot} (hdg : decode code pc = .ok (.ireturn, 1)) : W p l e room_1 s m #[Value.ref b] below meth c H [] 600000 7302250 (lw_Z below #[Value.ref b] s) (F0 m pc ls [.int 1]) := by
  intro T hT X
  obtain ⟨fs, hret, hrun, hended, hW, hframe⟩ := X.leave (v := some (.int 1)) (hlocks := hlocks) (fun h => by rw [hr] at h; cases h)
  have hmeth' : T.vm.method? m = some meth := X.method'
  refine ⟨T.setFrames fs, ?_, .returned (some (.int 1)), hrun, hended, rfl, ⟨_, rfl⟩, hW, hframe⟩
  jvm_step X.here [X.here.top, hx, hb, hdg, hmeth', hr, ret, narrow_b1]
  (try refine ⟨rfl, ?_⟩); (try refine ⟨rfl, ?_⟩)
  first | (intro acts; rw [hret _ acts rfl rfl rfl]) | rw [hret _ _ rfl rfl rfl]
  exact Steps.refl _
/-- what holds at the law's entry: the machine, the code, the tables' words (any of lw_tbl by 'hts w (by decide +kernel)'), the script of L ints xs at the cell b, what the Statement gives of the start (any of its parts by flat_of_before) -/
def lw_At (p : Program) (s : State) (m : MethodId) (meth : Method) (c : Code) (b L : Nat) (xs : Nat → Int32) : Prop :=
  p.tables.exec = Jvm.exec ∧ c.code = code ∧ meth.sig.returnType = ret ∧ c.maxLocals = 4 ∧ s.vm.findClass R_law = some m.cls ∧ (∀ w ∈ lw_tbl, w.before #[Value.ref b] s = true) ∧ va_X b L xs s s.heap ∧ b < s.heap.size ∧ meth.locks = false ∧ (Jvm.Cond.and given_1 narrow_1).before #[Value.ref b] s = true
/-! the law's run out of the machine's -/
/-- PURE: what is left to show: the machine's run of the law comes to 1, within the room -/
def lw_Pure : Prop := ∀ (z b L : Nat) (xs : Nat → Int32), L ≤ 3072 → b < z → ∃ hf : qm_H, qm_go (qm_ex qm_M (z, b, L, xs) 60) (z, b, L, xs) kt_223 kk_223_0 (qm_ent [.ref b] 4) [] (0, 0, fun _ => qm_no) = some (some (.int 1), hf) ∧ hf.1 ≤ 600000 ∧ hf.2.1 ≤ 7302250
theorem lw_arr {s : State} {ty : FieldType} {cA : ClassId} {kA : Class} {comp : ClassId} (h2 : s.vm.classes[cA]? = some kA) (h3 : kA.kind = .array comp ty) : ArrOfT s cA ty := fun n z => ⟨fun k h => (by cases h), kA, h2, comp, h3⟩
theorem lw_KK {s : State} {a : Array Value} (hts : ∀ w ∈ lw_tbl, w.before a s = true) : ∃ (D : va_G) (dA : Nat → ClassId), qm_KK D dA s := by
  have hq : ∀ w ∈ qm_tb, w.before a s = true := fun w h => hts w (List.mem_filter.mp h).1
  obtain ⟨c0, iS0, hKn0⟩ := u_known (C := RX0) (T := TX0) (N := 5) (n := 5) hq qm_in0 (hq (.instantiable RX0 5) (qm_at_mem (i := 188) (by decide +kernel)))
  obtain ⟨c1, iS1, hKn1⟩ := u_known (C := RX1) (T := TX1) (N := 4) (n := 4) hq qm_in1 (hq (.instantiable RX1 4) (qm_at_mem (i := 85) (by decide +kernel)))
  obtain ⟨c2, iS2, hKn2⟩ := u_known (C := RX2) (T := TX2) (N := 1) (n := 1) hq qm_in2 (hq (.instantiable RX2 1) (qm_at_mem (i := 142) (by decide +kernel)))
  obtain ⟨c3, iS3, hKn3⟩ := u_known (C := RX3) (T := TX3) (N := 2) (n := 2) hq qm_in3 (hq (.instantiable RX3 2) (qm_at_mem (i := 173) (by decide +kernel)))
  obtain ⟨c4, iS4, hKn4⟩ := u_known (C := RX4) (T := TX4) (N := 4) (n := 4) hq qm_in4 (hq (.instantiable RX4 4) (qm_at_mem (i := 152) (by decide +kernel)))
  obtain ⟨c5, iS5, hKn5⟩ := u_known (C := RX5) (T := TX5) (N := 2) (n := 2) hq qm_in5 (hq (.instantiable RX5 2) (qm_at_mem (i := 119) (by decide +kernel)))
  obtain ⟨c6, iS6, hKn6⟩ := u_known (C := RX6) (T := TX6) (N := 1) (n := 1) hq qm_in6 (hq (.instantiable RX6 1) (qm_at_mem (i := 132) (by decide +kernel)))
  obtain ⟨c7, iS7, hKn7⟩ := u_known (C := RX7) (T := TX7) (N := 2) (n := 2) hq qm_in7 (hq (.instantiable RX7 2) (qm_at_mem (i := 209) (by decide +kernel)))
  obtain ⟨c8, iS8, hKn8⟩ := u_known (C := RX8) (T := TX8) (N := 16) (n := 16) hq qm_in8 (hq (.instantiable RX8 16) (qm_at_mem (i := 74) (by decide +kernel)))
  obtain ⟨c9, iS9, hKn9⟩ := u_known (C := RX9) (T := TX9) (N := 34) (n := 34) hq qm_in9 (hq (.instantiable RX9 34) (qm_at_mem (i := 812) (by decide +kernel)))
  obtain ⟨d0, k0, m0, e01, e02, e03⟩ := Cond.arrayClass_spec (hq _ qm_arI)
  obtain ⟨d1, k1, m1, e11, e12, e13⟩ := Cond.arrayClass_spec (hq _ qm_arL)
  have ao7 : (Cond.arrayOver (.object RX7)).before a s = true := hts _ (List.mem_of_getElem? (i := 82) (by decide +kernel))
  have ao1 : (Cond.arrayOver (.object RX1)).before a s = true := hts _ (List.mem_of_getElem? (i := 84) (by decide +kernel))
  obtain ⟨m2, d2, k2, f21, -, e22, e23, e21⟩ := Cond.arrayOver_spec ao7
  obtain ⟨m3, d3, k3, f31, -, e32, e33, e31⟩ := Cond.arrayOver_spec ao1
  refine ⟨(fun k => if k = 0 then c0 else if k = 1 then c1 else if k = 2 then c2 else if k = 3 then c3 else if k = 4 then c4 else if k = 5 then c5 else if k = 6 then c6 else if k = 7 then c7 else if k = 8 then c8 else c9, fun k => if k = 0 then iS0 else if k = 1 then iS1 else if k = 2 then iS2 else if k = 3 then iS3 else if k = 4 then iS4 else if k = 5 then iS5 else if k = 6 then iS6 else if k = 7 then iS7 else if k = 8 then iS8 else iS9), fun k => if k = 0 then d0 else if k = 1 then d1 else if k = 2 then d2 else d3, ⟨?_, ?_⟩, ?_, va_AO.of ao7, va_AO.of ao1⟩
  · intro k q hk
    match k, hk with
    | 0, hk => cases hk; exact hKn0
    | 1, hk => cases hk; exact hKn1
    | 2, hk => cases hk; exact hKn2
    | 3, hk => cases hk; exact hKn3
    | 4, hk => cases hk; exact hKn4
    | 5, hk => cases hk; exact hKn5
    | 6, hk => cases hk; exact hKn6
    | 7, hk => cases hk; exact hKn7
    | 8, hk => cases hk; exact hKn8
    | 9, hk => cases hk; exact hKn9
    | k + 10, hk => simp [vwCl] at hk
  · intro k q hk
    match k, hk with
    | 0, hk => cases hk; exact ⟨lw_arr e02 e03, e01⟩
    | 1, hk => cases hk; exact ⟨lw_arr e12 e13, e11⟩
    | 2, hk => cases hk; exact ⟨lw_arr e22 e23, k2, m2, e22, e23, f21, e21⟩
    | 3, hk => cases hk; exact ⟨lw_arr e32 e33, k3, m3, e32, e33, f31, e31⟩
    | k + 4, hk => simp [qm_tys] at hk
  · intro w hw
    have hN := (List.mem_filter.mp hw).2
    have hz := hts w (List.mem_filter.mp hw).1
    cases w with
    | methodLinkNest a b x hst => exact va_Nw.of rfl hz
    | _ => cases hN
theorem lw_ret1 {u : qm_I} {st : List Value} {h : qm_H} {rr : qm_R} (hu : qm_ret u st h = some rr) (h1 : rr.1 = some (.int 1)) : st = [.int 1] ∧ u.1 = .ireturn := by
  unfold qm_ret at hu
  split at hu
  · split at hu
    · cases hu; cases h1
    · cases hu
  · rename_i hi
    split at hu
    · split at hu
      · cases hu
        cases h1
        exact ⟨rfl, hi⟩
      · cases hu
    · cases hu
  · split at hu
    · cases hu; cases h1
    · cases hu
  · split at hu
    · cases hu; cases h1
    · cases hu; cases h1
    · cases hu
  · cases hu
theorem lw_ireturn {o : Nat} {ini : Bool} {rt : Option FieldType} {pc len : Nat} {i : Instr} {u : qm_I} (hn : qm_nrm o ini rt pc i len u = true) (hu : u.1 = .ireturn) : i = .ireturn ∧ len = 1 := by
  cases i with
  | iconst n => simp only [qm_nrm, decide_eq_true_eq] at hn; obtain ⟨-, rfl⟩ := hn; cases hu
  | bipush n => simp only [qm_nrm, decide_eq_true_eq] at hn; obtain ⟨-, rfl⟩ := hn; cases hu
  | sipush n => simp only [qm_nrm, decide_eq_true_eq] at hn; obtain ⟨-, rfl⟩ := hn; cases hu
  | ldc n => simp only [qm_nrm] at hn; obtain ⟨q, hq, hn⟩ := List.any_eq_true.mp hn; simp only [decide_eq_true_eq] at hn; obtain ⟨-, -, -, rfl⟩ := hn; cases hu
  | ldc_w n => simp only [qm_nrm] at hn; obtain ⟨q, hq, hn⟩ := List.any_eq_true.mp hn; simp only [decide_eq_true_eq] at hn; obtain ⟨-, -, -, rfl⟩ := hn; cases hu
  | lconst n => simp only [qm_nrm, decide_eq_true_eq] at hn; obtain ⟨-, rfl⟩ := hn; cases hu
  | ldc2_w n => simp only [qm_nrm] at hn; obtain ⟨q, hq, hn⟩ := List.any_eq_true.mp hn; simp only [decide_eq_true_eq] at hn; obtain ⟨-, -, -, rfl⟩ := hn; cases hu
  | aconst_null => simp only [qm_nrm, decide_eq_true_eq] at hn; obtain ⟨-, rfl⟩ := hn; cases hu
  | iload_n n => simp only [qm_nrm, decide_eq_true_eq] at hn; obtain ⟨-, rfl⟩ := hn; cases hu
  | iload n => simp only [qm_nrm, decide_eq_true_eq] at hn; obtain ⟨-, rfl⟩ := hn; cases hu
  | lload_n n => simp only [qm_nrm, decide_eq_true_eq] at hn; obtain ⟨-, rfl⟩ := hn; cases hu
  | lload n => simp only [qm_nrm, decide_eq_true_eq] at hn; obtain ⟨-, rfl⟩ := hn; cases hu
  | aload_n n => simp only [qm_nrm, decide_eq_true_eq] at hn; obtain ⟨-, rfl⟩ := hn; cases hu
  | aload n => simp only [qm_nrm, decide_eq_true_eq] at hn; obtain ⟨-, rfl⟩ := hn; cases hu
  | istore_n n => simp only [qm_nrm, decide_eq_true_eq] at hn; obtain ⟨-, rfl⟩ := hn; cases hu
  | istore n => simp only [qm_nrm, decide_eq_true_eq] at hn; obtain ⟨-, rfl⟩ := hn; cases hu
  | lstore_n n => simp only [qm_nrm, decide_eq_true_eq] at hn; obtain ⟨-, rfl⟩ := hn; cases hu
  | lstore n => simp only [qm_nrm, decide_eq_true_eq] at hn; obtain ⟨-, rfl⟩ := hn; cases hu
  | astore_n n => simp only [qm_nrm, decide_eq_true_eq] at hn; obtain ⟨-, rfl⟩ := hn; cases hu
  | astore n => simp only [qm_nrm, decide_eq_true_eq] at hn; obtain ⟨-, rfl⟩ := hn; cases hu
  | iinc n d => simp only [qm_nrm, decide_eq_true_eq] at hn; obtain ⟨-, rfl⟩ := hn; cases hu
  | iadd => simp only [qm_nrm, decide_eq_true_eq] at hn; obtain ⟨-, rfl⟩ := hn; cases hu
  | isub => simp only [qm_nrm, decide_eq_true_eq] at hn; obtain ⟨-, rfl⟩ := hn; cases hu
  | imul => simp only [qm_nrm, decide_eq_true_eq] at hn; obtain ⟨-, rfl⟩ := hn; cases hu
  | iand => simp only [qm_nrm, decide_eq_true_eq] at hn; obtain ⟨-, rfl⟩ := hn; cases hu
  | ior => simp only [qm_nrm, decide_eq_true_eq] at hn; obtain ⟨-, rfl⟩ := hn; cases hu
  | ixor => simp only [qm_nrm, decide_eq_true_eq] at hn; obtain ⟨-, rfl⟩ := hn; cases hu
  | ishl => simp only [qm_nrm, decide_eq_true_eq] at hn; obtain ⟨-, rfl⟩ := hn; cases hu
  | ishr => simp only [qm_nrm, decide_eq_true_eq] at hn; obtain ⟨-, rfl⟩ := hn; cases hu
  | iushr => simp only [qm_nrm, decide_eq_true_eq] at hn; obtain ⟨-, rfl⟩ := hn; cases hu
  | idiv => simp only [qm_nrm, decide_eq_true_eq] at hn; obtain ⟨-, rfl⟩ := hn; cases hu
  | irem => simp only [qm_nrm, decide_eq_true_eq] at hn; obtain ⟨-, rfl⟩ := hn; cases hu
  | ineg => simp only [qm_nrm, decide_eq_true_eq] at hn; obtain ⟨-, rfl⟩ := hn; cases hu
  | i2l => simp only [qm_nrm, decide_eq_true_eq] at hn; obtain ⟨-, rfl⟩ := hn; cases hu
  | l2i => simp only [qm_nrm, decide_eq_true_eq] at hn; obtain ⟨-, rfl⟩ := hn; cases hu
  | lneg => simp only [qm_nrm, decide_eq_true_eq] at hn; obtain ⟨-, rfl⟩ := hn; cases hu
  | ladd => simp only [qm_nrm, decide_eq_true_eq] at hn; obtain ⟨-, rfl⟩ := hn; cases hu
  | lsub => simp only [qm_nrm, decide_eq_true_eq] at hn; obtain ⟨-, rfl⟩ := hn; cases hu
  | lmul => simp only [qm_nrm, decide_eq_true_eq] at hn; obtain ⟨-, rfl⟩ := hn; cases hu
  | lcmp => simp only [qm_nrm, decide_eq_true_eq] at hn; obtain ⟨-, rfl⟩ := hn; cases hu
  | ldiv => simp only [qm_nrm, decide_eq_true_eq] at hn; obtain ⟨-, rfl⟩ := hn; cases hu
  | dup => simp only [qm_nrm, decide_eq_true_eq] at hn; obtain ⟨-, rfl⟩ := hn; cases hu
  | pop => simp only [qm_nrm, decide_eq_true_eq] at hn; obtain ⟨-, rfl⟩ := hn; cases hu
  | dup2 => simp only [qm_nrm, decide_eq_true_eq] at hn; obtain ⟨-, rfl⟩ := hn; cases hu
  | goto t => simp only [qm_nrm, decide_eq_true_eq] at hn; obtain ⟨-, -, rfl⟩ := hn; cases hu
  | ifCond cd t => simp only [qm_nrm, decide_eq_true_eq] at hn; obtain ⟨-, -, rfl⟩ := hn; cases hu
  | if_icmp cd t => simp only [qm_nrm, decide_eq_true_eq] at hn; obtain ⟨-, -, rfl⟩ := hn; cases hu
  | ifnull t => simp only [qm_nrm, decide_eq_true_eq] at hn; obtain ⟨-, -, rfl⟩ := hn; cases hu
  | ifnonnull t => simp only [qm_nrm, decide_eq_true_eq] at hn; obtain ⟨-, -, rfl⟩ := hn; cases hu
  | newarray t => simp only [qm_nrm, decide_eq_true_eq] at hn; obtain ⟨-, -, rfl⟩ := hn; cases hu
  | return_ => simp only [qm_nrm, decide_eq_true_eq] at hn; obtain ⟨-, -, rfl⟩ := hn; cases hu
  | lreturn => simp only [qm_nrm, decide_eq_true_eq] at hn; obtain ⟨-, -, rfl⟩ := hn; cases hu
  | areturn => simp only [qm_nrm, decide_eq_true_eq] at hn; obtain ⟨-, -, rfl⟩ := hn; cases hu
  | tableswitch d lo hi offs => simp only [qm_nrm, decide_eq_true_eq] at hn; obtain ⟨rfl, -⟩ := hn; cases hu
  | lookupswitch d ps => simp only [qm_nrm, decide_eq_true_eq] at hn; obtain ⟨rfl, -⟩ := hn; cases hu
  | aaload => simp only [qm_nrm, decide_eq_true_eq] at hn; obtain ⟨-, rfl⟩ := hn; cases hu
  | aastore => simp only [qm_nrm, decide_eq_true_eq] at hn; obtain ⟨-, rfl⟩ := hn; cases hu
  | arraylength => simp only [qm_nrm, decide_eq_true_eq] at hn; obtain ⟨-, rfl⟩ := hn; cases hu
  | iaload => simp only [qm_nrm, decide_eq_true_eq] at hn; obtain ⟨-, rfl⟩ := hn; cases hu
  | iastore => simp only [qm_nrm, decide_eq_true_eq] at hn; obtain ⟨-, rfl⟩ := hn; cases hu
  | laload => simp only [qm_nrm, decide_eq_true_eq] at hn; obtain ⟨-, rfl⟩ := hn; cases hu
  | lastore => simp only [qm_nrm, decide_eq_true_eq] at hn; obtain ⟨-, rfl⟩ := hn; cases hu
  | getfield n => simp only [qm_nrm] at hn; obtain ⟨q, hq, hn⟩ := List.any_eq_true.mp hn; simp only [decide_eq_true_eq] at hn; obtain ⟨-, -, -, rfl⟩ := hn; cases hu
  | new n => simp only [qm_nrm] at hn; obtain ⟨q, hq, hn⟩ := List.any_eq_true.mp hn; simp only [decide_eq_true_eq] at hn; obtain ⟨-, -, -, rfl⟩ := hn; cases hu
  | anewarray n => simp only [qm_nrm] at hn; obtain ⟨q, hq, hn⟩ := List.any_eq_true.mp hn; simp only [decide_eq_true_eq] at hn; obtain ⟨-, -, -, rfl⟩ := hn; cases hu
  | putfield n => simp only [qm_nrm] at hn; obtain ⟨q, hq, hn⟩ := List.any_eq_true.mp hn; simp only [decide_eq_true_eq] at hn; obtain ⟨-, -, -, hv, -⟩ := hn; rw [hv] at hu; cases hu
  | invokevirtual n => simp only [qm_nrm] at hn; obtain ⟨q, hq, hn⟩ := List.any_eq_true.mp hn; simp only [decide_eq_true_eq] at hn; obtain ⟨-, -, -, -, rfl⟩ := hn; cases hu
  | invokestatic n =>
    simp only [qm_nrm, Bool.or_eq_true] at hn
    rcases hn with (hn | hn) | hn
    · obtain ⟨q, hq, hn⟩ := List.any_eq_true.mp hn; simp only [decide_eq_true_eq] at hn; obtain ⟨-, -, -, -, rfl⟩ := hn; cases hu
    · obtain ⟨q, hq, hn⟩ := List.any_eq_true.mp hn; simp only [decide_eq_true_eq] at hn; obtain ⟨-, -, -, rfl⟩ := hn; cases hu
    · obtain ⟨q, hq, hn⟩ := List.any_eq_true.mp hn; simp only [decide_eq_true_eq] at hn; obtain ⟨-, -, -, rfl⟩ := hn; cases hu
  | invokespecial n =>
    simp only [qm_nrm, Bool.or_eq_true] at hn
    rcases hn with hn | hn
    · obtain ⟨q, hq, hn⟩ := List.any_eq_true.mp hn; simp only [decide_eq_true_eq] at hn; obtain ⟨-, -, -, -, rfl⟩ := hn; cases hu
    · obtain ⟨q, hq, hn⟩ := List.any_eq_true.mp hn; simp only [decide_eq_true_eq] at hn; obtain ⟨-, -, -, rfl⟩ := hn; cases hu
  | ireturn =>
    simp only [qm_nrm, decide_eq_true_eq] at hn
    exact ⟨rfl, hn.1⟩
  | _ => cases hn
theorem whole_start (hPure : lw_Pure) {p : Program} {e : Env} {s : State} {m : MethodId} {below : List Frame} {meth : Method} {c : Code} (l : Launch) {b L : Nat} {xs : Nat → Int32} (hL : L ≤ 3072) (C0 : lw_At p s m meth c b L xs) : W p l e room_1 s m #[Value.ref b] below meth c s.heap [] 0 0 (lw_Z below #[Value.ref b] s) (entryFrame m ([Value.ref b] : List Value).toArray 4) := by
  obtain ⟨hx, hb, hr, hml, hown, hts, hX, hbl, hlocks, hgv⟩ := id C0
  obtain ⟨D, dA, hKK⟩ := lw_KK hts
  obtain ⟨hf, hgo, hc1, hc2⟩ := hPure s.heap.size b L xs hL hbl
  obtain ⟨n, hn⟩ := qm_go_to hgo
  have hq : ∀ w ∈ qm_tb, w.before #[Value.ref b] s = true := fun w h => hts w (List.mem_filter.mp h).1
  have C : qm_Cx p room_1 s m #[Value.ref b] meth c code 4 10 false ret D dA (s.heap.size, b, L, xs) (0, 0, fun _ => qm_no) := ⟨hx, hb, hown, hq, hKK, hml, hr, hlocks, (fun z => by cases z), rfl, by decide, by decide⟩
  have rep : qm_Rep D dA (s.heap.size, b, L, xs) s s.heap (0, 0, fun _ => qm_no) := ⟨rfl, fun k q hk => by simp [qm_w, qm_L, va_pl] at hk, fun _ _ => rfl, hX, hbl⟩
  have hent := lv_entry ([Value.ref b] : List Value) (n := 4) (Nat.le_of_ble_eq_true rfl)
  have hlr : qm_lr (qm_ent [.ref b] 4).toArray (qm_ent [.ref b] 4) := by
    refine ⟨by simp, hent.2.1, fun q hq => ?_⟩
    exact qm_sl_at (qm_prs_mem.mp hq)
  rw [lg_entry_eq]
  have hrun := qm_run_gen (l := l) (e := e) (below := below) (Q := lw_Z below #[Value.ref b] s) (rr := (some (.int 1), hf)) C (qm_sound qm_M_good l D dA (s.heap.size, b, L, xs) 60) (qm_ex_mono qm_M (s.heap.size, b, L, xs) 60) (by decide) (by decide) ka_223 (by show hf.1 - 0 ≤ 600000; omega) (by show hf.2.1 - 0 ≤ 7302250; omega) (fun i u pc len st ar hd hnm h1 => ?_) n kk_223_0 _ [] _ 0 kc_223_0 hn (Nat.le_refl _) (Nat.le_refl _) (by simp [qm_ent, lg_sl, Value.category]) (qm_ent_nd (by rfl)) _ hlr
  · exact hrun s.heap [] rep (fun q hq => by cases hq)
  · obtain ⟨rfl, hu⟩ := lw_ret1 h1 rfl
    obtain ⟨rfl, rfl⟩ := lw_ireturn hnm hu
    intro H locs rep1 hl
    refine va_forget (fun q hq => hl q hq) ?_
    refine W.widen (k := 600000) (n := 7302250) (by show hf.1 - 0 ≤ 600000; omega) (by show hf.2.1 - 0 ≤ 7302250; omega) ?_
    exact lw_ret hx hb hr hlocks hd
-- ===== YOUR PART ENDS =====
set_option maxHeartbeats 4000000 in
theorem lw_walk (hPure : lw_Pure) (l : Launch) (b : Addr) (xs : List Int32) : MetFree l x (headSpec (Jvm.Cond.code x code maxLocals ret :: tables_1) room_1) (lw_P b xs) (fun _ _ _ _ _ => True) lw_Q := by
  refine MetFree.of_bodyS (code := code) (maxLocals := maxLocals) (ret := ret) (by decide) ?_ ?_
  · intro args s m h hn
    obtain ⟨meth, c, h1, h2, h3, h4, h5, h6, -, -⟩ := Cond.code_spec hn (atoms_spec (ws := Jvm.Cond.code x code maxLocals ret :: tables_1) h _ List.mem_cons_self)
    exact ⟨meth, c, h1, h2, h3, h4, h5, h6⟩
  · intro p e s m args below meth c s₁ B hml0 hP _
    obtain ⟨rfl, hx, hbd, hgv⟩ := hP
    obtain ⟨scr, harrAt, hlist, hof, hsmall⟩ := hx
    obtain ⟨hcb, hkn, -, -⟩ := State.arrayAt?_spec harrAt
    have hown : s.vm.findClass R_law = some m.cls := findClass_of_methodNamed B.named
    have hts0 : ∀ c ∈ (Jvm.Cond.code x code maxLocals ret :: tables_1), c.before #[Value.ref b] s = true := atoms_spec (ws := Jvm.Cond.code x code maxLocals ret :: tables_1) B.pre
    have hts : ∀ w ∈ lw_tbl, w.before #[Value.ref b] s = true := k2_hts_sels lw_privs (fun w hw => hts0 w (List.mem_cons_of_mem _ hw)) lw_privs_ok
    have hml : c.maxLocals = 4 := B.maxLocals_eq (hts0 _ List.mem_cons_self)
    have X₀ : Stand p l e room_1 s m #[Value.ref b] below meth c s₁ [] 0 0 := Stand.of_body B
    have hh0 : s₁.heap = s.heap := by rw [B.state]; rfl
    have hsz : scr.slots.size = xs.length := by rw [← Array.length_toList, hlist, List.length_map]
    have hval : ∀ j : Nat, j < xs.length → scr.slots[j]? = some (.int (xs.getD j 0)) := fun j hj => by
      rw [← Array.getElem?_toList, hlist]
      simp [hj]
    have hbl : b < s.heap.size := (Array.getElem?_eq_some_iff.mp hcb).1
    have hX : va_X b xs.length (fun j => xs.getD j 0) s s.heap := ⟨scr, hcb, hof, hkn, hsz, hval⟩
    have K : W p l e room_1 s m #[Value.ref b] below meth c s₁.heap [] 0 0 (lw_Z below #[Value.ref b] s) (entryFrame m ([Value.ref b] : List Value).toArray 4) := by
      rw [hh0]
      exact whole_start hPure l hbd ⟨B.exec, B.bytes, B.returns, hml, hown, hts, hX, hbl, B.notSynchronized, hgv⟩
    obtain ⟨t, a1, o, b1, b2, b3⟩ := K s₁ rfl X₀
    exact ⟨t, o, a1, b1, b2, b3⟩
theorem lw_pre_spec {args : Array Value} {s : State} (h : (Jvm.Cond.and given_1 narrow_1).before args s = true) (hr : rest_1_c.before args s = true) : ∃ (b : Addr) (xs : List Int32), lw_P b xs args s := by
  have hs := flat_of_before _ h
  have hq := flat_of_before _ hr
  have hc : (Cond.count 1).before args s = true := hs _ (by decide +kernel)
  have harr : (Cond.arrayOf (.arg 0) .int).before args s = true := hs _ (by decide +kernel)
  have hle : (Cond.le (.length (.arg 0)) (.int 3072)).before args s = true := hs _ (by decide +kernel)
  have hlen : (Cond.isInt (.length (.arg 0))).before args s = true := hq _ (by decide +kernel)
  have hall : (Cond.all (.arg 0) (.isInt (.elem (.arg 0) (.index 0)))).before args s = true := hq _ (by decide +kernel)
  obtain ⟨b, xs, hb, hx⟩ := State.ints_of_pre rfl harr hlen hall
  have hsm : xs.length < 2 ^ 31 := hx.choose_spec.2.2.2
  have hev : (Term.length (.arg 0)).eval args s none [] s = some (.int xs.length.toInt32) := hx.length_eval hb
  have hv := Cond.le_ints hev (show (Term.int 3072).eval args s none [] s = some (.int 3072) from rfl)
  have hd : xs.length.toInt32 ≤ 3072 := by
    simpa [Cond.before, Cond.holds, hv] using hle
  have hN : xs.length ≤ 3072 := (Int32.ofNat_le_ofNat hsm (by decide)).mp (show Int32.ofNat xs.length ≤ Int32.ofNat 3072 from hd)
  exact ⟨b, xs, Cond.one_arg hc (show args[0]? = some (.ref b) from hb), hx, hN, h⟩
theorem lw_comes (hPure : lw_Pure) (l : Launch) : Comes l x (Jvm.Cond.code x code maxLocals ret :: tables_1) room_1 (fun tb e args s => Calls_1 tb e args s ∧ rest_1 tb e args s ∧ Pre_1 tb e args s)
    (fun _ _ args s o t => lw_Q args s o t) := by
  intro p e ha hc hk s m args below hf hfit hheap happ hpre
  obtain ⟨b, xs, hP⟩ := lw_pre_spec hpre.2.2 hpre.2.1
  obtain ⟨k, o, h1, h2, h3, hQ⟩ := lw_walk hPure l b xs p e ha hc hk s m args below hf ((Spec.applies_iff_loose hf).mp happ).1 hP trivial
  exact ⟨k, o, h1, h2, h3, hQ⟩
theorem lw_frame {s t : State} {o : Outcome} {args : Array Value} (h : Framed s o t [] 600000 7302250) :
    Framed s o t (fieldLocs frame_1_writes args s ++ arrayLocs frame_1_arrays args s ++ staticLocs frame_1_statics s) 600000 7302250 := h
theorem lw_limb (hPure : lw_Pure) (L : Cond) (hL : ∀ (args : Array Value) (s t : State), L.after args s (.returned (some (.int 1))) t = true) :
    ArmFor flags0 classFile x code maxLocals ret World_1 tables_1 room_1 Calls_1 rest_1 Pre_1
      (fun tb e a s o t => postC L tb e a s o t ∧ Framed s o t (fieldLocs frame_1_writes a s ++ arrayLocs frame_1_arrays a s ++ staticLocs frame_1_statics s) 600000 7302250) := by
  intro l _ _ _ p e ha hc hk s m args below hf hfit hheap happ hpre
  obtain ⟨k, o, h1, h2, h3, rfl, hF⟩ := lw_comes hPure l p e ha hc hk s m args below hf hfit hheap happ hpre
  exact ⟨k, _, h1, h2, h3, hL args s _, lw_frame hF⟩
