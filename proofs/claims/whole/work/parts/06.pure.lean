/-! what a decoded instruction is in the machine's own words; chains of them -/
def qm_tsw (pc : Nat) : Int → List Int → List (Int × Int)
  | _, [] => []
  | k, x :: r => (k, pc + x) :: qm_tsw pc (k + 1) r
def qm_objR (rt : Option FieldType) : Bool := match rt with
  | some (.object _) => true
  | _ => false
def qm_fkd (t : Option FieldType) : Nat := match t with
  | some .int => 0
  | some .long => 1
  | some (.object _) => 2
  | some (.array _) => 2
  | _ => 99
/-- a store into a field: its kind of value; a final one in a constructor of its own alone -/
def qm_finB (ini : Bool) (o : Nat) (q : Nat × Nat × Nat × Nat × Nat) (kd : Nat) : Bool := match vwCl[q.2.2.1]? with
  | some r => decide (kd = qm_fkd (parseFieldDescriptor (r.2.1 q.2.2.2.1).2.2.1)) && (!(r.2.1 q.2.2.2.1).2.2.2 || (ini && decide ((r.2.1 q.2.2.2.1).1 = qm_own o)))
  | none => false
def qm_nrm (o : Nat) (ini : Bool) (rt : Option FieldType) (pc : Nat) (i : Instr) (len : Nat) (e : qm_I) : Bool := match i with
  | .iconst n => decide (len = 1 ∧ e = (.iconst 0, 0, 0, Int32.ofInt n))
  | .bipush n => decide (len = 2 ∧ e = (.iconst 0, 0, 0, (Int8.ofInt n).toInt32))
  | .sipush n => decide (len = 3 ∧ e = (.iconst 0, 0, 0, (Int16.ofInt n).toInt32))
  | .ldc k => qm_ki.any (fun q => decide (q.1 = o ∧ q.2.1 = k ∧ len = 2 ∧ e = (.iconst 0, 0, 0, q.2.2.1)))
  | .ldc_w k => qm_ki.any (fun q => decide (q.1 = o ∧ q.2.1 = k ∧ len = 3 ∧ e = (.iconst 0, 0, 0, q.2.2.1)))
  | .lconst n => decide (len = 1 ∧ e = (.lconst 0, 0, 0, Int32.ofNat n))
  | .ldc2_w k => qm_kl.any (fun q => decide (q.1 = o ∧ q.2.1 = k ∧ len = 3 ∧ e = (.lconst 0, 0, 0, q.2.2.1)))
  | .iload_n k => decide (len = 1 ∧ e = (.iload k, 0, 0, 0))
  | .iload k => decide (len = 2 ∧ e = (.iload k, 0, 0, 0))
  | .lload_n k => decide (len = 1 ∧ e = (.lload k, 0, 0, 0))
  | .lload k => decide (len = 2 ∧ e = (.lload k, 0, 0, 0))
  | .aload_n k => decide (len = 1 ∧ e = (.aload k, 0, 0, 0))
  | .aload k => decide (len = 2 ∧ e = (.aload k, 0, 0, 0))
  | .istore_n k => decide (len = 1 ∧ e = (.istore k, 0, 0, 0))
  | .istore k => decide (len = 2 ∧ e = (.istore k, 0, 0, 0))
  | .lstore_n k => decide (len = 1 ∧ e = (.lstore k, 0, 0, 0))
  | .lstore k => decide (len = 2 ∧ e = (.lstore k, 0, 0, 0))
  | .astore_n k => decide (len = 1 ∧ e = (.astore k, 0, 0, 0))
  | .astore k => decide (len = 2 ∧ e = (.astore k, 0, 0, 0))
  | .iinc k n => decide (len = 3 ∧ e = (.iinc k 0, 0, 0, Int32.ofInt n))
  | .aconst_null => decide (len = 1 ∧ e = (.aconst_null, 0, 0, 0))
  | .iadd => decide (len = 1 ∧ e = (.iadd, 0, 0, 0))
  | .isub => decide (len = 1 ∧ e = (.isub, 0, 0, 0))
  | .imul => decide (len = 1 ∧ e = (.imul, 0, 0, 0))
  | .iand => decide (len = 1 ∧ e = (.iand, 0, 0, 0))
  | .ior => decide (len = 1 ∧ e = (.ior, 0, 0, 0))
  | .ixor => decide (len = 1 ∧ e = (.ixor, 0, 0, 0))
  | .ishl => decide (len = 1 ∧ e = (.ishl, 0, 0, 0))
  | .ishr => decide (len = 1 ∧ e = (.ishr, 0, 0, 0))
  | .iushr => decide (len = 1 ∧ e = (.iushr, 0, 0, 0))
  | .idiv => decide (len = 1 ∧ e = (.idiv, 0, 0, 0))
  | .irem => decide (len = 1 ∧ e = (.irem, 0, 0, 0))
  | .ineg => decide (len = 1 ∧ e = (.ineg, 0, 0, 0))
  | .i2l => decide (len = 1 ∧ e = (.i2l, 0, 0, 0))
  | .l2i => decide (len = 1 ∧ e = (.l2i, 0, 0, 0))
  | .lneg => decide (len = 1 ∧ e = (.lneg, 0, 0, 0))
  | .ladd => decide (len = 1 ∧ e = (.ladd, 0, 0, 0))
  | .lsub => decide (len = 1 ∧ e = (.lsub, 0, 0, 0))
  | .lmul => decide (len = 1 ∧ e = (.lmul, 0, 0, 0))
  | .ldiv => decide (len = 1 ∧ e = (.ldiv, 0, 0, 0))
  | .lcmp => decide (len = 1 ∧ e = (.lcmp, 0, 0, 0))
  | .dup => decide (len = 1 ∧ e = (.dup, 0, 0, 0))
  | .pop => decide (len = 1 ∧ e = (.pop, 0, 0, 0))
  | .dup2 => decide (len = 1 ∧ e = (.dup2, 0, 0, 0))
  | .iaload => decide (len = 1 ∧ e = (.iaload, 0, 0, 0))
  | .iastore => decide (len = 1 ∧ e = (.iastore, 0, 0, 0))
  | .laload => decide (len = 1 ∧ e = (.laload, 0, 0, 0))
  | .lastore => decide (len = 1 ∧ e = (.lastore, 0, 0, 0))
  | .aaload => decide (len = 1 ∧ e = (.aaload, 0, 0, 0))
  | .aastore => decide (len = 1 ∧ e = (.aastore, 0, 0, 0))
  | .arraylength => decide (len = 1 ∧ e = (.arraylength, 0, 0, 0))
  | .goto t => decide (len = 3 ∧ 0 ≤ pc + t ∧ e = (.goto (pc + t), 0, 0, 0))
  | .ifCond c t => decide (len = 3 ∧ 0 ≤ pc + t ∧ e = (.ifCond c (pc + t), 0, 0, 0))
  | .if_icmp c t => decide (len = 3 ∧ 0 ≤ pc + t ∧ e = (.if_icmp c (pc + t), 0, 0, 0))
  | .ifnull t => decide (len = 3 ∧ 0 ≤ pc + t ∧ e = (.ifnull (pc + t), 0, 0, 0))
  | .ifnonnull t => decide (len = 3 ∧ 0 ≤ pc + t ∧ e = (.ifnonnull (pc + t), 0, 0, 0))
  | .tableswitch d lo hi offs => decide (e = (.lookupswitch (pc + d) (qm_tsw pc lo offs.toList).toArray, 0, 0, 0) ∧ hi + 1 = lo + offs.toList.length ∧ 0 ≤ pc + d ∧ (offs.toList.all (fun x => decide (0 ≤ pc + x))) = true)
  | .lookupswitch d ps => decide (e = (.lookupswitch (pc + d) (ps.toList.map (fun q => (q.1, (pc : Int) + q.2))).toArray, 0, 0, 0) ∧ 0 ≤ pc + d ∧ (ps.toList.all (fun q => decide (0 ≤ pc + q.2))) = true ∧ (ps.toList.zip (ps.toList.drop 1)).all (fun (a, next) => a.1 < next.1) = true)
  | .getfield k => qm_fs.any (fun q => decide (q.1 = o ∧ q.2.1 = k ∧ len = 3 ∧ e = (.getfield q.2.2.1, q.2.2.2.1, 0, 0)))
  | .putfield k => qm_fs.any (fun q => decide (q.1 = o ∧ q.2.1 = k ∧ len = 3 ∧ e = (.putfield q.2.2.1, q.2.2.2.1, e.2.2.1, 0) ∧ qm_finB ini o q e.2.2.1 = true))
  | .new k => qm_nw.any (fun q => decide (q.1 = o ∧ q.2.1 = k ∧ len = 3 ∧ e = (.new q.2.2.1, 0, 0, 0)))
  | .newarray t => decide (len = 2 ∧ (t = .int ∨ t = .long) ∧ e = (.newarray t, 0, 0, 0))
  | .anewarray k => qm_an.any (fun q => decide (q.1 = o ∧ q.2.1 = k ∧ len = 3 ∧ e = (.anewarray q.2.2.1, 0, 0, 0)))
  | .invokevirtual k => qm_cs.any (fun q => decide (q.1 = o ∧ q.2.1 = k ∧ q.2.2.1 = 0 ∧ len = 3 ∧ e = (.invokevirtual q.2.2.2.1, q.2.2.2.2.1, q.2.2.2.2.2.1, 0)))
  | .invokestatic k => qm_cs.any (fun q => decide (q.1 = o ∧ q.2.1 = k ∧ (q.2.2.1 = 1 ∨ q.2.2.1 = 3) ∧ len = 3 ∧ e = (.invokestatic q.2.2.2.1, q.2.2.2.2.1, 0, 0))) || qm_ys.any (fun q => decide (q.1 = o ∧ q.2.1 = k ∧ len = 3 ∧ e = (.invokespecial 1, 0, 0, 0))) || qm_mx.any (fun q => decide (q.1 = o ∧ q.2.1 = k ∧ len = 3 ∧ e = (.invokespecial 2, 0, 0, 0)))
  | .invokespecial k => qm_cs.any (fun q => decide (q.1 = o ∧ q.2.1 = k ∧ (q.2.2.1 = 2 ∨ q.2.2.1 = 4) ∧ len = 3 ∧ e = (.invokevirtual q.2.2.2.1, q.2.2.2.2.1, q.2.2.2.2.2.1, 0))) || qm_os.any (fun q => decide (q.1 = o ∧ q.2.1 = k ∧ len = 3 ∧ e = (.invokespecial 0, 0, 0, 0)))
  | .return_ => decide (len = 1 ∧ rt = none ∧ e = (.return_, 0, 0, 0))
  | .ireturn => decide (len = 1 ∧ ((rt = some .int ∧ e = (.ireturn, 0, 0, 0)) ∨ (rt = some .boolean ∧ e = (.ireturn, 1, 0, 0))))
  | .lreturn => decide (len = 1 ∧ rt = some .long ∧ e = (.lreturn, 0, 0, 0))
  | .areturn => decide (len = 1 ∧ qm_objR rt = true ∧ e = (.areturn, 0, 0, 0))
  | _ => false
def qm_chain (o : Nat) (ini : Bool) (rt : Option FieldType) (cc : ByteArray) : Nat → List qm_I → Prop
  | _, [] => True
  | pc, e :: r => ∃ (i : Instr) (len : Nat), decode cc pc = .ok (i, len) ∧ qm_nrm o ini rt pc i len e = true ∧ qm_chain o ini rt cc (pc + len) r
def qm_chk (o : Nat) (ini : Bool) (rt : Option FieldType) (cc : ByteArray) : Nat → Nat → List qm_I → Option Nat
  | 0, pc, _ => some pc
  | _ + 1, _, [] => none
  | n + 1, pc, e :: r => match decode cc pc with
    | .ok (i, len) => if qm_nrm o ini rt pc i len e = true then qm_chk o ini rt cc n (pc + len) r else none
    | _ => none
theorem qm_chain_of (o : Nat) (ini : Bool) (rt : Option FieldType) (cc : ByteArray) : ∀ (n pc pc' : Nat) (is : List qm_I), qm_chk o ini rt cc n pc is = some pc' → qm_chain o ini rt cc pc' (is.drop n) → qm_chain o ini rt cc pc is
  | 0, pc, pc', is, h, k => by cases h; exact k
  | n + 1, pc, pc', [], h, k => by cases h
  | n + 1, pc, pc', e :: r, h, k => by
    rw [qm_chk] at h
    split at h
    · rename_i i len hd
      by_cases hn : qm_nrm o ini rt pc i len e = true
      · rw [if_pos hn] at h
        exact ⟨i, len, hd, hn, qm_chain_of o ini rt cc n (pc + len) pc' r h k⟩
      · rw [if_neg hn] at h
        cases h
    · cases h
section QMP
variable {p : Program} {l : Launch} {e : Env} {R : Room} {s : State} {m : MethodId} {args : Array Value} {below : List Frame} {meth : Method} {c : Code} {H : Heap} {locs : List Loc} {cells slots : Nat} {Q : State → Prop} {cc : ByteArray} {pc len o : Nat} {ini : Bool} {rt : Option FieldType} {i : Instr} {u : qm_I} {ls ls' : List Slot} {st st' : List Value} {ar : Array Slot}
theorem qm_i2_inv {st st' : List Value} {g : Int32 → Int32 → Value} {ls ls' : List Slot} (h : (qm_i2 st g).map (fun t => (ls, t)) = some (ls', st')) : ∃ x y r, st = .int y :: .int x :: r ∧ ls' = ls ∧ st' = g x y :: r := by
  unfold qm_i2 at h
  split at h
  · rename_i y x r
    cases h
    exact ⟨x, y, r, rfl, rfl, rfl⟩
  · cases h
theorem qm_l2_inv {st st' : List Value} {g : Int64 → Int64 → Value} {ls ls' : List Slot} (h : (qm_l2 st g).map (fun t => (ls, t)) = some (ls', st')) : ∃ x y r, st = .long y :: .long x :: r ∧ ls' = ls ∧ st' = g x y :: r := by
  unfold qm_l2 at h
  split at h
  · rename_i y x r
    cases h
    exact ⟨x, y, r, rfl, rfl, rfl⟩
  · cases h
theorem qm_i2d_inv {st st' : List Value} {g : Int32 → Int32 → Value} {ls ls' : List Slot} (h : (qm_i2d st g).map (fun t => (ls, t)) = some (ls', st')) : ∃ x y r, st = .int y :: .int x :: r ∧ ¬ y = 0 ∧ ls' = ls ∧ st' = g x y :: r := by
  unfold qm_i2d at h
  split at h
  · rename_i y x r
    by_cases hy : y = 0
    · rw [if_pos hy] at h; cases h
    · rw [if_neg hy] at h
      cases h
      exact ⟨x, y, r, rfl, hy, rfl, rfl⟩
  · cases h
theorem qm_l2d_inv {st st' : List Value} {g : Int64 → Int64 → Value} {ls ls' : List Slot} (h : (qm_l2d st g).map (fun t => (ls, t)) = some (ls', st')) : ∃ x y r, st = .long y :: .long x :: r ∧ ¬ y = 0 ∧ ls' = ls ∧ st' = g x y :: r := by
  unfold qm_l2d at h
  split at h
  · rename_i y x r
    by_cases hy : y = 0
    · rw [if_pos hy] at h; cases h
    · rw [if_neg hy] at h
      cases h
      exact ⟨x, y, r, rfl, hy, rfl, rfl⟩
  · cases h
theorem qm_i1_inv {st st' : List Value} {g : Int32 → Value} {ls ls' : List Slot} (h : (qm_i1 st g).map (fun t => (ls, t)) = some (ls', st')) : ∃ x r, st = .int x :: r ∧ ls' = ls ∧ st' = g x :: r := by
  unfold qm_i1 at h
  split at h
  · rename_i x r
    cases h
    exact ⟨x, r, rfl, rfl, rfl⟩
  · cases h
theorem qm_l1_inv {st st' : List Value} {g : Int64 → Value} {ls ls' : List Slot} (h : (qm_l1 st g).map (fun t => (ls, t)) = some (ls', st')) : ∃ x r, st = .long x :: r ∧ ls' = ls ∧ st' = g x :: r := by
  unfold qm_l1 at h
  split at h
  · rename_i x r
    cases h
    exact ⟨x, r, rfl, rfl, rfl⟩
  · cases h
theorem qm_l01 (n : Fin 2) : Int64.ofNat (n : Nat) = (Int32.ofNat (n : Nat)).toInt64 := by
  match n with
  | 0 => rfl
  | 1 => rfl
def qm_PW (p : Program) (l : Launch) (e : Env) (R : Room) (s : State) (m : MethodId) (args : Array Value) (below : List Frame) (meth : Method) (c : Code) (H : Heap) (locs : List Loc) (cells slots : Nat) (Q : State → Prop) (pc : Nat) (ls : List Slot) (st : List Value) : Prop := ∀ ar : Array Slot, qm_lr ar ls → qm_nd ls → W p l e R s m args below meth c H locs cells slots Q (F0 m pc ar st)

theorem qm_p_iconst {n : Int} (hx : p.tables.exec = Jvm.exec) (hb : c.code = cc) (hown : s.vm.findClass (qm_own o) = some m.cls) (hts : ∀ w ∈ qm_tb, w.before args s = true) (hd : decode cc pc = .ok (.iconst n, len)) (hn : qm_nrm o ini rt pc (.iconst n) len u = true) (hp : qm_pure u ls st = some (ls', st')) (k : qm_PW p l e R s m args below meth c H locs cells slots Q (pc + len) ls' st') : qm_PW p l e R s m args below meth c H locs cells slots Q pc ls st := by
  intro ar hl hnd
  simp only [qm_nrm, decide_eq_true_eq] at hn
  obtain ⟨rfl, rfl⟩ := hn
  cases hp
  exact lv_iconst hx hb hd rfl (k ar hl hnd)
theorem qm_p_bipush {n : Int} (hx : p.tables.exec = Jvm.exec) (hb : c.code = cc) (hown : s.vm.findClass (qm_own o) = some m.cls) (hts : ∀ w ∈ qm_tb, w.before args s = true) (hd : decode cc pc = .ok (.bipush n, len)) (hn : qm_nrm o ini rt pc (.bipush n) len u = true) (hp : qm_pure u ls st = some (ls', st')) (k : qm_PW p l e R s m args below meth c H locs cells slots Q (pc + len) ls' st') : qm_PW p l e R s m args below meth c H locs cells slots Q pc ls st := by
  intro ar hl hnd
  simp only [qm_nrm, decide_eq_true_eq] at hn
  obtain ⟨rfl, rfl⟩ := hn
  cases hp
  exact lv_bipush hx hb hd rfl (k ar hl hnd)
theorem qm_p_sipush {n : Int} (hx : p.tables.exec = Jvm.exec) (hb : c.code = cc) (hown : s.vm.findClass (qm_own o) = some m.cls) (hts : ∀ w ∈ qm_tb, w.before args s = true) (hd : decode cc pc = .ok (.sipush n, len)) (hn : qm_nrm o ini rt pc (.sipush n) len u = true) (hp : qm_pure u ls st = some (ls', st')) (k : qm_PW p l e R s m args below meth c H locs cells slots Q (pc + len) ls' st') : qm_PW p l e R s m args below meth c H locs cells slots Q pc ls st := by
  intro ar hl hnd
  simp only [qm_nrm, decide_eq_true_eq] at hn
  obtain ⟨rfl, rfl⟩ := hn
  cases hp
  exact lv_sipush hx hb hd rfl (k ar hl hnd)
theorem qm_p_ldc {n : Nat} (hx : p.tables.exec = Jvm.exec) (hb : c.code = cc) (hown : s.vm.findClass (qm_own o) = some m.cls) (hts : ∀ w ∈ qm_tb, w.before args s = true) (hd : decode cc pc = .ok (.ldc n, len)) (hn : qm_nrm o ini rt pc (.ldc n) len u = true) (hp : qm_pure u ls st = some (ls', st')) (k : qm_PW p l e R s m args below meth c H locs cells slots Q (pc + len) ls' st') : qm_PW p l e R s m args below meth c H locs cells slots Q pc ls st := by
  intro ar hl hnd
  simp only [qm_nrm] at hn
  obtain ⟨q, hq, hn⟩ := List.any_eq_true.mp hn
  simp only [decide_eq_true_eq] at hn
  obtain ⟨ho, hk, rfl, rfl⟩ := hn
  subst ho; subst hk
  have hw := qm_at_mem (List.all_eq_true.mp qm_ki_ok q hq)
  cases hp
  exact lv_ldc hx hb hown (hts _ hw) hd (k ar hl hnd)
theorem qm_p_ldcw {n : Nat} (hx : p.tables.exec = Jvm.exec) (hb : c.code = cc) (hown : s.vm.findClass (qm_own o) = some m.cls) (hts : ∀ w ∈ qm_tb, w.before args s = true) (hd : decode cc pc = .ok (.ldc_w n, len)) (hn : qm_nrm o ini rt pc (.ldc_w n) len u = true) (hp : qm_pure u ls st = some (ls', st')) (k : qm_PW p l e R s m args below meth c H locs cells slots Q (pc + len) ls' st') : qm_PW p l e R s m args below meth c H locs cells slots Q pc ls st := by
  intro ar hl hnd
  simp only [qm_nrm] at hn
  obtain ⟨q, hq, hn⟩ := List.any_eq_true.mp hn
  simp only [decide_eq_true_eq] at hn
  obtain ⟨ho, hk, rfl, rfl⟩ := hn
  subst ho; subst hk
  have hw := qm_at_mem (List.all_eq_true.mp qm_ki_ok q hq)
  cases hp
  exact lv_ldcw hx hb hown (hts _ hw) hd (k ar hl hnd)
theorem qm_p_lconst {n : Fin 2} (hx : p.tables.exec = Jvm.exec) (hb : c.code = cc) (hown : s.vm.findClass (qm_own o) = some m.cls) (hts : ∀ w ∈ qm_tb, w.before args s = true) (hd : decode cc pc = .ok (.lconst n, len)) (hn : qm_nrm o ini rt pc (.lconst n) len u = true) (hp : qm_pure u ls st = some (ls', st')) (k : qm_PW p l e R s m args below meth c H locs cells slots Q (pc + len) ls' st') : qm_PW p l e R s m args below meth c H locs cells slots Q pc ls st := by
  intro ar hl hnd
  simp only [qm_nrm, decide_eq_true_eq] at hn
  obtain ⟨rfl, rfl⟩ := hn
  cases hp
  exact lv_lconst hx hb hd (qm_l01 n) (k ar hl hnd)
theorem qm_p_ldc2 {n : Nat} (hx : p.tables.exec = Jvm.exec) (hb : c.code = cc) (hown : s.vm.findClass (qm_own o) = some m.cls) (hts : ∀ w ∈ qm_tb, w.before args s = true) (hd : decode cc pc = .ok (.ldc2_w n, len)) (hn : qm_nrm o ini rt pc (.ldc2_w n) len u = true) (hp : qm_pure u ls st = some (ls', st')) (k : qm_PW p l e R s m args below meth c H locs cells slots Q (pc + len) ls' st') : qm_PW p l e R s m args below meth c H locs cells slots Q pc ls st := by
  intro ar hl hnd
  simp only [qm_nrm] at hn
  obtain ⟨q, hq, hn⟩ := List.any_eq_true.mp hn
  simp only [decide_eq_true_eq] at hn
  obtain ⟨ho, hk, rfl, rfl⟩ := hn
  subst ho; subst hk
  have hw := qm_at_mem (List.all_eq_true.mp qm_kl_ok q hq)
  cases hp
  exact lv_ldc2 hx hb hown (hts _ hw) hd (k ar hl hnd)
theorem qm_p_null  (hx : p.tables.exec = Jvm.exec) (hb : c.code = cc) (hown : s.vm.findClass (qm_own o) = some m.cls) (hts : ∀ w ∈ qm_tb, w.before args s = true) (hd : decode cc pc = .ok (.aconst_null, len)) (hn : qm_nrm o ini rt pc (.aconst_null) len u = true) (hp : qm_pure u ls st = some (ls', st')) (k : qm_PW p l e R s m args below meth c H locs cells slots Q (pc + len) ls' st') : qm_PW p l e R s m args below meth c H locs cells slots Q pc ls st := by
  intro ar hl hnd
  simp only [qm_nrm, decide_eq_true_eq] at hn
  obtain ⟨rfl, rfl⟩ := hn
  cases hp
  exact lv_null hx hb hd (k ar hl hnd)
theorem qm_p_iload_n {n : Fin 4} (hx : p.tables.exec = Jvm.exec) (hb : c.code = cc) (hown : s.vm.findClass (qm_own o) = some m.cls) (hts : ∀ w ∈ qm_tb, w.before args s = true) (hd : decode cc pc = .ok (.iload_n n, len)) (hn : qm_nrm o ini rt pc (.iload_n n) len u = true) (hp : qm_pure u ls st = some (ls', st')) (k : qm_PW p l e R s m args below meth c H locs cells slots Q (pc + len) ls' st') : qm_PW p l e R s m args below meth c H locs cells slots Q pc ls st := by
  intro ar hl hnd
  simp only [qm_nrm, decide_eq_true_eq] at hn
  obtain ⟨rfl, rfl⟩ := hn
  simp only [qm_pure] at hp
  split at hp
  · rename_i x hv
    cases hp
    exact lv_iload_n hx hb hd rfl (qm_lr_at hl hv) (k ar hl hnd)
  · cases hp
theorem qm_p_iload {n : Nat} (hx : p.tables.exec = Jvm.exec) (hb : c.code = cc) (hown : s.vm.findClass (qm_own o) = some m.cls) (hts : ∀ w ∈ qm_tb, w.before args s = true) (hd : decode cc pc = .ok (.iload n, len)) (hn : qm_nrm o ini rt pc (.iload n) len u = true) (hp : qm_pure u ls st = some (ls', st')) (k : qm_PW p l e R s m args below meth c H locs cells slots Q (pc + len) ls' st') : qm_PW p l e R s m args below meth c H locs cells slots Q pc ls st := by
  intro ar hl hnd
  simp only [qm_nrm, decide_eq_true_eq] at hn
  obtain ⟨rfl, rfl⟩ := hn
  simp only [qm_pure] at hp
  split at hp
  · rename_i x hv
    cases hp
    exact lv_iload hx hb hd (qm_lr_at hl hv) (k ar hl hnd)
  · cases hp
theorem qm_p_lload_n {n : Fin 4} (hx : p.tables.exec = Jvm.exec) (hb : c.code = cc) (hown : s.vm.findClass (qm_own o) = some m.cls) (hts : ∀ w ∈ qm_tb, w.before args s = true) (hd : decode cc pc = .ok (.lload_n n, len)) (hn : qm_nrm o ini rt pc (.lload_n n) len u = true) (hp : qm_pure u ls st = some (ls', st')) (k : qm_PW p l e R s m args below meth c H locs cells slots Q (pc + len) ls' st') : qm_PW p l e R s m args below meth c H locs cells slots Q pc ls st := by
  intro ar hl hnd
  simp only [qm_nrm, decide_eq_true_eq] at hn
  obtain ⟨rfl, rfl⟩ := hn
  simp only [qm_pure] at hp
  split at hp
  · rename_i x hv
    cases hp
    exact lv_lload_n hx hb hd rfl (qm_lr_at hl hv) (k ar hl hnd)
  · cases hp
theorem qm_p_lload {n : Nat} (hx : p.tables.exec = Jvm.exec) (hb : c.code = cc) (hown : s.vm.findClass (qm_own o) = some m.cls) (hts : ∀ w ∈ qm_tb, w.before args s = true) (hd : decode cc pc = .ok (.lload n, len)) (hn : qm_nrm o ini rt pc (.lload n) len u = true) (hp : qm_pure u ls st = some (ls', st')) (k : qm_PW p l e R s m args below meth c H locs cells slots Q (pc + len) ls' st') : qm_PW p l e R s m args below meth c H locs cells slots Q pc ls st := by
  intro ar hl hnd
  simp only [qm_nrm, decide_eq_true_eq] at hn
  obtain ⟨rfl, rfl⟩ := hn
  simp only [qm_pure] at hp
  split at hp
  · rename_i x hv
    cases hp
    exact lv_lload hx hb hd (qm_lr_at hl hv) (k ar hl hnd)
  · cases hp
theorem qm_p_aload_n {n : Fin 4} (hx : p.tables.exec = Jvm.exec) (hb : c.code = cc) (hown : s.vm.findClass (qm_own o) = some m.cls) (hts : ∀ w ∈ qm_tb, w.before args s = true) (hd : decode cc pc = .ok (.aload_n n, len)) (hn : qm_nrm o ini rt pc (.aload_n n) len u = true) (hp : qm_pure u ls st = some (ls', st')) (k : qm_PW p l e R s m args below meth c H locs cells slots Q (pc + len) ls' st') : qm_PW p l e R s m args below meth c H locs cells slots Q pc ls st := by
  intro ar hl hnd
  simp only [qm_nrm, decide_eq_true_eq] at hn
  obtain ⟨rfl, rfl⟩ := hn
  simp only [qm_pure] at hp
  split at hp
  · rename_i x hv
    cases hp
    exact lv_aload_n hx hb hd rfl (qm_lr_at hl hv) (k ar hl hnd)
  · rename_i hv
    cases hp
    exact lv_aload_nN hx hb hd rfl (qm_lr_at hl hv) (k ar hl hnd)
  · cases hp
theorem qm_p_aload {n : Nat} (hx : p.tables.exec = Jvm.exec) (hb : c.code = cc) (hown : s.vm.findClass (qm_own o) = some m.cls) (hts : ∀ w ∈ qm_tb, w.before args s = true) (hd : decode cc pc = .ok (.aload n, len)) (hn : qm_nrm o ini rt pc (.aload n) len u = true) (hp : qm_pure u ls st = some (ls', st')) (k : qm_PW p l e R s m args below meth c H locs cells slots Q (pc + len) ls' st') : qm_PW p l e R s m args below meth c H locs cells slots Q pc ls st := by
  intro ar hl hnd
  simp only [qm_nrm, decide_eq_true_eq] at hn
  obtain ⟨rfl, rfl⟩ := hn
  simp only [qm_pure] at hp
  split at hp
  · rename_i x hv
    cases hp
    exact lv_aload hx hb hd (qm_lr_at hl hv) (k ar hl hnd)
  · rename_i hv
    cases hp
    exact lv_aloadN hx hb hd (qm_lr_at hl hv) (k ar hl hnd)
  · cases hp
theorem qm_p_istore_n {n : Fin 4} (hx : p.tables.exec = Jvm.exec) (hb : c.code = cc) (hown : s.vm.findClass (qm_own o) = some m.cls) (hts : ∀ w ∈ qm_tb, w.before args s = true) (hd : decode cc pc = .ok (.istore_n n, len)) (hn : qm_nrm o ini rt pc (.istore_n n) len u = true) (hp : qm_pure u ls st = some (ls', st')) (k : qm_PW p l e R s m args below meth c H locs cells slots Q (pc + len) ls' st') : qm_PW p l e R s m args below meth c H locs cells slots Q pc ls st := by
  intro ar hl hnd
  simp only [qm_nrm, decide_eq_true_eq] at hn
  obtain ⟨rfl, rfl⟩ := hn
  simp only [qm_pure] at hp
  split at hp
  · rename_i x r
    by_cases hk1 : (n : Nat) < ls.length
    · rw [if_pos hk1] at hp
      cases hp
      refine lv_istore_n hx hb hd rfl hl hk1 rfl (fun ar1 h1 => ?_)
      exact k ar1 (qm_lr_st1 hnd h1) (qm_nd_st1 hnd (fun _ z => by cases z))
    · rw [if_neg hk1] at hp; cases hp
  · cases hp
theorem qm_p_istore {n : Nat} (hx : p.tables.exec = Jvm.exec) (hb : c.code = cc) (hown : s.vm.findClass (qm_own o) = some m.cls) (hts : ∀ w ∈ qm_tb, w.before args s = true) (hd : decode cc pc = .ok (.istore n, len)) (hn : qm_nrm o ini rt pc (.istore n) len u = true) (hp : qm_pure u ls st = some (ls', st')) (k : qm_PW p l e R s m args below meth c H locs cells slots Q (pc + len) ls' st') : qm_PW p l e R s m args below meth c H locs cells slots Q pc ls st := by
  intro ar hl hnd
  simp only [qm_nrm, decide_eq_true_eq] at hn
  obtain ⟨rfl, rfl⟩ := hn
  simp only [qm_pure] at hp
  split at hp
  · rename_i x r
    by_cases hk1 : (n : Nat) < ls.length
    · rw [if_pos hk1] at hp
      cases hp
      refine lv_istore hx hb hd hl hk1 rfl (fun ar1 h1 => ?_)
      exact k ar1 (qm_lr_st1 hnd h1) (qm_nd_st1 hnd (fun _ z => by cases z))
    · rw [if_neg hk1] at hp; cases hp
  · cases hp
theorem qm_p_lstore_n {n : Fin 4} (hx : p.tables.exec = Jvm.exec) (hb : c.code = cc) (hown : s.vm.findClass (qm_own o) = some m.cls) (hts : ∀ w ∈ qm_tb, w.before args s = true) (hd : decode cc pc = .ok (.lstore_n n, len)) (hn : qm_nrm o ini rt pc (.lstore_n n) len u = true) (hp : qm_pure u ls st = some (ls', st')) (k : qm_PW p l e R s m args below meth c H locs cells slots Q (pc + len) ls' st') : qm_PW p l e R s m args below meth c H locs cells slots Q pc ls st := by
  intro ar hl hnd
  simp only [qm_nrm, decide_eq_true_eq] at hn
  obtain ⟨rfl, rfl⟩ := hn
  simp only [qm_pure] at hp
  split at hp
  · rename_i x r
    by_cases hk1 : (n : Nat) + 1 < ls.length
    · rw [if_pos hk1] at hp
      cases hp
      refine lv_lstore_n hx hb hd rfl hl hk1 rfl (fun ar1 h1 => ?_)
      exact k ar1 (qm_lr_st2 hnd h1) (qm_nd_st2 hnd (fun _ z => by cases z))
    · rw [if_neg hk1] at hp; cases hp
  · cases hp
theorem qm_p_lstore {n : Nat} (hx : p.tables.exec = Jvm.exec) (hb : c.code = cc) (hown : s.vm.findClass (qm_own o) = some m.cls) (hts : ∀ w ∈ qm_tb, w.before args s = true) (hd : decode cc pc = .ok (.lstore n, len)) (hn : qm_nrm o ini rt pc (.lstore n) len u = true) (hp : qm_pure u ls st = some (ls', st')) (k : qm_PW p l e R s m args below meth c H locs cells slots Q (pc + len) ls' st') : qm_PW p l e R s m args below meth c H locs cells slots Q pc ls st := by
  intro ar hl hnd
  simp only [qm_nrm, decide_eq_true_eq] at hn
  obtain ⟨rfl, rfl⟩ := hn
  simp only [qm_pure] at hp
  split at hp
  · rename_i x r
    by_cases hk1 : (n : Nat) + 1 < ls.length
    · rw [if_pos hk1] at hp
      cases hp
      refine lv_lstore hx hb hd hl hk1 rfl (fun ar1 h1 => ?_)
      exact k ar1 (qm_lr_st2 hnd h1) (qm_nd_st2 hnd (fun _ z => by cases z))
    · rw [if_neg hk1] at hp; cases hp
  · cases hp
theorem qm_p_astore_n {n : Fin 4} (hx : p.tables.exec = Jvm.exec) (hb : c.code = cc) (hown : s.vm.findClass (qm_own o) = some m.cls) (hts : ∀ w ∈ qm_tb, w.before args s = true) (hd : decode cc pc = .ok (.astore_n n, len)) (hn : qm_nrm o ini rt pc (.astore_n n) len u = true) (hp : qm_pure u ls st = some (ls', st')) (k : qm_PW p l e R s m args below meth c H locs cells slots Q (pc + len) ls' st') : qm_PW p l e R s m args below meth c H locs cells slots Q pc ls st := by
  intro ar hl hnd
  simp only [qm_nrm, decide_eq_true_eq] at hn
  obtain ⟨rfl, rfl⟩ := hn
  simp only [qm_pure] at hp
  split at hp
  · rename_i x r
    by_cases hk1 : (n : Nat) < ls.length
    · rw [if_pos hk1] at hp
      cases hp
      refine lv_astore_n hx hb hd rfl hl hk1 rfl (fun ar1 h1 => ?_)
      exact k ar1 (qm_lr_st1 hnd h1) (qm_nd_st1 hnd (fun _ z => by cases z))
    · rw [if_neg hk1] at hp; cases hp
  · rename_i r
    by_cases hk1 : (n : Nat) < ls.length
    · rw [if_pos hk1] at hp
      cases hp
      refine lv_astore_nN hx hb hd rfl hl hk1 rfl (fun ar1 h1 => ?_)
      exact k ar1 (qm_lr_st1 hnd h1) (qm_nd_st1 hnd (fun _ z => by cases z))
    · rw [if_neg hk1] at hp; cases hp
  · cases hp
theorem qm_p_astore {n : Nat} (hx : p.tables.exec = Jvm.exec) (hb : c.code = cc) (hown : s.vm.findClass (qm_own o) = some m.cls) (hts : ∀ w ∈ qm_tb, w.before args s = true) (hd : decode cc pc = .ok (.astore n, len)) (hn : qm_nrm o ini rt pc (.astore n) len u = true) (hp : qm_pure u ls st = some (ls', st')) (k : qm_PW p l e R s m args below meth c H locs cells slots Q (pc + len) ls' st') : qm_PW p l e R s m args below meth c H locs cells slots Q pc ls st := by
  intro ar hl hnd
  simp only [qm_nrm, decide_eq_true_eq] at hn
  obtain ⟨rfl, rfl⟩ := hn
  simp only [qm_pure] at hp
  split at hp
  · rename_i x r
    by_cases hk1 : (n : Nat) < ls.length
    · rw [if_pos hk1] at hp
      cases hp
      refine lv_astore hx hb hd hl hk1 rfl (fun ar1 h1 => ?_)
      exact k ar1 (qm_lr_st1 hnd h1) (qm_nd_st1 hnd (fun _ z => by cases z))
    · rw [if_neg hk1] at hp; cases hp
  · rename_i r
    by_cases hk1 : (n : Nat) < ls.length
    · rw [if_pos hk1] at hp
      cases hp
      refine lv_astoreN hx hb hd hl hk1 rfl (fun ar1 h1 => ?_)
      exact k ar1 (qm_lr_st1 hnd h1) (qm_nd_st1 hnd (fun _ z => by cases z))
    · rw [if_neg hk1] at hp; cases hp
  · cases hp
theorem qm_p_iinc {n : Nat} {d : Int} (hx : p.tables.exec = Jvm.exec) (hb : c.code = cc) (hown : s.vm.findClass (qm_own o) = some m.cls) (hts : ∀ w ∈ qm_tb, w.before args s = true) (hd : decode cc pc = .ok (.iinc n d, len)) (hn : qm_nrm o ini rt pc (.iinc n d) len u = true) (hp : qm_pure u ls st = some (ls', st')) (k : qm_PW p l e R s m args below meth c H locs cells slots Q (pc + len) ls' st') : qm_PW p l e R s m args below meth c H locs cells slots Q pc ls st := by
  intro ar hl hnd
  simp only [qm_nrm, decide_eq_true_eq] at hn
  obtain ⟨rfl, rfl⟩ := hn
  simp only [qm_pure] at hp
  split at hp
  · rename_i x hv
    by_cases hk1 : (n : Nat) < ls.length
    · rw [if_pos hk1] at hp
      cases hp
      have hv2 : ls[n]? = some (.val (.int x)) := by
        unfold qm_ld at hv
        split at hv
        · rename_i w hw
          cases hv
          exact hw
        · cases hv
      obtain ⟨k9, hk9⟩ := List.getElem?_of_mem (qm_prs_mem.mpr hv2)
      refine lv_iinc hx hb hd hl hk9 rfl hk1 rfl (fun ar1 h1 => ?_)
      exact k ar1 (qm_lr_st1 hnd h1) (qm_nd_st1 hnd (fun _ z => by cases z))
    · rw [if_neg hk1] at hp; cases hp
  · cases hp
theorem qm_p_iadd  (hx : p.tables.exec = Jvm.exec) (hb : c.code = cc) (hown : s.vm.findClass (qm_own o) = some m.cls) (hts : ∀ w ∈ qm_tb, w.before args s = true) (hd : decode cc pc = .ok (.iadd, len)) (hn : qm_nrm o ini rt pc (.iadd) len u = true) (hp : qm_pure u ls st = some (ls', st')) (k : qm_PW p l e R s m args below meth c H locs cells slots Q (pc + len) ls' st') : qm_PW p l e R s m args below meth c H locs cells slots Q pc ls st := by
  intro ar hl hnd
  simp only [qm_nrm, decide_eq_true_eq] at hn
  obtain ⟨rfl, rfl⟩ := hn
  obtain ⟨x, y, r, rfl, rfl, rfl⟩ := qm_i2_inv hp
  exact lv_iadd hx hb hd (k ar hl hnd)
theorem qm_p_isub  (hx : p.tables.exec = Jvm.exec) (hb : c.code = cc) (hown : s.vm.findClass (qm_own o) = some m.cls) (hts : ∀ w ∈ qm_tb, w.before args s = true) (hd : decode cc pc = .ok (.isub, len)) (hn : qm_nrm o ini rt pc (.isub) len u = true) (hp : qm_pure u ls st = some (ls', st')) (k : qm_PW p l e R s m args below meth c H locs cells slots Q (pc + len) ls' st') : qm_PW p l e R s m args below meth c H locs cells slots Q pc ls st := by
  intro ar hl hnd
  simp only [qm_nrm, decide_eq_true_eq] at hn
  obtain ⟨rfl, rfl⟩ := hn
  obtain ⟨x, y, r, rfl, rfl, rfl⟩ := qm_i2_inv hp
  exact lv_isub hx hb hd (k ar hl hnd)
theorem qm_p_imul  (hx : p.tables.exec = Jvm.exec) (hb : c.code = cc) (hown : s.vm.findClass (qm_own o) = some m.cls) (hts : ∀ w ∈ qm_tb, w.before args s = true) (hd : decode cc pc = .ok (.imul, len)) (hn : qm_nrm o ini rt pc (.imul) len u = true) (hp : qm_pure u ls st = some (ls', st')) (k : qm_PW p l e R s m args below meth c H locs cells slots Q (pc + len) ls' st') : qm_PW p l e R s m args below meth c H locs cells slots Q pc ls st := by
  intro ar hl hnd
  simp only [qm_nrm, decide_eq_true_eq] at hn
  obtain ⟨rfl, rfl⟩ := hn
  obtain ⟨x, y, r, rfl, rfl, rfl⟩ := qm_i2_inv hp
  exact lv_imul hx hb hd (k ar hl hnd)
theorem qm_p_iand  (hx : p.tables.exec = Jvm.exec) (hb : c.code = cc) (hown : s.vm.findClass (qm_own o) = some m.cls) (hts : ∀ w ∈ qm_tb, w.before args s = true) (hd : decode cc pc = .ok (.iand, len)) (hn : qm_nrm o ini rt pc (.iand) len u = true) (hp : qm_pure u ls st = some (ls', st')) (k : qm_PW p l e R s m args below meth c H locs cells slots Q (pc + len) ls' st') : qm_PW p l e R s m args below meth c H locs cells slots Q pc ls st := by
  intro ar hl hnd
  simp only [qm_nrm, decide_eq_true_eq] at hn
  obtain ⟨rfl, rfl⟩ := hn
  obtain ⟨x, y, r, rfl, rfl, rfl⟩ := qm_i2_inv hp
  exact lv_iand hx hb hd (k ar hl hnd)
theorem qm_p_ior  (hx : p.tables.exec = Jvm.exec) (hb : c.code = cc) (hown : s.vm.findClass (qm_own o) = some m.cls) (hts : ∀ w ∈ qm_tb, w.before args s = true) (hd : decode cc pc = .ok (.ior, len)) (hn : qm_nrm o ini rt pc (.ior) len u = true) (hp : qm_pure u ls st = some (ls', st')) (k : qm_PW p l e R s m args below meth c H locs cells slots Q (pc + len) ls' st') : qm_PW p l e R s m args below meth c H locs cells slots Q pc ls st := by
  intro ar hl hnd
  simp only [qm_nrm, decide_eq_true_eq] at hn
  obtain ⟨rfl, rfl⟩ := hn
  obtain ⟨x, y, r, rfl, rfl, rfl⟩ := qm_i2_inv hp
  exact lv_ior hx hb hd (k ar hl hnd)
theorem qm_p_ixor  (hx : p.tables.exec = Jvm.exec) (hb : c.code = cc) (hown : s.vm.findClass (qm_own o) = some m.cls) (hts : ∀ w ∈ qm_tb, w.before args s = true) (hd : decode cc pc = .ok (.ixor, len)) (hn : qm_nrm o ini rt pc (.ixor) len u = true) (hp : qm_pure u ls st = some (ls', st')) (k : qm_PW p l e R s m args below meth c H locs cells slots Q (pc + len) ls' st') : qm_PW p l e R s m args below meth c H locs cells slots Q pc ls st := by
  intro ar hl hnd
  simp only [qm_nrm, decide_eq_true_eq] at hn
  obtain ⟨rfl, rfl⟩ := hn
  obtain ⟨x, y, r, rfl, rfl, rfl⟩ := qm_i2_inv hp
  exact lv_ixor hx hb hd (k ar hl hnd)
theorem qm_p_ishl  (hx : p.tables.exec = Jvm.exec) (hb : c.code = cc) (hown : s.vm.findClass (qm_own o) = some m.cls) (hts : ∀ w ∈ qm_tb, w.before args s = true) (hd : decode cc pc = .ok (.ishl, len)) (hn : qm_nrm o ini rt pc (.ishl) len u = true) (hp : qm_pure u ls st = some (ls', st')) (k : qm_PW p l e R s m args below meth c H locs cells slots Q (pc + len) ls' st') : qm_PW p l e R s m args below meth c H locs cells slots Q pc ls st := by
  intro ar hl hnd
  simp only [qm_nrm, decide_eq_true_eq] at hn
  obtain ⟨rfl, rfl⟩ := hn
  obtain ⟨x, y, r, rfl, rfl, rfl⟩ := qm_i2_inv hp
  exact lv_ishl hx hb hd (k ar hl hnd)
theorem qm_p_ishr  (hx : p.tables.exec = Jvm.exec) (hb : c.code = cc) (hown : s.vm.findClass (qm_own o) = some m.cls) (hts : ∀ w ∈ qm_tb, w.before args s = true) (hd : decode cc pc = .ok (.ishr, len)) (hn : qm_nrm o ini rt pc (.ishr) len u = true) (hp : qm_pure u ls st = some (ls', st')) (k : qm_PW p l e R s m args below meth c H locs cells slots Q (pc + len) ls' st') : qm_PW p l e R s m args below meth c H locs cells slots Q pc ls st := by
  intro ar hl hnd
  simp only [qm_nrm, decide_eq_true_eq] at hn
  obtain ⟨rfl, rfl⟩ := hn
  obtain ⟨x, y, r, rfl, rfl, rfl⟩ := qm_i2_inv hp
  exact lv_ishr hx hb hd (k ar hl hnd)
theorem qm_p_iushr  (hx : p.tables.exec = Jvm.exec) (hb : c.code = cc) (hown : s.vm.findClass (qm_own o) = some m.cls) (hts : ∀ w ∈ qm_tb, w.before args s = true) (hd : decode cc pc = .ok (.iushr, len)) (hn : qm_nrm o ini rt pc (.iushr) len u = true) (hp : qm_pure u ls st = some (ls', st')) (k : qm_PW p l e R s m args below meth c H locs cells slots Q (pc + len) ls' st') : qm_PW p l e R s m args below meth c H locs cells slots Q pc ls st := by
  intro ar hl hnd
  simp only [qm_nrm, decide_eq_true_eq] at hn
  obtain ⟨rfl, rfl⟩ := hn
  obtain ⟨x, y, r, rfl, rfl, rfl⟩ := qm_i2_inv hp
  exact lv_iushr hx hb hd rfl (k ar hl hnd)
theorem qm_p_idiv  (hx : p.tables.exec = Jvm.exec) (hb : c.code = cc) (hown : s.vm.findClass (qm_own o) = some m.cls) (hts : ∀ w ∈ qm_tb, w.before args s = true) (hd : decode cc pc = .ok (.idiv, len)) (hn : qm_nrm o ini rt pc (.idiv) len u = true) (hp : qm_pure u ls st = some (ls', st')) (k : qm_PW p l e R s m args below meth c H locs cells slots Q (pc + len) ls' st') : qm_PW p l e R s m args below meth c H locs cells slots Q pc ls st := by
  intro ar hl hnd
  simp only [qm_nrm, decide_eq_true_eq] at hn
  obtain ⟨rfl, rfl⟩ := hn
  obtain ⟨x, y, r, rfl, hy, rfl, rfl⟩ := qm_i2d_inv hp
  exact lv_idiv hx hb hd hy (k ar hl hnd)
theorem qm_p_irem  (hx : p.tables.exec = Jvm.exec) (hb : c.code = cc) (hown : s.vm.findClass (qm_own o) = some m.cls) (hts : ∀ w ∈ qm_tb, w.before args s = true) (hd : decode cc pc = .ok (.irem, len)) (hn : qm_nrm o ini rt pc (.irem) len u = true) (hp : qm_pure u ls st = some (ls', st')) (k : qm_PW p l e R s m args below meth c H locs cells slots Q (pc + len) ls' st') : qm_PW p l e R s m args below meth c H locs cells slots Q pc ls st := by
  intro ar hl hnd
  simp only [qm_nrm, decide_eq_true_eq] at hn
  obtain ⟨rfl, rfl⟩ := hn
  obtain ⟨x, y, r, rfl, hy, rfl, rfl⟩ := qm_i2d_inv hp
  exact lv_irem hx hb hd hy (k ar hl hnd)
theorem qm_p_ineg  (hx : p.tables.exec = Jvm.exec) (hb : c.code = cc) (hown : s.vm.findClass (qm_own o) = some m.cls) (hts : ∀ w ∈ qm_tb, w.before args s = true) (hd : decode cc pc = .ok (.ineg, len)) (hn : qm_nrm o ini rt pc (.ineg) len u = true) (hp : qm_pure u ls st = some (ls', st')) (k : qm_PW p l e R s m args below meth c H locs cells slots Q (pc + len) ls' st') : qm_PW p l e R s m args below meth c H locs cells slots Q pc ls st := by
  intro ar hl hnd
  simp only [qm_nrm, decide_eq_true_eq] at hn
  obtain ⟨rfl, rfl⟩ := hn
  obtain ⟨x, r, rfl, rfl, rfl⟩ := qm_i1_inv hp
  exact lv_ineg hx hb hd (k ar hl hnd)
theorem qm_p_i2l  (hx : p.tables.exec = Jvm.exec) (hb : c.code = cc) (hown : s.vm.findClass (qm_own o) = some m.cls) (hts : ∀ w ∈ qm_tb, w.before args s = true) (hd : decode cc pc = .ok (.i2l, len)) (hn : qm_nrm o ini rt pc (.i2l) len u = true) (hp : qm_pure u ls st = some (ls', st')) (k : qm_PW p l e R s m args below meth c H locs cells slots Q (pc + len) ls' st') : qm_PW p l e R s m args below meth c H locs cells slots Q pc ls st := by
  intro ar hl hnd
  simp only [qm_nrm, decide_eq_true_eq] at hn
  obtain ⟨rfl, rfl⟩ := hn
  obtain ⟨x, r, rfl, rfl, rfl⟩ := qm_i1_inv hp
  exact lv_i2l hx hb hd rfl (k ar hl hnd)
theorem qm_p_l2i  (hx : p.tables.exec = Jvm.exec) (hb : c.code = cc) (hown : s.vm.findClass (qm_own o) = some m.cls) (hts : ∀ w ∈ qm_tb, w.before args s = true) (hd : decode cc pc = .ok (.l2i, len)) (hn : qm_nrm o ini rt pc (.l2i) len u = true) (hp : qm_pure u ls st = some (ls', st')) (k : qm_PW p l e R s m args below meth c H locs cells slots Q (pc + len) ls' st') : qm_PW p l e R s m args below meth c H locs cells slots Q pc ls st := by
  intro ar hl hnd
  simp only [qm_nrm, decide_eq_true_eq] at hn
  obtain ⟨rfl, rfl⟩ := hn
  obtain ⟨x, r, rfl, rfl, rfl⟩ := qm_l1_inv hp
  exact lv_l2i hx hb hd rfl (k ar hl hnd)
theorem qm_p_lneg  (hx : p.tables.exec = Jvm.exec) (hb : c.code = cc) (hown : s.vm.findClass (qm_own o) = some m.cls) (hts : ∀ w ∈ qm_tb, w.before args s = true) (hd : decode cc pc = .ok (.lneg, len)) (hn : qm_nrm o ini rt pc (.lneg) len u = true) (hp : qm_pure u ls st = some (ls', st')) (k : qm_PW p l e R s m args below meth c H locs cells slots Q (pc + len) ls' st') : qm_PW p l e R s m args below meth c H locs cells slots Q pc ls st := by
  intro ar hl hnd
  simp only [qm_nrm, decide_eq_true_eq] at hn
  obtain ⟨rfl, rfl⟩ := hn
  obtain ⟨x, r, rfl, rfl, rfl⟩ := qm_l1_inv hp
  exact lv_lneg hx hb hd (k ar hl hnd)
theorem qm_p_ladd  (hx : p.tables.exec = Jvm.exec) (hb : c.code = cc) (hown : s.vm.findClass (qm_own o) = some m.cls) (hts : ∀ w ∈ qm_tb, w.before args s = true) (hd : decode cc pc = .ok (.ladd, len)) (hn : qm_nrm o ini rt pc (.ladd) len u = true) (hp : qm_pure u ls st = some (ls', st')) (k : qm_PW p l e R s m args below meth c H locs cells slots Q (pc + len) ls' st') : qm_PW p l e R s m args below meth c H locs cells slots Q pc ls st := by
  intro ar hl hnd
  simp only [qm_nrm, decide_eq_true_eq] at hn
  obtain ⟨rfl, rfl⟩ := hn
  obtain ⟨x, y, r, rfl, rfl, rfl⟩ := qm_l2_inv hp
  exact lv_ladd hx hb hd (k ar hl hnd)
theorem qm_p_lsub  (hx : p.tables.exec = Jvm.exec) (hb : c.code = cc) (hown : s.vm.findClass (qm_own o) = some m.cls) (hts : ∀ w ∈ qm_tb, w.before args s = true) (hd : decode cc pc = .ok (.lsub, len)) (hn : qm_nrm o ini rt pc (.lsub) len u = true) (hp : qm_pure u ls st = some (ls', st')) (k : qm_PW p l e R s m args below meth c H locs cells slots Q (pc + len) ls' st') : qm_PW p l e R s m args below meth c H locs cells slots Q pc ls st := by
  intro ar hl hnd
  simp only [qm_nrm, decide_eq_true_eq] at hn
  obtain ⟨rfl, rfl⟩ := hn
  obtain ⟨x, y, r, rfl, rfl, rfl⟩ := qm_l2_inv hp
  exact lv_lsub hx hb hd (k ar hl hnd)
theorem qm_p_lmul  (hx : p.tables.exec = Jvm.exec) (hb : c.code = cc) (hown : s.vm.findClass (qm_own o) = some m.cls) (hts : ∀ w ∈ qm_tb, w.before args s = true) (hd : decode cc pc = .ok (.lmul, len)) (hn : qm_nrm o ini rt pc (.lmul) len u = true) (hp : qm_pure u ls st = some (ls', st')) (k : qm_PW p l e R s m args below meth c H locs cells slots Q (pc + len) ls' st') : qm_PW p l e R s m args below meth c H locs cells slots Q pc ls st := by
  intro ar hl hnd
  simp only [qm_nrm, decide_eq_true_eq] at hn
  obtain ⟨rfl, rfl⟩ := hn
  obtain ⟨x, y, r, rfl, rfl, rfl⟩ := qm_l2_inv hp
  exact lv_lmul hx hb hd (k ar hl hnd)
theorem qm_p_lcmp  (hx : p.tables.exec = Jvm.exec) (hb : c.code = cc) (hown : s.vm.findClass (qm_own o) = some m.cls) (hts : ∀ w ∈ qm_tb, w.before args s = true) (hd : decode cc pc = .ok (.lcmp, len)) (hn : qm_nrm o ini rt pc (.lcmp) len u = true) (hp : qm_pure u ls st = some (ls', st')) (k : qm_PW p l e R s m args below meth c H locs cells slots Q (pc + len) ls' st') : qm_PW p l e R s m args below meth c H locs cells slots Q pc ls st := by
  intro ar hl hnd
  simp only [qm_nrm, decide_eq_true_eq] at hn
  obtain ⟨rfl, rfl⟩ := hn
  obtain ⟨x, y, r, rfl, rfl, rfl⟩ := qm_l2_inv hp
  exact W.lcmp hx hb hd (k ar hl hnd)
theorem qm_p_ldiv  (hx : p.tables.exec = Jvm.exec) (hb : c.code = cc) (hown : s.vm.findClass (qm_own o) = some m.cls) (hts : ∀ w ∈ qm_tb, w.before args s = true) (hd : decode cc pc = .ok (.ldiv, len)) (hn : qm_nrm o ini rt pc (.ldiv) len u = true) (hp : qm_pure u ls st = some (ls', st')) (k : qm_PW p l e R s m args below meth c H locs cells slots Q (pc + len) ls' st') : qm_PW p l e R s m args below meth c H locs cells slots Q pc ls st := by
  intro ar hl hnd
  simp only [qm_nrm, decide_eq_true_eq] at hn
  obtain ⟨rfl, rfl⟩ := hn
  obtain ⟨x, y, r, rfl, hy, rfl, rfl⟩ := qm_l2d_inv hp
  exact lv_ldiv hx hb hd hy (k ar hl hnd)
theorem qm_p_dup  (hx : p.tables.exec = Jvm.exec) (hb : c.code = cc) (hown : s.vm.findClass (qm_own o) = some m.cls) (hts : ∀ w ∈ qm_tb, w.before args s = true) (hd : decode cc pc = .ok (.dup, len)) (hn : qm_nrm o ini rt pc (.dup) len u = true) (hp : qm_pure u ls st = some (ls', st')) (k : qm_PW p l e R s m args below meth c H locs cells slots Q (pc + len) ls' st') : qm_PW p l e R s m args below meth c H locs cells slots Q pc ls st := by
  intro ar hl hnd
  simp only [qm_nrm, decide_eq_true_eq] at hn
  obtain ⟨rfl, rfl⟩ := hn
  simp only [qm_pure] at hp
  split at hp
  · rename_i v r
    by_cases hc : v.category = 1
    · rw [if_pos hc] at hp; cases hp
      exact lv_dup hx hb hd hc (k ar hl hnd)
    · rw [if_neg hc] at hp; cases hp
  · cases hp
theorem qm_p_pop  (hx : p.tables.exec = Jvm.exec) (hb : c.code = cc) (hown : s.vm.findClass (qm_own o) = some m.cls) (hts : ∀ w ∈ qm_tb, w.before args s = true) (hd : decode cc pc = .ok (.pop, len)) (hn : qm_nrm o ini rt pc (.pop) len u = true) (hp : qm_pure u ls st = some (ls', st')) (k : qm_PW p l e R s m args below meth c H locs cells slots Q (pc + len) ls' st') : qm_PW p l e R s m args below meth c H locs cells slots Q pc ls st := by
  intro ar hl hnd
  simp only [qm_nrm, decide_eq_true_eq] at hn
  obtain ⟨rfl, rfl⟩ := hn
  simp only [qm_pure] at hp
  split at hp
  · rename_i v r
    by_cases hc : v.category = 1
    · rw [if_pos hc] at hp; cases hp
      exact lv_pop hx hb hd hc (k ar hl hnd)
    · rw [if_neg hc] at hp; cases hp
  · cases hp
theorem qm_p_dup2  (hx : p.tables.exec = Jvm.exec) (hb : c.code = cc) (hown : s.vm.findClass (qm_own o) = some m.cls) (hts : ∀ w ∈ qm_tb, w.before args s = true) (hd : decode cc pc = .ok (.dup2, len)) (hn : qm_nrm o ini rt pc (.dup2) len u = true) (hp : qm_pure u ls st = some (ls', st')) (k : qm_PW p l e R s m args below meth c H locs cells slots Q (pc + len) ls' st') : qm_PW p l e R s m args below meth c H locs cells slots Q pc ls st := by
  intro ar hl hnd
  simp only [qm_nrm, decide_eq_true_eq] at hn
  obtain ⟨rfl, rfl⟩ := hn
  simp only [qm_pure] at hp
  split at hp
  · rename_i v w r
    by_cases hc : v.category = 1 ∧ w.category = 1
    · rw [if_pos hc] at hp; cases hp
      exact lv_dup2_11 hx hb hd hc.1 hc.2 (k ar hl hnd)
    · rw [if_neg hc] at hp; cases hp
  · cases hp
end QMP
