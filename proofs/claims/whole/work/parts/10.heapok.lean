section QMJ
variable {p : Program} {l : Launch} {e : Env} {R : Room} {s : State} {m : MethodId} {args : Array Value} {below : List Frame} {meth : Method} {c : Code} {H : Heap} {locs : List Loc} {cells slots : Nat} {Q : State → Prop} {cc : ByteArray} {pc len o nL : Nat} {ini : Bool} {rt : Option FieldType} {i : Instr} {u : qm_I} {ls ls' : List Slot} {st st' r : List Value} {ar : Array Slot} {D : va_G} {dA : Nat → ClassId} {X : qm_X} {h h' h0 : qm_H} {a : Nat} {v : Value}
theorem qm_map_inv {α β : Type} {x : Option α} {f : α → β} {y : β} (h : x.map f = some y) : ∃ z, x = some z ∧ f z = y := by
  cases x with
  | none => cases h
  | some z => exact ⟨z, rfl, Option.some.inj h⟩
/-- the machine's heap instructions are the JVM's -/
theorem qm_heap_ok (C : qm_Cx p R s m args meth c cc nL o ini rt D dA X h0) (har : ar.size = nL) (hh : h0.1 ≤ h.1) (hh2 : h0.2.1 ≤ h.2.1) (hc : h'.1 - h0.1 ≤ R.cells) (hsl : h'.2.1 - h0.2.1 ≤ R.slots) (hd : decode cc pc = .ok (i, len)) (hn : qm_nrm o ini rt pc i len u = true) (hp : qm_heap X u st h = some (st', h')) (kk : qm_K p l e R s m args below meth c Q D dA X h0 h' (pc + len) ar st') : qm_K p l e R s m args below meth c Q D dA X h0 h pc ar st := by
  cases i with
  | getfield n =>
    simp only [qm_nrm] at hn
    obtain ⟨⟨q1, q2, q3, q4, q5⟩, hq, hn⟩ := List.any_eq_true.mp hn
    simp only [decide_eq_true_eq] at hn
    obtain ⟨rfl, rfl, rfl, rfl⟩ := hn
    simp only [qm_heap] at hp
    split at hp
    · obtain ⟨w, hw, e1⟩ := qm_map_inv hp
      cases e1
      exact qm_h_get C hd hq hw kk
    · cases hp
  | putfield n =>
    simp only [qm_nrm] at hn
    obtain ⟨⟨q1, q2, q3, q4, q5⟩, hq, hn⟩ := List.any_eq_true.mp hn
    simp only [decide_eq_true_eq] at hn
    obtain ⟨rfl, rfl, rfl, hu, hf⟩ := hn
    rw [hu] at hp
    simp only [qm_heap] at hp
    split at hp
    · obtain ⟨w, hw, e1⟩ := qm_map_inv hp
      cases e1
      exact qm_h_put C hh hd hq hf hw kk
    · cases hp
  | iaload =>
    simp only [qm_nrm, decide_eq_true_eq] at hn
    obtain ⟨rfl, rfl⟩ := hn
    simp only [qm_heap] at hp
    split at hp
    · obtain ⟨w, hw, e1⟩ := qm_map_inv hp
      cases e1
      exact qm_h_iald C hd hw kk
    · cases hp
  | laload =>
    simp only [qm_nrm, decide_eq_true_eq] at hn
    obtain ⟨rfl, rfl⟩ := hn
    simp only [qm_heap] at hp
    split at hp
    · obtain ⟨w, hw, e1⟩ := qm_map_inv hp
      cases e1
      exact qm_h_lald C hd hw kk
    · cases hp
  | aaload =>
    simp only [qm_nrm, decide_eq_true_eq] at hn
    obtain ⟨rfl, rfl⟩ := hn
    simp only [qm_heap] at hp
    split at hp
    · obtain ⟨w, hw, e1⟩ := qm_map_inv hp
      cases e1
      exact qm_h_aald C hd hw kk
    · cases hp
  | iastore =>
    simp only [qm_nrm, decide_eq_true_eq] at hn
    obtain ⟨rfl, rfl⟩ := hn
    simp only [qm_heap] at hp
    split at hp
    · obtain ⟨w, hw, e1⟩ := qm_map_inv hp
      cases e1
      exact qm_h_iast C hh hd hw kk
    · cases hp
  | lastore =>
    simp only [qm_nrm, decide_eq_true_eq] at hn
    obtain ⟨rfl, rfl⟩ := hn
    simp only [qm_heap] at hp
    split at hp
    · obtain ⟨w, hw, e1⟩ := qm_map_inv hp
      cases e1
      exact qm_h_last C hh hd hw kk
    · cases hp
  | aastore =>
    simp only [qm_nrm, decide_eq_true_eq] at hn
    obtain ⟨rfl, rfl⟩ := hn
    simp only [qm_heap] at hp
    split at hp
    · obtain ⟨w, hw, e1⟩ := qm_map_inv hp
      cases e1
      exact qm_h_aast C hh hd hw kk
    · cases hp
  | arraylength =>
    simp only [qm_nrm, decide_eq_true_eq] at hn
    obtain ⟨rfl, rfl⟩ := hn
    simp only [qm_heap] at hp
    split at hp
    · obtain ⟨w, hw, e1⟩ := qm_map_inv hp
      cases e1
      exact qm_h_alen C hd hw kk
    · cases hp
  | new n =>
    simp only [qm_nrm] at hn
    obtain ⟨⟨q1, q2, q3, q4, q5, q6⟩, hq, hn⟩ := List.any_eq_true.mp hn
    simp only [decide_eq_true_eq] at hn
    obtain ⟨rfl, rfl, rfl, rfl⟩ := hn
    simp only [qm_heap] at hp
    obtain ⟨w, hw, e1⟩ := qm_map_inv hp
    cases e1
    exact qm_h_new C hh hh2 hd hq hw hc hsl kk
  | newarray t =>
    simp only [qm_nrm, decide_eq_true_eq] at hn
    obtain ⟨rfl, ht, rfl⟩ := hn
    rcases ht with rfl | rfl
    · simp only [qm_heap] at hp
      split at hp
      · rename_i n r
        by_cases hk : ¬ n < 0 ∧ n.toNatClampNeg ≤ 4096
        · rw [if_pos hk] at hp
          cases hp
          exact qm_h_newI C hh hh2 hd hk.1 hk.2 hc hsl kk
        · rw [if_neg hk] at hp; cases hp
      · cases hp
    · simp only [qm_heap] at hp
      split at hp
      · rename_i n r
        by_cases hk : ¬ n < 0 ∧ n.toNatClampNeg ≤ 4096
        · rw [if_pos hk] at hp
          cases hp
          exact qm_h_newL C hh hh2 hd hk.1 hk.2 hc hsl kk
        · rw [if_neg hk] at hp; cases hp
      · cases hp
  | anewarray n =>
    simp only [qm_nrm] at hn
    obtain ⟨⟨q1, q2, q3, q4⟩, hq, hn⟩ := List.any_eq_true.mp hn
    simp only [decide_eq_true_eq] at hn
    obtain ⟨rfl, rfl, rfl, rfl⟩ := hn
    simp only [qm_heap] at hp
    split at hp
    · rename_i n r
      by_cases hk : ¬ n < 0 ∧ n.toNatClampNeg ≤ 4096 ∧ (q3 = 2 ∨ q3 = 3)
      · rw [if_pos hk] at hp
        cases hp
        exact qm_h_newQ C hh hh2 hd hq hk.1 hk.2.1 hc hsl kk
      · rw [if_neg hk] at hp; cases hp
    · cases hp
  | invokestatic n =>
    simp only [qm_nrm, Bool.or_eq_true] at hn
    rcases hn with (hn | hn) | hn
    · obtain ⟨q, hq, hn⟩ := List.any_eq_true.mp hn; simp only [decide_eq_true_eq] at hn; obtain ⟨-, -, -, -, rfl⟩ := hn; cases hp
    · obtain ⟨⟨q1, q2, q3⟩, hq, hn⟩ := List.any_eq_true.mp hn
      simp only [decide_eq_true_eq] at hn
      obtain ⟨rfl, rfl, rfl, rfl⟩ := hn
      simp only [qm_heap] at hp
      split at hp
      · rename_i k dp a1 sp a0 r
        by_cases hr : qm_sum r ≤ 8
        · rw [if_pos hr] at hp
          obtain ⟨w, hw, e1⟩ := qm_map_inv hp
          cases e1
          exact qm_h_copy C har hh hd (qm_at_mem (List.all_eq_true.mp qm_ys_ok _ hq)) hr hw kk
        · rw [if_neg hr] at hp; cases hp
      · cases hp
    · obtain ⟨⟨q1, q2, q3⟩, hq, hn⟩ := List.any_eq_true.mp hn
      simp only [decide_eq_true_eq] at hn
      obtain ⟨rfl, rfl, rfl, rfl⟩ := hn
      simp only [qm_heap] at hp
      split at hp
      · rename_i y x r
        by_cases hr : qm_sum r ≤ 8
        · rw [if_pos hr] at hp
          cases hp
          exact qm_h_mx C har hc hsl hd (qm_at_mem (List.all_eq_true.mp qm_mx_ok _ hq)) hr kk
        · rw [if_neg hr] at hp; cases hp
      · cases hp
  | invokespecial n =>
    simp only [qm_nrm, Bool.or_eq_true] at hn
    rcases hn with hn | hn
    · obtain ⟨q, hq, hn⟩ := List.any_eq_true.mp hn; simp only [decide_eq_true_eq] at hn; obtain ⟨-, -, -, -, rfl⟩ := hn; cases hp
    · obtain ⟨⟨q1, q2, q3⟩, hq, hn⟩ := List.any_eq_true.mp hn
      simp only [decide_eq_true_eq] at hn
      obtain ⟨rfl, rfl, rfl, rfl⟩ := hn
      simp only [qm_heap] at hp
      split at hp
      · rename_i a r
        by_cases hr : qm_sum r ≤ 8
        · rw [if_pos hr] at hp
          cases hp
          exact qm_h_oi C har hd (qm_at_mem (List.all_eq_true.mp qm_os_ok _ hq)) hr kk
        · rw [if_neg hr] at hp; cases hp
      · cases hp
  | iconst n => simp only [qm_nrm, decide_eq_true_eq] at hn; obtain ⟨-, rfl⟩ := hn; cases hp
  | bipush n => simp only [qm_nrm, decide_eq_true_eq] at hn; obtain ⟨-, rfl⟩ := hn; cases hp
  | sipush n => simp only [qm_nrm, decide_eq_true_eq] at hn; obtain ⟨-, rfl⟩ := hn; cases hp
  | ldc n => simp only [qm_nrm] at hn; obtain ⟨q, hq, hn⟩ := List.any_eq_true.mp hn; simp only [decide_eq_true_eq] at hn; obtain ⟨-, -, -, rfl⟩ := hn; cases hp
  | ldc_w n => simp only [qm_nrm] at hn; obtain ⟨q, hq, hn⟩ := List.any_eq_true.mp hn; simp only [decide_eq_true_eq] at hn; obtain ⟨-, -, -, rfl⟩ := hn; cases hp
  | lconst n => simp only [qm_nrm, decide_eq_true_eq] at hn; obtain ⟨-, rfl⟩ := hn; cases hp
  | ldc2_w n => simp only [qm_nrm] at hn; obtain ⟨q, hq, hn⟩ := List.any_eq_true.mp hn; simp only [decide_eq_true_eq] at hn; obtain ⟨-, -, -, rfl⟩ := hn; cases hp
  | aconst_null => simp only [qm_nrm, decide_eq_true_eq] at hn; obtain ⟨-, rfl⟩ := hn; cases hp
  | iload_n n => simp only [qm_nrm, decide_eq_true_eq] at hn; obtain ⟨-, rfl⟩ := hn; cases hp
  | iload n => simp only [qm_nrm, decide_eq_true_eq] at hn; obtain ⟨-, rfl⟩ := hn; cases hp
  | lload_n n => simp only [qm_nrm, decide_eq_true_eq] at hn; obtain ⟨-, rfl⟩ := hn; cases hp
  | lload n => simp only [qm_nrm, decide_eq_true_eq] at hn; obtain ⟨-, rfl⟩ := hn; cases hp
  | aload_n n => simp only [qm_nrm, decide_eq_true_eq] at hn; obtain ⟨-, rfl⟩ := hn; cases hp
  | aload n => simp only [qm_nrm, decide_eq_true_eq] at hn; obtain ⟨-, rfl⟩ := hn; cases hp
  | istore_n n => simp only [qm_nrm, decide_eq_true_eq] at hn; obtain ⟨-, rfl⟩ := hn; cases hp
  | istore n => simp only [qm_nrm, decide_eq_true_eq] at hn; obtain ⟨-, rfl⟩ := hn; cases hp
  | lstore_n n => simp only [qm_nrm, decide_eq_true_eq] at hn; obtain ⟨-, rfl⟩ := hn; cases hp
  | lstore n => simp only [qm_nrm, decide_eq_true_eq] at hn; obtain ⟨-, rfl⟩ := hn; cases hp
  | astore_n n => simp only [qm_nrm, decide_eq_true_eq] at hn; obtain ⟨-, rfl⟩ := hn; cases hp
  | astore n => simp only [qm_nrm, decide_eq_true_eq] at hn; obtain ⟨-, rfl⟩ := hn; cases hp
  | iinc n d => simp only [qm_nrm, decide_eq_true_eq] at hn; obtain ⟨-, rfl⟩ := hn; cases hp
  | iadd => simp only [qm_nrm, decide_eq_true_eq] at hn; obtain ⟨-, rfl⟩ := hn; cases hp
  | isub => simp only [qm_nrm, decide_eq_true_eq] at hn; obtain ⟨-, rfl⟩ := hn; cases hp
  | imul => simp only [qm_nrm, decide_eq_true_eq] at hn; obtain ⟨-, rfl⟩ := hn; cases hp
  | iand => simp only [qm_nrm, decide_eq_true_eq] at hn; obtain ⟨-, rfl⟩ := hn; cases hp
  | ior => simp only [qm_nrm, decide_eq_true_eq] at hn; obtain ⟨-, rfl⟩ := hn; cases hp
  | ixor => simp only [qm_nrm, decide_eq_true_eq] at hn; obtain ⟨-, rfl⟩ := hn; cases hp
  | ishl => simp only [qm_nrm, decide_eq_true_eq] at hn; obtain ⟨-, rfl⟩ := hn; cases hp
  | ishr => simp only [qm_nrm, decide_eq_true_eq] at hn; obtain ⟨-, rfl⟩ := hn; cases hp
  | iushr => simp only [qm_nrm, decide_eq_true_eq] at hn; obtain ⟨-, rfl⟩ := hn; cases hp
  | idiv => simp only [qm_nrm, decide_eq_true_eq] at hn; obtain ⟨-, rfl⟩ := hn; cases hp
  | irem => simp only [qm_nrm, decide_eq_true_eq] at hn; obtain ⟨-, rfl⟩ := hn; cases hp
  | ineg => simp only [qm_nrm, decide_eq_true_eq] at hn; obtain ⟨-, rfl⟩ := hn; cases hp
  | i2l => simp only [qm_nrm, decide_eq_true_eq] at hn; obtain ⟨-, rfl⟩ := hn; cases hp
  | l2i => simp only [qm_nrm, decide_eq_true_eq] at hn; obtain ⟨-, rfl⟩ := hn; cases hp
  | lneg => simp only [qm_nrm, decide_eq_true_eq] at hn; obtain ⟨-, rfl⟩ := hn; cases hp
  | ladd => simp only [qm_nrm, decide_eq_true_eq] at hn; obtain ⟨-, rfl⟩ := hn; cases hp
  | lsub => simp only [qm_nrm, decide_eq_true_eq] at hn; obtain ⟨-, rfl⟩ := hn; cases hp
  | lmul => simp only [qm_nrm, decide_eq_true_eq] at hn; obtain ⟨-, rfl⟩ := hn; cases hp
  | lcmp => simp only [qm_nrm, decide_eq_true_eq] at hn; obtain ⟨-, rfl⟩ := hn; cases hp
  | ldiv => simp only [qm_nrm, decide_eq_true_eq] at hn; obtain ⟨-, rfl⟩ := hn; cases hp
  | dup => simp only [qm_nrm, decide_eq_true_eq] at hn; obtain ⟨-, rfl⟩ := hn; cases hp
  | pop => simp only [qm_nrm, decide_eq_true_eq] at hn; obtain ⟨-, rfl⟩ := hn; cases hp
  | dup2 => simp only [qm_nrm, decide_eq_true_eq] at hn; obtain ⟨-, rfl⟩ := hn; cases hp
  | goto t => simp only [qm_nrm, decide_eq_true_eq] at hn; obtain ⟨-, -, rfl⟩ := hn; cases hp
  | ifCond cd t => simp only [qm_nrm, decide_eq_true_eq] at hn; obtain ⟨-, -, rfl⟩ := hn; cases hp
  | if_icmp cd t => simp only [qm_nrm, decide_eq_true_eq] at hn; obtain ⟨-, -, rfl⟩ := hn; cases hp
  | ifnull t => simp only [qm_nrm, decide_eq_true_eq] at hn; obtain ⟨-, -, rfl⟩ := hn; cases hp
  | ifnonnull t => simp only [qm_nrm, decide_eq_true_eq] at hn; obtain ⟨-, -, rfl⟩ := hn; cases hp
  | tableswitch d lo hi offs => simp only [qm_nrm, decide_eq_true_eq] at hn; obtain ⟨rfl, -⟩ := hn; cases hp
  | lookupswitch d ps => simp only [qm_nrm, decide_eq_true_eq] at hn; obtain ⟨rfl, -⟩ := hn; cases hp
  | return_ => simp only [qm_nrm, decide_eq_true_eq] at hn; obtain ⟨-, -, rfl⟩ := hn; cases hp
  | lreturn => simp only [qm_nrm, decide_eq_true_eq] at hn; obtain ⟨-, -, rfl⟩ := hn; cases hp
  | areturn => simp only [qm_nrm, decide_eq_true_eq] at hn; obtain ⟨-, -, rfl⟩ := hn; cases hp
  | ireturn =>
    simp only [qm_nrm, decide_eq_true_eq] at hn
    obtain ⟨-, hn⟩ := hn
    rcases hn with ⟨-, rfl⟩ | ⟨-, rfl⟩ <;> cases hp
  | invokevirtual n => simp only [qm_nrm] at hn; obtain ⟨q, hq, hn⟩ := List.any_eq_true.mp hn; simp only [decide_eq_true_eq] at hn; obtain ⟨-, -, -, -, rfl⟩ := hn; cases hp
  | _ => cases hn
/-- what a method comes to: its answer, the world behind it -/
def qm_Qc (D : va_G) (dA : Nat → ClassId) (X : qm_X) (r : qm_R) : Array Value → State → Outcome → State → Prop := fun _ _ oc t => oc = .returned r.1 ∧ qm_Rep D dA X t t.heap r.2
theorem qm_Rep_moved {u U : State} {H : Heap} (hvm : u.vm.Alike U.vm) (hr : qm_Rep D dA X u H h) : qm_Rep D dA X U H h := ⟨hr.1, hr.2.1, hr.2.2.1, hr.2.2.2.1.moved hvm, hr.2.2.2.2⟩
theorem qm_nb1 {x : Int32} (h : x = 0 ∨ x = 1) : narrow .boolean (.int x) = .int x := by
  rcases h with rfl | rfl <;> decide +kernel
theorem qm_ret_ok {rr : qm_R} (C : qm_Cx p R s m args meth c cc nL o ini rt D dA X h0) (hd : decode cc pc = .ok (i, len)) (hn : qm_nrm o ini rt pc i len u = true) (hp : qm_ret u st h = some rr) : rr.2 = h ∧ qm_K p l e R s m args below meth c (MQ below (qm_Qc D dA X rr) args s (h.1 - h0.1) (h.2.1 - h0.2.1) (qm_A X)) D dA X h0 h pc ar st := by
  obtain ⟨hx, hb, hown, hts, hK, hml, hrt, hlk, -, hsz, hfr, hlo⟩ := C
  have fin : ∀ (H : Heap), qm_Rep D dA X s H h → ∀ (v : Option Value), rr = (v, h) → ∀ t : State, t.heap = H → s.WarmedH t.vm → qm_Qc D dA X rr args s (.returned v) t := by
    intro H hr v hv t ht hW
    subst hv
    exact ⟨rfl, by rw [ht]; exact qm_Rep_moved hW.alike hr⟩
  cases i with
  | return_ =>
    simp only [qm_nrm, decide_eq_true_eq] at hn
    obtain ⟨rfl, rfl, rfl⟩ := hn
    simp only [qm_ret] at hp
    split at hp
    · cases hp
      exact ⟨rfl, fun H locs hr hl => W.vret hx hb hrt (fin H hr none rfl) hl hd hlk⟩
    · cases hp
  | lreturn =>
    simp only [qm_nrm, decide_eq_true_eq] at hn
    obtain ⟨rfl, rfl, rfl⟩ := hn
    simp only [qm_ret] at hp
    split at hp
    · cases hp
      exact ⟨rfl, fun H locs hr hl => W.lret hx hb hrt (fin H hr _ rfl) hl hd hlk⟩
    · cases hp
  | areturn =>
    simp only [qm_nrm, decide_eq_true_eq] at hn
    obtain ⟨rfl, hor, rfl⟩ := hn
    unfold qm_objR at hor
    split at hor
    · rename_i C9
      simp only [qm_ret] at hp
      split at hp
      · rename_i a9
        cases hp
        exact ⟨rfl, fun H locs hr hl => W.aret hx hb hrt (Or.inl ⟨_, rfl⟩) (Or.inr ⟨a9, rfl⟩) (fin H hr _ rfl) hl hd hlk⟩
      · cases hp
        exact ⟨rfl, fun H locs hr hl => W.aret hx hb hrt (Or.inl ⟨_, rfl⟩) (Or.inl rfl) (fin H hr _ rfl) hl hd hlk⟩
      · cases hp
    · cases hor
  | ireturn =>
    simp only [qm_nrm, decide_eq_true_eq] at hn
    obtain ⟨rfl, hn⟩ := hn
    rcases hn with ⟨rfl, rfl⟩ | ⟨rfl, rfl⟩
    · simp only [qm_ret] at hp
      split at hp
      · rename_i x
        rw [if_pos (by simp)] at hp
        cases hp
        exact ⟨rfl, fun H locs hr hl => W.iret hx hb hrt (fin H hr _ rfl) hl hd hlk⟩
      · cases hp
    · simp only [qm_ret] at hp
      split at hp
      · rename_i x
        by_cases hx1 : x = 0 ∨ x = 1
        · rw [if_pos (Or.inr hx1)] at hp
          cases hp
          exact ⟨rfl, fun H locs hr hl => W.zret hx hb hrt (qm_nb1 hx1) (fin H hr _ rfl) hl hd hlk⟩
        · rw [if_neg (fun z => z.elim (fun y => by cases y) hx1)] at hp
          cases hp
      · cases hp
  | iconst n => simp only [qm_nrm, decide_eq_true_eq] at hn; obtain ⟨-, rfl⟩ := hn; cases hp
  | bipush n => simp only [qm_nrm, decide_eq_true_eq] at hn; obtain ⟨-, rfl⟩ := hn; cases hp
  | sipush n => simp only [qm_nrm, decide_eq_true_eq] at hn; obtain ⟨-, rfl⟩ := hn; cases hp
  | ldc n => simp only [qm_nrm] at hn; obtain ⟨q, hq, hn⟩ := List.any_eq_true.mp hn; simp only [decide_eq_true_eq] at hn; obtain ⟨-, -, -, rfl⟩ := hn; cases hp
  | ldc_w n => simp only [qm_nrm] at hn; obtain ⟨q, hq, hn⟩ := List.any_eq_true.mp hn; simp only [decide_eq_true_eq] at hn; obtain ⟨-, -, -, rfl⟩ := hn; cases hp
  | lconst n => simp only [qm_nrm, decide_eq_true_eq] at hn; obtain ⟨-, rfl⟩ := hn; cases hp
  | ldc2_w n => simp only [qm_nrm] at hn; obtain ⟨q, hq, hn⟩ := List.any_eq_true.mp hn; simp only [decide_eq_true_eq] at hn; obtain ⟨-, -, -, rfl⟩ := hn; cases hp
  | aconst_null => simp only [qm_nrm, decide_eq_true_eq] at hn; obtain ⟨-, rfl⟩ := hn; cases hp
  | iload_n n => simp only [qm_nrm, decide_eq_true_eq] at hn; obtain ⟨-, rfl⟩ := hn; cases hp
  | iload n => simp only [qm_nrm, decide_eq_true_eq] at hn; obtain ⟨-, rfl⟩ := hn; cases hp
  | lload_n n => simp only [qm_nrm, decide_eq_true_eq] at hn; obtain ⟨-, rfl⟩ := hn; cases hp
  | lload n => simp only [qm_nrm, decide_eq_true_eq] at hn; obtain ⟨-, rfl⟩ := hn; cases hp
  | aload_n n => simp only [qm_nrm, decide_eq_true_eq] at hn; obtain ⟨-, rfl⟩ := hn; cases hp
  | aload n => simp only [qm_nrm, decide_eq_true_eq] at hn; obtain ⟨-, rfl⟩ := hn; cases hp
  | istore_n n => simp only [qm_nrm, decide_eq_true_eq] at hn; obtain ⟨-, rfl⟩ := hn; cases hp
  | istore n => simp only [qm_nrm, decide_eq_true_eq] at hn; obtain ⟨-, rfl⟩ := hn; cases hp
  | lstore_n n => simp only [qm_nrm, decide_eq_true_eq] at hn; obtain ⟨-, rfl⟩ := hn; cases hp
  | lstore n => simp only [qm_nrm, decide_eq_true_eq] at hn; obtain ⟨-, rfl⟩ := hn; cases hp
  | astore_n n => simp only [qm_nrm, decide_eq_true_eq] at hn; obtain ⟨-, rfl⟩ := hn; cases hp
  | astore n => simp only [qm_nrm, decide_eq_true_eq] at hn; obtain ⟨-, rfl⟩ := hn; cases hp
  | iinc n d => simp only [qm_nrm, decide_eq_true_eq] at hn; obtain ⟨-, rfl⟩ := hn; cases hp
  | iadd => simp only [qm_nrm, decide_eq_true_eq] at hn; obtain ⟨-, rfl⟩ := hn; cases hp
  | isub => simp only [qm_nrm, decide_eq_true_eq] at hn; obtain ⟨-, rfl⟩ := hn; cases hp
  | imul => simp only [qm_nrm, decide_eq_true_eq] at hn; obtain ⟨-, rfl⟩ := hn; cases hp
  | iand => simp only [qm_nrm, decide_eq_true_eq] at hn; obtain ⟨-, rfl⟩ := hn; cases hp
  | ior => simp only [qm_nrm, decide_eq_true_eq] at hn; obtain ⟨-, rfl⟩ := hn; cases hp
  | ixor => simp only [qm_nrm, decide_eq_true_eq] at hn; obtain ⟨-, rfl⟩ := hn; cases hp
  | ishl => simp only [qm_nrm, decide_eq_true_eq] at hn; obtain ⟨-, rfl⟩ := hn; cases hp
  | ishr => simp only [qm_nrm, decide_eq_true_eq] at hn; obtain ⟨-, rfl⟩ := hn; cases hp
  | iushr => simp only [qm_nrm, decide_eq_true_eq] at hn; obtain ⟨-, rfl⟩ := hn; cases hp
  | idiv => simp only [qm_nrm, decide_eq_true_eq] at hn; obtain ⟨-, rfl⟩ := hn; cases hp
  | irem => simp only [qm_nrm, decide_eq_true_eq] at hn; obtain ⟨-, rfl⟩ := hn; cases hp
  | ineg => simp only [qm_nrm, decide_eq_true_eq] at hn; obtain ⟨-, rfl⟩ := hn; cases hp
  | i2l => simp only [qm_nrm, decide_eq_true_eq] at hn; obtain ⟨-, rfl⟩ := hn; cases hp
  | l2i => simp only [qm_nrm, decide_eq_true_eq] at hn; obtain ⟨-, rfl⟩ := hn; cases hp
  | lneg => simp only [qm_nrm, decide_eq_true_eq] at hn; obtain ⟨-, rfl⟩ := hn; cases hp
  | ladd => simp only [qm_nrm, decide_eq_true_eq] at hn; obtain ⟨-, rfl⟩ := hn; cases hp
  | lsub => simp only [qm_nrm, decide_eq_true_eq] at hn; obtain ⟨-, rfl⟩ := hn; cases hp
  | lmul => simp only [qm_nrm, decide_eq_true_eq] at hn; obtain ⟨-, rfl⟩ := hn; cases hp
  | lcmp => simp only [qm_nrm, decide_eq_true_eq] at hn; obtain ⟨-, rfl⟩ := hn; cases hp
  | ldiv => simp only [qm_nrm, decide_eq_true_eq] at hn; obtain ⟨-, rfl⟩ := hn; cases hp
  | dup => simp only [qm_nrm, decide_eq_true_eq] at hn; obtain ⟨-, rfl⟩ := hn; cases hp
  | pop => simp only [qm_nrm, decide_eq_true_eq] at hn; obtain ⟨-, rfl⟩ := hn; cases hp
  | dup2 => simp only [qm_nrm, decide_eq_true_eq] at hn; obtain ⟨-, rfl⟩ := hn; cases hp
  | goto t => simp only [qm_nrm, decide_eq_true_eq] at hn; obtain ⟨-, -, rfl⟩ := hn; cases hp
  | ifCond cd t => simp only [qm_nrm, decide_eq_true_eq] at hn; obtain ⟨-, -, rfl⟩ := hn; cases hp
  | if_icmp cd t => simp only [qm_nrm, decide_eq_true_eq] at hn; obtain ⟨-, -, rfl⟩ := hn; cases hp
  | ifnull t => simp only [qm_nrm, decide_eq_true_eq] at hn; obtain ⟨-, -, rfl⟩ := hn; cases hp
  | ifnonnull t => simp only [qm_nrm, decide_eq_true_eq] at hn; obtain ⟨-, -, rfl⟩ := hn; cases hp
  | tableswitch d lo hi offs => simp only [qm_nrm, decide_eq_true_eq] at hn; obtain ⟨rfl, -⟩ := hn; cases hp
  | lookupswitch d ps => simp only [qm_nrm, decide_eq_true_eq] at hn; obtain ⟨rfl, -⟩ := hn; cases hp
  | aaload => simp only [qm_nrm, decide_eq_true_eq] at hn; obtain ⟨-, rfl⟩ := hn; cases hp
  | aastore => simp only [qm_nrm, decide_eq_true_eq] at hn; obtain ⟨-, rfl⟩ := hn; cases hp
  | arraylength => simp only [qm_nrm, decide_eq_true_eq] at hn; obtain ⟨-, rfl⟩ := hn; cases hp
  | iaload => simp only [qm_nrm, decide_eq_true_eq] at hn; obtain ⟨-, rfl⟩ := hn; cases hp
  | iastore => simp only [qm_nrm, decide_eq_true_eq] at hn; obtain ⟨-, rfl⟩ := hn; cases hp
  | laload => simp only [qm_nrm, decide_eq_true_eq] at hn; obtain ⟨-, rfl⟩ := hn; cases hp
  | lastore => simp only [qm_nrm, decide_eq_true_eq] at hn; obtain ⟨-, rfl⟩ := hn; cases hp
  | newarray t => simp only [qm_nrm, decide_eq_true_eq] at hn; obtain ⟨-, -, rfl⟩ := hn; cases hp
  | getfield n => simp only [qm_nrm] at hn; obtain ⟨q, hq, hn⟩ := List.any_eq_true.mp hn; simp only [decide_eq_true_eq] at hn; obtain ⟨-, -, -, rfl⟩ := hn; cases hp
  | new n => simp only [qm_nrm] at hn; obtain ⟨q, hq, hn⟩ := List.any_eq_true.mp hn; simp only [decide_eq_true_eq] at hn; obtain ⟨-, -, -, rfl⟩ := hn; cases hp
  | anewarray n => simp only [qm_nrm] at hn; obtain ⟨q, hq, hn⟩ := List.any_eq_true.mp hn; simp only [decide_eq_true_eq] at hn; obtain ⟨-, -, -, rfl⟩ := hn; cases hp
  | putfield n => simp only [qm_nrm] at hn; obtain ⟨q, hq, hn⟩ := List.any_eq_true.mp hn; simp only [decide_eq_true_eq] at hn; obtain ⟨-, -, -, hu, -⟩ := hn; rw [hu] at hp; cases hp
  | invokevirtual n => simp only [qm_nrm] at hn; obtain ⟨q, hq, hn⟩ := List.any_eq_true.mp hn; simp only [decide_eq_true_eq] at hn; obtain ⟨-, -, -, -, rfl⟩ := hn; cases hp
  | invokestatic n =>
    simp only [qm_nrm, Bool.or_eq_true] at hn
    rcases hn with (hn | hn) | hn
    · obtain ⟨q, hq, hn⟩ := List.any_eq_true.mp hn; simp only [decide_eq_true_eq] at hn; obtain ⟨-, -, -, -, rfl⟩ := hn; cases hp
    · obtain ⟨q, hq, hn⟩ := List.any_eq_true.mp hn; simp only [decide_eq_true_eq] at hn; obtain ⟨-, -, -, rfl⟩ := hn; cases hp
    · obtain ⟨q, hq, hn⟩ := List.any_eq_true.mp hn; simp only [decide_eq_true_eq] at hn; obtain ⟨-, -, -, rfl⟩ := hn; cases hp
  | invokespecial n =>
    simp only [qm_nrm, Bool.or_eq_true] at hn
    rcases hn with hn | hn
    · obtain ⟨q, hq, hn⟩ := List.any_eq_true.mp hn; simp only [decide_eq_true_eq] at hn; obtain ⟨-, -, -, -, rfl⟩ := hn; cases hp
    · obtain ⟨q, hq, hn⟩ := List.any_eq_true.mp hn; simp only [decide_eq_true_eq] at hn; obtain ⟨-, -, -, rfl⟩ := hn; cases hp
  | _ => cases hn
end QMJ
