/-! The machine qm: what the bytecode does, as a function over plain heaps. A cell: an array (tag, length, contents) or an object (number of its kind, fields); a heap: how many cells and slots were made, contents by address. -/
abbrev qm_C : Type := (Nat × vp_A) ⊕ (Nat × List Value)
abbrev qm_H : Type := Nat × Nat × (Nat → qm_C)
abbrev qm_R : Type := Option Value × qm_H
abbrev qm_I : Type := Instr × Nat × Nat × Int32
/-- first address of the world; the script: address, length, ints -/
abbrev qm_X : Type := Nat × Nat × Nat × (Nat → Int32)
abbrev qm_Cal : Type := Nat → List Value → qm_H → Option qm_R
abbrev qm_T : Type := List (Int × List qm_I)
abbrev qm_S : Type := List qm_I × List Slot × List Value × qm_H
def qm_no : qm_C := .inr (99, [])
def qm_in (i : Int32) (n : Nat) : Bool := decide (0 ≤ i.toInt) && decide (i.toInt < (n : Int))
def qm_cut (ls : List Slot) (i : Nat) : List Slot := match i with
  | 0 => ls
  | k + 1 => match ls[k]? with
    | some (.val (.long _)) => ls.set k .unset
    | _ => ls
def qm_st1 (ls : List Slot) (i : Nat) (v : Value) : List Slot := (qm_cut ls i).set i (.val v)
def qm_st2 (ls : List Slot) (i : Nat) (v : Value) : List Slot := ((qm_cut ls i).set (i + 1) .unset).set i (.val v)
def qm_ld (ls : List Slot) (i : Nat) : Option Value := match ls[i]? with
  | some (.val v) => some v
  | _ => none
def qm_ent (vs : List Value) (n : Nat) : List Slot := lg_sl vs ++ List.replicate (n - (lg_sl vs).length) Slot.unset
def qm_ndv (v : Value) : Bool := match v with
  | .double _ => false
  | _ => true
def qm_aok (vs : List Value) (n : Nat) : Bool := vs.all qm_ndv && decide ((lg_sl vs).length ≤ n)
-- stack shapes
def qm_i1 (st : List Value) (g : Int32 → Value) : Option (List Value) := match st with
  | .int x :: r => some (g x :: r)
  | _ => none
def qm_l1 (st : List Value) (g : Int64 → Value) : Option (List Value) := match st with
  | .long x :: r => some (g x :: r)
  | _ => none
def qm_i2 (st : List Value) (g : Int32 → Int32 → Value) : Option (List Value) := match st with
  | .int y :: .int x :: r => some (g x y :: r)
  | _ => none
def qm_l2 (st : List Value) (g : Int64 → Int64 → Value) : Option (List Value) := match st with
  | .long y :: .long x :: r => some (g x y :: r)
  | _ => none
def qm_i2d (st : List Value) (g : Int32 → Int32 → Value) : Option (List Value) := match st with
  | .int y :: .int x :: r => if y = 0 then none else some (g x y :: r)
  | _ => none
def qm_l2d (st : List Value) (g : Int64 → Int64 → Value) : Option (List Value) := match st with
  | .long y :: .long x :: r => if y = 0 then none else some (g x y :: r)
  | _ => none
def qm_pure (i : qm_I) (ls : List Slot) (st : List Value) : Option (List Slot × List Value) := match i.1 with
  | .iconst _ => some (ls, .int i.2.2.2 :: st)
  | .lconst _ => some (ls, .long i.2.2.2.toInt64 :: st)
  | .aconst_null => some (ls, .null :: st)
  | .iload k => match qm_ld ls k with
    | some (.int x) => some (ls, .int x :: st)
    | _ => none
  | .lload k => match qm_ld ls k with
    | some (.long x) => some (ls, .long x :: st)
    | _ => none
  | .aload k => match qm_ld ls k with
    | some (.ref x) => some (ls, .ref x :: st)
    | some .null => some (ls, .null :: st)
    | _ => none
  | .istore k => match st with
    | .int x :: r => if k < ls.length then some (qm_st1 ls k (.int x), r) else none
    | _ => none
  | .lstore k => match st with
    | .long x :: r => if k + 1 < ls.length then some (qm_st2 ls k (.long x), r) else none
    | _ => none
  | .astore k => match st with
    | .ref x :: r => if k < ls.length then some (qm_st1 ls k (.ref x), r) else none
    | .null :: r => if k < ls.length then some (qm_st1 ls k .null, r) else none
    | _ => none
  | .iinc k _ => match qm_ld ls k with
    | some (.int x) => if k < ls.length then some (qm_st1 ls k (.int (x + i.2.2.2)), st) else none
    | _ => none
  | .iadd => (qm_i2 st (fun x y => .int (x + y))).map (fun t => (ls, t))
  | .isub => (qm_i2 st (fun x y => .int (x - y))).map (fun t => (ls, t))
  | .imul => (qm_i2 st (fun x y => .int (x * y))).map (fun t => (ls, t))
  | .iand => (qm_i2 st (fun x y => .int (x &&& y))).map (fun t => (ls, t))
  | .ior => (qm_i2 st (fun x y => .int (x ||| y))).map (fun t => (ls, t))
  | .ixor => (qm_i2 st (fun x y => .int (x ^^^ y))).map (fun t => (ls, t))
  | .ishl => (qm_i2 st (fun x y => .int (x <<< (y &&& 31)))).map (fun t => (ls, t))
  | .ishr => (qm_i2 st (fun x y => .int (x >>> (y &&& 31)))).map (fun t => (ls, t))
  | .iushr => (qm_i2 st (fun x y => .int (x.toUInt32 >>> (y.toUInt32 &&& Int32.toUInt32 31)).toInt32)).map (fun t => (ls, t))
  | .idiv => (qm_i2d st (fun x y => .int (x / y))).map (fun t => (ls, t))
  | .irem => (qm_i2d st (fun x y => .int (x - x / y * y))).map (fun t => (ls, t))
  | .ineg => (qm_i1 st (fun x => .int (-x))).map (fun t => (ls, t))
  | .i2l => (qm_i1 st (fun x => .long x.toInt64)).map (fun t => (ls, t))
  | .l2i => (qm_l1 st (fun x => .int x.toInt32)).map (fun t => (ls, t))
  | .lneg => (qm_l1 st (fun x => .long (-x))).map (fun t => (ls, t))
  | .ladd => (qm_l2 st (fun x y => .long (x + y))).map (fun t => (ls, t))
  | .lsub => (qm_l2 st (fun x y => .long (x - y))).map (fun t => (ls, t))
  | .lmul => (qm_l2 st (fun x y => .long (x * y))).map (fun t => (ls, t))
  | .ldiv => (qm_l2d st (fun x y => .long (x / y))).map (fun t => (ls, t))
  | .lcmp => (qm_l2 st (fun x y => .int (lg_cmp x y))).map (fun t => (ls, t))
  | .dup => match st with
    | v :: r => if v.category = 1 then some (ls, v :: v :: r) else none
    | _ => none
  | .pop => match st with
    | v :: r => if v.category = 1 then some (ls, r) else none
    | _ => none
  | .dup2 => match st with
    | v :: w :: r => if v.category = 1 ∧ w.category = 1 then some (ls, v :: w :: v :: w :: r) else none
    | _ => none
  | _ => none
def qm_sw : List (Int × Int) → Int → Int32 → Int
  | [], d, _ => d
  | (k, t) :: r, d, x => if x.toInt = k then t else qm_sw r d x
def qm_if (c : Prop) [Decidable c] (t : Int) : Option Int := if c then some t else none
def qm_jump (i : qm_I) (st : List Value) : Option (Option Int × List Value) := match i.1 with
  | .goto t => some (some t, st)
  | .ifCond .eq t => match st with
    | .int x :: r => some (qm_if (x = 0) t, r)
    | _ => none
  | .ifCond .ne t => match st with
    | .int x :: r => some (qm_if (¬ x = 0) t, r)
    | _ => none
  | .ifCond .lt t => match st with
    | .int x :: r => some (qm_if (x < 0) t, r)
    | _ => none
  | .ifCond .ge t => match st with
    | .int x :: r => some (qm_if (0 ≤ x) t, r)
    | _ => none
  | .ifCond .gt t => match st with
    | .int x :: r => some (qm_if (0 < x) t, r)
    | _ => none
  | .ifCond .le t => match st with
    | .int x :: r => some (qm_if (x ≤ 0) t, r)
    | _ => none
  | .if_icmp .eq t => match st with
    | .int y :: .int x :: r => some (qm_if (x = y) t, r)
    | _ => none
  | .if_icmp .ne t => match st with
    | .int y :: .int x :: r => some (qm_if (¬ x = y) t, r)
    | _ => none
  | .if_icmp .lt t => match st with
    | .int y :: .int x :: r => some (qm_if (x < y) t, r)
    | _ => none
  | .if_icmp .ge t => match st with
    | .int y :: .int x :: r => some (qm_if (y ≤ x) t, r)
    | _ => none
  | .if_icmp .gt t => match st with
    | .int y :: .int x :: r => some (qm_if (y < x) t, r)
    | _ => none
  | .if_icmp .le t => match st with
    | .int y :: .int x :: r => some (qm_if (x ≤ y) t, r)
    | _ => none
  | .ifnull t => match st with
    | .null :: r => some (some t, r)
    | .ref _ :: r => some (none, r)
    | _ => none
  | .ifnonnull t => match st with
    | .null :: r => some (none, r)
    | .ref _ :: r => some (some t, r)
    | _ => none
  | .lookupswitch d ps => match st with
    | .int x :: r => some (some (qm_sw ps.toList d x), r)
    | _ => none
  | _ => none
-- the heap
def qm_gf (h : qm_H) (a ci k : Nat) : Option Value := match h.2.2 a with
  | .inr (c, fs) => if c = ci then fs[k]? else none
  | .inl _ => none
def qm_kv (v : Value) : Nat := match v with
  | .int _ => 0
  | .long _ => 1
  | .ref _ => 2
  | _ => 9
def qm_pf (h : qm_H) (a ci k kd : Nat) (v : Value) : Option qm_H := match h.2.2 a with
  | .inr (c, fs) => if c = ci ∧ k < fs.length ∧ qm_kv v = kd then some (h.1, h.2.1, va_up h.2.2 a (.inr (c, fs.set k v))) else none
  | .inl _ => none
def qm_ia (X : qm_X) (h : qm_H) (a : Nat) (i : Int32) : Option Int32 := match h.2.2 a with
  | .inl (_, n, .inl f) => if qm_in i n = true then some (f i.toNatClampNeg) else none
  | .inl (_, _, .inr _) => none
  | .inr _ => if a = X.2.1 ∧ qm_in i X.2.2.1 = true then some (X.2.2.2 i.toNatClampNeg) else none
def qm_is (h : qm_H) (a : Nat) (i x : Int32) : Option qm_H := match h.2.2 a with
  | .inl (t, n, .inl f) => if qm_in i n = true then some (h.1, h.2.1, va_up h.2.2 a (.inl (t, n, .inl (upd f i.toNatClampNeg x)))) else none
  | _ => none
def qm_la (h : qm_H) (a : Nat) (i : Int32) : Option Int64 := match h.2.2 a with
  | .inl (_, n, .inr (.inl f)) => if qm_in i n = true then some (f i.toNatClampNeg) else none
  | _ => none
def qm_ls (h : qm_H) (a : Nat) (i : Int32) (x : Int64) : Option qm_H := match h.2.2 a with
  | .inl (t, n, .inr (.inl f)) => if qm_in i n = true then some (h.1, h.2.1, va_up h.2.2 a (.inl (t, n, .inr (.inl (vp_updL f i.toNatClampNeg x))))) else none
  | _ => none
def qm_aa (h : qm_H) (a : Nat) (i : Int32) : Option Value := match h.2.2 a with
  | .inl (t, n, .inr (.inr (.inr (.inr f)))) => if qm_in i n = true ∧ (t = 2 ∨ t = 3) then some (va_rf (f i.toNatClampNeg)) else none
  | _ => none
/-- of which kind the elements of an array of references are -/
def qm_el (t : Nat) : Nat := if t = 2 then 7 else 1
def qm_as (h : qm_H) (a : Nat) (i : Int32) (v : Nat) : Option qm_H := match h.2.2 a, h.2.2 v with
  | .inl (t, n, .inr (.inr (.inr (.inr f)))), .inr (c, _) => if qm_in i n = true ∧ (t = 2 ∨ t = 3) ∧ c = qm_el t then some (h.1, h.2.1, va_up h.2.2 a (.inl (t, n, .inr (.inr (.inr (.inr (va_up f i.toNatClampNeg (some v)))))))) else none
  | _, _ => none
def qm_al (X : qm_X) (h : qm_H) (a : Nat) : Option Int32 := match h.2.2 a with
  | .inl (_, n, .inl _) => some (Int32.ofNat n)
  | .inl (_, _, .inr _) => none
  | .inr _ => if a = X.2.1 then some (Int32.ofNat X.2.2.1) else none
def qm_cp (h : qm_H) (a0 : Nat) (sp : Int32) (a1 : Nat) (dp n : Int32) : Option qm_H := match h.2.2 a0, h.2.2 a1 with
  | .inl (_, n0, .inl f), .inl (t, n1, .inl g) => if ¬ sp < 0 ∧ ¬ dp < 0 ∧ ¬ n < 0 ∧ sp.toNatClampNeg + n.toNatClampNeg ≤ n0 ∧ dp.toNatClampNeg + n.toNatClampNeg ≤ n1 then some (h.1, h.2.1, va_up h.2.2 a1 (.inl (t, n1, .inl (va_cpy f g sp.toNatClampNeg dp.toNatClampNeg n.toNatClampNeg)))) else none
  | _, _ => none
/-- the fields of a new object, by its kind -/
def qm_def (ci : Nat) : Option (List Value) := match ci with
  | 0 => some [.null, .null, .null, .null, .int 0]
  | 1 => some [.int 0, .int 0, .int 0, .null]
  | 2 => some [.null]
  | 3 => some [.int 0, .null]
  | 4 => some [.null, .null, .int 0, .int 0]
  | 5 => some [.null, .null]
  | 6 => some [.null]
  | 7 => some [.int 0, .null]
  | 8 => some [.null, .null, .null, .null, .null, .null, .null, .null, .null, .null, .null, .long 0, .int 0, .long 0, .long 0, .int 0]
  | 9 => some [.int 0, .null, .int 0, .long 0, .long 0, .long 0, .null, .null, .null, .null, .null, .null, .null, .null, .null, .null, .null, .null, .null, .null, .null, .int 0, .null, .int 0, .int 0, .int 0, .int 0, .int 0, .long 0, .long 0, .int 0, .int 0, .int 0, .null]
  | _ => none
def qm_mk (X : qm_X) (h : qm_H) (n : Nat) (c : qm_C) : qm_H := (h.1 + 1, h.2.1 + n, va_up h.2.2 (X.1 + h.1) c)
def qm_sum (st : List Value) : Nat := (st.map fun v => v.category).sum
def qm_heap (X : qm_X) (i : qm_I) (st : List Value) (h : qm_H) : Option (List Value × qm_H) := match i.1 with
  | .getfield ci => match st with
    | .ref a :: r => (qm_gf h a ci i.2.1).map (fun v => (v :: r, h))
    | _ => none
  | .putfield ci => match st with
    | v :: .ref a :: r => (qm_pf h a ci i.2.1 i.2.2.1 v).map (fun h => (r, h))
    | _ => none
  | .iaload => match st with
    | .int k :: .ref a :: r => (qm_ia X h a k).map (fun v => (.int v :: r, h))
    | _ => none
  | .iastore => match st with
    | .int x :: .int k :: .ref a :: r => (qm_is h a k x).map (fun h => (r, h))
    | _ => none
  | .laload => match st with
    | .int k :: .ref a :: r => (qm_la h a k).map (fun v => (.long v :: r, h))
    | _ => none
  | .lastore => match st with
    | .long x :: .int k :: .ref a :: r => (qm_ls h a k x).map (fun h => (r, h))
    | _ => none
  | .aaload => match st with
    | .int k :: .ref a :: r => (qm_aa h a k).map (fun v => (v :: r, h))
    | _ => none
  | .aastore => match st with
    | .ref x :: .int k :: .ref a :: r => (qm_as h a k x).map (fun h => (r, h))
    | _ => none
  | .arraylength => match st with
    | .ref a :: r => (qm_al X h a).map (fun v => (.int v :: r, h))
    | _ => none
  | .new ci => (qm_def ci).map (fun fs => (.ref (X.1 + h.1) :: st, qm_mk X h fs.length (.inr (ci, fs))))
  | .newarray .int => match st with
    | .int n :: r => if ¬ n < 0 ∧ n.toNatClampNeg ≤ 4096 then some (.ref (X.1 + h.1) :: r, qm_mk X h n.toNatClampNeg (.inl (0, n.toNatClampNeg, .inl (fun _ => 0)))) else none
    | _ => none
  | .newarray .long => match st with
    | .int n :: r => if ¬ n < 0 ∧ n.toNatClampNeg ≤ 4096 then some (.ref (X.1 + h.1) :: r, qm_mk X h n.toNatClampNeg (.inl (1, n.toNatClampNeg, .inr (.inl (fun _ => 0))))) else none
    | _ => none
  | .anewarray t => match st with
    | .int n :: r => if ¬ n < 0 ∧ n.toNatClampNeg ≤ 4096 ∧ (t = 2 ∨ t = 3) then some (.ref (X.1 + h.1) :: r, qm_mk X h n.toNatClampNeg (.inl (t, n.toNatClampNeg, .inr (.inr (.inr (.inr (fun _ => none))))))) else none
    | _ => none
  | .invokespecial 0 => match st with
    | .ref _ :: r => if qm_sum r ≤ 8 then some (r, h) else none
    | _ => none
  | .invokespecial 1 => match st with
    | .int n :: .int dp :: .ref a1 :: .int sp :: .ref a0 :: r => if qm_sum r ≤ 8 then (qm_cp h a0 sp a1 dp n).map (fun h => (r, h)) else none
    | _ => none
  | .invokespecial 2 => match st with
    | .int y :: .int x :: r => if qm_sum r ≤ 8 then some (.int (if x < y then y else x) :: r, h) else none
    | _ => none
  | _ => none
-- calls and answers
def qm_isK (h : qm_H) (v : Option Value) (ci : Nat) : Bool := match v with
  | some (.ref a) => match h.2.2 a with
    | .inr (c, _) => decide (c = ci)
    | .inl _ => false
  | _ => false
def qm_call (C : qm_Cal) (i : qm_I) (is : List qm_I) (ls : List Slot) (st : List Value) (h : qm_H) : Option qm_S := match i.1 with
  | .invokestatic mid => if i.2.1 ≤ st.length ∧ qm_sum (st.drop i.2.1) ≤ 8 then (C mid (st.take i.2.1).reverse h).map (fun r => (is, ls, r.1.toList ++ st.drop i.2.1, r.2)) else none
  | .invokevirtual mid => if i.2.1 ≤ st.length ∧ qm_sum (st.drop i.2.1) ≤ 8 ∧ qm_isK h (st.take i.2.1).getLast? i.2.2.1 = true then (C mid (st.take i.2.1).reverse h).map (fun r => (is, ls, r.1.toList ++ st.drop i.2.1, r.2)) else none
  | _ => none
def qm_ret (i : qm_I) (st : List Value) (h : qm_H) : Option qm_R := match i.1 with
  | .return_ => match st with
    | [] => some (none, h)
    | _ => none
  | .ireturn => match st with
    | [.int x] => if i.2.1 = 0 ∨ x = 0 ∨ x = 1 then some (some (.int x), h) else none
    | _ => none
  | .lreturn => match st with
    | [.long x] => some (some (.long x), h)
    | _ => none
  | .areturn => match st with
    | [.ref a] => some (some (.ref a), h)
    | [.null] => some (some .null, h)
    | _ => none
  | _ => none
def qm_lk : qm_T → Int → List qm_I
  | [], _ => []
  | (k, c) :: r, t => if t = k then c else qm_lk r t
def qm_kind (i : Instr) : Nat := match i with
  | .goto _ => 1
  | .ifCond _ _ => 1
  | .if_icmp _ _ => 1
  | .ifnull _ => 1
  | .ifnonnull _ => 1
  | .lookupswitch _ _ => 1
  | .getfield _ => 2
  | .putfield _ => 2
  | .iaload => 2
  | .iastore => 2
  | .laload => 2
  | .lastore => 2
  | .aaload => 2
  | .aastore => 2
  | .arraylength => 2
  | .new _ => 2
  | .newarray _ => 2
  | .anewarray _ => 2
  | .invokespecial _ => 2
  | .invokestatic _ => 3
  | .invokevirtual _ => 3
  | .return_ => 4
  | .ireturn => 4
  | .lreturn => 4
  | .areturn => 4
  | _ => 0
def qm_nx (C : qm_Cal) (X : qm_X) (tab : qm_T) (i : qm_I) (is : List qm_I) (ls : List Slot) (st : List Value) (h : qm_H) : Option (qm_R ⊕ qm_S) :=
  if qm_kind i.1 = 0 then (qm_pure i ls st).map (fun r => .inr (is, r.1, r.2, h))
  else if qm_kind i.1 = 1 then (qm_jump i st).map (fun r => .inr ((match r.1 with | some t => qm_lk tab t | none => is), ls, r.2, h))
  else if qm_kind i.1 = 2 then (qm_heap X i st h).map (fun r => .inr (is, ls, r.1, r.2))
  else if qm_kind i.1 = 3 then (qm_call C i is ls st h).map (fun s => .inr s)
  else (qm_ret i st h).map (fun r => .inl r)
def qm_run (C : qm_Cal) (X : qm_X) (tab : qm_T) : Nat → qm_S → Option qm_R
  | 0, _ => none
  | _ + 1, ([], _, _, _) => none
  | n + 1, (i :: is, ls, st, h) => match qm_nx C X tab i is ls st h with
    | none => none
    | some (.inl r) => some r
    | some (.inr s) => qm_run C X tab n s
theorem qm_run_succ (C : qm_Cal) (X : qm_X) (tab : qm_T) : ∀ (n : Nat) (s : qm_S) (r : qm_R), qm_run C X tab n s = some r → qm_run C X tab (n + 1) s = some r
  | 0, _, _, h => by cases h
  | n + 1, ([], _, _, _), _, h => by cases h
  | n + 1, (i :: is, ls, st, hp), r, h => by
    rw [qm_run] at h ⊢
    cases hx : qm_nx C X tab i is ls st hp with
    | none => rw [hx] at h; cases h
    | some y =>
      rw [hx] at h
      cases y with
      | inl r' => exact h
      | inr s => exact qm_run_succ C X tab n s r h
theorem qm_run_mono (C : qm_Cal) (X : qm_X) (tab : qm_T) {n : Nat} {s : qm_S} {r : qm_R} (h : qm_run C X tab n s = some r) : ∀ k, qm_run C X tab (n + k) s = some r
  | 0 => h
  | k + 1 => qm_run_succ C X tab (n + k) s r (qm_run_mono C X tab h k)
theorem qm_run_one (C : qm_Cal) (X : qm_X) (tab : qm_T) {n k : Nat} {s : qm_S} {r r' : qm_R} (h : qm_run C X tab n s = some r) (h' : qm_run C X tab k s = some r') : r = r' := by
  have h1 := qm_run_mono C X tab h k
  have h2 := qm_run_mono C X tab h' n
  rw [Nat.add_comm] at h2
  rw [h1] at h2
  exact Option.some.inj h2
noncomputable def qm_lim {α : Type} (g : Nat → Option α) : Option α := @dite _ (∃ n, (g n).isSome = true) (Classical.propDecidable _) (fun h => g (Classical.choose h)) (fun _ => none)
noncomputable def qm_go (C : qm_Cal) (X : qm_X) (tab : qm_T) (is : List qm_I) (ls : List Slot) (st : List Value) (h : qm_H) : Option qm_R := qm_lim (fun n => qm_run C X tab n (is, ls, st, h))
theorem qm_go_of {C : qm_Cal} {X : qm_X} {tab : qm_T} {is : List qm_I} {ls : List Slot} {st : List Value} {h : qm_H} {n : Nat} {r : qm_R} (e : qm_run C X tab n (is, ls, st, h) = some r) : qm_go C X tab is ls st h = some r := by
  have hx : ∃ n, (qm_run C X tab n (is, ls, st, h)).isSome = true := ⟨n, by rw [e]; rfl⟩
  unfold qm_go qm_lim
  rw [dif_pos hx]
  have h2 := Classical.choose_spec hx
  cases hc : qm_run C X tab (Classical.choose hx) (is, ls, st, h) with
  | none => rw [hc] at h2; cases h2
  | some r' => exact hc.trans (by rw [qm_run_one C X tab hc e])
theorem qm_go_to {C : qm_Cal} {X : qm_X} {tab : qm_T} {is : List qm_I} {ls : List Slot} {st : List Value} {h : qm_H} {r : qm_R} (e : qm_go C X tab is ls st h = some r) : ∃ n, qm_run C X tab n (is, ls, st, h) = some r := by
  unfold qm_go qm_lim at e
  by_cases hx : ∃ n, (qm_run C X tab n (is, ls, st, h)).isSome = true
  · rw [dif_pos hx] at e
    exact ⟨_, e⟩
  · rw [dif_neg hx] at e
    cases e
theorem qm_go_eq (C : qm_Cal) (X : qm_X) (tab : qm_T) (i : qm_I) (is : List qm_I) (ls : List Slot) (st : List Value) (h : qm_H) : qm_go C X tab (i :: is) ls st h = match qm_nx C X tab i is ls st h with
    | none => none
    | some (.inl r) => some r
    | some (.inr s) => qm_go C X tab s.1 s.2.1 s.2.2.1 s.2.2.2 := by
  apply Option.ext
  intro r
  constructor
  · intro e
    obtain ⟨n, hn⟩ := qm_go_to e
    cases n with
    | zero => cases hn
    | succ n =>
      rw [qm_run] at hn
      cases hx : qm_nx C X tab i is ls st h with
      | none => rw [hx] at hn; cases hn
      | some y =>
        rw [hx] at hn
        cases y with
        | inl r' => exact hn
        | inr s => exact qm_go_of (n := n) hn
  · intro e
    cases hx : qm_nx C X tab i is ls st h with
    | none => rw [hx] at e; cases e
    | some y =>
      rw [hx] at e
      cases y with
      | inl r' =>
        refine qm_go_of (n := 1) ?_
        rw [qm_run, hx]
        exact e
      | inr s =>
        obtain ⟨n, hn⟩ := qm_go_to e
        refine qm_go_of (n := n + 1) ?_
        rw [qm_run, hx]
        exact hn
/-- all methods: how many places for locals, the code by its labels -/
abbrev qm_Ms : Type := Nat → Nat × qm_T
noncomputable def qm_ex (M : qm_Ms) (X : qm_X) : Nat → qm_Cal
  | 0 => fun _ _ _ => none
  | d + 1 => fun mid args h => if qm_aok args (M mid).1 = true then qm_go (qm_ex M X d) X (M mid).2 (qm_lk (M mid).2 0) (qm_ent args (M mid).1) [] h else none
