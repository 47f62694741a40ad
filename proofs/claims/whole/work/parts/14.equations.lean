/-! the machine by equations: one row an instruction -/
section GOX
variable {C : qm_Cal} {X : qm_X} {tab : qm_T} {i : qm_I} {is : List qm_I} {ls : List Slot} {st : List Value} {h : qm_H}
theorem qm_nx0 (k : qm_kind i.1 = 0) : qm_nx C X tab i is ls st h = (qm_pure i ls st).map (fun r => .inr (is, r.1, r.2, h)) := if_pos k
theorem qm_nx1 (k : qm_kind i.1 = 1) : qm_nx C X tab i is ls st h = (qm_jump i st).map (fun r => .inr ((match r.1 with | some t => qm_lk tab t | none => is), ls, r.2, h)) := by
  unfold qm_nx
  rw [if_neg (by omega), if_pos k]
  rfl
theorem qm_nx2 (k : qm_kind i.1 = 2) : qm_nx C X tab i is ls st h = (qm_heap X i st h).map (fun r => .inr (is, ls, r.1, r.2)) := by
  unfold qm_nx
  rw [if_neg (by omega), if_neg (by omega), if_pos k]
theorem qm_nx3 (k : qm_kind i.1 = 3) : qm_nx C X tab i is ls st h = (qm_call C i is ls st h).map (fun s => .inr s) := by
  unfold qm_nx
  rw [if_neg (by omega), if_neg (by omega), if_neg (by omega), if_pos k]
theorem qm_nx4 (k : qm_kind i.1 = 4) : qm_nx C X tab i is ls st h = (qm_ret i st h).map (fun r => .inl r) := by
  unfold qm_nx
  rw [if_neg (by omega), if_neg (by omega), if_neg (by omega), if_neg (by omega)]
end GOX
section GOE
variable (C : qm_Cal) (X : qm_X) (tab : qm_T) (is : List qm_I) (ls : List Slot) (st : List Value) (h : qm_H) (a b : Nat) (v : Int32)
theorem ge_iconst (n : Int) : qm_go C X tab ((.iconst n, a, b, v) :: is) ls st h = qm_go C X tab is ls (.int v :: st) h := by rw [qm_go_eq, qm_nx0 rfl]; rfl
theorem ge_lconst (n : Fin 2) : qm_go C X tab ((.lconst n, a, b, v) :: is) ls st h = qm_go C X tab is ls (.long v.toInt64 :: st) h := by rw [qm_go_eq, qm_nx0 rfl]; rfl
theorem ge_null  : qm_go C X tab ((.aconst_null, a, b, v) :: is) ls st h = qm_go C X tab is ls (.null :: st) h := by rw [qm_go_eq, qm_nx0 rfl]; rfl
theorem ge_iload (k : Nat) : qm_go C X tab ((.iload k, a, b, v) :: is) ls st h = (match qm_ld ls k with | some (.int x) => qm_go C X tab is ls (.int x :: st) h | _ => none) := by
  rw [qm_go_eq, qm_nx0 rfl]
  unfold qm_pure
  dsimp only
  cases hq : qm_ld ls k with
  | none => rfl
  | some w => cases w <;> rfl
theorem ge_lload (k : Nat) : qm_go C X tab ((.lload k, a, b, v) :: is) ls st h = (match qm_ld ls k with | some (.long x) => qm_go C X tab is ls (.long x :: st) h | _ => none) := by
  rw [qm_go_eq, qm_nx0 rfl]
  unfold qm_pure
  dsimp only
  cases hq : qm_ld ls k with
  | none => rfl
  | some w => cases w <;> rfl
theorem ge_aload (k : Nat) : qm_go C X tab ((.aload k, a, b, v) :: is) ls st h = (match qm_ld ls k with | some (.ref x) => qm_go C X tab is ls (.ref x :: st) h | some .null => qm_go C X tab is ls (.null :: st) h | _ => none) := by
  rw [qm_go_eq, qm_nx0 rfl]
  unfold qm_pure
  dsimp only
  cases hq : qm_ld ls k with
  | none => rfl
  | some w => cases w <;> rfl
theorem ge_istore (k : Nat) (x : Int32) : qm_go C X tab ((.istore k, a, b, v) :: is) ls (.int x :: st) h = if k < ls.length then qm_go C X tab is (qm_st1 ls k (.int x)) st h else none := by
  rw [qm_go_eq, qm_nx0 rfl]
  unfold qm_pure
  dsimp only
  by_cases hq : k < ls.length
  · rw [if_pos hq, if_pos hq]; rfl
  · rw [if_neg hq, if_neg hq]; rfl
theorem ge_lstore (k : Nat) (x : Int64) : qm_go C X tab ((.lstore k, a, b, v) :: is) ls (.long x :: st) h = if k + 1 < ls.length then qm_go C X tab is (qm_st2 ls k (.long x)) st h else none := by
  rw [qm_go_eq, qm_nx0 rfl]
  unfold qm_pure
  dsimp only
  by_cases hq : k + 1 < ls.length
  · rw [if_pos hq, if_pos hq]; rfl
  · rw [if_neg hq, if_neg hq]; rfl
theorem ge_astore (k : Nat) (x : Nat) : qm_go C X tab ((.astore k, a, b, v) :: is) ls (.ref x :: st) h = if k < ls.length then qm_go C X tab is (qm_st1 ls k (.ref x)) st h else none := by
  rw [qm_go_eq, qm_nx0 rfl]
  unfold qm_pure
  dsimp only
  by_cases hq : k < ls.length
  · rw [if_pos hq, if_pos hq]; rfl
  · rw [if_neg hq, if_neg hq]; rfl
theorem ge_astoreN (k : Nat) : qm_go C X tab ((.astore k, a, b, v) :: is) ls (.null :: st) h = if k < ls.length then qm_go C X tab is (qm_st1 ls k .null) st h else none := by
  rw [qm_go_eq, qm_nx0 rfl]
  unfold qm_pure
  dsimp only
  by_cases hq : k < ls.length
  · rw [if_pos hq, if_pos hq]; rfl
  · rw [if_neg hq, if_neg hq]; rfl
theorem ge_iinc (k : Nat) (n : Int) : qm_go C X tab ((.iinc k n, a, b, v) :: is) ls st h = (match qm_ld ls k with | some (.int x) => if k < ls.length then qm_go C X tab is (qm_st1 ls k (.int (x + v))) st h else none | _ => none) := by
  rw [qm_go_eq, qm_nx0 rfl]
  unfold qm_pure
  dsimp only
  cases hq : qm_ld ls k with
  | none => rfl
  | some w =>
    cases w <;> try rfl
    dsimp only
    by_cases hq2 : k < ls.length
    · rw [if_pos hq2, if_pos hq2]; rfl
    · rw [if_neg hq2, if_neg hq2]; rfl
theorem ge_iadd (x y : Int32) : qm_go C X tab ((.iadd, a, b, v) :: is) ls (.int y :: .int x :: st) h = qm_go C X tab is ls (.int (x + y) :: st) h := by rw [qm_go_eq, qm_nx0 rfl]; rfl
theorem ge_isub (x y : Int32) : qm_go C X tab ((.isub, a, b, v) :: is) ls (.int y :: .int x :: st) h = qm_go C X tab is ls (.int (x - y) :: st) h := by rw [qm_go_eq, qm_nx0 rfl]; rfl
theorem ge_imul (x y : Int32) : qm_go C X tab ((.imul, a, b, v) :: is) ls (.int y :: .int x :: st) h = qm_go C X tab is ls (.int (x * y) :: st) h := by rw [qm_go_eq, qm_nx0 rfl]; rfl
theorem ge_iand (x y : Int32) : qm_go C X tab ((.iand, a, b, v) :: is) ls (.int y :: .int x :: st) h = qm_go C X tab is ls (.int (x &&& y) :: st) h := by rw [qm_go_eq, qm_nx0 rfl]; rfl
theorem ge_ior (x y : Int32) : qm_go C X tab ((.ior, a, b, v) :: is) ls (.int y :: .int x :: st) h = qm_go C X tab is ls (.int (x ||| y) :: st) h := by rw [qm_go_eq, qm_nx0 rfl]; rfl
theorem ge_ixor (x y : Int32) : qm_go C X tab ((.ixor, a, b, v) :: is) ls (.int y :: .int x :: st) h = qm_go C X tab is ls (.int (x ^^^ y) :: st) h := by rw [qm_go_eq, qm_nx0 rfl]; rfl
theorem ge_ishl (x y : Int32) : qm_go C X tab ((.ishl, a, b, v) :: is) ls (.int y :: .int x :: st) h = qm_go C X tab is ls (.int (x <<< (y &&& 31)) :: st) h := by rw [qm_go_eq, qm_nx0 rfl]; rfl
theorem ge_ishr (x y : Int32) : qm_go C X tab ((.ishr, a, b, v) :: is) ls (.int y :: .int x :: st) h = qm_go C X tab is ls (.int (x >>> (y &&& 31)) :: st) h := by rw [qm_go_eq, qm_nx0 rfl]; rfl
theorem ge_iushr (x y : Int32) : qm_go C X tab ((.iushr, a, b, v) :: is) ls (.int y :: .int x :: st) h = qm_go C X tab is ls (.int ((x.toUInt32 >>> (y.toUInt32 &&& Int32.toUInt32 31)).toInt32) :: st) h := by rw [qm_go_eq, qm_nx0 rfl]; rfl
theorem ge_ladd (x y : Int64) : qm_go C X tab ((.ladd, a, b, v) :: is) ls (.long y :: .long x :: st) h = qm_go C X tab is ls (.long (x + y) :: st) h := by rw [qm_go_eq, qm_nx0 rfl]; rfl
theorem ge_lsub (x y : Int64) : qm_go C X tab ((.lsub, a, b, v) :: is) ls (.long y :: .long x :: st) h = qm_go C X tab is ls (.long (x - y) :: st) h := by rw [qm_go_eq, qm_nx0 rfl]; rfl
theorem ge_lmul (x y : Int64) : qm_go C X tab ((.lmul, a, b, v) :: is) ls (.long y :: .long x :: st) h = qm_go C X tab is ls (.long (x * y) :: st) h := by rw [qm_go_eq, qm_nx0 rfl]; rfl
theorem ge_lcmp (x y : Int64) : qm_go C X tab ((.lcmp, a, b, v) :: is) ls (.long y :: .long x :: st) h = qm_go C X tab is ls (.int (lg_cmp x y) :: st) h := by rw [qm_go_eq, qm_nx0 rfl]; rfl
theorem ge_idiv (x y : Int32) : qm_go C X tab ((.idiv, a, b, v) :: is) ls (.int y :: .int x :: st) h = if y = 0 then none else qm_go C X tab is ls (.int (x / y) :: st) h := by
  rw [qm_go_eq, qm_nx0 rfl]
  unfold qm_pure
  dsimp only [qm_i2d]
  by_cases hq : y = 0
  · rw [if_pos hq, if_pos hq]; rfl
  · rw [if_neg hq, if_neg hq]; rfl
theorem ge_irem (x y : Int32) : qm_go C X tab ((.irem, a, b, v) :: is) ls (.int y :: .int x :: st) h = if y = 0 then none else qm_go C X tab is ls (.int (x - x / y * y) :: st) h := by
  rw [qm_go_eq, qm_nx0 rfl]
  unfold qm_pure
  dsimp only [qm_i2d]
  by_cases hq : y = 0
  · rw [if_pos hq, if_pos hq]; rfl
  · rw [if_neg hq, if_neg hq]; rfl
theorem ge_ldiv (x y : Int64) : qm_go C X tab ((.ldiv, a, b, v) :: is) ls (.long y :: .long x :: st) h = if y = 0 then none else qm_go C X tab is ls (.long (x / y) :: st) h := by
  rw [qm_go_eq, qm_nx0 rfl]
  unfold qm_pure
  dsimp only [qm_l2d]
  by_cases hq : y = 0
  · rw [if_pos hq, if_pos hq]; rfl
  · rw [if_neg hq, if_neg hq]; rfl
theorem ge_ineg (x : Int32) : qm_go C X tab ((.ineg, a, b, v) :: is) ls (.int x :: st) h = qm_go C X tab is ls (.int (-x) :: st) h := by rw [qm_go_eq, qm_nx0 rfl]; rfl
theorem ge_i2l (x : Int32) : qm_go C X tab ((.i2l, a, b, v) :: is) ls (.int x :: st) h = qm_go C X tab is ls (.long x.toInt64 :: st) h := by rw [qm_go_eq, qm_nx0 rfl]; rfl
theorem ge_l2i (x : Int64) : qm_go C X tab ((.l2i, a, b, v) :: is) ls (.long x :: st) h = qm_go C X tab is ls (.int x.toInt32 :: st) h := by rw [qm_go_eq, qm_nx0 rfl]; rfl
theorem ge_lneg (x : Int64) : qm_go C X tab ((.lneg, a, b, v) :: is) ls (.long x :: st) h = qm_go C X tab is ls (.long (-x) :: st) h := by rw [qm_go_eq, qm_nx0 rfl]; rfl
theorem ge_dupI (x : Int32) : qm_go C X tab ((.dup, a, b, v) :: is) ls (.int x :: st) h = qm_go C X tab is ls (.int x :: .int x :: st) h := by rw [qm_go_eq, qm_nx0 rfl]; rfl
theorem ge_dupR (x : Nat) : qm_go C X tab ((.dup, a, b, v) :: is) ls (.ref x :: st) h = qm_go C X tab is ls (.ref x :: .ref x :: st) h := by rw [qm_go_eq, qm_nx0 rfl]; rfl
theorem ge_popI (x : Int32) : qm_go C X tab ((.pop, a, b, v) :: is) ls (.int x :: st) h = qm_go C X tab is ls st h := by rw [qm_go_eq, qm_nx0 rfl]; rfl
theorem ge_dup2 (x : Int32) (y : Nat) : qm_go C X tab ((.dup2, a, b, v) :: is) ls (.int x :: .ref y :: st) h = qm_go C X tab is ls (.int x :: .ref y :: .int x :: .ref y :: st) h := by rw [qm_go_eq, qm_nx0 rfl]; rfl
theorem ge_goto (t : Int) : qm_go C X tab ((.goto t, a, b, v) :: is) ls st h = qm_go C X tab (qm_lk tab t) ls st h := by rw [qm_go_eq, qm_nx1 rfl]; rfl
theorem ge_if_eq (x : Int32) (t : Int) : qm_go C X tab ((.ifCond .eq t, a, b, v) :: is) ls (.int x :: st) h = if x = 0 then qm_go C X tab (qm_lk tab t) ls st h else qm_go C X tab is ls st h := by
  rw [qm_go_eq, qm_nx1 rfl]
  unfold qm_jump qm_if
  dsimp only
  by_cases hq : x = 0
  · rw [if_pos hq, if_pos hq]; rfl
  · rw [if_neg hq, if_neg hq]; rfl
theorem ge_if_ne (x : Int32) (t : Int) : qm_go C X tab ((.ifCond .ne t, a, b, v) :: is) ls (.int x :: st) h = if x = 0 then qm_go C X tab is ls st h else qm_go C X tab (qm_lk tab t) ls st h := by
  rw [qm_go_eq, qm_nx1 rfl]
  unfold qm_jump qm_if
  dsimp only
  by_cases hq : x = 0
  · rw [if_neg (fun z => z hq), if_pos hq]; rfl
  · rw [if_pos hq, if_neg hq]; rfl
theorem ge_if_lt (x : Int32) (t : Int) : qm_go C X tab ((.ifCond .lt t, a, b, v) :: is) ls (.int x :: st) h = if x < 0 then qm_go C X tab (qm_lk tab t) ls st h else qm_go C X tab is ls st h := by
  rw [qm_go_eq, qm_nx1 rfl]
  unfold qm_jump qm_if
  dsimp only
  by_cases hq : x < 0
  · rw [if_pos hq, if_pos hq]; rfl
  · rw [if_neg hq, if_neg hq]; rfl
theorem ge_if_ge (x : Int32) (t : Int) : qm_go C X tab ((.ifCond .ge t, a, b, v) :: is) ls (.int x :: st) h = if 0 ≤ x then qm_go C X tab (qm_lk tab t) ls st h else qm_go C X tab is ls st h := by
  rw [qm_go_eq, qm_nx1 rfl]
  unfold qm_jump qm_if
  dsimp only
  by_cases hq : 0 ≤ x
  · rw [if_pos hq, if_pos hq]; rfl
  · rw [if_neg hq, if_neg hq]; rfl
theorem ge_if_gt (x : Int32) (t : Int) : qm_go C X tab ((.ifCond .gt t, a, b, v) :: is) ls (.int x :: st) h = if 0 < x then qm_go C X tab (qm_lk tab t) ls st h else qm_go C X tab is ls st h := by
  rw [qm_go_eq, qm_nx1 rfl]
  unfold qm_jump qm_if
  dsimp only
  by_cases hq : 0 < x
  · rw [if_pos hq, if_pos hq]; rfl
  · rw [if_neg hq, if_neg hq]; rfl
theorem ge_if_le (x : Int32) (t : Int) : qm_go C X tab ((.ifCond .le t, a, b, v) :: is) ls (.int x :: st) h = if x ≤ 0 then qm_go C X tab (qm_lk tab t) ls st h else qm_go C X tab is ls st h := by
  rw [qm_go_eq, qm_nx1 rfl]
  unfold qm_jump qm_if
  dsimp only
  by_cases hq : x ≤ 0
  · rw [if_pos hq, if_pos hq]; rfl
  · rw [if_neg hq, if_neg hq]; rfl
theorem ge_ic_eq (x y : Int32) (t : Int) : qm_go C X tab ((.if_icmp .eq t, a, b, v) :: is) ls (.int y :: .int x :: st) h = if x = y then qm_go C X tab (qm_lk tab t) ls st h else qm_go C X tab is ls st h := by
  rw [qm_go_eq, qm_nx1 rfl]
  unfold qm_jump qm_if
  dsimp only
  by_cases hq : x = y
  · rw [if_pos hq, if_pos hq]; rfl
  · rw [if_neg hq, if_neg hq]; rfl
theorem ge_ic_ne (x y : Int32) (t : Int) : qm_go C X tab ((.if_icmp .ne t, a, b, v) :: is) ls (.int y :: .int x :: st) h = if x = y then qm_go C X tab is ls st h else qm_go C X tab (qm_lk tab t) ls st h := by
  rw [qm_go_eq, qm_nx1 rfl]
  unfold qm_jump qm_if
  dsimp only
  by_cases hq : x = y
  · rw [if_neg (fun z => z hq), if_pos hq]; rfl
  · rw [if_pos hq, if_neg hq]; rfl
theorem ge_ic_lt (x y : Int32) (t : Int) : qm_go C X tab ((.if_icmp .lt t, a, b, v) :: is) ls (.int y :: .int x :: st) h = if x < y then qm_go C X tab (qm_lk tab t) ls st h else qm_go C X tab is ls st h := by
  rw [qm_go_eq, qm_nx1 rfl]
  unfold qm_jump qm_if
  dsimp only
  by_cases hq : x < y
  · rw [if_pos hq, if_pos hq]; rfl
  · rw [if_neg hq, if_neg hq]; rfl
theorem ge_ic_ge (x y : Int32) (t : Int) : qm_go C X tab ((.if_icmp .ge t, a, b, v) :: is) ls (.int y :: .int x :: st) h = if y ≤ x then qm_go C X tab (qm_lk tab t) ls st h else qm_go C X tab is ls st h := by
  rw [qm_go_eq, qm_nx1 rfl]
  unfold qm_jump qm_if
  dsimp only
  by_cases hq : y ≤ x
  · rw [if_pos hq, if_pos hq]; rfl
  · rw [if_neg hq, if_neg hq]; rfl
theorem ge_ic_gt (x y : Int32) (t : Int) : qm_go C X tab ((.if_icmp .gt t, a, b, v) :: is) ls (.int y :: .int x :: st) h = if y < x then qm_go C X tab (qm_lk tab t) ls st h else qm_go C X tab is ls st h := by
  rw [qm_go_eq, qm_nx1 rfl]
  unfold qm_jump qm_if
  dsimp only
  by_cases hq : y < x
  · rw [if_pos hq, if_pos hq]; rfl
  · rw [if_neg hq, if_neg hq]; rfl
theorem ge_ic_le (x y : Int32) (t : Int) : qm_go C X tab ((.if_icmp .le t, a, b, v) :: is) ls (.int y :: .int x :: st) h = if x ≤ y then qm_go C X tab (qm_lk tab t) ls st h else qm_go C X tab is ls st h := by
  rw [qm_go_eq, qm_nx1 rfl]
  unfold qm_jump qm_if
  dsimp only
  by_cases hq : x ≤ y
  · rw [if_pos hq, if_pos hq]; rfl
  · rw [if_neg hq, if_neg hq]; rfl
theorem ge_ifnullN (t : Int) : qm_go C X tab ((.ifnull t, a, b, v) :: is) ls (.null :: st) h = qm_go C X tab (qm_lk tab t) ls st h := by rw [qm_go_eq, qm_nx1 rfl]; rfl
theorem ge_ifnullR (t : Int) (x : Nat) : qm_go C X tab ((.ifnull t, a, b, v) :: is) ls (.ref x :: st) h = qm_go C X tab is ls st h := by rw [qm_go_eq, qm_nx1 rfl]; rfl
theorem ge_ifnnN (t : Int) : qm_go C X tab ((.ifnonnull t, a, b, v) :: is) ls (.null :: st) h = qm_go C X tab is ls st h := by rw [qm_go_eq, qm_nx1 rfl]; rfl
theorem ge_ifnnR (t : Int) (x : Nat) : qm_go C X tab ((.ifnonnull t, a, b, v) :: is) ls (.ref x :: st) h = qm_go C X tab (qm_lk tab t) ls st h := by rw [qm_go_eq, qm_nx1 rfl]; rfl
theorem ge_switch (d : Int) (ps : Array (Int × Int)) (x : Int32) : qm_go C X tab ((.lookupswitch d ps, a, b, v) :: is) ls (.int x :: st) h = qm_go C X tab (qm_lk tab (qm_sw ps.toList d x)) ls st h := by rw [qm_go_eq, qm_nx1 rfl]; rfl
theorem ge_getf (ci x : Nat) : qm_go C X tab ((.getfield ci, a, b, v) :: is) ls (.ref x :: st) h = (match qm_gf h x ci a with | some w => qm_go C X tab is ls (w :: st) h | none => none) := by
  rw [qm_go_eq, qm_nx2 rfl]
  unfold qm_heap
  dsimp only
  cases qm_gf h x ci a <;> rfl
theorem ge_putfI (ci x : Nat) (y : Int32) : qm_go C X tab ((.putfield ci, a, b, v) :: is) ls (.int y :: .ref x :: st) h = (match qm_pf h x ci a b (.int y) with | some h => qm_go C X tab is ls st h | none => none) := by
  rw [qm_go_eq, qm_nx2 rfl]
  unfold qm_heap
  dsimp only
  cases qm_pf h x ci a b (.int y) <;> rfl
theorem ge_putfL (ci x : Nat) (y : Int64) : qm_go C X tab ((.putfield ci, a, b, v) :: is) ls (.long y :: .ref x :: st) h = (match qm_pf h x ci a b (.long y) with | some h => qm_go C X tab is ls st h | none => none) := by
  rw [qm_go_eq, qm_nx2 rfl]
  unfold qm_heap
  dsimp only
  cases qm_pf h x ci a b (.long y) <;> rfl
theorem ge_putfR (ci x : Nat) (y : Nat) : qm_go C X tab ((.putfield ci, a, b, v) :: is) ls (.ref y :: .ref x :: st) h = (match qm_pf h x ci a b (.ref y) with | some h => qm_go C X tab is ls st h | none => none) := by
  rw [qm_go_eq, qm_nx2 rfl]
  unfold qm_heap
  dsimp only
  cases qm_pf h x ci a b (.ref y) <;> rfl
theorem ge_iald (k : Int32) (x : Nat) : qm_go C X tab ((.iaload, a, b, v) :: is) ls (.int k :: .ref x :: st) h = (match qm_ia X h x k with | some w => qm_go C X tab is ls (.int w :: st) h | none => none) := by
  rw [qm_go_eq, qm_nx2 rfl]
  unfold qm_heap
  dsimp only
  cases qm_ia X h x k <;> rfl
theorem ge_lald (k : Int32) (x : Nat) : qm_go C X tab ((.laload, a, b, v) :: is) ls (.int k :: .ref x :: st) h = (match qm_la h x k with | some w => qm_go C X tab is ls (.long w :: st) h | none => none) := by
  rw [qm_go_eq, qm_nx2 rfl]
  unfold qm_heap
  dsimp only
  cases qm_la h x k <;> rfl
theorem ge_aald (k : Int32) (x : Nat) : qm_go C X tab ((.aaload, a, b, v) :: is) ls (.int k :: .ref x :: st) h = (match qm_aa h x k with | some w => qm_go C X tab is ls (w :: st) h | none => none) := by
  rw [qm_go_eq, qm_nx2 rfl]
  unfold qm_heap
  dsimp only
  cases qm_aa h x k <;> rfl
theorem ge_iast (k y : Int32) (x : Nat) : qm_go C X tab ((.iastore, a, b, v) :: is) ls (.int y :: .int k :: .ref x :: st) h = (match qm_is h x k y with | some h => qm_go C X tab is ls st h | none => none) := by
  rw [qm_go_eq, qm_nx2 rfl]
  unfold qm_heap
  dsimp only
  cases qm_is h x k y <;> rfl
theorem ge_last (k : Int32) (y : Int64) (x : Nat) : qm_go C X tab ((.lastore, a, b, v) :: is) ls (.long y :: .int k :: .ref x :: st) h = (match qm_ls h x k y with | some h => qm_go C X tab is ls st h | none => none) := by
  rw [qm_go_eq, qm_nx2 rfl]
  unfold qm_heap
  dsimp only
  cases qm_ls h x k y <;> rfl
theorem ge_aast (k : Int32) (y x : Nat) : qm_go C X tab ((.aastore, a, b, v) :: is) ls (.ref y :: .int k :: .ref x :: st) h = (match qm_as h x k y with | some h => qm_go C X tab is ls st h | none => none) := by
  rw [qm_go_eq, qm_nx2 rfl]
  unfold qm_heap
  dsimp only
  cases qm_as h x k y <;> rfl
theorem ge_alen (x : Nat) : qm_go C X tab ((.arraylength, a, b, v) :: is) ls (.ref x :: st) h = (match qm_al X h x with | some w => qm_go C X tab is ls (.int w :: st) h | none => none) := by
  rw [qm_go_eq, qm_nx2 rfl]
  unfold qm_heap
  dsimp only
  cases qm_al X h x <;> rfl
theorem ge_new (ci : Nat) : qm_go C X tab ((.new ci, a, b, v) :: is) ls st h = (match qm_def ci with | some fs => qm_go C X tab is ls (.ref (X.1 + h.1) :: st) (qm_mk X h fs.length (.inr (ci, fs))) | none => none) := by
  rw [qm_go_eq, qm_nx2 rfl]
  unfold qm_heap
  dsimp only
  cases qm_def ci <;> rfl
theorem ge_newI (n : Int32) : qm_go C X tab ((.newarray .int, a, b, v) :: is) ls (.int n :: st) h = if ¬ n < 0 ∧ n.toNatClampNeg ≤ 4096 then qm_go C X tab is ls (.ref (X.1 + h.1) :: st) (qm_mk X h n.toNatClampNeg (.inl (0, n.toNatClampNeg, .inl (fun _ => 0)))) else none := by
  rw [qm_go_eq, qm_nx2 rfl]
  unfold qm_heap
  dsimp only
  by_cases hq : ¬ n < 0 ∧ n.toNatClampNeg ≤ 4096
  · rw [if_pos hq, if_pos hq]; rfl
  · rw [if_neg hq, if_neg hq]; rfl
theorem ge_newL (n : Int32) : qm_go C X tab ((.newarray .long, a, b, v) :: is) ls (.int n :: st) h = if ¬ n < 0 ∧ n.toNatClampNeg ≤ 4096 then qm_go C X tab is ls (.ref (X.1 + h.1) :: st) (qm_mk X h n.toNatClampNeg (.inl (1, n.toNatClampNeg, .inr (.inl (fun _ => 0))))) else none := by
  rw [qm_go_eq, qm_nx2 rfl]
  unfold qm_heap
  dsimp only
  by_cases hq : ¬ n < 0 ∧ n.toNatClampNeg ≤ 4096
  · rw [if_pos hq, if_pos hq]; rfl
  · rw [if_neg hq, if_neg hq]; rfl
theorem ge_newQ (n : Int32) (t : Nat) : qm_go C X tab ((.anewarray t, a, b, v) :: is) ls (.int n :: st) h = if ¬ n < 0 ∧ n.toNatClampNeg ≤ 4096 ∧ (t = 2 ∨ t = 3) then qm_go C X tab is ls (.ref (X.1 + h.1) :: st) (qm_mk X h n.toNatClampNeg (.inl (t, n.toNatClampNeg, .inr (.inr (.inr (.inr (fun _ => none))))))) else none := by
  rw [qm_go_eq, qm_nx2 rfl]
  unfold qm_heap
  dsimp only
  by_cases hq : ¬ n < 0 ∧ n.toNatClampNeg ≤ 4096 ∧ (t = 2 ∨ t = 3)
  · rw [if_pos hq, if_pos hq]; rfl
  · rw [if_neg hq, if_neg hq]; rfl
theorem ge_oi (x : Nat) : qm_go C X tab ((.invokespecial 0, a, b, v) :: is) ls (.ref x :: st) h = if qm_sum st ≤ 8 then qm_go C X tab is ls st h else none := by
  rw [qm_go_eq, qm_nx2 rfl]
  unfold qm_heap
  dsimp only
  by_cases hq : qm_sum st ≤ 8
  · rw [if_pos hq, if_pos hq]; rfl
  · rw [if_neg hq, if_neg hq]; rfl
theorem ge_copy (n dp sp : Int32) (x1 x0 : Nat) : qm_go C X tab ((.invokespecial 1, a, b, v) :: is) ls (.int n :: .int dp :: .ref x1 :: .int sp :: .ref x0 :: st) h = if qm_sum st ≤ 8 then (match qm_cp h x0 sp x1 dp n with | some h => qm_go C X tab is ls st h | none => none) else none := by
  rw [qm_go_eq, qm_nx2 rfl]
  unfold qm_heap
  dsimp only
  by_cases hq : qm_sum st ≤ 8
  · rw [if_pos hq, if_pos hq]
    cases qm_cp h x0 sp x1 dp n <;> rfl
  · rw [if_neg hq, if_neg hq]; rfl
theorem ge_max (x y : Int32) : qm_go C X tab ((.invokespecial 2, a, b, v) :: is) ls (.int y :: .int x :: st) h = if qm_sum st ≤ 8 then qm_go C X tab is ls (.int (if x < y then y else x) :: st) h else none := by
  rw [qm_go_eq, qm_nx2 rfl]
  unfold qm_heap
  dsimp only
  by_cases hq : qm_sum st ≤ 8
  · rw [if_pos hq, if_pos hq]; rfl
  · rw [if_neg hq, if_neg hq]; rfl
theorem ge_is0 (mid : Nat)  : qm_go C X tab ((.invokestatic mid, 0, b, v) :: is) ls (st) h = if qm_sum st ≤ 8 then (match C mid [] h with | some r => qm_go C X tab is ls (r.1.toList ++ st) r.2 | none => none) else none := by
  rw [qm_go_eq, qm_nx3 rfl]
  unfold qm_call
  dsimp only
  by_cases hq : qm_sum st ≤ 8
  · rw [if_pos ⟨by simp, by simpa using hq⟩, if_pos hq]
    simp only [List.take, List.drop, List.reverse_cons, List.reverse_nil, List.nil_append, List.cons_append, List.take_zero, List.drop_zero]
    cases C mid [] h <;> rfl
  · rw [if_neg (fun z => hq (by simpa using z.2)), if_neg hq]; rfl
theorem ge_is1 (mid : Nat) (w1 : Value) : qm_go C X tab ((.invokestatic mid, 1, b, v) :: is) ls (w1 :: st) h = if qm_sum st ≤ 8 then (match C mid [w1] h with | some r => qm_go C X tab is ls (r.1.toList ++ st) r.2 | none => none) else none := by
  rw [qm_go_eq, qm_nx3 rfl]
  unfold qm_call
  dsimp only
  by_cases hq : qm_sum st ≤ 8
  · rw [if_pos ⟨by simp, by simpa using hq⟩, if_pos hq]
    simp only [List.take, List.drop, List.reverse_cons, List.reverse_nil, List.nil_append, List.cons_append, List.take_zero, List.drop_zero]
    cases C mid [w1] h <;> rfl
  · rw [if_neg (fun z => hq (by simpa using z.2)), if_neg hq]; rfl
theorem ge_iv1 (mid x : Nat)  : qm_go C X tab ((.invokevirtual mid, 1, b, v) :: is) ls (.ref x :: st) h = if qm_sum st ≤ 8 ∧ qm_isK h (some (.ref x)) b = true then (match C mid [.ref x] h with | some r => qm_go C X tab is ls (r.1.toList ++ st) r.2 | none => none) else none := by
  rw [qm_go_eq, qm_nx3 rfl]
  unfold qm_call
  dsimp only
  by_cases hq : qm_sum st ≤ 8 ∧ qm_isK h (some (.ref x)) b = true
  · rw [if_pos ⟨by simp, by simpa using hq.1, by simpa using hq.2⟩, if_pos hq]
    simp only [List.take, List.drop, List.reverse_cons, List.reverse_nil, List.nil_append, List.cons_append, List.take_zero, List.drop_zero]
    cases C mid [.ref x] h <;> rfl
  · rw [if_neg (fun z => hq ⟨by simpa using z.2.1, by simpa using z.2.2⟩), if_neg hq]; rfl
theorem ge_is2 (mid : Nat) (w1 w2 : Value) : qm_go C X tab ((.invokestatic mid, 2, b, v) :: is) ls (w2 :: w1 :: st) h = if qm_sum st ≤ 8 then (match C mid [w1, w2] h with | some r => qm_go C X tab is ls (r.1.toList ++ st) r.2 | none => none) else none := by
  rw [qm_go_eq, qm_nx3 rfl]
  unfold qm_call
  dsimp only
  by_cases hq : qm_sum st ≤ 8
  · rw [if_pos ⟨by simp, by simpa using hq⟩, if_pos hq]
    simp only [List.take, List.drop, List.reverse_cons, List.reverse_nil, List.nil_append, List.cons_append, List.take_zero, List.drop_zero]
    cases C mid [w1, w2] h <;> rfl
  · rw [if_neg (fun z => hq (by simpa using z.2)), if_neg hq]; rfl
theorem ge_iv2 (mid x : Nat) (w2 : Value) : qm_go C X tab ((.invokevirtual mid, 2, b, v) :: is) ls (w2 :: .ref x :: st) h = if qm_sum st ≤ 8 ∧ qm_isK h (some (.ref x)) b = true then (match C mid [.ref x, w2] h with | some r => qm_go C X tab is ls (r.1.toList ++ st) r.2 | none => none) else none := by
  rw [qm_go_eq, qm_nx3 rfl]
  unfold qm_call
  dsimp only
  by_cases hq : qm_sum st ≤ 8 ∧ qm_isK h (some (.ref x)) b = true
  · rw [if_pos ⟨by simp, by simpa using hq.1, by simpa using hq.2⟩, if_pos hq]
    simp only [List.take, List.drop, List.reverse_cons, List.reverse_nil, List.nil_append, List.cons_append, List.take_zero, List.drop_zero]
    cases C mid [.ref x, w2] h <;> rfl
  · rw [if_neg (fun z => hq ⟨by simpa using z.2.1, by simpa using z.2.2⟩), if_neg hq]; rfl
theorem ge_is3 (mid : Nat) (w1 w2 w3 : Value) : qm_go C X tab ((.invokestatic mid, 3, b, v) :: is) ls (w3 :: w2 :: w1 :: st) h = if qm_sum st ≤ 8 then (match C mid [w1, w2, w3] h with | some r => qm_go C X tab is ls (r.1.toList ++ st) r.2 | none => none) else none := by
  rw [qm_go_eq, qm_nx3 rfl]
  unfold qm_call
  dsimp only
  by_cases hq : qm_sum st ≤ 8
  · rw [if_pos ⟨by simp, by simpa using hq⟩, if_pos hq]
    simp only [List.take, List.drop, List.reverse_cons, List.reverse_nil, List.nil_append, List.cons_append, List.take_zero, List.drop_zero]
    cases C mid [w1, w2, w3] h <;> rfl
  · rw [if_neg (fun z => hq (by simpa using z.2)), if_neg hq]; rfl
theorem ge_iv3 (mid x : Nat) (w2 w3 : Value) : qm_go C X tab ((.invokevirtual mid, 3, b, v) :: is) ls (w3 :: w2 :: .ref x :: st) h = if qm_sum st ≤ 8 ∧ qm_isK h (some (.ref x)) b = true then (match C mid [.ref x, w2, w3] h with | some r => qm_go C X tab is ls (r.1.toList ++ st) r.2 | none => none) else none := by
  rw [qm_go_eq, qm_nx3 rfl]
  unfold qm_call
  dsimp only
  by_cases hq : qm_sum st ≤ 8 ∧ qm_isK h (some (.ref x)) b = true
  · rw [if_pos ⟨by simp, by simpa using hq.1, by simpa using hq.2⟩, if_pos hq]
    simp only [List.take, List.drop, List.reverse_cons, List.reverse_nil, List.nil_append, List.cons_append, List.take_zero, List.drop_zero]
    cases C mid [.ref x, w2, w3] h <;> rfl
  · rw [if_neg (fun z => hq ⟨by simpa using z.2.1, by simpa using z.2.2⟩), if_neg hq]; rfl
theorem ge_is4 (mid : Nat) (w1 w2 w3 w4 : Value) : qm_go C X tab ((.invokestatic mid, 4, b, v) :: is) ls (w4 :: w3 :: w2 :: w1 :: st) h = if qm_sum st ≤ 8 then (match C mid [w1, w2, w3, w4] h with | some r => qm_go C X tab is ls (r.1.toList ++ st) r.2 | none => none) else none := by
  rw [qm_go_eq, qm_nx3 rfl]
  unfold qm_call
  dsimp only
  by_cases hq : qm_sum st ≤ 8
  · rw [if_pos ⟨by simp, by simpa using hq⟩, if_pos hq]
    simp only [List.take, List.drop, List.reverse_cons, List.reverse_nil, List.nil_append, List.cons_append, List.take_zero, List.drop_zero]
    cases C mid [w1, w2, w3, w4] h <;> rfl
  · rw [if_neg (fun z => hq (by simpa using z.2)), if_neg hq]; rfl
theorem ge_iv4 (mid x : Nat) (w2 w3 w4 : Value) : qm_go C X tab ((.invokevirtual mid, 4, b, v) :: is) ls (w4 :: w3 :: w2 :: .ref x :: st) h = if qm_sum st ≤ 8 ∧ qm_isK h (some (.ref x)) b = true then (match C mid [.ref x, w2, w3, w4] h with | some r => qm_go C X tab is ls (r.1.toList ++ st) r.2 | none => none) else none := by
  rw [qm_go_eq, qm_nx3 rfl]
  unfold qm_call
  dsimp only
  by_cases hq : qm_sum st ≤ 8 ∧ qm_isK h (some (.ref x)) b = true
  · rw [if_pos ⟨by simp, by simpa using hq.1, by simpa using hq.2⟩, if_pos hq]
    simp only [List.take, List.drop, List.reverse_cons, List.reverse_nil, List.nil_append, List.cons_append, List.take_zero, List.drop_zero]
    cases C mid [.ref x, w2, w3, w4] h <;> rfl
  · rw [if_neg (fun z => hq ⟨by simpa using z.2.1, by simpa using z.2.2⟩), if_neg hq]; rfl
theorem ge_is5 (mid : Nat) (w1 w2 w3 w4 w5 : Value) : qm_go C X tab ((.invokestatic mid, 5, b, v) :: is) ls (w5 :: w4 :: w3 :: w2 :: w1 :: st) h = if qm_sum st ≤ 8 then (match C mid [w1, w2, w3, w4, w5] h with | some r => qm_go C X tab is ls (r.1.toList ++ st) r.2 | none => none) else none := by
  rw [qm_go_eq, qm_nx3 rfl]
  unfold qm_call
  dsimp only
  by_cases hq : qm_sum st ≤ 8
  · rw [if_pos ⟨by simp, by simpa using hq⟩, if_pos hq]
    simp only [List.take, List.drop, List.reverse_cons, List.reverse_nil, List.nil_append, List.cons_append, List.take_zero, List.drop_zero]
    cases C mid [w1, w2, w3, w4, w5] h <;> rfl
  · rw [if_neg (fun z => hq (by simpa using z.2)), if_neg hq]; rfl
theorem ge_iv5 (mid x : Nat) (w2 w3 w4 w5 : Value) : qm_go C X tab ((.invokevirtual mid, 5, b, v) :: is) ls (w5 :: w4 :: w3 :: w2 :: .ref x :: st) h = if qm_sum st ≤ 8 ∧ qm_isK h (some (.ref x)) b = true then (match C mid [.ref x, w2, w3, w4, w5] h with | some r => qm_go C X tab is ls (r.1.toList ++ st) r.2 | none => none) else none := by
  rw [qm_go_eq, qm_nx3 rfl]
  unfold qm_call
  dsimp only
  by_cases hq : qm_sum st ≤ 8 ∧ qm_isK h (some (.ref x)) b = true
  · rw [if_pos ⟨by simp, by simpa using hq.1, by simpa using hq.2⟩, if_pos hq]
    simp only [List.take, List.drop, List.reverse_cons, List.reverse_nil, List.nil_append, List.cons_append, List.take_zero, List.drop_zero]
    cases C mid [.ref x, w2, w3, w4, w5] h <;> rfl
  · rw [if_neg (fun z => hq ⟨by simpa using z.2.1, by simpa using z.2.2⟩), if_neg hq]; rfl
theorem ge_iv6 (mid x : Nat) (w2 w3 w4 w5 w6 : Value) : qm_go C X tab ((.invokevirtual mid, 6, b, v) :: is) ls (w6 :: w5 :: w4 :: w3 :: w2 :: .ref x :: st) h = if qm_sum st ≤ 8 ∧ qm_isK h (some (.ref x)) b = true then (match C mid [.ref x, w2, w3, w4, w5, w6] h with | some r => qm_go C X tab is ls (r.1.toList ++ st) r.2 | none => none) else none := by
  rw [qm_go_eq, qm_nx3 rfl]
  unfold qm_call
  dsimp only
  by_cases hq : qm_sum st ≤ 8 ∧ qm_isK h (some (.ref x)) b = true
  · rw [if_pos ⟨by simp, by simpa using hq.1, by simpa using hq.2⟩, if_pos hq]
    simp only [List.take, List.drop, List.reverse_cons, List.reverse_nil, List.nil_append, List.cons_append, List.take_zero, List.drop_zero]
    cases C mid [.ref x, w2, w3, w4, w5, w6] h <;> rfl
  · rw [if_neg (fun z => hq ⟨by simpa using z.2.1, by simpa using z.2.2⟩), if_neg hq]; rfl
theorem ge_ret  : qm_go C X tab ((.return_, a, b, v) :: is) ls [] h = some (none, h) := by rw [qm_go_eq, qm_nx4 rfl]; rfl
theorem ge_iret (x : Int32) : qm_go C X tab ((.ireturn, 0, b, v) :: is) ls [.int x] h = some (some (.int x), h) := by
  rw [qm_go_eq, qm_nx4 rfl]
  unfold qm_ret
  dsimp only
  rw [if_pos (Or.inl rfl)]
  rfl
theorem ge_zret (x : Int32) : qm_go C X tab ((.ireturn, 1, b, v) :: is) ls [.int x] h = if x = 0 ∨ x = 1 then some (some (.int x), h) else none := by
  rw [qm_go_eq, qm_nx4 rfl]
  unfold qm_ret
  dsimp only
  by_cases hq : x = 0 ∨ x = 1
  · rw [if_pos (Or.inr hq), if_pos hq]; rfl
  · rw [if_neg (fun z => z.elim (fun y => by cases y) hq), if_neg hq]; rfl
theorem ge_lret (x : Int64) : qm_go C X tab ((.lreturn, a, b, v) :: is) ls [.long x] h = some (some (.long x), h) := by rw [qm_go_eq, qm_nx4 rfl]; rfl
theorem ge_aretR (x : Nat) : qm_go C X tab ((.areturn, a, b, v) :: is) ls [.ref x] h = some (some (.ref x), h) := by rw [qm_go_eq, qm_nx4 rfl]; rfl
theorem ge_aretN  : qm_go C X tab ((.areturn, a, b, v) :: is) ls [.null] h = some (some .null, h) := by rw [qm_go_eq, qm_nx4 rfl]; rfl
end GOE
theorem ge_ld0 (v : Value) (ls : List Slot) : qm_ld (.val v :: ls) 0 = some v := rfl
theorem ge_lds (x : Slot) (ls : List Slot) (n : Nat) : qm_ld (x :: ls) (n + 1) = qm_ld ls n := by simp [qm_ld]
theorem ge_sum0 : qm_sum [] = 0 := rfl
theorem ge_sumI (x : Int32) (st : List Value) : qm_sum (.int x :: st) = 1 + qm_sum st := by simp [qm_sum, Value.category]
theorem ge_sumL (x : Int64) (st : List Value) : qm_sum (.long x :: st) = 2 + qm_sum st := by simp [qm_sum, Value.category]
theorem ge_sumR (x : Nat) (st : List Value) : qm_sum (.ref x :: st) = 1 + qm_sum st := by simp [qm_sum, Value.category]
theorem ge_sumN (st : List Value) : qm_sum (.null :: st) = 1 + qm_sum st := by simp [qm_sum, Value.category]
theorem ge_st0 (x : Slot) (ls : List Slot) (v : Value) : qm_st1 (x :: ls) 0 v = .val v :: ls := rfl
theorem ge_st1 (x y : Slot) (ls : List Slot) (v : Value) : qm_st1 (x :: y :: ls) 1 v = (match x with | .val (.long _) => .unset | x => x) :: .val v :: ls := by
  unfold qm_st1 qm_cut
  cases x with
  | val w => cases w <;> rfl
  | _ => rfl
theorem ge_st2 (x y : Slot) (ls : List Slot) (n : Nat) (v : Value) : qm_st1 (x :: y :: ls) (n + 2) v = x :: qm_st1 (y :: ls) (n + 1) v := by
  unfold qm_st1 qm_cut
  simp only [List.getElem?_cons_succ]
  split <;> simp
theorem ge_su0 (x y : Slot) (ls : List Slot) (v : Value) : qm_st2 (x :: y :: ls) 0 v = .val v :: .unset :: ls := rfl
theorem ge_su1 (x y z : Slot) (ls : List Slot) (v : Value) : qm_st2 (x :: y :: z :: ls) 1 v = (match x with | .val (.long _) => .unset | x => x) :: .val v :: .unset :: ls := by
  unfold qm_st2 qm_cut
  cases x with
  | val w => cases w <;> rfl
  | _ => rfl
theorem ge_su2 (x y : Slot) (ls : List Slot) (n : Nat) (v : Value) : qm_st2 (x :: y :: ls) (n + 2) v = x :: qm_st2 (y :: ls) (n + 1) v := by
  unfold qm_st2 qm_cut
  simp only [List.getElem?_cons_succ]
  split <;> simp
theorem ge_ap1 (x : Value) (l : List Value) : (some x).toList ++ l = x :: l := rfl
theorem ge_ap0 (l : List Value) : (none : Option Value).toList ++ l = l := rfl
theorem qm_ex_eq (M : qm_Ms) (X : qm_X) (d mid : Nat) (args : List Value) (h : qm_H) : qm_ex M X (d + 1) mid args h = if qm_aok args (M mid).1 = true then qm_go (qm_ex M X d) X (M mid).2 (qm_lk (M mid).2 0) (qm_ent args (M mid).1) [] h else none := rfl

