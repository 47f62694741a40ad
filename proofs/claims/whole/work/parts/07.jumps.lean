section QMQ
variable {p : Program} {l : Launch} {e : Env} {R : Room} {s : State} {m : MethodId} {args : Array Value} {below : List Frame} {meth : Method} {c : Code} {H : Heap} {locs : List Loc} {cells slots : Nat} {Q : State → Prop} {cc : ByteArray} {pc len o : Nat} {ini : Bool} {rt : Option FieldType} {i : Instr} {u : qm_I} {ls ls' : List Slot} {st st' : List Value} {ar : Array Slot}
theorem qm_pure_ok (hx : p.tables.exec = Jvm.exec) (hb : c.code = cc) (hown : s.vm.findClass (qm_own o) = some m.cls) (hts : ∀ w ∈ qm_tb, w.before args s = true) (hd : decode cc pc = .ok (i, len)) (hn : qm_nrm o ini rt pc i len u = true) (hp : qm_pure u ls st = some (ls', st')) (k : qm_PW p l e R s m args below meth c H locs cells slots Q (pc + len) ls' st') : qm_PW p l e R s m args below meth c H locs cells slots Q pc ls st := by
  cases i with
  | iconst n => exact qm_p_iconst hx hb hown hts hd hn hp k
  | bipush n => exact qm_p_bipush hx hb hown hts hd hn hp k
  | sipush n => exact qm_p_sipush hx hb hown hts hd hn hp k
  | ldc n => exact qm_p_ldc hx hb hown hts hd hn hp k
  | ldc_w n => exact qm_p_ldcw hx hb hown hts hd hn hp k
  | lconst n => exact qm_p_lconst hx hb hown hts hd hn hp k
  | ldc2_w n => exact qm_p_ldc2 hx hb hown hts hd hn hp k
  | aconst_null => exact qm_p_null hx hb hown hts hd hn hp k
  | iload_n n => exact qm_p_iload_n hx hb hown hts hd hn hp k
  | iload n => exact qm_p_iload hx hb hown hts hd hn hp k
  | lload_n n => exact qm_p_lload_n hx hb hown hts hd hn hp k
  | lload n => exact qm_p_lload hx hb hown hts hd hn hp k
  | aload_n n => exact qm_p_aload_n hx hb hown hts hd hn hp k
  | aload n => exact qm_p_aload hx hb hown hts hd hn hp k
  | istore_n n => exact qm_p_istore_n hx hb hown hts hd hn hp k
  | istore n => exact qm_p_istore hx hb hown hts hd hn hp k
  | lstore_n n => exact qm_p_lstore_n hx hb hown hts hd hn hp k
  | lstore n => exact qm_p_lstore hx hb hown hts hd hn hp k
  | astore_n n => exact qm_p_astore_n hx hb hown hts hd hn hp k
  | astore n => exact qm_p_astore hx hb hown hts hd hn hp k
  | iinc n d => exact qm_p_iinc hx hb hown hts hd hn hp k
  | iadd => exact qm_p_iadd hx hb hown hts hd hn hp k
  | isub => exact qm_p_isub hx hb hown hts hd hn hp k
  | imul => exact qm_p_imul hx hb hown hts hd hn hp k
  | iand => exact qm_p_iand hx hb hown hts hd hn hp k
  | ior => exact qm_p_ior hx hb hown hts hd hn hp k
  | ixor => exact qm_p_ixor hx hb hown hts hd hn hp k
  | ishl => exact qm_p_ishl hx hb hown hts hd hn hp k
  | ishr => exact qm_p_ishr hx hb hown hts hd hn hp k
  | iushr => exact qm_p_iushr hx hb hown hts hd hn hp k
  | idiv => exact qm_p_idiv hx hb hown hts hd hn hp k
  | irem => exact qm_p_irem hx hb hown hts hd hn hp k
  | ineg => exact qm_p_ineg hx hb hown hts hd hn hp k
  | i2l => exact qm_p_i2l hx hb hown hts hd hn hp k
  | l2i => exact qm_p_l2i hx hb hown hts hd hn hp k
  | lneg => exact qm_p_lneg hx hb hown hts hd hn hp k
  | ladd => exact qm_p_ladd hx hb hown hts hd hn hp k
  | lsub => exact qm_p_lsub hx hb hown hts hd hn hp k
  | lmul => exact qm_p_lmul hx hb hown hts hd hn hp k
  | lcmp => exact qm_p_lcmp hx hb hown hts hd hn hp k
  | ldiv => exact qm_p_ldiv hx hb hown hts hd hn hp k
  | dup => exact qm_p_dup hx hb hown hts hd hn hp k
  | pop => exact qm_p_pop hx hb hown hts hd hn hp k
  | dup2 => exact qm_p_dup2 hx hb hown hts hd hn hp k
  | aaload => simp only [qm_nrm, decide_eq_true_eq] at hn; obtain ⟨-, rfl⟩ := hn; cases hp
  | aastore => simp only [qm_nrm, decide_eq_true_eq] at hn; obtain ⟨-, rfl⟩ := hn; cases hp
  | arraylength => simp only [qm_nrm, decide_eq_true_eq] at hn; obtain ⟨-, rfl⟩ := hn; cases hp
  | iaload => simp only [qm_nrm, decide_eq_true_eq] at hn; obtain ⟨-, rfl⟩ := hn; cases hp
  | iastore => simp only [qm_nrm, decide_eq_true_eq] at hn; obtain ⟨-, rfl⟩ := hn; cases hp
  | laload => simp only [qm_nrm, decide_eq_true_eq] at hn; obtain ⟨-, rfl⟩ := hn; cases hp
  | lastore => simp only [qm_nrm, decide_eq_true_eq] at hn; obtain ⟨-, rfl⟩ := hn; cases hp
  | goto t => simp only [qm_nrm, decide_eq_true_eq] at hn; obtain ⟨-, -, rfl⟩ := hn; cases hp
  | ifCond cd t => simp only [qm_nrm, decide_eq_true_eq] at hn; obtain ⟨-, -, rfl⟩ := hn; cases hp
  | if_icmp cd t => simp only [qm_nrm, decide_eq_true_eq] at hn; obtain ⟨-, -, rfl⟩ := hn; cases hp
  | ifnull t => simp only [qm_nrm, decide_eq_true_eq] at hn; obtain ⟨-, -, rfl⟩ := hn; cases hp
  | ifnonnull t => simp only [qm_nrm, decide_eq_true_eq] at hn; obtain ⟨-, -, rfl⟩ := hn; cases hp
  | newarray t => simp only [qm_nrm, decide_eq_true_eq] at hn; obtain ⟨-, -, rfl⟩ := hn; cases hp
  | return_ => simp only [qm_nrm, decide_eq_true_eq] at hn; obtain ⟨-, -, rfl⟩ := hn; cases hp
  | lreturn => simp only [qm_nrm, decide_eq_true_eq] at hn; obtain ⟨-, -, rfl⟩ := hn; cases hp
  | areturn => simp only [qm_nrm, decide_eq_true_eq] at hn; obtain ⟨-, -, rfl⟩ := hn; cases hp
  | tableswitch d lo hi offs => simp only [qm_nrm, decide_eq_true_eq] at hn; obtain ⟨rfl, -⟩ := hn; cases hp
  | lookupswitch d ps => simp only [qm_nrm, decide_eq_true_eq] at hn; obtain ⟨rfl, -⟩ := hn; cases hp
  | getfield n => simp only [qm_nrm] at hn; obtain ⟨q, hq, hn⟩ := List.any_eq_true.mp hn; simp only [decide_eq_true_eq] at hn; obtain ⟨-, -, -, rfl⟩ := hn; cases hp
  | new n => simp only [qm_nrm] at hn; obtain ⟨q, hq, hn⟩ := List.any_eq_true.mp hn; simp only [decide_eq_true_eq] at hn; obtain ⟨-, -, -, rfl⟩ := hn; cases hp
  | anewarray n => simp only [qm_nrm] at hn; obtain ⟨q, hq, hn⟩ := List.any_eq_true.mp hn; simp only [decide_eq_true_eq] at hn; obtain ⟨-, -, -, rfl⟩ := hn; cases hp
  | putfield n => simp only [qm_nrm] at hn; obtain ⟨q, hq, hn⟩ := List.any_eq_true.mp hn; simp only [decide_eq_true_eq] at hn; obtain ⟨-, -, -, hu, -⟩ := hn; rw [hu] at hp; cases hp
  | invokevirtual n => simp only [qm_nrm] at hn; obtain ⟨q, hq, hn⟩ := List.any_eq_true.mp hn; simp only [decide_eq_true_eq] at hn; obtain ⟨-, -, -, -, rfl⟩ := hn; cases hp
  | invokestatic n =>
    simp only [qm_nrm, Bool.or_eq_true] at hn
    rcases hn with (hn | hn) | hn
    · obtain ⟨q, hq, hn⟩ := List.any_eq_true.mp hn; simp only [decide_eq_true_eq] at hn; obtain ⟨-, -, -, -, rfl⟩ := hn; cases hp
    · obtain ⟨q, hq, hn⟩ := List.any_eq_true.mp hn; simp only [decide_eq_true_eq] at hn; obtain ⟨-, -, -, rfl⟩ := hn; cases hp
    · obtain ⟨q, hq, hn⟩ := List.any_eq_true.mp hn; simp only [decide_eq_true_eq] at hn; obtain ⟨-, -, -, rfl⟩ := hn; cases hp
  | invokespecial n =>
    simp only [qm_nrm, Bool.or_eq_true] at hn
    rcases hn with hn | hn
    · obtain ⟨q, hq, hn⟩ := List.any_eq_true.mp hn; simp only [decide_eq_true_eq] at hn; obtain ⟨-, -, -, -, rfl⟩ := hn; cases hp
    · obtain ⟨q, hq, hn⟩ := List.any_eq_true.mp hn; simp only [decide_eq_true_eq] at hn; obtain ⟨-, -, -, rfl⟩ := hn; cases hp
  | ireturn =>
    simp only [qm_nrm, decide_eq_true_eq] at hn
    obtain ⟨-, hn⟩ := hn
    rcases hn with ⟨-, rfl⟩ | ⟨-, rfl⟩ <;> cases hp
  | _ => cases hn
theorem qm_tgt {a : Int} (h : 0 ≤ a) : a = ((a.toNat : Nat) : Int) := (Int.toNat_of_nonneg h).symm
theorem qm_if_t {q : Prop} [Decidable q] {t : Int} (h : q) : qm_if q t = some t := by simp [qm_if, h]
theorem qm_if_f {q : Prop} [Decidable q] {t : Int} (h : ¬ q) : qm_if q t = none := by simp [qm_if, h]
theorem qm_sw_ls (pc : Nat) (d : Int) (x : Int32) : ∀ ps : List (Int × Int), qm_sw (ps.map (fun q => (q.1, (pc : Int) + q.2))) (pc + d) x = pc + Op.lookupswitch.offset ps d x.toInt
  | [] => rfl
  | (a, b) :: r => by
    have ih := qm_sw_ls pc d x r
    simp only [List.map_cons, qm_sw, Op.lookupswitch.offset]
    by_cases h : x.toInt = a
    · simp [h]
    · simp [h, ih, eq_comm]
      exact fun q => absurd q.symm h
theorem qm_sw_ts (pc : Nat) (d : Int) (x : Int32) : ∀ (os : List Int) (lo : Int), (x.toInt < lo ∨ lo + os.length ≤ x.toInt → qm_sw (qm_tsw pc lo os) (pc + d) x = pc + d) ∧ (∀ off : Int, lo ≤ x.toInt → os[(x.toInt - lo).toNat]? = some off → qm_sw (qm_tsw pc lo os) (pc + d) x = pc + off)
  | [], lo => ⟨fun _ => rfl, fun off _ h => by simp at h⟩
  | a :: r, lo => by
    obtain ⟨h1, h2⟩ := qm_sw_ts pc d x r (lo + 1)
    refine ⟨fun h => ?_, fun off h h3 => ?_⟩
    · rw [qm_tsw, qm_sw]
      have hl : ((a :: r).length : Int) = r.length + 1 := by simp
      rw [hl] at h
      rw [if_neg (by omega)]
      exact h1 (by omega)
    · rw [qm_tsw, qm_sw]
      by_cases hx : x.toInt = lo
      · rw [if_pos hx]
        rw [hx, Int.sub_self] at h3
        simp at h3
        rw [h3]
      · rw [if_neg hx]
        refine h2 off (by omega) ?_
        rw [show (x.toInt - lo).toNat = (x.toInt - (lo + 1)).toNat + 1 by omega] at h3
        simpa using h3
theorem qm_jump_ok (hx : p.tables.exec = Jvm.exec) (hb : c.code = cc) (hd : decode cc pc = .ok (i, len)) (hn : qm_nrm o ini rt pc i len u = true) {t : Option Int} (hj : qm_jump u st = some (t, st')) (kt : ∀ a : Int, t = some a → 0 ≤ a → W p l e R s m args below meth c H locs cells slots Q (F0 m a.toNat ar st')) (kf : t = none → W p l e R s m args below meth c H locs cells slots Q (F0 m (pc + len) ar st')) : W p l e R s m args below meth c H locs cells slots Q (F0 m pc ar st) := by
  cases i with
  | goto a =>
    simp only [qm_nrm, decide_eq_true_eq] at hn
    obtain ⟨rfl, h0, rfl⟩ := hn
    cases hj
    exact lv_goto hx hb hd (qm_tgt h0) (kt _ rfl h0)
  | ifnull a =>
    simp only [qm_nrm, decide_eq_true_eq] at hn
    obtain ⟨rfl, h0, rfl⟩ := hn
    simp only [qm_jump] at hj
    split at hj
    · cases hj
      exact lv_ifnullN hx hb hd (qm_tgt h0) (kt _ rfl h0)
    · cases hj
      exact lv_ifnull hx hb hd (kf rfl)
    · cases hj
  | ifnonnull a =>
    simp only [qm_nrm, decide_eq_true_eq] at hn
    obtain ⟨rfl, h0, rfl⟩ := hn
    simp only [qm_jump] at hj
    split at hj
    · cases hj
      exact lv_ifnonnullN hx hb hd (kf rfl)
    · cases hj
      exact lv_ifnonnull hx hb hd (qm_tgt h0) (kt _ rfl h0)
    · cases hj
  | ifCond cd a =>
    simp only [qm_nrm, decide_eq_true_eq] at hn
    obtain ⟨rfl, h0, rfl⟩ := hn
    cases cd <;> simp only [qm_jump] at hj <;> split at hj <;> cases hj
    · exact lv_if_eq hx hb hd (qm_tgt h0) (fun h => kt _ (qm_if_t h) h0) (fun h => kf (qm_if_f h))
    · exact lv_if_ne hx hb hd (qm_tgt h0) (fun h => kt _ (qm_if_t h) h0) (fun h => kf (qm_if_f (fun z => z h)))
    · exact lv_if_lt hx hb hd (qm_tgt h0) (fun h => kt _ (qm_if_t h) h0) (fun h => kf (qm_if_f h))
    · exact lv_if_ge hx hb hd (qm_tgt h0) (fun h => kt _ (qm_if_t h) h0) (fun h => kf (qm_if_f h))
    · exact lv_if_gt hx hb hd (qm_tgt h0) (fun h => kt _ (qm_if_t h) h0) (fun h => kf (qm_if_f h))
    · exact lv_if_le hx hb hd (qm_tgt h0) (fun h => kt _ (qm_if_t h) h0) (fun h => kf (qm_if_f h))
  | if_icmp cd a =>
    simp only [qm_nrm, decide_eq_true_eq] at hn
    obtain ⟨rfl, h0, rfl⟩ := hn
    cases cd <;> simp only [qm_jump] at hj <;> split at hj <;> cases hj
    · exact lv_icmp_eq hx hb hd (qm_tgt h0) (fun h => kt _ (qm_if_t h) h0) (fun h => kf (qm_if_f h))
    · exact lv_icmp_ne hx hb hd (qm_tgt h0) (fun h => kt _ (qm_if_t h) h0) (fun h => kf (qm_if_f (fun z => z h)))
    · exact lv_icmp_lt hx hb hd (qm_tgt h0) (fun h => kt _ (qm_if_t h) h0) (fun h => kf (qm_if_f h))
    · exact lv_icmp_ge hx hb hd (qm_tgt h0) (fun h => kt _ (qm_if_t h) h0) (fun h => kf (qm_if_f h))
    · exact lv_icmp_gt hx hb hd (qm_tgt h0) (fun h => kt _ (qm_if_t h) h0) (fun h => kf (qm_if_f h))
    · exact lv_icmp_le hx hb hd (qm_tgt h0) (fun h => kt _ (qm_if_t h) h0) (fun h => kf (qm_if_f h))
  | lookupswitch d ps =>
    simp only [qm_nrm, decide_eq_true_eq] at hn
    obtain ⟨rfl, h0, h1, h2⟩ := hn
    simp only [qm_jump] at hj
    split at hj
    · rename_i x r
      cases hj
      have hs := qm_sw_ls pc d x ps.toList
      have hnn : 0 ≤ (pc : Int) + Op.lookupswitch.offset ps.toList d x.toInt := by
        rw [← hs]
        have gen : ∀ (l : List (Int × Int)) (b : Int), 0 ≤ b → (∀ q ∈ l, 0 ≤ q.2) → 0 ≤ qm_sw l b x := by
          intro l
          induction l with
          | nil => intro b hb0 _; exact hb0
          | cons q l ih =>
            intro b hb0 hq
            obtain ⟨a1, a2⟩ := q
            rw [qm_sw]
            by_cases hxa : x.toInt = a1
            · rw [if_pos hxa]; exact hq (a1, a2) List.mem_cons_self
            · rw [if_neg hxa]; exact ih b hb0 (fun y hy => hq y (List.mem_cons_of_mem _ hy))
        refine gen _ _ h0 (fun q hq => ?_)
        obtain ⟨q0, hq0, rfl⟩ := List.mem_map.mp hq
        have := List.all_eq_true.mp h1 q0 hq0
        simpa using this
      refine lv_lookup hx hb hd h2 rfl (qm_tgt hnn) ?_
      refine kt _ ?_ hnn
      rw [← hs]
    · cases hj
  | tableswitch d lo hi offs =>
    simp only [qm_nrm, decide_eq_true_eq] at hn
    obtain ⟨rfl, hhi, h0, h1⟩ := hn
    simp only [qm_jump] at hj
    split at hj
    · rename_i x r
      cases hj
      obtain ⟨g1, g2⟩ := qm_sw_ts pc d x offs.toList lo
      by_cases hin : x.toInt < lo ∨ hi < x.toInt
      · have hs := g1 (by omega)
        refine lv_tableOut hx hb hd hin (qm_tgt h0) ?_
        exact kt _ (by simp only [hs]) h0
      · have hlt : (x.toInt - lo).toNat < offs.toList.length := by omega
        obtain ⟨off, hoff⟩ : ∃ off, offs.toList[(x.toInt - lo).toNat]? = some off := ⟨_, List.getElem?_eq_getElem hlt⟩
        have hs := g2 off (by omega) hoff
        have hnn : 0 ≤ (pc : Int) + off := by
          have := List.all_eq_true.mp h1 off (List.mem_of_getElem? hoff)
          simpa using this
        refine lv_tableIn hx hb hd (by omega) (by omega) (by rw [← hoff]; simp) (qm_tgt hnn) ?_
        exact kt _ (by simp only [hs]) hnn
    · cases hj
  | iconst n => simp only [qm_nrm, decide_eq_true_eq] at hn; obtain ⟨-, rfl⟩ := hn; cases hj
  | bipush n => simp only [qm_nrm, decide_eq_true_eq] at hn; obtain ⟨-, rfl⟩ := hn; cases hj
  | sipush n => simp only [qm_nrm, decide_eq_true_eq] at hn; obtain ⟨-, rfl⟩ := hn; cases hj
  | ldc n => simp only [qm_nrm] at hn; obtain ⟨q, hq, hn⟩ := List.any_eq_true.mp hn; simp only [decide_eq_true_eq] at hn; obtain ⟨-, -, -, rfl⟩ := hn; cases hj
  | ldc_w n => simp only [qm_nrm] at hn; obtain ⟨q, hq, hn⟩ := List.any_eq_true.mp hn; simp only [decide_eq_true_eq] at hn; obtain ⟨-, -, -, rfl⟩ := hn; cases hj
  | lconst n => simp only [qm_nrm, decide_eq_true_eq] at hn; obtain ⟨-, rfl⟩ := hn; cases hj
  | ldc2_w n => simp only [qm_nrm] at hn; obtain ⟨q, hq, hn⟩ := List.any_eq_true.mp hn; simp only [decide_eq_true_eq] at hn; obtain ⟨-, -, -, rfl⟩ := hn; cases hj
  | aconst_null => simp only [qm_nrm, decide_eq_true_eq] at hn; obtain ⟨-, rfl⟩ := hn; cases hj
  | iload_n n => simp only [qm_nrm, decide_eq_true_eq] at hn; obtain ⟨-, rfl⟩ := hn; cases hj
  | iload n => simp only [qm_nrm, decide_eq_true_eq] at hn; obtain ⟨-, rfl⟩ := hn; cases hj
  | lload_n n => simp only [qm_nrm, decide_eq_true_eq] at hn; obtain ⟨-, rfl⟩ := hn; cases hj
  | lload n => simp only [qm_nrm, decide_eq_true_eq] at hn; obtain ⟨-, rfl⟩ := hn; cases hj
  | aload_n n => simp only [qm_nrm, decide_eq_true_eq] at hn; obtain ⟨-, rfl⟩ := hn; cases hj
  | aload n => simp only [qm_nrm, decide_eq_true_eq] at hn; obtain ⟨-, rfl⟩ := hn; cases hj
  | istore_n n => simp only [qm_nrm, decide_eq_true_eq] at hn; obtain ⟨-, rfl⟩ := hn; cases hj
  | istore n => simp only [qm_nrm, decide_eq_true_eq] at hn; obtain ⟨-, rfl⟩ := hn; cases hj
  | lstore_n n => simp only [qm_nrm, decide_eq_true_eq] at hn; obtain ⟨-, rfl⟩ := hn; cases hj
  | lstore n => simp only [qm_nrm, decide_eq_true_eq] at hn; obtain ⟨-, rfl⟩ := hn; cases hj
  | astore_n n => simp only [qm_nrm, decide_eq_true_eq] at hn; obtain ⟨-, rfl⟩ := hn; cases hj
  | astore n => simp only [qm_nrm, decide_eq_true_eq] at hn; obtain ⟨-, rfl⟩ := hn; cases hj
  | iinc n d => simp only [qm_nrm, decide_eq_true_eq] at hn; obtain ⟨-, rfl⟩ := hn; cases hj
  | iadd => simp only [qm_nrm, decide_eq_true_eq] at hn; obtain ⟨-, rfl⟩ := hn; cases hj
  | isub => simp only [qm_nrm, decide_eq_true_eq] at hn; obtain ⟨-, rfl⟩ := hn; cases hj
  | imul => simp only [qm_nrm, decide_eq_true_eq] at hn; obtain ⟨-, rfl⟩ := hn; cases hj
  | iand => simp only [qm_nrm, decide_eq_true_eq] at hn; obtain ⟨-, rfl⟩ := hn; cases hj
  | ior => simp only [qm_nrm, decide_eq_true_eq] at hn; obtain ⟨-, rfl⟩ := hn; cases hj
  | ixor => simp only [qm_nrm, decide_eq_true_eq] at hn; obtain ⟨-, rfl⟩ := hn; cases hj
  | ishl => simp only [qm_nrm, decide_eq_true_eq] at hn; obtain ⟨-, rfl⟩ := hn; cases hj
  | ishr => simp only [qm_nrm, decide_eq_true_eq] at hn; obtain ⟨-, rfl⟩ := hn; cases hj
  | iushr => simp only [qm_nrm, decide_eq_true_eq] at hn; obtain ⟨-, rfl⟩ := hn; cases hj
  | idiv => simp only [qm_nrm, decide_eq_true_eq] at hn; obtain ⟨-, rfl⟩ := hn; cases hj
  | irem => simp only [qm_nrm, decide_eq_true_eq] at hn; obtain ⟨-, rfl⟩ := hn; cases hj
  | ineg => simp only [qm_nrm, decide_eq_true_eq] at hn; obtain ⟨-, rfl⟩ := hn; cases hj
  | i2l => simp only [qm_nrm, decide_eq_true_eq] at hn; obtain ⟨-, rfl⟩ := hn; cases hj
  | l2i => simp only [qm_nrm, decide_eq_true_eq] at hn; obtain ⟨-, rfl⟩ := hn; cases hj
  | lneg => simp only [qm_nrm, decide_eq_true_eq] at hn; obtain ⟨-, rfl⟩ := hn; cases hj
  | ladd => simp only [qm_nrm, decide_eq_true_eq] at hn; obtain ⟨-, rfl⟩ := hn; cases hj
  | lsub => simp only [qm_nrm, decide_eq_true_eq] at hn; obtain ⟨-, rfl⟩ := hn; cases hj
  | lmul => simp only [qm_nrm, decide_eq_true_eq] at hn; obtain ⟨-, rfl⟩ := hn; cases hj
  | lcmp => simp only [qm_nrm, decide_eq_true_eq] at hn; obtain ⟨-, rfl⟩ := hn; cases hj
  | ldiv => simp only [qm_nrm, decide_eq_true_eq] at hn; obtain ⟨-, rfl⟩ := hn; cases hj
  | dup => simp only [qm_nrm, decide_eq_true_eq] at hn; obtain ⟨-, rfl⟩ := hn; cases hj
  | pop => simp only [qm_nrm, decide_eq_true_eq] at hn; obtain ⟨-, rfl⟩ := hn; cases hj
  | dup2 => simp only [qm_nrm, decide_eq_true_eq] at hn; obtain ⟨-, rfl⟩ := hn; cases hj
  | aaload => simp only [qm_nrm, decide_eq_true_eq] at hn; obtain ⟨-, rfl⟩ := hn; cases hj
  | aastore => simp only [qm_nrm, decide_eq_true_eq] at hn; obtain ⟨-, rfl⟩ := hn; cases hj
  | arraylength => simp only [qm_nrm, decide_eq_true_eq] at hn; obtain ⟨-, rfl⟩ := hn; cases hj
  | iaload => simp only [qm_nrm, decide_eq_true_eq] at hn; obtain ⟨-, rfl⟩ := hn; cases hj
  | iastore => simp only [qm_nrm, decide_eq_true_eq] at hn; obtain ⟨-, rfl⟩ := hn; cases hj
  | laload => simp only [qm_nrm, decide_eq_true_eq] at hn; obtain ⟨-, rfl⟩ := hn; cases hj
  | lastore => simp only [qm_nrm, decide_eq_true_eq] at hn; obtain ⟨-, rfl⟩ := hn; cases hj
  | newarray t => simp only [qm_nrm, decide_eq_true_eq] at hn; obtain ⟨-, -, rfl⟩ := hn; cases hj
  | return_ => simp only [qm_nrm, decide_eq_true_eq] at hn; obtain ⟨-, -, rfl⟩ := hn; cases hj
  | lreturn => simp only [qm_nrm, decide_eq_true_eq] at hn; obtain ⟨-, -, rfl⟩ := hn; cases hj
  | areturn => simp only [qm_nrm, decide_eq_true_eq] at hn; obtain ⟨-, -, rfl⟩ := hn; cases hj
  | getfield n => simp only [qm_nrm] at hn; obtain ⟨q, hq, hn⟩ := List.any_eq_true.mp hn; simp only [decide_eq_true_eq] at hn; obtain ⟨-, -, -, rfl⟩ := hn; cases hj
  | new n => simp only [qm_nrm] at hn; obtain ⟨q, hq, hn⟩ := List.any_eq_true.mp hn; simp only [decide_eq_true_eq] at hn; obtain ⟨-, -, -, rfl⟩ := hn; cases hj
  | anewarray n => simp only [qm_nrm] at hn; obtain ⟨q, hq, hn⟩ := List.any_eq_true.mp hn; simp only [decide_eq_true_eq] at hn; obtain ⟨-, -, -, rfl⟩ := hn; cases hj
  | putfield n => simp only [qm_nrm] at hn; obtain ⟨q, hq, hn⟩ := List.any_eq_true.mp hn; simp only [decide_eq_true_eq] at hn; obtain ⟨-, -, -, hu, -⟩ := hn; rw [hu] at hj; cases hj
  | invokevirtual n => simp only [qm_nrm] at hn; obtain ⟨q, hq, hn⟩ := List.any_eq_true.mp hn; simp only [decide_eq_true_eq] at hn; obtain ⟨-, -, -, -, rfl⟩ := hn; cases hj
  | invokestatic n =>
    simp only [qm_nrm, Bool.or_eq_true] at hn
    rcases hn with (hn | hn) | hn
    · obtain ⟨q, hq, hn⟩ := List.any_eq_true.mp hn; simp only [decide_eq_true_eq] at hn; obtain ⟨-, -, -, -, rfl⟩ := hn; cases hj
    · obtain ⟨q, hq, hn⟩ := List.any_eq_true.mp hn; simp only [decide_eq_true_eq] at hn; obtain ⟨-, -, -, rfl⟩ := hn; cases hj
    · obtain ⟨q, hq, hn⟩ := List.any_eq_true.mp hn; simp only [decide_eq_true_eq] at hn; obtain ⟨-, -, -, rfl⟩ := hn; cases hj
  | invokespecial n =>
    simp only [qm_nrm, Bool.or_eq_true] at hn
    rcases hn with hn | hn
    · obtain ⟨q, hq, hn⟩ := List.any_eq_true.mp hn; simp only [decide_eq_true_eq] at hn; obtain ⟨-, -, -, -, rfl⟩ := hn; cases hj
    · obtain ⟨q, hq, hn⟩ := List.any_eq_true.mp hn; simp only [decide_eq_true_eq] at hn; obtain ⟨-, -, -, rfl⟩ := hn; cases hj
  | ireturn =>
    simp only [qm_nrm, decide_eq_true_eq] at hn
    obtain ⟨-, hn⟩ := hn
    rcases hn with ⟨-, rfl⟩ | ⟨-, rfl⟩ <;> cases hj
  | _ => cases hn
end QMQ
