/-! a method's whole run -/
theorem qm_pure_len {u : qm_I} {ls ls' : List Slot} {st st' : List Value} (h : qm_pure u ls st = some (ls', st')) : ls'.length = ls.length := by
  have m9 : ∀ {x : Option (List Value)}, x.map (fun t => (ls, t)) = some (ls', st') → ls'.length = ls.length := by
    intro x hx
    obtain ⟨z, -, e⟩ := qm_map_inv hx
    cases e
    rfl
  have s1 : ∀ k v, (qm_st1 ls k v).length = ls.length := fun k v => by simp [qm_st1, qm_cut_len]
  have s2 : ∀ k v, (qm_st2 ls k v).length = ls.length := fun k v => by simp [qm_st2, qm_cut_len]
  unfold qm_pure at h
  split at h <;> first | exact m9 h | (cases h; rfl) | (split at h <;> first | (cases h; rfl) | cases h | (split at h <;> first | (cases h; rfl) | (cases h; exact s1 _ _) | (cases h; exact s2 _ _) | cases h)) | cases h
theorem qm_mk_mono (X : qm_X) (h : qm_H) (n : Nat) (x : qm_C) : h.1 ≤ (qm_mk X h n x).1 ∧ h.2.1 ≤ (qm_mk X h n x).2.1 := ⟨Nat.le_succ _, Nat.le_add_right _ _⟩
theorem qm_pf_mono {h h' : qm_H} {a ci k kd : Nat} {v : Value} (e : qm_pf h a ci k kd v = some h') : h.1 ≤ h'.1 ∧ h.2.1 ≤ h'.2.1 := by
  unfold qm_pf at e
  split at e
  · split at e
    · cases e; exact ⟨Nat.le_refl _, Nat.le_refl _⟩
    · cases e
  · cases e
theorem qm_is_mono {h h' : qm_H} {a : Nat} {i x : Int32} (e : qm_is h a i x = some h') : h.1 ≤ h'.1 ∧ h.2.1 ≤ h'.2.1 := by
  unfold qm_is at e
  split at e
  · split at e
    · cases e; exact ⟨Nat.le_refl _, Nat.le_refl _⟩
    · cases e
  · cases e
theorem qm_ls_mono {h h' : qm_H} {a : Nat} {i : Int32} {x : Int64} (e : qm_ls h a i x = some h') : h.1 ≤ h'.1 ∧ h.2.1 ≤ h'.2.1 := by
  unfold qm_ls at e
  split at e
  · split at e
    · cases e; exact ⟨Nat.le_refl _, Nat.le_refl _⟩
    · cases e
  · cases e
theorem qm_as_mono {h h' : qm_H} {a : Nat} {i : Int32} {x : Nat} (e : qm_as h a i x = some h') : h.1 ≤ h'.1 ∧ h.2.1 ≤ h'.2.1 := by
  unfold qm_as at e
  split at e
  · split at e
    · cases e; exact ⟨Nat.le_refl _, Nat.le_refl _⟩
    · cases e
  · cases e
theorem qm_cp_mono {h h' : qm_H} {a0 a1 : Nat} {sp dp n : Int32} (e : qm_cp h a0 sp a1 dp n = some h') : h.1 ≤ h'.1 ∧ h.2.1 ≤ h'.2.1 := by
  unfold qm_cp at e
  split at e
  · split at e
    · cases e; exact ⟨Nat.le_refl _, Nat.le_refl _⟩
    · cases e
  · cases e
theorem qm_heap_mono {X : qm_X} {u : qm_I} {st st' : List Value} {h h' : qm_H} (e : qm_heap X u st h = some (st', h')) : h.1 ≤ h'.1 ∧ h.2.1 ≤ h'.2.1 := by
  have r9 : h.1 ≤ h.1 ∧ h.2.1 ≤ h.2.1 := ⟨Nat.le_refl _, Nat.le_refl _⟩
  have m9 : ∀ {α : Type} {x : Option α} {f : α → List Value}, x.map (fun v => (f v, h)) = some (st', h') → h.1 ≤ h'.1 ∧ h.2.1 ≤ h'.2.1 := by
    intro α x f hx
    obtain ⟨z, -, e⟩ := qm_map_inv hx
    cases e
    exact r9
  have g9 : ∀ {x : Option qm_H} {r : List Value}, (∀ y, x = some y → h.1 ≤ y.1 ∧ h.2.1 ≤ y.2.1) → x.map (fun h => (r, h)) = some (st', h') → h.1 ≤ h'.1 ∧ h.2.1 ≤ h'.2.1 := by
    intro x r hy hx
    obtain ⟨z, hz, e⟩ := qm_map_inv hx
    cases e
    exact hy _ hz
  unfold qm_heap at e
  split at e
  · split at e
    · exact m9 e
    · cases e
  · split at e
    · exact g9 (fun y hy => qm_pf_mono hy) e
    · cases e
  · split at e
    · exact m9 e
    · cases e
  · split at e
    · exact g9 (fun y hy => qm_is_mono hy) e
    · cases e
  · split at e
    · exact m9 e
    · cases e
  · split at e
    · exact g9 (fun y hy => qm_ls_mono hy) e
    · cases e
  · split at e
    · exact m9 e
    · cases e
  · split at e
    · exact g9 (fun y hy => qm_as_mono hy) e
    · cases e
  · split at e
    · exact m9 e
    · cases e
  · obtain ⟨z, hz, e⟩ := qm_map_inv e
    cases e
    exact qm_mk_mono _ _ _ _
  · split at e
    · split at e
      · cases e; exact qm_mk_mono _ _ _ _
      · cases e
    · cases e
  · split at e
    · split at e
      · cases e; exact qm_mk_mono _ _ _ _
      · cases e
    · cases e
  · split at e
    · split at e
      · cases e; exact qm_mk_mono _ _ _ _
      · cases e
    · cases e
  · split at e
    · split at e
      · cases e; exact r9
      · cases e
    · cases e
  · split at e
    · split at e
      · exact g9 (fun y hy => qm_cp_mono hy) e
      · cases e
    · cases e
  · split at e
    · split at e
      · cases e; exact r9
      · cases e
    · cases e
  · cases e
theorem qm_call_mono {Cal : qm_Cal} (hmo : qm_Mono Cal) {u : qm_I} {is is' : List qm_I} {ls ls' : List Slot} {st st' : List Value} {h h' : qm_H} (e : qm_call Cal u is ls st h = some (is', ls', st', h')) : h.1 ≤ h'.1 ∧ h.2.1 ≤ h'.2.1 := by
  unfold qm_call at e
  split at e
  · split at e
    · obtain ⟨z, hz, e⟩ := qm_map_inv e
      cases e
      exact hmo _ _ _ _ hz
    · cases e
  · split at e
    · obtain ⟨z, hz, e⟩ := qm_map_inv e
      cases e
      exact hmo _ _ _ _ hz
    · cases e
  · cases e
theorem qm_ret_same {u : qm_I} {st : List Value} {h : qm_H} {rr : qm_R} (e : qm_ret u st h = some rr) : rr.2 = h := by
  unfold qm_ret at e
  split at e
  · split at e
    · cases e; rfl
    · cases e
  · split at e
    · split at e
      · cases e; rfl
      · cases e
    · cases e
  · split at e
    · cases e; rfl
    · cases e
  · split at e
    · cases e; rfl
    · cases e; rfl
    · cases e
  · cases e
/-- the five kinds of a step -/
theorem qm_nx_inv {C : qm_Cal} {X : qm_X} {tab : qm_T} {i : qm_I} {is : List qm_I} {ls : List Slot} {st : List Value} {h : qm_H} {y : qm_R ⊕ qm_S} (e : qm_nx C X tab i is ls st h = some y) :
    (∃ ls' st', qm_pure i ls st = some (ls', st') ∧ y = .inr (is, ls', st', h)) ∨ (∃ t st', qm_jump i st = some (t, st') ∧ y = .inr ((match t with | some t => qm_lk tab t | none => is), ls, st', h)) ∨ (∃ st' h', qm_heap X i st h = some (st', h') ∧ y = .inr (is, ls, st', h')) ∨ (∃ is' ls' st' h', qm_call C i is ls st h = some (is', ls', st', h') ∧ y = .inr (is', ls', st', h')) ∨ ∃ rr, qm_ret i st h = some rr ∧ y = .inl rr := by
  unfold qm_nx at e
  split at e
  · obtain ⟨z, hz, e⟩ := qm_map_inv e
    exact Or.inl ⟨z.1, z.2, hz, e.symm⟩
  · split at e
    · obtain ⟨z, hz, e⟩ := qm_map_inv e
      exact Or.inr (Or.inl ⟨z.1, z.2, hz, e.symm⟩)
    · split at e
      · obtain ⟨z, hz, e⟩ := qm_map_inv e
        exact Or.inr (Or.inr (Or.inl ⟨z.1, z.2, hz, e.symm⟩))
      · split at e
        · obtain ⟨z, hz, e⟩ := qm_map_inv e
          exact Or.inr (Or.inr (Or.inr (Or.inl ⟨z.1, z.2.1, z.2.2.1, z.2.2.2, hz, e.symm⟩)))
        · obtain ⟨z, hz, e⟩ := qm_map_inv e
          exact Or.inr (Or.inr (Or.inr (Or.inr ⟨z, hz, e.symm⟩)))
theorem qm_run_grows {Cal : qm_Cal} (hmo : qm_Mono Cal) (X : qm_X) (tab : qm_T) : ∀ (n : Nat) (is : List qm_I) (ls : List Slot) (st : List Value) (h : qm_H) (rr : qm_R), qm_run Cal X tab n (is, ls, st, h) = some rr → h.1 ≤ rr.2.1 ∧ h.2.1 ≤ rr.2.2.1
  | 0, _, _, _, _, _, e => by cases e
  | n + 1, [], _, _, _, _, e => by cases e
  | n + 1, i :: is, ls, st, h, rr, e => by
    rw [qm_run] at e
    cases hx : qm_nx Cal X tab i is ls st h with
    | none => rw [hx] at e; cases e
    | some y =>
      rw [hx] at e
      rcases qm_nx_inv hx with ⟨ls', st', h1, rfl⟩ | ⟨t, st', h1, rfl⟩ | ⟨st', h', h1, rfl⟩ | ⟨is', ls', st', h', h1, rfl⟩ | ⟨r1, h1, rfl⟩
      · exact qm_run_grows hmo X tab n _ _ _ _ rr e
      · exact qm_run_grows hmo X tab n _ _ _ _ rr e
      · have g := qm_run_grows hmo X tab n _ _ _ _ rr e
        have g2 := qm_heap_mono h1
        exact ⟨Nat.le_trans g2.1 g.1, Nat.le_trans g2.2 g.2⟩
      · have g := qm_run_grows hmo X tab n _ _ _ _ rr e
        have g2 := qm_call_mono hmo h1
        exact ⟨Nat.le_trans g2.1 g.1, Nat.le_trans g2.2 g.2⟩
      · cases e
        rw [qm_ret_same h1]
        exact ⟨Nat.le_refl _, Nat.le_refl _⟩
section QMR
variable {p : Program} {l : Launch} {e : Env} {R : Room} {s : State} {m : MethodId} {args : Array Value} {below : List Frame} {meth : Method} {c : Code} {Q : State → Prop} {cc : ByteArray} {o nL d : Nat} {ini : Bool} {rt : Option FieldType} {D : va_G} {dA : Nat → ClassId} {X : qm_X} {h0 : qm_H} {Cal : qm_Cal} {tab : qm_T} {rr : qm_R}
/-- the machine's run of a method is the JVM's -/
theorem qm_run_gen (C : qm_Cx p R s m args meth c cc nL o ini rt D dA X h0) (hM : qm_MetAll l D dA X d Cal) (hmo : qm_Mono Cal) (hfr : d + 1 ≤ R.frames) (hlo : 60 * d + 60 ≤ R.locals) (htab : ∀ t : Int, 0 ≤ t → qm_chain o ini rt cc t.toNat (qm_lk tab t)) (hRc : rr.2.1 - h0.1 ≤ R.cells) (hRs : rr.2.2.1 - h0.2.1 ≤ R.slots) (hret : ∀ (i : Instr) (u : qm_I) (pc len : Nat) (st : List Value) (ar : Array Slot), decode cc pc = .ok (i, len) → qm_nrm o ini rt pc i len u = true → qm_ret u st rr.2 = some rr → qm_K p l e R s m args below meth c Q D dA X h0 rr.2 pc ar st) : ∀ (n : Nat) (is : List qm_I) (ls : List Slot) (st : List Value) (h : qm_H) (pc : Nat), qm_chain o ini rt cc pc is → qm_run Cal X tab n (is, ls, st, h) = some rr → h0.1 ≤ h.1 → h0.2.1 ≤ h.2.1 → ls.length = nL → qm_nd ls → ∀ ar : Array Slot, qm_lr ar ls → qm_K p l e R s m args below meth c Q D dA X h0 h pc ar st
  | 0, _, _, _, _, _, _, er, _, _, _, _, _, _ => by cases er
  | n + 1, [], _, _, _, _, _, er, _, _, _, _, _, _ => by cases er
  | n + 1, i :: is, ls, st, h, pc, hch, er, hh, hh2, hln, hnd, ar, hlr => by
    have ih := fun is ls st h pc hch er hh hh2 hln hnd ar hlr => qm_run_gen C hM hmo hfr hlo htab hRc hRs hret n is ls st h pc hch er hh hh2 hln hnd ar hlr
    obtain ⟨i0, len, hd, hn, hch⟩ := hch
    rw [qm_run] at er
    have har : ar.size = nL := by rw [hlr.1, hln]
    cases hx : qm_nx Cal X tab i is ls st h with
    | none => rw [hx] at er; cases er
    | some y =>
      rw [hx] at er
      rcases qm_nx_inv hx with ⟨ls', st', h1, rfl⟩ | ⟨t, st', h1, rfl⟩ | ⟨st', h', h1, rfl⟩ | ⟨is', ls', st', h', h1, rfl⟩ | ⟨r1, h1, rfl⟩
      · intro H locs rep hl
        refine qm_pure_ok C.1 C.2.1 C.2.2.1 C.2.2.2.1 hd hn h1 (fun ar1 hlr1 hnd1 => ?_) ar hlr hnd
        exact ih is ls' st' h (pc + len) hch er hh hh2 (by rw [qm_pure_len h1]; exact hln) hnd1 ar1 hlr1 H locs rep hl
      · intro H locs rep hl
        refine qm_jump_ok C.1 C.2.1 hd hn h1 (fun a ha h0a => ?_) (fun ha => ?_)
        · subst ha
          exact ih _ ls st' h a.toNat (htab a h0a) er hh hh2 hln hnd ar hlr H locs rep hl
        · subst ha
          exact ih is ls st' h (pc + len) hch er hh hh2 hln hnd ar hlr H locs rep hl
      · have g := qm_run_grows hmo X tab n _ _ _ _ rr er
        have g2 := qm_heap_mono h1
        refine qm_heap_ok C har hh hh2 (by omega) (by omega) hd hn h1 ?_
        exact ih is ls st' h' (pc + len) hch er (by omega) (by omega) hln hnd ar hlr
      · have g := qm_run_grows hmo X tab n _ _ _ _ rr er
        have g2 := qm_call_mono hmo h1
        obtain ⟨rfl, rfl, -, -, hk⟩ := qm_call_ok (Q := Q) (e := e) (below := below) C hM hmo hfr hlo har hh hh2 (by omega) (by omega) hd hn h1
        refine hk ?_
        exact ih is' ls' st' h' (pc + len) hch er (by omega) (by omega) hln hnd ar hlr
      · cases er
        have e1 := qm_ret_same h1
        subst e1
        exact hret i0 i pc len st ar hd hn h1
theorem qm_run_ok (C : qm_Cx p R s m args meth c cc nL o ini rt D dA X h0) (hM : qm_MetAll l D dA X d Cal) (hmo : qm_Mono Cal) (hfr : d + 1 ≤ R.frames) (hlo : 60 * d + 60 ≤ R.locals) (htab : ∀ t : Int, 0 ≤ t → qm_chain o ini rt cc t.toNat (qm_lk tab t)) (hRc : rr.2.1 - h0.1 ≤ R.cells) (hRs : rr.2.2.1 - h0.2.1 ≤ R.slots) : ∀ (n : Nat) (is : List qm_I) (ls : List Slot) (st : List Value) (h : qm_H) (pc : Nat), qm_chain o ini rt cc pc is → qm_run Cal X tab n (is, ls, st, h) = some rr → h0.1 ≤ h.1 → h0.2.1 ≤ h.2.1 → ls.length = nL → qm_nd ls → ∀ ar : Array Slot, qm_lr ar ls → qm_K p l e R s m args below meth c (MQ below (qm_Qc D dA X rr) args s (rr.2.1 - h0.1) (rr.2.2.1 - h0.2.1) (qm_A X)) D dA X h0 h pc ar st := qm_run_gen C hM hmo hfr hlo htab hRc hRs (fun i u pc len st ar hd hn h1 => (qm_ret_ok (l := l) (e := e) (below := below) (ar := ar) C hd hn h1).2)
end QMR
theorem qm_ex_mono (M : qm_Ms) (X : qm_X) : ∀ d, qm_Mono (qm_ex M X d)
  | 0 => fun _ _ _ _ e => by cases e
  | d + 1 => fun mid as h rr e => by
    rw [qm_ex] at e
    dsimp only at e
    split at e
    · obtain ⟨n, hn⟩ := qm_go_to e
      exact qm_run_grows (qm_ex_mono M X d) X _ n _ _ _ _ rr hn
    · cases e
theorem qm_sl_at {vs : List Value} {n i : Nat} {v : Value} (h : (qm_ent vs n)[i]? = some (.val v)) : ((qm_ent vs n).toArray)[i]? = some (.val v) := by
  rw [List.getElem?_toArray]
  exact h
theorem qm_ent_nd {vs : List Value} {n : Nat} (h : vs.all qm_ndv = true) : qm_nd (qm_ent vs n) := by
  intro i x hi
  have hm := List.mem_of_getElem? hi
  unfold qm_ent at hm
  rcases List.mem_append.mp hm with hm | hm
  · unfold lg_sl at hm
    obtain ⟨v, hv, hm⟩ := List.mem_flatMap.mp hm
    have h1 := List.all_eq_true.mp h v hv
    split at hm
    · rcases List.mem_cons.mp hm with e | hm
      · cases e
        cases h1
      · rcases List.mem_cons.mp hm with e | hm
        · cases e
        · cases hm
    · rcases List.mem_cons.mp hm with e | hm
      · cases e
        cases h1
      · cases hm
  · have := List.eq_of_mem_replicate hm
    cases this
theorem qm_sound {M : qm_Ms} (hG : qm_Good M) (l : Launch) (D : va_G) (dA : Nat → ClassId) (X : qm_X) : ∀ d, qm_MetAll l D dA X d (qm_ex M X d)
  | 0 => fun _ _ _ _ er => by cases er
  | d + 1 => fun mid as h rr er x hx hpl => by
    have ih := qm_sound hG l D dA X d
    rw [qm_ex] at er
    dsimp only at er
    obtain ⟨hml0, ini, hini, htab⟩ := hG mid x hx
    have hmem := List.mem_of_getElem? hx
    obtain ⟨y, hy⟩ := qm_inf_ok x hmem
    have hy0 := hy
    unfold qm_infB at hy
    simp only [Bool.and_eq_true, decide_eq_true_eq] at hy
    have hcls : x.1.cls = qm_own x.2.2.2.2.1 := hy.1.1.1.2
    by_cases hao : qm_aok as (M mid).1 = true
    · rw [if_pos hao] at er
      rw [hml0] at hao er
      unfold qm_aok at hao
      rw [Bool.and_eq_true, decide_eq_true_eq] at hao
      refine Met.ofW (cc := x.2.1) (maxL := x.2.2.1) (ret := x.2.2.2.1) hpl rfl ?_
      intro p e s m args below meth c s₁ B hml hv
      obtain ⟨rfl, hrep, hKK⟩ := hv
      obtain ⟨n, hn⟩ := qm_go_to er
      have hts := atoms_spec (ws := qm_ws x) B.pre
      have C : qm_Cx p (headSpec (qm_ws x) (qm_rm (d + 1) (rr.2.1 - h.1) (rr.2.2.1 - h.2.1))).room s m as.toArray meth c x.2.1 x.2.2.1 x.2.2.2.2.1 ini x.2.2.2.1 D dA X h := by
        refine ⟨B.exec, B.bytes, by rw [← hcls]; exact findClass_of_methodNamed B.named, fun w hw => hts w (List.mem_cons_of_mem _ hw), hKK, hml, B.returns, B.notSynchronized, fun z => ?_, hrep.1, ?_, ?_⟩
        · rw [(name_of_methodNamed B.named B.method).1]
          exact hini z
        · show 1 ≤ d + 1
          omega
        · show 60 ≤ 60 * (d + 1)
          omega
      rw [lg_entry_eq]
      have hent := lv_entry as (n := x.2.2.1) hao.2
      have hlen : (qm_ent as x.2.2.1).length = x.2.2.1 := by
        unfold qm_ent
        rw [List.length_append, List.length_replicate]
        omega
      have hlr : qm_lr (qm_ent as x.2.2.1).toArray (qm_ent as x.2.2.1) := by
        refine ⟨by simp, hent.2.1, fun q hq => ?_⟩
        exact qm_sl_at (qm_prs_mem.mp hq)
      have hrun := qm_run_ok (l := l) (e := e) (below := below) (rr := rr) C ih (qm_ex_mono M X d) (Nat.le_refl _) (by show 60 * d + 60 ≤ 60 * (d + 1); omega) htab (Nat.le_refl _) (Nat.le_refl _) n _ _ _ h 0 (htab 0 (by omega)) hn (Nat.le_refl _) (Nat.le_refl _) hlen (qm_ent_nd hao.1) _ hlr
      have k := hrun s.heap [] hrep (fun q hq => by cases hq)
      rw [Nat.sub_self, Nat.sub_self] at k
      exact k
    · rw [if_neg hao] at er
      cases er
