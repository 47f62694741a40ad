/-! what a set falls into: all stands, in another order -/
theorem leqk_eq : ∀ a b, leqk a b = true → a = b
  | [], [], _ => rfl
  | [], b :: m, h => by cases h
  | a :: l, [], h => by cases h
  | a :: l, b :: m, h => by
    rw [leqk, Bool.and_eq_true, Bool.and_eq_true, Bool.and_eq_true, Bool.and_eq_true, nbq, nbq, nbq, nbq] at h
    obtain ⟨⟨h1, h2, h3, h4⟩, h5⟩ := h
    have e : a = b := by
      obtain ⟨a1, a2, a3, a4⟩ := a
      obtain ⟨b1, b2, b3, b4⟩ := b
      dsimp only at h1 h2 h3 h4
      rw [h1, h2, h3, h4]
    rw [e, leqk_eq l m h5]
theorem fl4_eq : ∀ L, fl4 L = L
  | [] => rfl
  | e :: L => by rw [fl4, frc_eq, frc_eq, frc_eq, frc_eq, fl4_eq L]
theorem mgk_perm : ∀ f a b, List.Perm (mgk f a b) (a ++ b)
  | 0, a, b => List.Perm.refl _
  | f + 1, [], b => List.Perm.refl _
  | f + 1, x :: a, [] => by
    rw [List.append_nil]
    exact List.Perm.refl (x :: a)
  | f + 1, x :: a, y :: b => by
    rw [mgk]
    by_cases h : Nat.ble x.1 y.1 = true
    · rw [if_pos h]
      exact List.Perm.cons x (mgk_perm f a (y :: b))
    · rw [if_neg h]
      refine (List.Perm.cons y (mgk_perm f (x :: a) b)).trans ?_
      exact (List.perm_middle (l₁ := x :: a) (l₂ := b) (a := y)).symm
theorem mpk_perm : ∀ L, List.Perm (mpk L).flatten L.flatten
  | [] => List.Perm.refl _
  | [a] => List.Perm.refl _
  | a :: b :: l => by
    rw [mpk, List.flatten_cons, List.flatten_cons, List.flatten_cons, ← List.append_assoc]
    exact List.Perm.append (mgk_perm _ a b) (mpk_perm l)
theorem msk_perm : ∀ f L, List.Perm (msk f L) L.flatten
  | 0, L => List.Perm.refl _
  | f + 1, L => by
    rw [msk]
    exact (msk_perm f (mpk L)).trans (mpk_perm L)
theorem flat_single {α : Type} : ∀ L : List α, (L.map (fun e => [e])).flatten = L
  | [] => rfl
  | e :: L => by rw [List.map_cons, List.flatten_cons, flat_single L]; rfl
theorem srtk_perm (L : List e4T) : List.Perm (srtk L) L := by
  unfold srtk
  rw [fl4_eq]
  have := msk_perm 14 (L.map (fun e => [e]))
  rw [flat_single] at this
  exact this
theorem sx_p {L M : List e4T} (h : leqk (srtk L) M = true) : List.Perm L M := by
  rw [← leqk_eq _ _ h]
  exact (srtk_perm L).symm
theorem fl1_fm {α : Type} (d : Nat) (f : α → List e4T) (l : List α) : fl1 d (l.flatMap f) = l.flatMap (fun a => fl1 d (f a)) := List.filter_flatMap
theorem or30 {a b : Nat} (h : b >>> 30 = 0) : (a ||| b) >>> 30 = a >>> 30 := by rw [Nat.shiftRight_or_distrib, h, Nat.or_zero]
theorem fl1_map (d : Nat) (a : e4T) : ∀ M : List e4T, (∀ b, b ∈ M → b.1 >>> 30 = 0) → fl1 d (M.map (fun b => e4m a b)) = if Nat.beq (a.1 >>> 30) d = true then M.map (fun b => e4m a b) else []
  | [], _ => by split <;> rfl
  | b :: M, h => by
    have hb := h b List.mem_cons_self
    have e : (e4m a b).1 >>> 30 = a.1 >>> 30 := or30 hb
    have ih := fl1_map d a M (fun x hx => h x (List.mem_cons_of_mem _ hx))
    unfold fl1 at ih ⊢
    rw [List.map_cons, List.filter_cons, ih, e]
    by_cases q : Nat.beq (a.1 >>> 30) d = true
    · simp only [q, ↓reduceIte]
    · simp only [q, ↓reduceIte, Bool.false_eq_true]
theorem fl1_if (d : Nat) (G : e4T → List e4T) : ∀ l : List e4T, l.flatMap (fun a => if Nat.beq (a.1 >>> 30) d = true then G a else []) = (fl1 d l).flatMap G
  | [] => rfl
  | a :: l => by
    have ih := fl1_if d G l
    unfold fl1 at ih ⊢
    rw [List.flatMap_cons, ih, List.filter_cons]
    by_cases q : Nat.beq (a.1 >>> 30) d = true
    · simp only [q, ↓reduceIte, List.flatMap_cons]
    · simp only [q, ↓reduceIte, Bool.false_eq_true, List.nil_append]
theorem clk_63 : clk 64 63 = (List.range 64).flatMap (fun k => if ptb 63 k = true then (ptk k).flatMap (fun a => (clk 63 (63 - k)).map (fun b => e4m a b)) else []) := (clk_S 63 63).trans (if_neg (by decide))
theorem clp_eq (d : Nat) : fl1 d (clk 64 63) = clp d := by
  rw [clk_63, fl1_fm]
  unfold clp
  refine fm_cong (fun k hk => ?_)
  have hk2 := List.mem_range.mp hk
  by_cases c : ptb 63 k = true
  · rw [if_pos c, if_pos c, fl1_fm, ← fl1_if]
    refine fm_cong (fun a _ => ?_)
    exact fl1_map d a _ (fun b hb => clp_b k hk2 c b hb)
  · rw [if_neg c, if_neg c]
    rfl
theorem clk_D {e : e4T} (h : e ∈ clk 64 63) : e.1 >>> 30 ∈ [0, 1, 2, 4, 8, 16, 32] := by
  rw [clk_63, List.mem_flatMap] at h
  obtain ⟨k, hk, h⟩ := h
  have hk2 := List.mem_range.mp hk
  by_cases c : ptb 63 k = true
  · rw [if_pos c, List.mem_flatMap] at h
    obtain ⟨a, ha, h⟩ := h
    obtain ⟨b, hb, e2⟩ := List.mem_map.mp h
    have : e.1 >>> 30 = a.1 >>> 30 := by
      rw [← e2]
      exact or30 (clp_b k hk2 c b hb)
    rw [this]
    exact clp_a k hk2 a ha
  · rw [if_neg c] at h
    cases h
theorem perm_split : ∀ (D : List Nat) (L : List e4T), D.Nodup → (∀ e, e ∈ L → e.1 >>> 30 ∈ D) → List.Perm L (D.flatMap (fun d => fl1 d L))
  | [], L, _, h => by
    cases L with
    | nil => exact List.Perm.refl _
    | cons e L => exact absurd (h e List.mem_cons_self) (by simp)
  | d :: D, L, hn, h => by
    rw [List.nodup_cons] at hn
    rw [List.flatMap_cons]
    refine (List.filter_append_perm (fun e => Nat.beq (e.1 >>> 30) d) L).symm.trans ?_
    refine List.Perm.append (List.Perm.refl _) ?_
    refine (perm_split D (L.filter (fun e => !Nat.beq (e.1 >>> 30) d)) hn.2 (fun e he => ?_)).trans ?_
    · rw [List.mem_filter] at he
      have h1 := h e he.1
      rw [List.mem_cons] at h1
      rcases h1 with h1 | h1
      · have h2 := he.2
        rw [nbq.mpr h1] at h2
        cases h2
      · exact h1
    · have : D.flatMap (fun d' => fl1 d' (L.filter (fun e => !Nat.beq (e.1 >>> 30) d))) = D.flatMap (fun d' => fl1 d' L) := fm_cong (fun d' hd' => by
        unfold fl1
        rw [List.filter_filter]
        refine List.filter_congr (fun e _ => ?_)
        rw [Bool.eq_iff_iff, Bool.and_eq_true]
        constructor
        · intro y; exact y.1
        · intro y
          refine ⟨y, ?_⟩
          have e1 := nbq.mp y
          have ne : ¬ Nat.beq (e.1 >>> 30) d = true := fun w => hn.1 (by rw [← nbq.mp w, e1]; exact hd')
          rw [Bool.not_eq_true']
          exact Bool.eq_false_iff.mpr ne)
      rw [this]
theorem sx_6 : List.Perm (clk 64 63) (sxk 6 6 0 [] 0 0 0) := by
  refine (perm_split [0, 1, 2, 4, 8, 16, 32] (clk 64 63) (by decide) (fun e he => clk_D he)).trans ?_
  have e6 : sxk 6 6 0 [] 0 0 0 = sxk 6 5 1 [9] 0 0 1 ++ (sxk 6 5 1 [0] 1 (cb 0 0) 0 ++ (sxk 6 5 1 [1] 2 (cb 0 1) 0 ++ (sxk 6 5 1 [2] 4 (cb 0 2) 0 ++ (sxk 6 5 1 [3] 8 (cb 0 3) 0 ++ (sxk 6 5 1 [4] 16 (cb 0 4) 0 ++ (sxk 6 5 1 [5] 32 (cb 0 5) 0 ++ [])))))) := by
    rw [sxk]
    rfl
  rw [e6]
  simp only [List.flatMap_cons, List.flatMap_nil, clp_eq]
  exact List.Perm.append (sx_p sx_69) (List.Perm.append (sx_p sx_60) (List.Perm.append (sx_p sx_61) (List.Perm.append (sx_p sx_62) (List.Perm.append (sx_p sx_63) (List.Perm.append (sx_p sx_64) (List.Perm.append (sx_p sx_65) (List.Perm.refl _)))))))
theorem sx_perm {n : Nat} (h1 : 1 ≤ n) (h6 : n ≤ 6) : List.Perm (clk 64 (2 ^ n - 1)) (sxk n n 0 [] 0 0 0) := by
  have : n = 1 ∨ n = 2 ∨ n = 3 ∨ n = 4 ∨ n = 5 ∨ n = 6 := by omega
  rcases this with e | e | e | e | e | e
  · subst e; exact sx_p sx_1
  · subst e; exact sx_p sx_2
  · subst e; exact sx_p sx_3
  · subst e; exact sx_p sx_4
  · subst e; exact sx_p sx_5
  · subst e; exact sx_6
theorem Wn_rd {hc : Nat → Nat → Bool} {c : Nat → Nat} {n K M : Nat} (h1 : 1 ≤ n) (hn : n ≤ 6) (hK : K ≤ n) (hcc : ∀ i, i < n → ∀ j, j < n → hc i j = (c i).testBit j) : Wn hc 1 (2 ^ n - 1) (n - K) M = (tE c n n 0 0 K).countP (fun x => decide (rM (xf x) n 99 n = M)) := by
  rw [rd_sx hn hK hcc]
  exact List.Perm.countP_eq _ (sx_perm h1 hn)
theorem Wn_lr {hc : Nat → Nat → Bool} {c : Nat → Nat} {n sh : Nat} (h1 : 1 ≤ n) (hn : n ≤ 6) (hsh : sh ≤ 7) (hcc : ∀ i, i < n → ∀ j, j < n → hc i j = (c i).testBit j) : fb_sm (fun M => Wn hc sh (2 ^ n - 1) 0 M) 7 = (tE c n n 0 0 n).countP (fun x => decide (rM (xf x) n sh n = 0)) := by
  rw [lr_sx hn hsh hcc]
  exact fb_sm_cong (fun M _ => List.Perm.countP_eq _ (sx_perm h1 hn))
