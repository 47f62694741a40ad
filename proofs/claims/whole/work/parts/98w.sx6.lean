/-! stands of five and six places -/
def fl1 (d : Nat) (L : List e4T) : List e4T := L.filter (fun e => Nat.beq (e.1 >>> 30) d)
/-- those of what six places fall into whose first row is d -/
def clp (d : Nat) : List e4T := (List.range 64).flatMap (fun k => if ptb 63 k = true then (fl1 d (ptk k)).flatMap (fun a => (clk 63 (63 - k)).map (fun b => e4m a b)) else [])
theorem sx_5 : leqk (srtk (clk 64 31)) (sxk 5 5 0 [] 0 0 0) = true := by decide +kernel
theorem clp_b : ∀ k, k < 64 → ptb 63 k = true → ∀ b, b ∈ clk 63 (63 - k) → b.1 >>> 30 = 0 := by decide +kernel
theorem clp_a : ∀ k, k < 64 → ∀ a, a ∈ ptk k → a.1 >>> 30 ∈ [0, 1, 2, 4, 8, 16, 32] := by decide +kernel
theorem sx_69 : leqk (srtk (clp 0)) (sxk 6 5 1 [9] 0 0 1) = true := by decide +kernel
theorem sx_60 : leqk (srtk (clp 1)) (sxk 6 5 1 [0] 1 (cb 0 0) 0) = true := by decide +kernel
theorem sx_61 : leqk (srtk (clp 2)) (sxk 6 5 1 [1] 2 (cb 0 1) 0) = true := by decide +kernel
