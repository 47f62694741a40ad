/-! stands of six places, the rest -/
theorem sx_62 : leqk (srtk (clp 4)) (sxk 6 5 1 [2] 4 (cb 0 2) 0) = true := by decide +kernel
theorem sx_63 : leqk (srtk (clp 8)) (sxk 6 5 1 [3] 8 (cb 0 3) 0) = true := by decide +kernel
theorem sx_64 : leqk (srtk (clp 16)) (sxk 6 5 1 [4] 16 (cb 0 4) 0) = true := by decide +kernel
theorem sx_65 : leqk (srtk (clp 32)) (sxk 6 5 1 [5] 32 (cb 0 5) 0) = true := by decide +kernel
