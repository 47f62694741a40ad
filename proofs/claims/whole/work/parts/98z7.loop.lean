/-! the law, its loop and its start -/
theorem sw_all : ∀ k, k < 64 → qm_sw (#[(0, 232), (1, 265), (2, 308), (3, 331), (4, 394), (5, 417), (6, 460), (7, 503), (8, 546), (9, 569), (10, 602), (11, 635), (12, 668), (13, 711), (14, 780), (15, 813), (16, 846), (17, 899), (18, 942), (19, 975), (20, 1008), (21, 1031), (22, 1064), (23, 1097), (24, 1130), (25, 1163), (26, 1206), (27, 1259), (28, 1292), (29, 1325), (30, 1348), (31, 1371), (32, 1414), (33, 1447), (34, 1500), (35, 1543), (36, 1576), (37, 1619), (38, 1652), (39, 1666), (40, 1679), (41, 1693), (42, 1707), (43, 1730), (44, 1743), (45, 1766)] : Array (Int × Int)).toList 1780 (nI k) = (if k < 46 then ([232, 265, 308, 331, 394, 417, 460, 503, 546, 569, 602, 635, 668, 711, 780, 813, 846, 899, 942, 975, 1008, 1031, 1064, 1097, 1130, 1163, 1206, 1259, 1292, 1325, 1348, 1371, 1414, 1447, 1500, 1543, 1576, 1619, 1652, 1666, 1679, 1693, 1707, 1730, 1743, 1766] : List Int).getD k 0 else 1780) := by decide +kernel
theorem and63 (x : Int32) : ∃ k, k < 64 ∧ x &&& 63 = nI k := by
  refine ⟨(x &&& 63).toNatClampNeg, ?_⟩
  have h : x.toBitVec &&& 63#32 < 64#32 := by bv_decide
  sorry
section LP
variable (z bs L : Nat) (xs : Nat → Int32) (N S : Nat)
theorem ls_any {r : ss_R} {b : ss_B} {t : ss_T} {s : md_S} {f : Nat → qm_C} (p k : Nat) (hk : k < 64) (hb : bs < z) (hp : p + 6 ≤ L) (hL : L ≤ 3072) (J : lwI z bs r b t s f) : ∃ f2 r2 b2 t2 s2, qm_go (qm_ex qm_M (z, bs, L, xs) 60) (z, bs, L, xs) kt_223 (qm_lk kt_223 (if k < 46 then ([232, 265, 308, 331, 394, 417, 460, 503, 546, 569, 602, 635, 668, 711, 780, 813, 846, 899, 942, 975, 1008, 1031, 1064, 1097, 1130, 1163, 1206, 1259, 1292, 1325, 1348, 1371, 1414, 1447, 1500, 1543, 1576, 1619, 1652, 1666, 1679, 1693, 1707, 1730, 1743, 1766] : List Int).getD k 0 else 1780)) [.val (.ref (bs)), .val (.ref (z)), .val (.ref (z + 66)), .val (.int (nI p))] [] (N, S, f) = qm_go (qm_ex qm_M (z, bs, L, xs) 60) (z, bs, L, xs) kt_223 kk_223_1780 [.val (.ref (bs)), .val (.ref (z)), .val (.ref (z + 66)), .val (.int (nI p))] [] (N, S, f2) ∧ lwI z bs r2 b2 t2 s2 f2 := by
  by_cases c : k < 46
  · rw [if_pos c]
    match k, c with
    | 0, _ => exact ls_row z bs L xs N S p hb hp hL J
    | 1, _ => exact ls_lay z bs L xs N S p hb hp hL J
    | 2, _ => exact ls_tear z bs L xs N S p hb hp hL J
    | 3, _ => exact ls_copy z bs L xs N S p hb hp hL J
    | 4, _ => exact ls_mean z bs L xs N S p hb hp hL J
    | 5, _ => exact ls_board z bs L xs N S p hb hp hL J
    | 6, _ => exact ls_stairs z bs L xs N S p hb hp hL J
    | 7, _ => exact ls_ring z bs L xs N S p hb hp hL J
    | 8, _ => exact ls_drop z bs L xs N S p hb hp hL J
    | 9, _ => exact ls_told z bs L xs N S p hb hp hL J
    | 10, _ => exact ls_is z bs L xs N S p hb hp hL J
    | 11, _ => exact ls_mark z bs L xs N S p hb hp hL J
    | 12, _ => exact ls_cell z bs L xs N S p hb hp hL J
    | 13, _ => exact ls_set z bs L xs N S p hb hp hL J
    | 14, _ => exact ls_other z bs L xs N S p hb hp hL J
    | 15, _ => exact ls_turn z bs L xs N S p hb hp hL J
    | 16, _ => exact ls_without z bs L xs N S p hb hp hL J
    | 17, _ => exact ls_join z bs L xs N S p hb hp hL J
    | 18, _ => exact ls_towers z bs L xs N S p hb hp hL J
    | 19, _ => exact ls_hits z bs L xs N S p hb hp hL J
    | 20, _ => exact ls_meanHits z bs L xs N S p hb hp hL J
    | 21, _ => exact ls_alike z bs L xs N S p hb hp hL J
    | 22, _ => exact ls_stairsLike z bs L xs N S p hb hp hL J
    | 23, _ => exact ls_sum z bs L xs N S p hb hp hL J
    | 24, _ => exact ls_root z bs L xs N S p hb hp hL J
    | 25, _ => exact ls_spread z bs L xs N S p hb hp hL J
    | 26, _ => exact ls_stand z bs L xs N S p hb hp hL J
    | 27, _ => exact ls_rank z bs L xs N S p hb hp hL J
    | 28, _ => exact ls_next z bs L xs N S p hb hp hL J
    | 29, _ => exact ls_most z bs L xs N S p hb hp hL J
    | 30, _ => exact ls_cover z bs L xs N S p hb hp hL J
    | 31, _ => exact ls_need z bs L xs N S p hb hp hL J
    | 32, _ => exact ls_least z bs L xs N S p hb hp hL J
    | 33, _ => exact ls_lack z bs L xs N S p hb hp hL J
    | 34, _ => exact ls_rounds z bs L xs N S p hb hp hL J
    | 35, _ => exact ls_longRings z bs L xs N S p hb hp hL J
    | 36, _ => exact ls_ringOf z bs L xs N S p hb hp hL J
    | 37, _ => exact ls_slants z bs L xs N S p hb hp hL J
    | 38, _ => exact ls_ways z bs L xs N S p hb hp hL J
    | 39, _ => exact ls_asked z bs L xs N S p hb hp hL J
    | 40, _ => exact ls_upper z bs L xs N S p hb hp hL J
    | 41, _ => exact ls_lower z bs L xs N S p hb hp hL J
    | 42, _ => exact ls_count z bs L xs N S p hb hp hL J
    | 43, _ => exact ls_finding z bs L xs N S p hb hp hL J
    | 44, _ => exact ls_findings z bs L xs N S p hb hp hL J
    | 45, _ => exact ls_digest z bs L xs N S p hb hp hL J
    | k + 46, c => omega
  · rw [if_neg c]
    exact ⟨f, r, b, t, s, rfl, J⟩
end LP
