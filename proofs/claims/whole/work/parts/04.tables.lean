/-! tables: fields, methods, call sites, by their places in lw_tbl -/
def qm_own (o : Nat) : String := match o with
  | 0 => RX0
  | 1 => RX1
  | 2 => RX2
  | 3 => RX3
  | 4 => RX4
  | 5 => RX5
  | 6 => RX6
  | 7 => RX7
  | 8 => RX8
  | 9 => RX9
  | 10 => "TowerBoardsLaw"
  | 11 => RJ6
  | 12 => RJ9
  | _ => RJ7
def qm_tb : List Cond := lw_tbl.filter goodWord
def qm_isN (w : Cond) : Bool := match w with
  | .methodLinkNest _ _ _ _ => true
  | _ => false
def qm_nb : List Cond := lw_tbl.filter qm_isN
def qm_at (i : Nat) (w : Cond) : Bool := decide (lw_tbl[i]? = some w) && goodWord w
theorem qm_at_mem {i : Nat} {w : Cond} (h : qm_at i w = true) : w ∈ qm_tb := by
  unfold qm_at at h
  rw [Bool.and_eq_true, decide_eq_true_eq] at h
  exact List.mem_filter.mpr ⟨List.mem_of_getElem? h.1, h.2⟩
def qm_atN (i : Nat) (w : Cond) : Bool := decide (lw_tbl[i]? = some w) && qm_isN w
theorem qm_atN_mem {i : Nat} {w : Cond} (h : qm_atN i w = true) : w ∈ qm_nb := by
  unfold qm_atN at h
  rw [Bool.and_eq_true, decide_eq_true_eq] at h
  exact List.mem_filter.mpr ⟨List.mem_of_getElem? h.1, h.2⟩
def qm_fs : List (Nat × Nat × Nat × Nat × Nat) := [(0, 9, 0, 0, 193), (0, 15, 0, 1, 194), (0, 18, 0, 2, 195), (0, 21, 0, 3, 196), (0, 24, 0, 4, 197), (0, 28, 1, 1, 93), (1, 9, 1, 0, 90), (1, 15, 1, 1, 92), (1, 18, 1, 2, 99), (1, 21, 1, 3, 102), (1, 64, 7, 0, 216), (2, 11, 2, 0, 147), (2, 21, 1, 1, 96), (2, 27, 1, 3, 104), (3, 9, 3, 0, 178), (3, 15, 3, 1, 180), (3, 31, 7, 1, 219), (4, 9, 4, 0, 157), (4, 15, 4, 1, 158), (4, 18, 4, 2, 159), (4, 22, 4, 3, 161), (4, 31, 1, 1, 97), (4, 50, 1, 3, 106), (4, 53, 1, 2, 100), (5, 9, 5, 0, 124), (5, 15, 5, 1, 125), (5, 24, 1, 1, 95), (5, 30, 1, 3, 103), (5, 43, 3, 0, 179), (5, 48, 3, 1, 181), (6, 9, 6, 0, 137), (6, 15, 1, 1, 94), (6, 31, 1, 3, 105), (6, 50, 7, 1, 220), (7, 9, 7, 0, 214), (7, 15, 7, 1, 217), (8, 11, 8, 0, 226), (8, 17, 8, 1, 227), (8, 21, 8, 2, 228), (8, 26, 8, 3, 229), (8, 33, 8, 4, 230), (8, 37, 8, 5, 231), (8, 43, 8, 6, 232), (8, 50, 8, 7, 233), (8, 57, 8, 8, 234), (8, 64, 8, 9, 235), (8, 71, 8, 10, 236), (8, 75, 8, 11, 237), (8, 79, 8, 12, 238), (8, 83, 8, 13, 239), (8, 86, 8, 14, 240), (8, 89, 8, 15, 241), (8, 112, 7, 1, 218), (8, 115, 7, 0, 215), (8, 145, 1, 3, 107), (8, 163, 1, 0, 91), (8, 166, 1, 1, 98), (8, 169, 1, 2, 101), (8, 278, 4, 2, 160), (8, 281, 4, 3, 162), (9, 7, 9, 1, 818), (9, 13, 9, 6, 823), (9, 16, 9, 7, 824), (9, 19, 9, 8, 825), (9, 22, 9, 9, 826), (9, 25, 9, 10, 827), (9, 28, 9, 11, 828), (9, 31, 9, 12, 829), (9, 34, 9, 13, 830), (9, 37, 9, 14, 831), (9, 40, 9, 15, 832), (9, 44, 9, 16, 833), (9, 47, 9, 17, 834), (9, 50, 9, 18, 835), (9, 53, 9, 19, 836), (9, 56, 9, 20, 837), (9, 59, 9, 22, 839), (9, 62, 9, 33, 850), (9, 65, 9, 5, 822), (9, 69, 9, 0, 817), (9, 77, 9, 2, 819), (9, 80, 9, 3, 820), (9, 83, 9, 4, 821), (9, 171, 9, 21, 838), (9, 187, 9, 27, 844), (9, 190, 9, 25, 842), (9, 193, 9, 26, 843), (9, 196, 9, 23, 840), (9, 199, 9, 28, 845), (9, 205, 9, 24, 841), (9, 211, 9, 29, 846), (9, 217, 9, 30, 847), (9, 220, 9, 31, 848), (9, 238, 9, 32, 849)]
abbrev qm_Inf : Type := MethodName × ByteArray × Nat × Option FieldType × Nat × Nat
def qm_info_0 : List qm_Inf := [(yX0_init, cX0_init, 1, none, 0, 0), (yX0_findFor, cX0_findFor, 4, none, 0, 2), (yX0_findPaths, cX0_findPaths, 4, none, 0, 1), (yX0_findRings, cX0_findRings, 7, none, 0, 2), (yX0_walksTo, cX0_walksTo, 7, some .int, 0, 3), (yX0_fallApart, cX0_fallApart, 4, none, 0, 1), (yX0_addPart, cX0_addPart, 8, none, 0, 2), (yX0_standsOf, cX0_standsOf, 3, some .int, 0, 2), (yX1_init, cX1_init, 1, none, 1, 0), (yX1_isThere, cX1_isThere, 1, some .boolean, 1, 0), (yX1_begin, cX1_begin, 4, none, 1, 3), (yX1_takeAll, cX1_takeAll, 2, none, 1, 1), (yX1_takeUntouched, cX1_takeUntouched, 5, none, 1, 3), (yX1_takeDiagonals, cX1_takeDiagonals, 5, none, 1, 2), (yX1_isOfKind, cX1_isOfKind, 2, some .boolean, 1, 1), (yX1_isSquare, cX1_isSquare, 1, some .boolean, 1, 0), (yX1_side, cX1_side, 1, some .int, 1, 0), (yX1_allColumns, cX1_allColumns, 1, some .int, 1, 0), (yX1_hasPlace, cX1_hasPlace, 3, some .boolean, 1, 2), (yX1_hasCell, cX1_hasCell, 3, some .boolean, 1, 2), (yX1_addCell, cX1_addCell, 3, none, 1, 2), (yX1_cellCount, cX1_cellCount, 3, some .int, 1, 0), (yX1_unlikeLengths, cX1_unlikeLengths, 4, some .int, 1, 0), (yX1_columnsOutside, cX1_columnsOutside, 4, some .int, 1, 1), (yX1_faultOfStand, cX1_faultOfStand, 5, some .int, 1, 1), (yX1_faultOfWeights, cX1_faultOfWeights, 2, some .int, 1, 1), (yX1_digestOnto, cX1_digestOnto, 6, some .long, 1, 1), (yX2_init, cX2_init, 1, none, 2, 0), (yX2_findFor, cX2_findFor, 5, none, 2, 1), (yX2_addRow, cX2_addRow, 7, none, 2, 3), (yX2_give, cX2_give, 4, none, 2, 3), (yX2_standsThatLeave, cX2_standsThatLeave, 5, some .int, 2, 2), (yX3_init, cX3_init, 1, none, 3, 0), (yX3_beginWith, cX3_beginWith, 2, none, 3, 1), (yX3_goOn, cX3_goOn, 4, some .boolean, 3, 0), (yX3_haveCells, cX3_haveCells, 4, some .boolean, 3, 1), (yX3_writeTo, cX3_writeTo, 3, none, 3, 1), (yX4_init, cX4_init, 1, none, 4, 0), (yX4_findFor, cX4_findFor, 5, none, 4, 3), (yX4_addRow, cX4_addRow, 7, none, 4, 3)]
def qm_ip_0 : List (Nat × Nat) := [(191, 66), (698, 66), (702, 66), (711, 66), (706, 66), (721, 66), (728, 66), (732, 66), (88, 60), (399, 60), (350, 60), (359, 60), (649, 60), (753, 60), (411, 60), (694, 60), (483, 60), (387, 60), (427, 60), (431, 60), (448, 60), (365, 60), (419, 60), (641, 60), (605, 60), (657, 60), (803, 60), (145, 63), (557, 63), (562, 63), (567, 63), (571, 63), (176, 65), (518, 65), (536, 65), (523, 65), (531, 65), (155, 64), (662, 64), (667, 64)]
def qm_info_1 : List qm_Inf := [(yX4_offer, cX4_offer, 4, none, 4, 3), (yX4_choose, cX4_choose, 2, none, 4, 1), (yX5_init, cX5_init, 1, none, 5, 0), (yX5_findFor, cX5_findFor, 3, none, 5, 1), (yX5_addRow, cX5_addRow, 5, none, 5, 1), (yX5_findForStairs, cX5_findForStairs, 4, none, 5, 1), (yX5_at, cX5_at, 2, some .int, 5, 1), (yX5_greatest, cX5_greatest, 2, some .int, 5, 0), (yX5_isSameAs, cX5_isSameAs, 3, some .boolean, 5, 1), (yX5_ordersThatHit, cX5_ordersThatHit, 10, some .long, 5, 2), (yX5_factorial, cX5_factorial, 4, some .long, 5, 1), (yX5_fallingSum, cX5_fallingSum, 8, some .long, 5, 2), (yX6_init, cX6_init, 1, none, 6, 0), (yX6_prepare, cX6_prepare, 5, none, 6, 2), (yX6_countAhead, cX6_countAhead, 8, some .int, 6, 4), (yX6_all, cX6_all, 1, some .int, 6, 0), (yX6_numberOf, cX6_numberOf, 7, some .int, 6, 2), (yX6_writeTo, cX6_writeTo, 8, none, 6, 3), (yX6_columnOf, cX6_columnOf, 6, some .int, 6, 4), (yX7_init, cX7_init, 1, none, 7, 0), (yX7_isThere, cX7_isThere, 1, some .boolean, 7, 0), (yX7_begin, cX7_begin, 2, none, 7, 1), (yX7_hasPlace, cX7_hasPlace, 2, some .boolean, 7, 1), (yX7_hasSpan, cX7_hasSpan, 3, some .boolean, 7, 2), (yX7_at, cX7_at, 2, some .int, 7, 1), (yX7_total, cX7_total, 4, some .long, 7, 0), (yX7_isAllWithin, cX7_isAllWithin, 4, some .boolean, 7, 2), (yX7_isRising, cX7_isRising, 2, some .boolean, 7, 0), (yX7_towerCount, cX7_towerCount, 3, some .int, 7, 0), (yX7_ringWithLeast, cX7_ringWithLeast, 5, some .int, 7, 1), (yX7_digestOnto, cX7_digestOnto, 6, some .long, 7, 1), (yX8_init, cX8_init, 2, none, 8, 0), (yX8_row, cX8_row, 3, some .int, 8, 2), (yX8_lay, cX8_lay, 5, some .int, 8, 3), (yX8_tear, cX8_tear, 3, some .int, 8, 1), (yX8_copy, cX8_copy, 8, some .int, 8, 5), (yX8_mean, cX8_mean, 3, some .int, 8, 1), (yX8_board, cX8_board, 6, some .int, 8, 3), (yX8_stairs, cX8_stairs, 6, some .int, 8, 3), (yX8_ring, cX8_ring, 6, some .int, 8, 3)]
def qm_ip_1 : List (Nat × Nat) := [(672, 64), (677, 64), (122, 61), (464, 61), (469, 61), (527, 61), (474, 61), (633, 61), (510, 61), (490, 61), (494, 61), (544, 61), (135, 62), (579, 62), (584, 62), (588, 62), (619, 62), (592, 62), (597, 62), (212, 67), (307, 67), (292, 67), (311, 67), (323, 67), (609, 67), (334, 67), (345, 67), (379, 67), (615, 67), (745, 67), (809, 67), (77, 59), (278, 59), (299, 59), (315, 59), (319, 59), (330, 59), (338, 59), (375, 59), (383, 59)]
def qm_info_2 : List qm_Inf := [(yX8_drop, cX8_drop, 3, some .int, 8, 1), (yX8_told, cX8_told, 4, some .int, 8, 2), (yX8_is, cX8_is, 4, some .int, 8, 2), (yX8_mark, cX8_mark, 4, some .int, 8, 2), (yX8_cell, cX8_cell, 5, some .int, 8, 3), (yX8_set, cX8_set, 7, some .int, 8, 4), (yX8_other, cX8_other, 5, some .int, 8, 2), (yX8_turn, cX8_turn, 6, some .int, 8, 2), (yX8_without, cX8_without, 9, some .int, 8, 4), (yX8_join, cX8_join, 9, some .int, 8, 3), (yX8_towers, cX8_towers, 4, some .int, 8, 2), (yX8_hits, cX8_hits, 4, some .int, 8, 2), (yX8_meanHits, cX8_meanHits, 3, some .int, 8, 1), (yX8_alike, cX8_alike, 5, some .int, 8, 2), (yX8_stairsLike, cX8_stairsLike, 7, some .int, 8, 2), (yX8_sum, cX8_sum, 4, some .int, 8, 2), (yX8_root, cX8_root, 4, some .int, 8, 2), (yX8_spread, cX8_spread, 5, some .int, 8, 3), (yX8_stand, cX8_stand, 6, some .int, 8, 4), (yX8_rank, cX8_rank, 6, some .int, 8, 2), (yX8_next, cX8_next, 7, some .int, 8, 2), (yX8_most, cX8_most, 3, some .int, 8, 1), (yX8_cover, cX8_cover, 7, some .int, 8, 1), (yX8_need, cX8_need, 8, some .int, 8, 3), (yX8_least, cX8_least, 6, some .int, 8, 2), (yX8_lack, cX8_lack, 8, some .int, 8, 4), (yX8_rounds, cX8_rounds, 5, some .int, 8, 3), (yX8_longRings, cX8_longRings, 5, some .int, 8, 2), (yX8_ringOf, cX8_ringOf, 10, some .int, 8, 3), (yX8_slants, cX8_slants, 5, some .int, 8, 2), (yX8_ways, cX8_ways, 1, some .long, 8, 0), (yX8_asked, cX8_asked, 1, some .int, 8, 0), (yX8_upper, cX8_upper, 1, some .long, 8, 0), (yX8_lower, cX8_lower, 1, some .long, 8, 0), (yX8_count, cX8_count, 2, some .int, 8, 1), (yX8_finding, cX8_finding, 1, some .int, 8, 0), (yX8_findings, cX8_findings, 2, some .int, 8, 1), (yX8_digest, cX8_digest, 4, some .long, 8, 0), (yX8_isWithin, cX8_isWithin, 3, some .boolean, 8, 3), (yX8_isRowNumber, cX8_isRowNumber, 1, some .boolean, 8, 1)]
def qm_ip_2 : List (Nat × Nat) := [(391, 59), (403, 59), (407, 59), (415, 59), (423, 59), (436, 59), (440, 59), (444, 59), (452, 59), (456, 59), (460, 59), (479, 59), (498, 59), (506, 59), (514, 59), (540, 59), (548, 59), (553, 59), (575, 59), (601, 59), (625, 59), (629, 59), (637, 59), (645, 59), (653, 59), (681, 59), (690, 59), (737, 59), (741, 59), (749, 59), (758, 59), (762, 59), (766, 59), (770, 59), (774, 59), (790, 59), (794, 59), (798, 59), (284, 59), (281, 59)]
def qm_info_3 : List qm_Inf := [(yX8_isBoardNumber, cX8_isBoardNumber, 1, some .boolean, 8, 1), (yX8_rowAt, cX8_rowAt, 3, some (.object "TowerBoards$Row"), 8, 1), (yX8_boardAt, cX8_boardAt, 3, some (.object "TowerBoards$Board"), 8, 1), (yX8_refused, cX8_refused, 2, some .int, 8, 1), (yX8_keepDraft, cX8_keepDraft, 2, some .int, 8, 1), (yX8_tellFraction, cX8_tellFraction, 5, none, 8, 2), (yX8_lackOf, cX8_lackOf, 7, some .int, 8, 4), (yX8_rowCount, cX8_rowCount, 3, some .int, 8, 0), (yX8_boardCount, cX8_boardCount, 4, some .int, 8, 1), (yX8_allCellCount, cX8_allCellCount, 3, some .int, 8, 0), (yX9_init, cX9_init, 2, none, 9, 0), (yX9_in, cX9_in, 3, some .boolean, 9, 3), (yX9_has, cX9_has, 2, some .boolean, 9, 2), (yX9_bitsOf, cX9_bitsOf, 3, some .int, 9, 1), (yX9_meets, cX9_meets, 2, some .int, 9, 1), (yX9_finding, cX9_finding, 1, some .int, 9, 0), (yX9_findings, cX9_findings, 2, some .int, 9, 1), (yX9_tells, cX9_tells, 3, some .int, 9, 2), (yX9_tellsWays, cX9_tellsWays, 3, some .int, 9, 1), (yX9_asked, cX9_asked, 1, some .int, 9, 0), (yX9_ways, cX9_ways, 1, some .long, 9, 0), (yX9_upper, cX9_upper, 1, some .long, 9, 0), (yX9_lower, cX9_lower, 1, some .long, 9, 0), (yX9_isRow, cX9_isRow, 1, some .boolean, 9, 1), (yX9_rowAt, cX9_rowAt, 3, some .int, 9, 2), (yX9_begin, cX9_begin, 4, none, 9, 2), (yX9_row, cX9_row, 3, some .int, 9, 2), (yX9_lay, cX9_lay, 5, some .int, 9, 3), (yX9_tear, cX9_tear, 2, some .int, 9, 1), (yX9_copy, cX9_copy, 7, some .int, 9, 5), (yX9_mean, cX9_mean, 5, some .int, 9, 1), (yX9_isBoard, cX9_isBoard, 1, some .boolean, 9, 1), (yX9_of, cX9_of, 3, some .int, 9, 2), (yX9_manyOf, cX9_manyOf, 4, some .int, 9, 1), (yX9_come, cX9_come, 6, some .int, 9, 4), (yX9_needSix, cX9_needSix, 4, some .int, 9, 3), (yX9_board, cX9_board, 7, some .int, 9, 3), (yX9_stairs, cX9_stairs, 8, some .int, 9, 3), (yX9_ring, cX9_ring, 6, some .int, 9, 3), (yX9_need, cX9_need, 3, some .int, 9, 2)]
def qm_ip_3 : List (Nat × Nat) := [(341, 59), (303, 59), (395, 59), (288, 59), (355, 59), (502, 59), (685, 59), (778, 59), (782, 59), (786, 59), (815, 68), (931, 68), (1023, 68), (1012, 68), (958, 68), (924, 68), (928, 68), (974, 68), (1099, 68), (935, 68), (939, 68), (943, 68), (947, 68), (954, 68), (970, 68), (962, 68), (951, 68), (966, 68), (978, 68), (982, 68), (986, 68), (997, 68), (1009, 68), (1005, 68), (1001, 68), (994, 68), (990, 68), (1016, 68), (1020, 68), (1031, 68)]
def qm_info_4 : List qm_Inf := [(yX9_drop, cX9_drop, 3, some .int, 9, 1), (yX9_told, cX9_told, 4, some .int, 9, 2), (yX9_isKind, cX9_isKind, 3, some .boolean, 9, 2), (yX9_is, cX9_is, 4, some .int, 9, 2), (yX9_mark, cX9_mark, 6, some .int, 9, 2), (yX9_isPlace, cX9_isPlace, 4, some .boolean, 9, 3), (yX9_isCell, cX9_isCell, 4, some .boolean, 9, 3), (yX9_cell, cX9_cell, 5, some .int, 9, 3), (yX9_set, cX9_set, 7, some .int, 9, 4), (yX9_other, cX9_other, 5, some .int, 9, 2), (yX9_turn, cX9_turn, 6, some .int, 9, 2), (yX9_without, cX9_without, 8, some .int, 9, 4), (yX9_needTwo, cX9_needTwo, 4, some .int, 9, 3), (yX9_join, cX9_join, 9, some .int, 9, 3), (yX9_layStands, cX9_layStands, 7, none, 9, 3), (yX9_layStands_, cX9_layStands_, 2, none, 9, 1), (yX9_towers, cX9_towers, 4, some .int, 9, 2), (yX9_greater, cX9_greater, 2, some .int, 9, 1), (yX9_ordersFrom, cX9_ordersFrom, 10, some .long, 9, 5), (yX9_hits, cX9_hits, 4, some .int, 9, 2), (yX9_meanHits, cX9_meanHits, 8, some .int, 9, 1), (yX9_keepStands, cX9_keepStands, 2, none, 9, 0), (yX9_areSought, cX9_areSought, 3, some .boolean, 9, 0), (yX9_alike, cX9_alike, 4, some .int, 9, 2), (yX9_goStairs, cX9_goStairs, 4, none, 9, 2), (yX9_stairsLike, cX9_stairsLike, 6, some .int, 9, 2), (yX9_sum, cX9_sum, 10, some .int, 9, 2), (yX9_root, cX9_root, 4, some .int, 9, 2), (yX9_goStands, cX9_goStands, 6, none, 9, 4), (yX9_freeNow, cX9_freeNow, 7, some .int, 9, 1), (yX9_ringFrom, cX9_ringFrom, 6, some .int, 9, 2), (yX9_ringsNow, cX9_ringsNow, 7, some .int, 9, 2), (yX9_weightNow, cX9_weightNow, 4, some .int, 9, 1), (yX9_look, cX9_look, 4, none, 9, 1), (yX9_goOver, cX9_goOver, 5, none, 9, 4), (yX9_spread, cX9_spread, 5, some .int, 9, 3), (yX9_onFrom, cX9_onFrom, 8, some .long, 9, 4), (yX9_layStand, cX9_layStand, 13, some .boolean, 9, 3), (yX9_putStand, cX9_putStand, 4, none, 9, 2), (yX9_stand, cX9_stand, 6, some .int, 9, 4)]
def qm_ip_4 : List (Nat × Nat) := [(1027, 68), (1035, 68), (1043, 68), (1039, 68), (1047, 68), (1055, 68), (1059, 68), (1051, 68), (1063, 68), (1067, 68), (1071, 68), (1075, 68), (1083, 68), (1079, 68), (1095, 68), (1091, 68), (1087, 68), (1107, 68), (1111, 68), (1103, 68), (1115, 68), (1123, 68), (1127, 68), (1119, 68), (1135, 68), (1131, 68), (1139, 68), (1143, 68), (1156, 68), (1164, 68), (1172, 68), (1168, 68), (1176, 68), (1160, 68), (1151, 68), (1147, 68), (1188, 68), (1184, 68), (1192, 68), (1180, 68)]
def qm_info_5 : List qm_Inf := [(yX9_needStand, cX9_needStand, 9, some .int, 9, 3), (yX9_rankNow, cX9_rankNow, 9, some .long, 9, 1), (yX9_rank, cX9_rank, 4, some .int, 9, 2), (yX9_next, cX9_next, 4, some .int, 9, 2), (yX9_mostOf, cX9_mostOf, 3, some .int, 9, 1), (yX9_most, cX9_most, 3, some .int, 9, 1), (yX9_cover, cX9_cover, 8, some .int, 9, 1), (yX9_need_, cX9_need_, 5, some .int, 9, 3), (yX9_needWeights, cX9_needWeights, 5, some .int, 9, 2), (yX9_least, cX9_least, 4, some .int, 9, 2), (yX9_lack, cX9_lack, 6, some .int, 9, 4), (yX9_needSquare, cX9_needSquare, 4, some .int, 9, 2), (yX9_rounds, cX9_rounds, 5, some .int, 9, 3), (yX9_longRings, cX9_longRings, 4, some .int, 9, 2), (yX9_ringOf, cX9_ringOf, 9, some .int, 9, 3), (yX9_slants, cX9_slants, 8, some .int, 9, 2), (yX9_count, cX9_count, 4, some .int, 9, 1), (yX9_digest, cX9_digest, 5, some .long, 9, 0), (yJ6_lowestOneBit_0f7a4, cJ6_lowestOneBit_0f7a4, 1, some .int, 11, 1), (yJ6_numberOfTrailingZeros_0f7a4, cJ6_numberOfTrailingZeros_0f7a4, 2, some .int, 11, 1), (yJ6_bitCount_0f7a4, cJ6_bitCount_0f7a4, 1, some .int, 11, 1), (yJ9_max_7cf53, cJ9_max_7cf53, 2, some .int, 12, 2), (yJ7_fill_53178, cJ7_fill_53178, 4, none, 13, 2)]
def qm_ip_5 : List (Nat × Nat) := [(1200, 68), (1204, 68), (1196, 68), (1208, 68), (1216, 68), (1212, 68), (1220, 68), (1224, 68), (1232, 68), (1228, 68), (1236, 68), (1244, 68), (1240, 68), (1248, 68), (1252, 68), (1256, 68), (1260, 68), (1264, 68), (724, 71), (714, 71), (368, 71), (486, 72), (295, 69)]
def qm_info : List qm_Inf := qm_info_0 ++ (qm_info_1 ++ (qm_info_2 ++ (qm_info_3 ++ (qm_info_4 ++ (qm_info_5)))))
def qm_cs : List (Nat × Nat × Nat × Nat × Nat × Nat × Nat × Nat × Nat) := [(0, 33, 0, 2, 2, 0, 699, 701, 14), (0, 37, 0, 3, 3, 0, 708, 710, 16), (0, 41, 1, 222, 2, 0, 717, 294, 0), (0, 47, 0, 5, 2, 0, 718, 720, 17), (0, 51, 0, 4, 4, 0, 703, 705, 15), (0, 55, 1, 219, 1, 0, 712, 713, 0), (0, 61, 1, 220, 1, 0, 716, 367, 0), (0, 64, 0, 19, 3, 1, 707, 429, 430), (0, 68, 1, 218, 1, 0, 722, 723, 0), (0, 71, 0, 6, 3, 0, 725, 727, 18), (0, 75, 3, 118, 3, 0, 733, 283, 0), (1, 25, 1, 222, 2, 0, 351, 294, 0), (1, 31, 0, 10, 4, 1, 360, 348, 349), (1, 41, 0, 19, 3, 1, 611, 429, 430), (1, 45, 0, 20, 3, 1, 754, 446, 447), (1, 55, 0, 18, 3, 1, 432, 425, 426), (1, 58, 1, 220, 1, 0, 366, 367, 0), (1, 69, 0, 64, 2, 7, 606, 607, 608), (1, 72, 0, 66, 3, 7, 658, 343, 344), (1, 77, 0, 9, 1, 1, 805, 397, 398), (2, 15, 1, 222, 2, 0, 558, 294, 0), (2, 30, 0, 29, 4, 2, 559, 561, 6), (2, 34, 1, 220, 1, 0, 563, 367, 0), (2, 40, 0, 30, 4, 2, 564, 566, 7), (3, 19, 1, 222, 2, 0, 519, 294, 0), (3, 25, 0, 61, 2, 7, 532, 290, 291), (4, 25, 1, 222, 2, 0, 663, 294, 0), (4, 36, 0, 39, 4, 4, 664, 666, 10), (4, 40, 1, 220, 1, 0, 673, 367, 0), (4, 46, 0, 41, 2, 4, 674, 676, 12), (4, 56, 0, 64, 2, 7, 668, 607, 608), (4, 61, 0, 40, 4, 4, 669, 671, 11), (5, 18, 1, 222, 2, 0, 465, 294, 0), (5, 33, 0, 44, 2, 5, 466, 468, 4), (5, 37, 1, 220, 1, 0, 470, 367, 0), (5, 51, 3, 118, 3, 0, 475, 283, 0), (5, 55, 0, 46, 2, 5, 491, 472, 473), (5, 58, 1, 50, 1, 0, 492, 493, 0), (6, 21, 1, 220, 1, 0, 580, 367, 0), (6, 27, 0, 54, 5, 6, 581, 583, 8), (6, 34, 0, 64, 2, 7, 620, 607, 608), (6, 39, 3, 118, 3, 0, 621, 283, 0), (6, 43, 0, 61, 2, 7, 593, 290, 291), (6, 47, 0, 58, 5, 6, 594, 596, 9), (7, 19, 1, 222, 2, 0, 293, 294, 0), (7, 25, 0, 62, 2, 7, 610, 309, 310), (7, 29, 3, 118, 3, 0, 346, 283, 0), (8, 25, 4, 8, 1, 1, 86, 87, 0), (8, 32, 4, 42, 1, 5, 120, 121, 0), (8, 42, 4, 52, 1, 6, 133, 134, 0), (8, 49, 4, 27, 1, 2, 143, 144, 0), (8, 56, 4, 37, 1, 4, 153, 154, 0), (8, 63, 4, 32, 1, 3, 174, 175, 0), (8, 70, 4, 0, 1, 0, 189, 190, 0), (8, 92, 4, 59, 1, 7, 210, 211, 0), (8, 93, 1, 119, 1, 0, 279, 280, 0), (8, 97, 0, 123, 2, 8, 285, 287, 0), (8, 101, 0, 61, 2, 7, 289, 290, 291), (8, 105, 0, 121, 2, 8, 300, 302, 1), (8, 109, 0, 62, 2, 7, 308, 309, 310), (8, 118, 0, 63, 3, 7, 320, 321, 322), (8, 128, 0, 65, 1, 7, 331, 332, 333), (8, 132, 1, 120, 1, 0, 339, 340, 0), (8, 135, 1, 118, 3, 0, 282, 283, 0), (8, 139, 0, 66, 3, 7, 342, 343, 344), (8, 142, 0, 10, 4, 1, 347, 348, 349), (8, 148, 0, 124, 2, 8, 352, 354, 2), (8, 151, 0, 67, 1, 7, 376, 377, 378), (8, 155, 0, 17, 1, 1, 384, 385, 386), (8, 159, 0, 122, 2, 8, 392, 394, 3), (8, 172, 0, 21, 1, 1, 362, 363, 364), (8, 175, 0, 14, 2, 1, 408, 409, 410), (8, 178, 0, 22, 1, 1, 416, 417, 418), (8, 181, 0, 18, 3, 1, 424, 425, 426), (8, 183, 0, 19, 3, 1, 428, 429, 430), (8, 186, 0, 20, 3, 1, 445, 446, 447), (8, 190, 0, 43, 2, 5, 461, 462, 463), (8, 194, 0, 46, 2, 5, 471, 472, 473), (8, 197, 0, 16, 1, 1, 480, 481, 482), (8, 200, 0, 49, 3, 5, 487, 488, 489), (8, 204, 0, 125, 3, 8, 499, 501, 5), (8, 207, 0, 48, 2, 5, 507, 508, 509), (8, 211, 0, 33, 2, 3, 515, 516, 517), (8, 214, 0, 35, 2, 3, 520, 521, 522), (8, 217, 0, 45, 2, 5, 524, 525, 526), (8, 221, 0, 36, 2, 3, 528, 529, 530), (8, 225, 0, 34, 1, 3, 533, 534, 535), (8, 228, 0, 51, 3, 5, 541, 542, 543), (8, 231, 1, 220, 1, 0, 549, 367, 0), (8, 236, 0, 28, 2, 2, 554, 555, 556), (8, 237, 0, 31, 3, 2, 568, 569, 570), (8, 241, 0, 53, 3, 6, 576, 577, 578), (8, 245, 0, 55, 1, 6, 585, 586, 587), (8, 248, 0, 57, 4, 6, 589, 590, 591), (8, 251, 0, 24, 2, 1, 602, 603, 604), (8, 255, 0, 68, 1, 7, 612, 613, 614), (8, 258, 0, 56, 3, 6, 616, 617, 618), (8, 262, 0, 47, 1, 5, 630, 631, 632), (8, 265, 0, 23, 2, 1, 638, 639, 640), (8, 268, 0, 12, 4, 1, 646, 647, 648), (8, 272, 0, 25, 2, 1, 654, 655, 656), (8, 275, 0, 38, 4, 4, 659, 660, 661), (8, 284, 0, 126, 5, 8, 682, 684, 13), (8, 288, 0, 15, 1, 1, 691, 692, 693), (8, 291, 0, 1, 3, 0, 695, 696, 697), (8, 293, 0, 7, 3, 0, 729, 730, 731), (8, 296, 0, 69, 2, 7, 742, 743, 744), (8, 299, 0, 13, 3, 1, 750, 751, 752), (8, 302, 0, 127, 1, 8, 775, 777, 19), (8, 305, 0, 128, 2, 8, 779, 781, 20), (8, 308, 0, 129, 1, 8, 783, 785, 21), (8, 313, 0, 26, 2, 1, 800, 801, 802), (8, 317, 0, 70, 2, 7, 806, 807, 808), (8, 318, 0, 60, 1, 7, 304, 305, 306), (8, 321, 0, 9, 1, 1, 396, 397, 398), (8, 322, 0, 11, 2, 1, 356, 357, 358), (8, 325, 0, 64, 2, 7, 686, 607, 608), (9, 73, 1, 131, 3, 0, 929, 930, 0), (9, 86, 1, 143, 1, 0, 952, 953, 0), (9, 90, 0, 134, 2, 9, 955, 957, 22), (9, 94, 0, 145, 3, 9, 959, 961, 23), (9, 98, 0, 144, 3, 9, 967, 969, 24), (9, 102, 0, 137, 3, 9, 971, 973, 25), (9, 105, 0, 152, 3, 9, 1006, 1008, 29), (9, 108, 1, 133, 1, 0, 1010, 1011, 0), (9, 111, 0, 153, 2, 9, 1002, 1004, 28), (9, 114, 1, 151, 1, 0, 995, 996, 0), (9, 117, 0, 155, 4, 9, 991, 993, 26), (9, 121, 0, 154, 5, 9, 998, 1000, 27), (9, 125, 1, 132, 2, 0, 1021, 1022, 0), (9, 129, 0, 159, 3, 9, 1028, 1030, 30), (9, 133, 0, 162, 3, 9, 1040, 1042, 31), (9, 136, 0, 165, 4, 9, 1052, 1054, 32), (9, 139, 0, 166, 4, 9, 1056, 1058, 33), (9, 142, 0, 172, 4, 9, 1080, 1082, 34), (9, 146, 0, 174, 4, 9, 1092, 1094, 36), (9, 150, 0, 175, 2, 9, 1088, 1090, 35), (9, 153, 0, 138, 2, 9, 1096, 1098, 37), (9, 157, 0, 178, 6, 9, 1108, 1110, 39), (9, 161, 0, 177, 2, 9, 1104, 1106, 38), (9, 164, 0, 181, 1, 9, 1120, 1122, 40), (9, 167, 0, 182, 1, 9, 1124, 1126, 41), (9, 174, 0, 184, 3, 9, 1132, 1134, 42), (9, 177, 0, 193, 2, 9, 1157, 1159, 45), (9, 180, 0, 188, 5, 9, 1153, 1155, 44), (9, 184, 0, 190, 3, 9, 1169, 1171, 48), (9, 202, 0, 189, 2, 9, 1161, 1163, 46), (9, 208, 0, 191, 3, 9, 1165, 1167, 47), (9, 214, 0, 192, 2, 9, 1173, 1175, 49), (9, 224, 0, 194, 5, 9, 1148, 1150, 43), (9, 227, 0, 196, 5, 9, 1185, 1187, 51), (9, 231, 0, 197, 4, 9, 1181, 1183, 50), (9, 235, 0, 198, 3, 9, 1189, 1191, 52), (9, 241, 0, 200, 4, 9, 1197, 1199, 53), (9, 245, 0, 201, 2, 9, 1201, 1203, 54), (9, 249, 0, 204, 2, 9, 1213, 1215, 55), (9, 252, 0, 208, 3, 9, 1229, 1231, 56), (9, 255, 0, 211, 3, 9, 1241, 1243, 57), (10, 9, 2, 71, 1, 8, 75, 76, 0), (10, 12, 2, 130, 1, 9, 813, 814, 0), (10, 13, 0, 72, 3, 8, 275, 276, 277), (10, 17, 0, 146, 3, 9, 948, 949, 950), (10, 18, 0, 73, 4, 8, 296, 297, 298), (10, 22, 0, 147, 4, 9, 963, 964, 965), (10, 23, 0, 74, 2, 8, 312, 313, 314), (10, 27, 0, 148, 2, 9, 975, 976, 977), (10, 28, 0, 75, 6, 8, 316, 317, 318), (10, 32, 0, 149, 6, 9, 979, 980, 981), (10, 33, 0, 76, 2, 8, 327, 328, 329), (10, 36, 0, 150, 2, 9, 983, 984, 985), (10, 37, 0, 77, 4, 8, 335, 336, 337), (10, 40, 0, 156, 4, 9, 987, 988, 989), (10, 41, 0, 78, 4, 8, 372, 373, 374), (10, 44, 0, 157, 4, 9, 1013, 1014, 1015), (10, 45, 0, 79, 4, 8, 380, 381, 382), (10, 48, 0, 158, 4, 9, 1017, 1018, 1019), (10, 49, 0, 80, 2, 8, 388, 389, 390), (10, 52, 0, 160, 2, 9, 1024, 1025, 1026), (10, 53, 0, 81, 3, 8, 400, 401, 402), (10, 56, 0, 161, 3, 9, 1032, 1033, 1034), (10, 57, 0, 82, 3, 8, 404, 405, 406), (10, 60, 0, 163, 3, 9, 1036, 1037, 1038), (10, 61, 0, 83, 3, 8, 412, 413, 414), (10, 64, 0, 164, 3, 9, 1044, 1045, 1046), (10, 65, 0, 84, 4, 8, 420, 421, 422), (10, 68, 0, 167, 4, 9, 1048, 1049, 1050), (10, 69, 0, 85, 5, 8, 433, 434, 435), (10, 73, 0, 168, 5, 9, 1060, 1061, 1062), (10, 74, 0, 86, 3, 8, 437, 438, 439), (10, 77, 0, 169, 3, 9, 1064, 1065, 1066), (10, 78, 0, 87, 3, 8, 441, 442, 443), (10, 81, 0, 170, 3, 9, 1068, 1069, 1070), (10, 82, 0, 88, 5, 8, 449, 450, 451), (10, 86, 0, 171, 5, 9, 1072, 1073, 1074), (10, 87, 0, 89, 4, 8, 453, 454, 455), (10, 90, 0, 173, 4, 9, 1076, 1077, 1078), (10, 91, 0, 90, 3, 8, 457, 458, 459), (10, 94, 0, 176, 3, 9, 1084, 1085, 1086), (10, 95, 0, 91, 3, 8, 476, 477, 478), (10, 98, 0, 179, 3, 9, 1100, 1101, 1102), (10, 99, 0, 92, 2, 8, 495, 496, 497), (10, 102, 0, 180, 2, 9, 1112, 1113, 1114), (10, 103, 0, 93, 3, 8, 503, 504, 505), (10, 106, 0, 183, 3, 9, 1116, 1117, 1118), (10, 107, 0, 94, 3, 8, 511, 512, 513), (10, 110, 0, 185, 3, 9, 1128, 1129, 1130), (10, 111, 0, 95, 3, 8, 537, 538, 539), (10, 114, 0, 186, 3, 9, 1136, 1137, 1138), (10, 115, 0, 96, 3, 8, 545, 546, 547), (10, 118, 0, 187, 3, 9, 1140, 1141, 1142), (10, 119, 0, 97, 4, 8, 550, 551, 552), (10, 122, 0, 195, 4, 9, 1144, 1145, 1146), (10, 123, 0, 98, 5, 8, 572, 573, 574), (10, 126, 0, 199, 5, 9, 1177, 1178, 1179), (10, 127, 0, 99, 3, 8, 598, 599, 600), (10, 130, 0, 202, 3, 9, 1193, 1194, 1195), (10, 131, 0, 100, 3, 8, 622, 623, 624), (10, 134, 0, 203, 3, 9, 1205, 1206, 1207), (10, 135, 0, 101, 2, 8, 626, 627, 628), (10, 138, 0, 205, 2, 9, 1209, 1210, 1211), (10, 139, 0, 102, 2, 8, 634, 635, 636), (10, 142, 0, 206, 2, 9, 1217, 1218, 1219), (10, 143, 0, 103, 4, 8, 642, 643, 644), (10, 146, 0, 207, 4, 9, 1221, 1222, 1223), (10, 147, 0, 104, 3, 8, 650, 651, 652), (10, 150, 0, 209, 3, 9, 1225, 1226, 1227), (10, 151, 0, 105, 5, 8, 678, 679, 680), (10, 154, 0, 210, 5, 9, 1233, 1234, 1235), (10, 155, 0, 106, 4, 8, 687, 688, 689), (10, 158, 0, 212, 4, 9, 1237, 1238, 1239), (10, 159, 0, 107, 3, 8, 734, 735, 736), (10, 162, 0, 213, 3, 9, 1245, 1246, 1247), (10, 163, 0, 108, 4, 8, 738, 739, 740), (10, 166, 0, 214, 4, 9, 1249, 1250, 1251), (10, 167, 0, 109, 3, 8, 746, 747, 748), (10, 170, 0, 215, 3, 9, 1253, 1254, 1255), (10, 171, 0, 110, 1, 8, 755, 756, 757), (10, 175, 0, 140, 1, 9, 936, 937, 938), (10, 176, 0, 111, 1, 8, 759, 760, 761), (10, 180, 0, 139, 1, 9, 932, 933, 934), (10, 181, 0, 112, 1, 8, 763, 764, 765), (10, 184, 0, 141, 1, 9, 940, 941, 942), (10, 185, 0, 113, 1, 8, 767, 768, 769), (10, 188, 0, 142, 1, 9, 944, 945, 946), (10, 189, 0, 114, 2, 8, 771, 772, 773), (10, 192, 0, 216, 2, 9, 1257, 1258, 1259), (10, 193, 0, 115, 1, 8, 787, 788, 789), (10, 196, 0, 135, 1, 9, 921, 922, 923), (10, 197, 0, 116, 2, 8, 791, 792, 793), (10, 200, 0, 136, 2, 9, 925, 926, 927), (10, 201, 0, 117, 1, 8, 795, 796, 797), (10, 204, 0, 217, 1, 9, 1261, 1262, 1263)]
def qm_os : List (Nat × Nat × Nat) := [(0, 3, 192), (1, 3, 89), (2, 3, 146), (3, 3, 177), (4, 3, 156), (5, 3, 123), (6, 3, 136), (7, 3, 213), (8, 1, 78), (9, 1, 816)]
def qm_ys : List (Nat × Nat × Nat) := [(1, 35, 361), (8, 122, 324)]
def qm_mx : List (Nat × Nat × Nat) := [(1, 49, 484)]
def qm_nw : List (Nat × Nat × Nat × Nat × Nat × Nat) := [(8, 9, 7, 81, 209, 67), (8, 15, 1, 83, 85, 60), (8, 30, 5, 118, 119, 61), (8, 40, 6, 131, 132, 62), (8, 47, 2, 141, 142, 63), (8, 54, 4, 151, 152, 64), (8, 61, 3, 172, 173, 65), (8, 68, 0, 187, 188, 66), (10, 7, 8, 73, 74, 59), (10, 10, 9, 811, 812, 68)]
def qm_an : List (Nat × Nat × Nat × Nat) := [(8, 9, 2, 81), (8, 15, 3, 83)]
def qm_ki : List (Nat × Nat × Int32 × Nat) := [(9, 223, 1000000, 1152), (11, 264, 65536, 715), (11, 265, 1431655765, 369), (11, 266, 858993459, 370), (11, 267, 252645135, 371)]
def qm_kl : List (Nat × Nat × Int32 × Nat) := [(1, 75, 31, 804), (7, 33, 31, 810), (8, 311, 17, 799), (9, 258, 17, 1265), (9, 260, 31, 1266)]
def qm_fsB (q : Nat × Nat × Nat × Nat × Nat) : Bool := match vwCl[q.2.2.1]? with
  | some r => decide (q.2.2.2.1 < r.2.2) && qm_at q.2.2.2.2 (.fieldLink (qm_own q.1) q.2.1 (r.2.1 q.2.2.2.1).1 (r.2.1 q.2.2.2.1).2.1 (r.2.1 q.2.2.2.1).2.2.1)
  | none => false
theorem qm_fs_ok : qm_fs.all qm_fsB = true := by decide +kernel
def qm_infB (m : qm_Inf) (q : Nat × Nat) : Bool := qm_at q.2 (.initialized m.1.cls) && (decide (m.2.2.2.2.1 = 12) || plainName m.1.cls) && decide (m.1.cls = qm_own m.2.2.2.2.1) && decide (m.1.cls ≠ "java/lang/invoke/MethodHandle" ∧ m.1.cls ≠ "java/lang/invoke/VarHandle") && decide ((parseMethodDescriptor m.1.desc).map (fun d => d.parameters.length) = some m.2.2.2.2.2) && decide (m.2.2.1 ≤ 20)
def qm_infL : List qm_Inf → List (Nat × Nat) → Bool
  | [], _ => true
  | m :: ms, q :: qs => qm_infB m q && qm_infL ms qs
  | _ :: _, [] => false
theorem qm_sg1 {w : Cond} (h : w ∈ tables_1_1) : w ∈ lw_tbl := List.mem_append_right _ (List.mem_append_left _ h)
theorem qm_sg2 {w : Cond} (h : w ∈ tables_1_2) : w ∈ lw_tbl := List.mem_append_right _ (List.mem_append_right _ (List.mem_append_left _ h))
theorem qm_sg3 {w : Cond} (h : w ∈ tables_1_3) : w ∈ lw_tbl := List.mem_append_right _ (List.mem_append_right _ (List.mem_append_right _ (List.mem_append_left _ h)))
theorem qm_sg4 {w : Cond} (h : w ∈ tables_1_4) : w ∈ lw_tbl := List.mem_append_right _ (List.mem_append_right _ (List.mem_append_right _ (List.mem_append_right _ (List.mem_append_left _ h))))
theorem qm_sg5 {w : Cond} (h : w ∈ tables_1_5) : w ∈ lw_tbl := List.mem_append_right _ (List.mem_append_right _ (List.mem_append_right _ (List.mem_append_right _ (List.mem_append_right _ (List.mem_append_left _ h)))))
theorem qm_sg6 {w : Cond} (h : w ∈ tables_1_6) : w ∈ lw_tbl := List.mem_append_right _ (List.mem_append_right _ (List.mem_append_right _ (List.mem_append_right _ (List.mem_append_right _ (List.mem_append_right _ (h))))))
set_option maxRecDepth 100000 in
theorem qm_cd_0 : Cond.code yX0_init cX0_init 1 (none) ∈ lw_tbl := qm_sg1 (List.mem_of_getElem? (i := 133) rfl)
set_option maxRecDepth 100000 in
theorem qm_cd_1 : Cond.code yX0_findFor cX0_findFor 4 (none) ∈ lw_tbl := qm_sg3 (List.mem_of_getElem? (i := 160) rfl)
set_option maxRecDepth 100000 in
theorem qm_cd_2 : Cond.code yX0_findPaths cX0_findPaths 4 (none) ∈ lw_tbl := qm_sg3 (List.mem_of_getElem? (i := 164) rfl)
set_option maxRecDepth 100000 in
theorem qm_cd_3 : Cond.code yX0_findRings cX0_findRings 7 (none) ∈ lw_tbl := qm_sg3 (List.mem_of_getElem? (i := 173) rfl)
set_option maxRecDepth 100000 in
theorem qm_cd_4 : Cond.code yX0_walksTo cX0_walksTo 7 (some .int) ∈ lw_tbl := qm_sg3 (List.mem_of_getElem? (i := 168) rfl)
set_option maxRecDepth 100000 in
theorem qm_cd_5 : Cond.code yX0_fallApart cX0_fallApart 4 (none) ∈ lw_tbl := qm_sg3 (List.mem_of_getElem? (i := 183) rfl)
set_option maxRecDepth 100000 in
theorem qm_cd_6 : Cond.code yX0_addPart cX0_addPart 8 (none) ∈ lw_tbl := qm_sg3 (List.mem_of_getElem? (i := 190) rfl)
set_option maxRecDepth 100000 in
theorem qm_cd_7 : Cond.code yX0_standsOf cX0_standsOf 3 (some .int) ∈ lw_tbl := qm_sg3 (List.mem_of_getElem? (i := 194) rfl)
set_option maxRecDepth 100000 in
theorem qm_cd_8 : Cond.code yX1_init cX1_init 1 (none) ∈ lw_tbl := qm_sg1 (List.mem_of_getElem? (i := 30) rfl)
set_option maxRecDepth 100000 in
theorem qm_cd_9 : Cond.code yX1_isThere cX1_isThere 1 (some .boolean) ∈ lw_tbl := qm_sg2 (List.mem_of_getElem? (i := 101) rfl)
set_option maxRecDepth 100000 in
theorem qm_cd_10 : Cond.code yX1_begin cX1_begin 4 (none) ∈ lw_tbl := qm_sg2 (List.mem_of_getElem? (i := 52) rfl)
set_option maxRecDepth 100000 in
theorem qm_cd_11 : Cond.code yX1_takeAll cX1_takeAll 2 (none) ∈ lw_tbl := qm_sg2 (List.mem_of_getElem? (i := 61) rfl)
set_option maxRecDepth 100000 in
theorem qm_cd_12 : Cond.code yX1_takeUntouched cX1_takeUntouched 5 (none) ∈ lw_tbl := qm_sg3 (List.mem_of_getElem? (i := 111) rfl)
set_option maxRecDepth 100000 in
theorem qm_cd_13 : Cond.code yX1_takeDiagonals cX1_takeDiagonals 5 (none) ∈ lw_tbl := qm_sg3 (List.mem_of_getElem? (i := 215) rfl)
set_option maxRecDepth 100000 in
theorem qm_cd_14 : Cond.code yX1_isOfKind cX1_isOfKind 2 (some .boolean) ∈ lw_tbl := qm_sg2 (List.mem_of_getElem? (i := 113) rfl)
set_option maxRecDepth 100000 in
theorem qm_cd_15 : Cond.code yX1_isSquare cX1_isSquare 1 (some .boolean) ∈ lw_tbl := qm_sg3 (List.mem_of_getElem? (i := 156) rfl)
set_option maxRecDepth 100000 in
theorem qm_cd_16 : Cond.code yX1_side cX1_side 1 (some .int) ∈ lw_tbl := qm_sg2 (List.mem_of_getElem? (i := 185) rfl)
set_option maxRecDepth 100000 in
theorem qm_cd_17 : Cond.code yX1_allColumns cX1_allColumns 1 (some .int) ∈ lw_tbl := qm_sg2 (List.mem_of_getElem? (i := 89) rfl)
set_option maxRecDepth 100000 in
theorem qm_cd_18 : Cond.code yX1_hasPlace cX1_hasPlace 3 (some .boolean) ∈ lw_tbl := qm_sg2 (List.mem_of_getElem? (i := 129) rfl)
set_option maxRecDepth 100000 in
theorem qm_cd_19 : Cond.code yX1_hasCell cX1_hasCell 3 (some .boolean) ∈ lw_tbl := qm_sg2 (List.mem_of_getElem? (i := 133) rfl)
set_option maxRecDepth 100000 in
theorem qm_cd_20 : Cond.code yX1_addCell cX1_addCell 3 (none) ∈ lw_tbl := qm_sg2 (List.mem_of_getElem? (i := 150) rfl)
set_option maxRecDepth 100000 in
theorem qm_cd_21 : Cond.code yX1_cellCount cX1_cellCount 3 (some .int) ∈ lw_tbl := qm_sg2 (List.mem_of_getElem? (i := 67) rfl)
set_option maxRecDepth 100000 in
theorem qm_cd_22 : Cond.code yX1_unlikeLengths cX1_unlikeLengths 4 (some .int) ∈ lw_tbl := qm_sg2 (List.mem_of_getElem? (i := 121) rfl)
set_option maxRecDepth 100000 in
theorem qm_cd_23 : Cond.code yX1_columnsOutside cX1_columnsOutside 4 (some .int) ∈ lw_tbl := qm_sg3 (List.mem_of_getElem? (i := 103) rfl)
set_option maxRecDepth 100000 in
theorem qm_cd_24 : Cond.code yX1_faultOfStand cX1_faultOfStand 5 (some .int) ∈ lw_tbl := qm_sg3 (List.mem_of_getElem? (i := 67) rfl)
set_option maxRecDepth 100000 in
theorem qm_cd_25 : Cond.code yX1_faultOfWeights cX1_faultOfWeights 2 (some .int) ∈ lw_tbl := qm_sg3 (List.mem_of_getElem? (i := 119) rfl)
set_option maxRecDepth 100000 in
theorem qm_cd_26 : Cond.code yX1_digestOnto cX1_digestOnto 6 (some .long) ∈ lw_tbl := qm_sg4 (List.mem_of_getElem? (i := 25) rfl)
set_option maxRecDepth 100000 in
theorem qm_cd_27 : Cond.code yX2_init cX2_init 1 (none) ∈ lw_tbl := qm_sg1 (List.mem_of_getElem? (i := 87) rfl)
set_option maxRecDepth 100000 in
theorem qm_cd_28 : Cond.code yX2_findFor cX2_findFor 5 (none) ∈ lw_tbl := qm_sg3 (List.mem_of_getElem? (i := 19) rfl)
set_option maxRecDepth 100000 in
theorem qm_cd_29 : Cond.code yX2_addRow cX2_addRow 7 (none) ∈ lw_tbl := qm_sg3 (List.mem_of_getElem? (i := 24) rfl)
set_option maxRecDepth 100000 in
theorem qm_cd_30 : Cond.code yX2_give cX2_give 4 (none) ∈ lw_tbl := qm_sg3 (List.mem_of_getElem? (i := 29) rfl)
set_option maxRecDepth 100000 in
theorem qm_cd_31 : Cond.code yX2_standsThatLeave cX2_standsThatLeave 5 (some .int) ∈ lw_tbl := qm_sg3 (List.mem_of_getElem? (i := 33) rfl)
set_option maxRecDepth 100000 in
theorem qm_cd_32 : Cond.code yX3_init cX3_init 1 (none) ∈ lw_tbl := qm_sg1 (List.mem_of_getElem? (i := 118) rfl)
set_option maxRecDepth 100000 in
theorem qm_cd_33 : Cond.code yX3_beginWith cX3_beginWith 2 (none) ∈ lw_tbl := qm_sg2 (List.mem_of_getElem? (i := 220) rfl)
set_option maxRecDepth 100000 in
theorem qm_cd_34 : Cond.code yX3_goOn cX3_goOn 4 (some .boolean) ∈ lw_tbl := qm_sg2 (List.mem_of_getElem? (i := 238) rfl)
set_option maxRecDepth 100000 in
theorem qm_cd_35 : Cond.code yX3_haveCells cX3_haveCells 4 (some .boolean) ∈ lw_tbl := qm_sg2 (List.mem_of_getElem? (i := 225) rfl)
set_option maxRecDepth 100000 in
theorem qm_cd_36 : Cond.code yX3_writeTo cX3_writeTo 3 (none) ∈ lw_tbl := qm_sg2 (List.mem_of_getElem? (i := 233) rfl)
set_option maxRecDepth 100000 in
theorem qm_cd_37 : Cond.code yX4_init cX4_init 1 (none) ∈ lw_tbl := qm_sg1 (List.mem_of_getElem? (i := 97) rfl)
set_option maxRecDepth 100000 in
theorem qm_cd_38 : Cond.code yX4_findFor cX4_findFor 5 (none) ∈ lw_tbl := qm_sg3 (List.mem_of_getElem? (i := 124) rfl)
set_option maxRecDepth 100000 in
theorem qm_cd_39 : Cond.code yX4_addRow cX4_addRow 7 (none) ∈ lw_tbl := qm_sg3 (List.mem_of_getElem? (i := 129) rfl)
set_option maxRecDepth 100000 in
theorem qm_cd_40 : Cond.code yX4_offer cX4_offer 4 (none) ∈ lw_tbl := qm_sg3 (List.mem_of_getElem? (i := 134) rfl)
set_option maxRecDepth 100000 in
theorem qm_cd_41 : Cond.code yX4_choose cX4_choose 2 (none) ∈ lw_tbl := qm_sg3 (List.mem_of_getElem? (i := 139) rfl)
set_option maxRecDepth 100000 in
theorem qm_cd_42 : Cond.code yX5_init cX5_init 1 (none) ∈ lw_tbl := qm_sg1 (List.mem_of_getElem? (i := 64) rfl)
set_option maxRecDepth 100000 in
theorem qm_cd_43 : Cond.code yX5_findFor cX5_findFor 3 (none) ∈ lw_tbl := qm_sg2 (List.mem_of_getElem? (i := 166) rfl)
set_option maxRecDepth 100000 in
theorem qm_cd_44 : Cond.code yX5_addRow cX5_addRow 5 (none) ∈ lw_tbl := qm_sg2 (List.mem_of_getElem? (i := 171) rfl)
set_option maxRecDepth 100000 in
theorem qm_cd_45 : Cond.code yX5_findForStairs cX5_findForStairs 4 (none) ∈ lw_tbl := qm_sg2 (List.mem_of_getElem? (i := 229) rfl)
set_option maxRecDepth 100000 in
theorem qm_cd_46 : Cond.code yX5_at cX5_at 2 (some .int) ∈ lw_tbl := qm_sg2 (List.mem_of_getElem? (i := 176) rfl)
set_option maxRecDepth 100000 in
theorem qm_cd_47 : Cond.code yX5_greatest cX5_greatest 2 (some .int) ∈ lw_tbl := qm_sg3 (List.mem_of_getElem? (i := 95) rfl)
set_option maxRecDepth 100000 in
theorem qm_cd_48 : Cond.code yX5_isSameAs cX5_isSameAs 3 (some .boolean) ∈ lw_tbl := qm_sg2 (List.mem_of_getElem? (i := 212) rfl)
set_option maxRecDepth 100000 in
theorem qm_cd_49 : Cond.code yX5_ordersThatHit cX5_ordersThatHit 10 (some .long) ∈ lw_tbl := qm_sg2 (List.mem_of_getElem? (i := 192) rfl)
set_option maxRecDepth 100000 in
theorem qm_cd_50 : Cond.code yX5_factorial cX5_factorial 4 (some .long) ∈ lw_tbl := qm_sg2 (List.mem_of_getElem? (i := 196) rfl)
set_option maxRecDepth 100000 in
theorem qm_cd_51 : Cond.code yX5_fallingSum cX5_fallingSum 8 (some .long) ∈ lw_tbl := qm_sg3 (List.mem_of_getElem? (i := 6) rfl)
set_option maxRecDepth 100000 in
theorem qm_cd_52 : Cond.code yX6_init cX6_init 1 (none) ∈ lw_tbl := qm_sg1 (List.mem_of_getElem? (i := 77) rfl)
set_option maxRecDepth 100000 in
theorem qm_cd_53 : Cond.code yX6_prepare cX6_prepare 5 (none) ∈ lw_tbl := qm_sg3 (List.mem_of_getElem? (i := 41) rfl)
set_option maxRecDepth 100000 in
theorem qm_cd_54 : Cond.code yX6_countAhead cX6_countAhead 8 (some .int) ∈ lw_tbl := qm_sg3 (List.mem_of_getElem? (i := 46) rfl)
set_option maxRecDepth 100000 in
theorem qm_cd_55 : Cond.code yX6_all cX6_all 1 (some .int) ∈ lw_tbl := qm_sg3 (List.mem_of_getElem? (i := 50) rfl)
set_option maxRecDepth 100000 in
theorem qm_cd_56 : Cond.code yX6_numberOf cX6_numberOf 7 (some .int) ∈ lw_tbl := qm_sg3 (List.mem_of_getElem? (i := 81) rfl)
set_option maxRecDepth 100000 in
theorem qm_cd_57 : Cond.code yX6_writeTo cX6_writeTo 8 (none) ∈ lw_tbl := qm_sg3 (List.mem_of_getElem? (i := 54) rfl)
set_option maxRecDepth 100000 in
theorem qm_cd_58 : Cond.code yX6_columnOf cX6_columnOf 6 (some .int) ∈ lw_tbl := qm_sg3 (List.mem_of_getElem? (i := 59) rfl)
set_option maxRecDepth 100000 in
theorem qm_cd_59 : Cond.code yX7_init cX7_init 1 (none) ∈ lw_tbl := qm_sg1 (List.mem_of_getElem? (i := 154) rfl)
set_option maxRecDepth 100000 in
theorem qm_cd_60 : Cond.code yX7_isThere cX7_isThere 1 (some .boolean) ∈ lw_tbl := qm_sg2 (List.mem_of_getElem? (i := 9) rfl)
set_option maxRecDepth 100000 in
theorem qm_cd_61 : Cond.code yX7_begin cX7_begin 2 (none) ∈ lw_tbl := qm_sg1 (List.mem_of_getElem? (i := 234) rfl)
set_option maxRecDepth 100000 in
theorem qm_cd_62 : Cond.code yX7_hasPlace cX7_hasPlace 2 (some .boolean) ∈ lw_tbl := qm_sg2 (List.mem_of_getElem? (i := 13) rfl)
set_option maxRecDepth 100000 in
theorem qm_cd_63 : Cond.code yX7_hasSpan cX7_hasSpan 3 (some .boolean) ∈ lw_tbl := qm_sg2 (List.mem_of_getElem? (i := 25) rfl)
set_option maxRecDepth 100000 in
theorem qm_cd_64 : Cond.code yX7_at cX7_at 2 (some .int) ∈ lw_tbl := qm_sg3 (List.mem_of_getElem? (i := 71) rfl)
set_option maxRecDepth 100000 in
theorem qm_cd_65 : Cond.code yX7_total cX7_total 4 (some .long) ∈ lw_tbl := qm_sg2 (List.mem_of_getElem? (i := 36) rfl)
set_option maxRecDepth 100000 in
theorem qm_cd_66 : Cond.code yX7_isAllWithin cX7_isAllWithin 4 (some .boolean) ∈ lw_tbl := qm_sg2 (List.mem_of_getElem? (i := 47) rfl)
set_option maxRecDepth 100000 in
theorem qm_cd_67 : Cond.code yX7_isRising cX7_isRising 2 (some .boolean) ∈ lw_tbl := qm_sg2 (List.mem_of_getElem? (i := 81) rfl)
set_option maxRecDepth 100000 in
theorem qm_cd_68 : Cond.code yX7_towerCount cX7_towerCount 3 (some .int) ∈ lw_tbl := qm_sg3 (List.mem_of_getElem? (i := 77) rfl)
set_option maxRecDepth 100000 in
theorem qm_cd_69 : Cond.code yX7_ringWithLeast cX7_ringWithLeast 5 (some .int) ∈ lw_tbl := qm_sg3 (List.mem_of_getElem? (i := 207) rfl)
set_option maxRecDepth 100000 in
theorem qm_cd_70 : Cond.code yX7_digestOnto cX7_digestOnto 6 (some .long) ∈ lw_tbl := qm_sg4 (List.mem_of_getElem? (i := 31) rfl)
set_option maxRecDepth 100000 in
theorem qm_cd_71 : Cond.code yX8_init cX8_init 2 (none) ∈ lw_tbl := qm_sg1 (List.mem_of_getElem? (i := 19) rfl)
set_option maxRecDepth 100000 in
theorem qm_cd_72 : Cond.code yX8_row cX8_row 3 (some .int) ∈ lw_tbl := qm_sg1 (List.mem_of_getElem? (i := 220) rfl)
set_option maxRecDepth 100000 in
theorem qm_cd_73 : Cond.code yX8_lay cX8_lay 5 (some .int) ∈ lw_tbl := qm_sg2 (List.mem_of_getElem? (i := 1) rfl)
set_option maxRecDepth 100000 in
theorem qm_cd_74 : Cond.code yX8_tear cX8_tear 3 (some .int) ∈ lw_tbl := qm_sg2 (List.mem_of_getElem? (i := 17) rfl)
set_option maxRecDepth 100000 in
theorem qm_cd_75 : Cond.code yX8_copy cX8_copy 8 (some .int) ∈ lw_tbl := qm_sg2 (List.mem_of_getElem? (i := 21) rfl)
set_option maxRecDepth 100000 in
theorem qm_cd_76 : Cond.code yX8_mean cX8_mean 3 (some .int) ∈ lw_tbl := qm_sg2 (List.mem_of_getElem? (i := 32) rfl)
set_option maxRecDepth 100000 in
theorem qm_cd_77 : Cond.code yX8_board cX8_board 6 (some .int) ∈ lw_tbl := qm_sg2 (List.mem_of_getElem? (i := 40) rfl)
set_option maxRecDepth 100000 in
theorem qm_cd_78 : Cond.code yX8_stairs cX8_stairs 6 (some .int) ∈ lw_tbl := qm_sg2 (List.mem_of_getElem? (i := 77) rfl)
set_option maxRecDepth 100000 in
theorem qm_cd_79 : Cond.code yX8_ring cX8_ring 6 (some .int) ∈ lw_tbl := qm_sg2 (List.mem_of_getElem? (i := 85) rfl)
set_option maxRecDepth 100000 in
theorem qm_cd_80 : Cond.code yX8_drop cX8_drop 3 (some .int) ∈ lw_tbl := qm_sg2 (List.mem_of_getElem? (i := 93) rfl)
set_option maxRecDepth 100000 in
theorem qm_cd_81 : Cond.code yX8_told cX8_told 4 (some .int) ∈ lw_tbl := qm_sg2 (List.mem_of_getElem? (i := 105) rfl)
set_option maxRecDepth 100000 in
theorem qm_cd_82 : Cond.code yX8_is cX8_is 4 (some .int) ∈ lw_tbl := qm_sg2 (List.mem_of_getElem? (i := 109) rfl)
set_option maxRecDepth 100000 in
theorem qm_cd_83 : Cond.code yX8_mark cX8_mark 4 (some .int) ∈ lw_tbl := qm_sg2 (List.mem_of_getElem? (i := 117) rfl)
set_option maxRecDepth 100000 in
theorem qm_cd_84 : Cond.code yX8_cell cX8_cell 5 (some .int) ∈ lw_tbl := qm_sg2 (List.mem_of_getElem? (i := 125) rfl)
set_option maxRecDepth 100000 in
theorem qm_cd_85 : Cond.code yX8_set cX8_set 7 (some .int) ∈ lw_tbl := qm_sg2 (List.mem_of_getElem? (i := 138) rfl)
set_option maxRecDepth 100000 in
theorem qm_cd_86 : Cond.code yX8_other cX8_other 5 (some .int) ∈ lw_tbl := qm_sg2 (List.mem_of_getElem? (i := 142) rfl)
set_option maxRecDepth 100000 in
theorem qm_cd_87 : Cond.code yX8_turn cX8_turn 6 (some .int) ∈ lw_tbl := qm_sg2 (List.mem_of_getElem? (i := 146) rfl)
set_option maxRecDepth 100000 in
theorem qm_cd_88 : Cond.code yX8_without cX8_without 9 (some .int) ∈ lw_tbl := qm_sg2 (List.mem_of_getElem? (i := 154) rfl)
set_option maxRecDepth 100000 in
theorem qm_cd_89 : Cond.code yX8_join cX8_join 9 (some .int) ∈ lw_tbl := qm_sg2 (List.mem_of_getElem? (i := 158) rfl)
set_option maxRecDepth 100000 in
theorem qm_cd_90 : Cond.code yX8_towers cX8_towers 4 (some .int) ∈ lw_tbl := qm_sg2 (List.mem_of_getElem? (i := 162) rfl)
set_option maxRecDepth 100000 in
theorem qm_cd_91 : Cond.code yX8_hits cX8_hits 4 (some .int) ∈ lw_tbl := qm_sg2 (List.mem_of_getElem? (i := 181) rfl)
set_option maxRecDepth 100000 in
theorem qm_cd_92 : Cond.code yX8_meanHits cX8_meanHits 3 (some .int) ∈ lw_tbl := qm_sg2 (List.mem_of_getElem? (i := 200) rfl)
set_option maxRecDepth 100000 in
theorem qm_cd_93 : Cond.code yX8_alike cX8_alike 5 (some .int) ∈ lw_tbl := qm_sg2 (List.mem_of_getElem? (i := 208) rfl)
set_option maxRecDepth 100000 in
theorem qm_cd_94 : Cond.code yX8_stairsLike cX8_stairsLike 7 (some .int) ∈ lw_tbl := qm_sg2 (List.mem_of_getElem? (i := 216) rfl)
set_option maxRecDepth 100000 in
theorem qm_cd_95 : Cond.code yX8_sum cX8_sum 4 (some .int) ∈ lw_tbl := qm_sg3 (List.mem_of_getElem? (i := 2) rfl)
set_option maxRecDepth 100000 in
theorem qm_cd_96 : Cond.code yX8_root cX8_root 4 (some .int) ∈ lw_tbl := qm_sg3 (List.mem_of_getElem? (i := 10) rfl)
set_option maxRecDepth 100000 in
theorem qm_cd_97 : Cond.code yX8_spread cX8_spread 5 (some .int) ∈ lw_tbl := qm_sg3 (List.mem_of_getElem? (i := 15) rfl)
set_option maxRecDepth 100000 in
theorem qm_cd_98 : Cond.code yX8_stand cX8_stand 6 (some .int) ∈ lw_tbl := qm_sg3 (List.mem_of_getElem? (i := 37) rfl)
set_option maxRecDepth 100000 in
theorem qm_cd_99 : Cond.code yX8_rank cX8_rank 6 (some .int) ∈ lw_tbl := qm_sg3 (List.mem_of_getElem? (i := 63) rfl)
set_option maxRecDepth 100000 in
theorem qm_cd_100 : Cond.code yX8_next cX8_next 7 (some .int) ∈ lw_tbl := qm_sg3 (List.mem_of_getElem? (i := 87) rfl)
set_option maxRecDepth 100000 in
theorem qm_cd_101 : Cond.code yX8_most cX8_most 3 (some .int) ∈ lw_tbl := qm_sg3 (List.mem_of_getElem? (i := 91) rfl)
set_option maxRecDepth 100000 in
theorem qm_cd_102 : Cond.code yX8_cover cX8_cover 7 (some .int) ∈ lw_tbl := qm_sg3 (List.mem_of_getElem? (i := 99) rfl)
set_option maxRecDepth 100000 in
theorem qm_cd_103 : Cond.code yX8_need cX8_need 8 (some .int) ∈ lw_tbl := qm_sg3 (List.mem_of_getElem? (i := 107) rfl)
set_option maxRecDepth 100000 in
theorem qm_cd_104 : Cond.code yX8_least cX8_least 6 (some .int) ∈ lw_tbl := qm_sg3 (List.mem_of_getElem? (i := 115) rfl)
set_option maxRecDepth 100000 in
theorem qm_cd_105 : Cond.code yX8_lack cX8_lack 8 (some .int) ∈ lw_tbl := qm_sg3 (List.mem_of_getElem? (i := 143) rfl)
set_option maxRecDepth 100000 in
theorem qm_cd_106 : Cond.code yX8_rounds cX8_rounds 5 (some .int) ∈ lw_tbl := qm_sg3 (List.mem_of_getElem? (i := 152) rfl)
set_option maxRecDepth 100000 in
theorem qm_cd_107 : Cond.code yX8_longRings cX8_longRings 5 (some .int) ∈ lw_tbl := qm_sg3 (List.mem_of_getElem? (i := 199) rfl)
set_option maxRecDepth 100000 in
theorem qm_cd_108 : Cond.code yX8_ringOf cX8_ringOf 10 (some .int) ∈ lw_tbl := qm_sg3 (List.mem_of_getElem? (i := 203) rfl)
set_option maxRecDepth 100000 in
theorem qm_cd_109 : Cond.code yX8_slants cX8_slants 5 (some .int) ∈ lw_tbl := qm_sg3 (List.mem_of_getElem? (i := 211) rfl)
set_option maxRecDepth 100000 in
theorem qm_cd_110 : Cond.code yX8_ways cX8_ways 1 (some .long) ∈ lw_tbl := qm_sg3 (List.mem_of_getElem? (i := 220) rfl)
set_option maxRecDepth 100000 in
theorem qm_cd_111 : Cond.code yX8_asked cX8_asked 1 (some .int) ∈ lw_tbl := qm_sg3 (List.mem_of_getElem? (i := 224) rfl)
set_option maxRecDepth 100000 in
theorem qm_cd_112 : Cond.code yX8_upper cX8_upper 1 (some .long) ∈ lw_tbl := qm_sg3 (List.mem_of_getElem? (i := 228) rfl)
set_option maxRecDepth 100000 in
theorem qm_cd_113 : Cond.code yX8_lower cX8_lower 1 (some .long) ∈ lw_tbl := qm_sg3 (List.mem_of_getElem? (i := 232) rfl)
set_option maxRecDepth 100000 in
theorem qm_cd_114 : Cond.code yX8_count cX8_count 2 (some .int) ∈ lw_tbl := qm_sg3 (List.mem_of_getElem? (i := 236) rfl)
set_option maxRecDepth 100000 in
theorem qm_cd_115 : Cond.code yX8_finding cX8_finding 1 (some .int) ∈ lw_tbl := qm_sg4 (List.mem_of_getElem? (i := 12) rfl)
set_option maxRecDepth 100000 in
theorem qm_cd_116 : Cond.code yX8_findings cX8_findings 2 (some .int) ∈ lw_tbl := qm_sg4 (List.mem_of_getElem? (i := 16) rfl)
set_option maxRecDepth 100000 in
theorem qm_cd_117 : Cond.code yX8_digest cX8_digest 4 (some .long) ∈ lw_tbl := qm_sg4 (List.mem_of_getElem? (i := 20) rfl)
set_option maxRecDepth 100000 in
theorem qm_cd_118 : Cond.code yX8_isWithin cX8_isWithin 3 (some .boolean) ∈ lw_tbl := qm_sg1 (List.mem_of_getElem? (i := 226) rfl)
set_option maxRecDepth 100000 in
theorem qm_cd_119 : Cond.code yX8_isRowNumber cX8_isRowNumber 1 (some .boolean) ∈ lw_tbl := qm_sg1 (List.mem_of_getElem? (i := 223) rfl)
set_option maxRecDepth 100000 in
theorem qm_cd_120 : Cond.code yX8_isBoardNumber cX8_isBoardNumber 1 (some .boolean) ∈ lw_tbl := qm_sg2 (List.mem_of_getElem? (i := 43) rfl)
set_option maxRecDepth 100000 in
theorem qm_cd_121 : Cond.code yX8_rowAt cX8_rowAt 3 (some (.object "TowerBoards$Row")) ∈ lw_tbl := qm_sg2 (List.mem_of_getElem? (i := 5) rfl)
set_option maxRecDepth 100000 in
theorem qm_cd_122 : Cond.code yX8_boardAt cX8_boardAt 3 (some (.object "TowerBoards$Board")) ∈ lw_tbl := qm_sg2 (List.mem_of_getElem? (i := 97) rfl)
set_option maxRecDepth 100000 in
theorem qm_cd_123 : Cond.code yX8_refused cX8_refused 2 (some .int) ∈ lw_tbl := qm_sg1 (List.mem_of_getElem? (i := 230) rfl)
set_option maxRecDepth 100000 in
theorem qm_cd_124 : Cond.code yX8_keepDraft cX8_keepDraft 2 (some .int) ∈ lw_tbl := qm_sg2 (List.mem_of_getElem? (i := 57) rfl)
set_option maxRecDepth 100000 in
theorem qm_cd_125 : Cond.code yX8_tellFraction cX8_tellFraction 5 (none) ∈ lw_tbl := qm_sg2 (List.mem_of_getElem? (i := 204) rfl)
set_option maxRecDepth 100000 in
theorem qm_cd_126 : Cond.code yX8_lackOf cX8_lackOf 7 (some .int) ∈ lw_tbl := qm_sg3 (List.mem_of_getElem? (i := 147) rfl)
set_option maxRecDepth 100000 in
theorem qm_cd_127 : Cond.code yX8_rowCount cX8_rowCount 3 (some .int) ∈ lw_tbl := qm_sg4 (List.mem_of_getElem? (i := 0) rfl)
set_option maxRecDepth 100000 in
theorem qm_cd_128 : Cond.code yX8_boardCount cX8_boardCount 4 (some .int) ∈ lw_tbl := qm_sg4 (List.mem_of_getElem? (i := 4) rfl)
set_option maxRecDepth 100000 in
theorem qm_cd_129 : Cond.code yX8_allCellCount cX8_allCellCount 3 (some .int) ∈ lw_tbl := qm_sg4 (List.mem_of_getElem? (i := 8) rfl)
set_option maxRecDepth 100000 in
theorem qm_cd_130 : Cond.code yX9_init cX9_init 2 (none) ∈ lw_tbl := qm_sg4 (List.mem_of_getElem? (i := 37) rfl)
set_option maxRecDepth 100000 in
theorem qm_cd_131 : Cond.code yX9_in cX9_in 3 (some .boolean) ∈ lw_tbl := qm_sg4 (List.mem_of_getElem? (i := 153) rfl)
set_option maxRecDepth 100000 in
theorem qm_cd_132 : Cond.code yX9_has cX9_has 2 (some .boolean) ∈ lw_tbl := qm_sg5 (List.mem_of_getElem? (i := 5) rfl)
set_option maxRecDepth 100000 in
theorem qm_cd_133 : Cond.code yX9_bitsOf cX9_bitsOf 3 (some .int) ∈ lw_tbl := qm_sg4 (List.mem_of_getElem? (i := 234) rfl)
set_option maxRecDepth 100000 in
theorem qm_cd_134 : Cond.code yX9_meets cX9_meets 2 (some .int) ∈ lw_tbl := qm_sg4 (List.mem_of_getElem? (i := 180) rfl)
set_option maxRecDepth 100000 in
theorem qm_cd_135 : Cond.code yX9_finding cX9_finding 1 (some .int) ∈ lw_tbl := qm_sg4 (List.mem_of_getElem? (i := 146) rfl)
set_option maxRecDepth 100000 in
theorem qm_cd_136 : Cond.code yX9_findings cX9_findings 2 (some .int) ∈ lw_tbl := qm_sg4 (List.mem_of_getElem? (i := 150) rfl)
set_option maxRecDepth 100000 in
theorem qm_cd_137 : Cond.code yX9_tells cX9_tells 3 (some .int) ∈ lw_tbl := qm_sg4 (List.mem_of_getElem? (i := 196) rfl)
set_option maxRecDepth 100000 in
theorem qm_cd_138 : Cond.code yX9_tellsWays cX9_tellsWays 3 (some .int) ∈ lw_tbl := qm_sg5 (List.mem_of_getElem? (i := 81) rfl)
set_option maxRecDepth 100000 in
theorem qm_cd_139 : Cond.code yX9_asked cX9_asked 1 (some .int) ∈ lw_tbl := qm_sg4 (List.mem_of_getElem? (i := 157) rfl)
set_option maxRecDepth 100000 in
theorem qm_cd_140 : Cond.code yX9_ways cX9_ways 1 (some .long) ∈ lw_tbl := qm_sg4 (List.mem_of_getElem? (i := 161) rfl)
set_option maxRecDepth 100000 in
theorem qm_cd_141 : Cond.code yX9_upper cX9_upper 1 (some .long) ∈ lw_tbl := qm_sg4 (List.mem_of_getElem? (i := 165) rfl)
set_option maxRecDepth 100000 in
theorem qm_cd_142 : Cond.code yX9_lower cX9_lower 1 (some .long) ∈ lw_tbl := qm_sg4 (List.mem_of_getElem? (i := 169) rfl)
set_option maxRecDepth 100000 in
theorem qm_cd_143 : Cond.code yX9_isRow cX9_isRow 1 (some .boolean) ∈ lw_tbl := qm_sg4 (List.mem_of_getElem? (i := 176) rfl)
set_option maxRecDepth 100000 in
theorem qm_cd_144 : Cond.code yX9_rowAt cX9_rowAt 3 (some .int) ∈ lw_tbl := qm_sg4 (List.mem_of_getElem? (i := 192) rfl)
set_option maxRecDepth 100000 in
theorem qm_cd_145 : Cond.code yX9_begin cX9_begin 4 (none) ∈ lw_tbl := qm_sg4 (List.mem_of_getElem? (i := 184) rfl)
set_option maxRecDepth 100000 in
theorem qm_cd_146 : Cond.code yX9_row cX9_row 3 (some .int) ∈ lw_tbl := qm_sg4 (List.mem_of_getElem? (i := 173) rfl)
set_option maxRecDepth 100000 in
theorem qm_cd_147 : Cond.code yX9_lay cX9_lay 5 (some .int) ∈ lw_tbl := qm_sg4 (List.mem_of_getElem? (i := 188) rfl)
set_option maxRecDepth 100000 in
theorem qm_cd_148 : Cond.code yX9_tear cX9_tear 2 (some .int) ∈ lw_tbl := qm_sg4 (List.mem_of_getElem? (i := 200) rfl)
set_option maxRecDepth 100000 in
theorem qm_cd_149 : Cond.code yX9_copy cX9_copy 7 (some .int) ∈ lw_tbl := qm_sg4 (List.mem_of_getElem? (i := 204) rfl)
set_option maxRecDepth 100000 in
theorem qm_cd_150 : Cond.code yX9_mean cX9_mean 5 (some .int) ∈ lw_tbl := qm_sg4 (List.mem_of_getElem? (i := 208) rfl)
set_option maxRecDepth 100000 in
theorem qm_cd_151 : Cond.code yX9_isBoard cX9_isBoard 1 (some .boolean) ∈ lw_tbl := qm_sg4 (List.mem_of_getElem? (i := 219) rfl)
set_option maxRecDepth 100000 in
theorem qm_cd_152 : Cond.code yX9_of cX9_of 3 (some .int) ∈ lw_tbl := qm_sg4 (List.mem_of_getElem? (i := 231) rfl)
set_option maxRecDepth 100000 in
theorem qm_cd_153 : Cond.code yX9_manyOf cX9_manyOf 4 (some .int) ∈ lw_tbl := qm_sg4 (List.mem_of_getElem? (i := 227) rfl)
set_option maxRecDepth 100000 in
theorem qm_cd_154 : Cond.code yX9_come cX9_come 6 (some .int) ∈ lw_tbl := qm_sg4 (List.mem_of_getElem? (i := 223) rfl)
set_option maxRecDepth 100000 in
theorem qm_cd_155 : Cond.code yX9_needSix cX9_needSix 4 (some .int) ∈ lw_tbl := qm_sg4 (List.mem_of_getElem? (i := 216) rfl)
set_option maxRecDepth 100000 in
theorem qm_cd_156 : Cond.code yX9_board cX9_board 7 (some .int) ∈ lw_tbl := qm_sg4 (List.mem_of_getElem? (i := 212) rfl)
set_option maxRecDepth 100000 in
theorem qm_cd_157 : Cond.code yX9_stairs cX9_stairs 8 (some .int) ∈ lw_tbl := qm_sg4 (List.mem_of_getElem? (i := 238) rfl)
set_option maxRecDepth 100000 in
theorem qm_cd_158 : Cond.code yX9_ring cX9_ring 6 (some .int) ∈ lw_tbl := qm_sg5 (List.mem_of_getElem? (i := 2) rfl)
set_option maxRecDepth 100000 in
theorem qm_cd_159 : Cond.code yX9_need cX9_need 3 (some .int) ∈ lw_tbl := qm_sg5 (List.mem_of_getElem? (i := 13) rfl)
set_option maxRecDepth 100000 in
theorem qm_cd_160 : Cond.code yX9_drop cX9_drop 3 (some .int) ∈ lw_tbl := qm_sg5 (List.mem_of_getElem? (i := 9) rfl)
set_option maxRecDepth 100000 in
theorem qm_cd_161 : Cond.code yX9_told cX9_told 4 (some .int) ∈ lw_tbl := qm_sg5 (List.mem_of_getElem? (i := 17) rfl)
set_option maxRecDepth 100000 in
theorem qm_cd_162 : Cond.code yX9_isKind cX9_isKind 3 (some .boolean) ∈ lw_tbl := qm_sg5 (List.mem_of_getElem? (i := 25) rfl)
set_option maxRecDepth 100000 in
theorem qm_cd_163 : Cond.code yX9_is cX9_is 4 (some .int) ∈ lw_tbl := qm_sg5 (List.mem_of_getElem? (i := 21) rfl)
set_option maxRecDepth 100000 in
theorem qm_cd_164 : Cond.code yX9_mark cX9_mark 6 (some .int) ∈ lw_tbl := qm_sg5 (List.mem_of_getElem? (i := 29) rfl)
set_option maxRecDepth 100000 in
theorem qm_cd_165 : Cond.code yX9_isPlace cX9_isPlace 4 (some .boolean) ∈ lw_tbl := qm_sg5 (List.mem_of_getElem? (i := 37) rfl)
set_option maxRecDepth 100000 in
theorem qm_cd_166 : Cond.code yX9_isCell cX9_isCell 4 (some .boolean) ∈ lw_tbl := qm_sg5 (List.mem_of_getElem? (i := 41) rfl)
set_option maxRecDepth 100000 in
theorem qm_cd_167 : Cond.code yX9_cell cX9_cell 5 (some .int) ∈ lw_tbl := qm_sg5 (List.mem_of_getElem? (i := 33) rfl)
set_option maxRecDepth 100000 in
theorem qm_cd_168 : Cond.code yX9_set cX9_set 7 (some .int) ∈ lw_tbl := qm_sg5 (List.mem_of_getElem? (i := 45) rfl)
set_option maxRecDepth 100000 in
theorem qm_cd_169 : Cond.code yX9_other cX9_other 5 (some .int) ∈ lw_tbl := qm_sg5 (List.mem_of_getElem? (i := 49) rfl)
set_option maxRecDepth 100000 in
theorem qm_cd_170 : Cond.code yX9_turn cX9_turn 6 (some .int) ∈ lw_tbl := qm_sg5 (List.mem_of_getElem? (i := 53) rfl)
set_option maxRecDepth 100000 in
theorem qm_cd_171 : Cond.code yX9_without cX9_without 8 (some .int) ∈ lw_tbl := qm_sg5 (List.mem_of_getElem? (i := 57) rfl)
set_option maxRecDepth 100000 in
theorem qm_cd_172 : Cond.code yX9_needTwo cX9_needTwo 4 (some .int) ∈ lw_tbl := qm_sg5 (List.mem_of_getElem? (i := 65) rfl)
set_option maxRecDepth 100000 in
theorem qm_cd_173 : Cond.code yX9_join cX9_join 9 (some .int) ∈ lw_tbl := qm_sg5 (List.mem_of_getElem? (i := 61) rfl)
set_option maxRecDepth 100000 in
theorem qm_cd_174 : Cond.code yX9_layStands cX9_layStands 7 (none) ∈ lw_tbl := qm_sg5 (List.mem_of_getElem? (i := 77) rfl)
set_option maxRecDepth 100000 in
theorem qm_cd_175 : Cond.code yX9_layStands_ cX9_layStands_ 2 (none) ∈ lw_tbl := qm_sg5 (List.mem_of_getElem? (i := 73) rfl)
set_option maxRecDepth 100000 in
theorem qm_cd_176 : Cond.code yX9_towers cX9_towers 4 (some .int) ∈ lw_tbl := qm_sg5 (List.mem_of_getElem? (i := 69) rfl)
set_option maxRecDepth 100000 in
theorem qm_cd_177 : Cond.code yX9_greater cX9_greater 2 (some .int) ∈ lw_tbl := qm_sg5 (List.mem_of_getElem? (i := 89) rfl)
set_option maxRecDepth 100000 in
theorem qm_cd_178 : Cond.code yX9_ordersFrom cX9_ordersFrom 10 (some .long) ∈ lw_tbl := qm_sg5 (List.mem_of_getElem? (i := 93) rfl)
set_option maxRecDepth 100000 in
theorem qm_cd_179 : Cond.code yX9_hits cX9_hits 4 (some .int) ∈ lw_tbl := qm_sg5 (List.mem_of_getElem? (i := 85) rfl)
set_option maxRecDepth 100000 in
theorem qm_cd_180 : Cond.code yX9_meanHits cX9_meanHits 8 (some .int) ∈ lw_tbl := qm_sg5 (List.mem_of_getElem? (i := 97) rfl)
set_option maxRecDepth 100000 in
theorem qm_cd_181 : Cond.code yX9_keepStands cX9_keepStands 2 (none) ∈ lw_tbl := qm_sg5 (List.mem_of_getElem? (i := 105) rfl)
set_option maxRecDepth 100000 in
theorem qm_cd_182 : Cond.code yX9_areSought cX9_areSought 3 (some .boolean) ∈ lw_tbl := qm_sg5 (List.mem_of_getElem? (i := 109) rfl)
set_option maxRecDepth 100000 in
theorem qm_cd_183 : Cond.code yX9_alike cX9_alike 4 (some .int) ∈ lw_tbl := qm_sg5 (List.mem_of_getElem? (i := 101) rfl)
set_option maxRecDepth 100000 in
theorem qm_cd_184 : Cond.code yX9_goStairs cX9_goStairs 4 (none) ∈ lw_tbl := qm_sg5 (List.mem_of_getElem? (i := 117) rfl)
set_option maxRecDepth 100000 in
theorem qm_cd_185 : Cond.code yX9_stairsLike cX9_stairsLike 6 (some .int) ∈ lw_tbl := qm_sg5 (List.mem_of_getElem? (i := 113) rfl)
set_option maxRecDepth 100000 in
theorem qm_cd_186 : Cond.code yX9_sum cX9_sum 10 (some .int) ∈ lw_tbl := qm_sg5 (List.mem_of_getElem? (i := 121) rfl)
set_option maxRecDepth 100000 in
theorem qm_cd_187 : Cond.code yX9_root cX9_root 4 (some .int) ∈ lw_tbl := qm_sg5 (List.mem_of_getElem? (i := 125) rfl)
set_option maxRecDepth 100000 in
theorem qm_cd_188 : Cond.code yX9_goStands cX9_goStands 6 (none) ∈ lw_tbl := qm_sg5 (List.mem_of_getElem? (i := 138) rfl)
set_option maxRecDepth 100000 in
theorem qm_cd_189 : Cond.code yX9_freeNow cX9_freeNow 7 (some .int) ∈ lw_tbl := qm_sg5 (List.mem_of_getElem? (i := 146) rfl)
set_option maxRecDepth 100000 in
theorem qm_cd_190 : Cond.code yX9_ringFrom cX9_ringFrom 6 (some .int) ∈ lw_tbl := qm_sg5 (List.mem_of_getElem? (i := 154) rfl)
set_option maxRecDepth 100000 in
theorem qm_cd_191 : Cond.code yX9_ringsNow cX9_ringsNow 7 (some .int) ∈ lw_tbl := qm_sg5 (List.mem_of_getElem? (i := 150) rfl)
set_option maxRecDepth 100000 in
theorem qm_cd_192 : Cond.code yX9_weightNow cX9_weightNow 4 (some .int) ∈ lw_tbl := qm_sg5 (List.mem_of_getElem? (i := 158) rfl)
set_option maxRecDepth 100000 in
theorem qm_cd_193 : Cond.code yX9_look cX9_look 4 (none) ∈ lw_tbl := qm_sg5 (List.mem_of_getElem? (i := 142) rfl)
set_option maxRecDepth 100000 in
theorem qm_cd_194 : Cond.code yX9_goOver cX9_goOver 5 (none) ∈ lw_tbl := qm_sg5 (List.mem_of_getElem? (i := 133) rfl)
set_option maxRecDepth 100000 in
theorem qm_cd_195 : Cond.code yX9_spread cX9_spread 5 (some .int) ∈ lw_tbl := qm_sg5 (List.mem_of_getElem? (i := 129) rfl)
set_option maxRecDepth 100000 in
theorem qm_cd_196 : Cond.code yX9_onFrom cX9_onFrom 8 (some .long) ∈ lw_tbl := qm_sg5 (List.mem_of_getElem? (i := 170) rfl)
set_option maxRecDepth 100000 in
theorem qm_cd_197 : Cond.code yX9_layStand cX9_layStand 13 (some .boolean) ∈ lw_tbl := qm_sg5 (List.mem_of_getElem? (i := 166) rfl)
set_option maxRecDepth 100000 in
theorem qm_cd_198 : Cond.code yX9_putStand cX9_putStand 4 (none) ∈ lw_tbl := qm_sg5 (List.mem_of_getElem? (i := 174) rfl)
set_option maxRecDepth 100000 in
theorem qm_cd_199 : Cond.code yX9_stand cX9_stand 6 (some .int) ∈ lw_tbl := qm_sg5 (List.mem_of_getElem? (i := 162) rfl)
set_option maxRecDepth 100000 in
theorem qm_cd_200 : Cond.code yX9_needStand cX9_needStand 9 (some .int) ∈ lw_tbl := qm_sg5 (List.mem_of_getElem? (i := 182) rfl)
set_option maxRecDepth 100000 in
theorem qm_cd_201 : Cond.code yX9_rankNow cX9_rankNow 9 (some .long) ∈ lw_tbl := qm_sg5 (List.mem_of_getElem? (i := 186) rfl)
set_option maxRecDepth 100000 in
theorem qm_cd_202 : Cond.code yX9_rank cX9_rank 4 (some .int) ∈ lw_tbl := qm_sg5 (List.mem_of_getElem? (i := 178) rfl)
set_option maxRecDepth 100000 in
theorem qm_cd_203 : Cond.code yX9_next cX9_next 4 (some .int) ∈ lw_tbl := qm_sg5 (List.mem_of_getElem? (i := 190) rfl)
set_option maxRecDepth 100000 in
theorem qm_cd_204 : Cond.code yX9_mostOf cX9_mostOf 3 (some .int) ∈ lw_tbl := qm_sg5 (List.mem_of_getElem? (i := 198) rfl)
set_option maxRecDepth 100000 in
theorem qm_cd_205 : Cond.code yX9_most cX9_most 3 (some .int) ∈ lw_tbl := qm_sg5 (List.mem_of_getElem? (i := 194) rfl)
set_option maxRecDepth 100000 in
theorem qm_cd_206 : Cond.code yX9_cover cX9_cover 8 (some .int) ∈ lw_tbl := qm_sg5 (List.mem_of_getElem? (i := 202) rfl)
set_option maxRecDepth 100000 in
theorem qm_cd_207 : Cond.code yX9_need_ cX9_need_ 5 (some .int) ∈ lw_tbl := qm_sg5 (List.mem_of_getElem? (i := 206) rfl)
set_option maxRecDepth 100000 in
theorem qm_cd_208 : Cond.code yX9_needWeights cX9_needWeights 5 (some .int) ∈ lw_tbl := qm_sg5 (List.mem_of_getElem? (i := 214) rfl)
set_option maxRecDepth 100000 in
theorem qm_cd_209 : Cond.code yX9_least cX9_least 4 (some .int) ∈ lw_tbl := qm_sg5 (List.mem_of_getElem? (i := 210) rfl)
set_option maxRecDepth 100000 in
theorem qm_cd_210 : Cond.code yX9_lack cX9_lack 6 (some .int) ∈ lw_tbl := qm_sg5 (List.mem_of_getElem? (i := 218) rfl)
set_option maxRecDepth 100000 in
theorem qm_cd_211 : Cond.code yX9_needSquare cX9_needSquare 4 (some .int) ∈ lw_tbl := qm_sg5 (List.mem_of_getElem? (i := 226) rfl)
set_option maxRecDepth 100000 in
theorem qm_cd_212 : Cond.code yX9_rounds cX9_rounds 5 (some .int) ∈ lw_tbl := qm_sg5 (List.mem_of_getElem? (i := 222) rfl)
set_option maxRecDepth 100000 in
theorem qm_cd_213 : Cond.code yX9_longRings cX9_longRings 4 (some .int) ∈ lw_tbl := qm_sg5 (List.mem_of_getElem? (i := 230) rfl)
set_option maxRecDepth 100000 in
theorem qm_cd_214 : Cond.code yX9_ringOf cX9_ringOf 9 (some .int) ∈ lw_tbl := qm_sg5 (List.mem_of_getElem? (i := 234) rfl)
set_option maxRecDepth 100000 in
theorem qm_cd_215 : Cond.code yX9_slants cX9_slants 8 (some .int) ∈ lw_tbl := qm_sg5 (List.mem_of_getElem? (i := 238) rfl)
set_option maxRecDepth 100000 in
theorem qm_cd_216 : Cond.code yX9_count cX9_count 4 (some .int) ∈ lw_tbl := qm_sg6 (List.mem_of_getElem? (i := 2) rfl)
set_option maxRecDepth 100000 in
theorem qm_cd_217 : Cond.code yX9_digest cX9_digest 5 (some .long) ∈ lw_tbl := qm_sg6 (List.mem_of_getElem? (i := 6) rfl)
set_option maxRecDepth 100000 in
theorem qm_cd_218 : Cond.code yJ6_lowestOneBit_0f7a4 cJ6_lowestOneBit_0f7a4 1 (some .int) ∈ lw_tbl := qm_sg3 (List.mem_of_getElem? (i := 186) rfl)
set_option maxRecDepth 100000 in
theorem qm_cd_219 : Cond.code yJ6_numberOfTrailingZeros_0f7a4 cJ6_numberOfTrailingZeros_0f7a4 2 (some .int) ∈ lw_tbl := qm_sg3 (List.mem_of_getElem? (i := 176) rfl)
set_option maxRecDepth 100000 in
theorem qm_cd_220 : Cond.code yJ6_bitCount_0f7a4 cJ6_bitCount_0f7a4 1 (some .int) ∈ lw_tbl := qm_sg2 (List.mem_of_getElem? (i := 70) rfl)
set_option maxRecDepth 100000 in
theorem qm_cd_221 : Cond.code yJ9_max_7cf53 cJ9_max_7cf53 2 (some .int) ∈ lw_tbl := qm_sg2 (List.mem_of_getElem? (i := 188) rfl)
set_option maxRecDepth 100000 in
theorem qm_cd_222 : Cond.code yJ7_fill_53178 cJ7_fill_53178 4 (none) ∈ lw_tbl := qm_sg1 (List.mem_of_getElem? (i := 237) rfl)
theorem qm_cda_0 : ∀ x ∈ qm_info_0, Cond.code x.1 x.2.1 x.2.2.1 x.2.2.2.1 ∈ lw_tbl := List.forall_mem_cons.mpr ⟨qm_cd_0, List.forall_mem_cons.mpr ⟨qm_cd_1, List.forall_mem_cons.mpr ⟨qm_cd_2, List.forall_mem_cons.mpr ⟨qm_cd_3, List.forall_mem_cons.mpr ⟨qm_cd_4, List.forall_mem_cons.mpr ⟨qm_cd_5, List.forall_mem_cons.mpr ⟨qm_cd_6, List.forall_mem_cons.mpr ⟨qm_cd_7, List.forall_mem_cons.mpr ⟨qm_cd_8, List.forall_mem_cons.mpr ⟨qm_cd_9, List.forall_mem_cons.mpr ⟨qm_cd_10, List.forall_mem_cons.mpr ⟨qm_cd_11, List.forall_mem_cons.mpr ⟨qm_cd_12, List.forall_mem_cons.mpr ⟨qm_cd_13, List.forall_mem_cons.mpr ⟨qm_cd_14, List.forall_mem_cons.mpr ⟨qm_cd_15, List.forall_mem_cons.mpr ⟨qm_cd_16, List.forall_mem_cons.mpr ⟨qm_cd_17, List.forall_mem_cons.mpr ⟨qm_cd_18, List.forall_mem_cons.mpr ⟨qm_cd_19, List.forall_mem_cons.mpr ⟨qm_cd_20, List.forall_mem_cons.mpr ⟨qm_cd_21, List.forall_mem_cons.mpr ⟨qm_cd_22, List.forall_mem_cons.mpr ⟨qm_cd_23, List.forall_mem_cons.mpr ⟨qm_cd_24, List.forall_mem_cons.mpr ⟨qm_cd_25, List.forall_mem_cons.mpr ⟨qm_cd_26, List.forall_mem_cons.mpr ⟨qm_cd_27, List.forall_mem_cons.mpr ⟨qm_cd_28, List.forall_mem_cons.mpr ⟨qm_cd_29, List.forall_mem_cons.mpr ⟨qm_cd_30, List.forall_mem_cons.mpr ⟨qm_cd_31, List.forall_mem_cons.mpr ⟨qm_cd_32, List.forall_mem_cons.mpr ⟨qm_cd_33, List.forall_mem_cons.mpr ⟨qm_cd_34, List.forall_mem_cons.mpr ⟨qm_cd_35, List.forall_mem_cons.mpr ⟨qm_cd_36, List.forall_mem_cons.mpr ⟨qm_cd_37, List.forall_mem_cons.mpr ⟨qm_cd_38, List.forall_mem_cons.mpr ⟨qm_cd_39, fun _ h => absurd h List.not_mem_nil⟩⟩⟩⟩⟩⟩⟩⟩⟩⟩⟩⟩⟩⟩⟩⟩⟩⟩⟩⟩⟩⟩⟩⟩⟩⟩⟩⟩⟩⟩⟩⟩⟩⟩⟩⟩⟩⟩⟩⟩
theorem qm_cda_1 : ∀ x ∈ qm_info_1, Cond.code x.1 x.2.1 x.2.2.1 x.2.2.2.1 ∈ lw_tbl := List.forall_mem_cons.mpr ⟨qm_cd_40, List.forall_mem_cons.mpr ⟨qm_cd_41, List.forall_mem_cons.mpr ⟨qm_cd_42, List.forall_mem_cons.mpr ⟨qm_cd_43, List.forall_mem_cons.mpr ⟨qm_cd_44, List.forall_mem_cons.mpr ⟨qm_cd_45, List.forall_mem_cons.mpr ⟨qm_cd_46, List.forall_mem_cons.mpr ⟨qm_cd_47, List.forall_mem_cons.mpr ⟨qm_cd_48, List.forall_mem_cons.mpr ⟨qm_cd_49, List.forall_mem_cons.mpr ⟨qm_cd_50, List.forall_mem_cons.mpr ⟨qm_cd_51, List.forall_mem_cons.mpr ⟨qm_cd_52, List.forall_mem_cons.mpr ⟨qm_cd_53, List.forall_mem_cons.mpr ⟨qm_cd_54, List.forall_mem_cons.mpr ⟨qm_cd_55, List.forall_mem_cons.mpr ⟨qm_cd_56, List.forall_mem_cons.mpr ⟨qm_cd_57, List.forall_mem_cons.mpr ⟨qm_cd_58, List.forall_mem_cons.mpr ⟨qm_cd_59, List.forall_mem_cons.mpr ⟨qm_cd_60, List.forall_mem_cons.mpr ⟨qm_cd_61, List.forall_mem_cons.mpr ⟨qm_cd_62, List.forall_mem_cons.mpr ⟨qm_cd_63, List.forall_mem_cons.mpr ⟨qm_cd_64, List.forall_mem_cons.mpr ⟨qm_cd_65, List.forall_mem_cons.mpr ⟨qm_cd_66, List.forall_mem_cons.mpr ⟨qm_cd_67, List.forall_mem_cons.mpr ⟨qm_cd_68, List.forall_mem_cons.mpr ⟨qm_cd_69, List.forall_mem_cons.mpr ⟨qm_cd_70, List.forall_mem_cons.mpr ⟨qm_cd_71, List.forall_mem_cons.mpr ⟨qm_cd_72, List.forall_mem_cons.mpr ⟨qm_cd_73, List.forall_mem_cons.mpr ⟨qm_cd_74, List.forall_mem_cons.mpr ⟨qm_cd_75, List.forall_mem_cons.mpr ⟨qm_cd_76, List.forall_mem_cons.mpr ⟨qm_cd_77, List.forall_mem_cons.mpr ⟨qm_cd_78, List.forall_mem_cons.mpr ⟨qm_cd_79, fun _ h => absurd h List.not_mem_nil⟩⟩⟩⟩⟩⟩⟩⟩⟩⟩⟩⟩⟩⟩⟩⟩⟩⟩⟩⟩⟩⟩⟩⟩⟩⟩⟩⟩⟩⟩⟩⟩⟩⟩⟩⟩⟩⟩⟩⟩
theorem qm_cda_2 : ∀ x ∈ qm_info_2, Cond.code x.1 x.2.1 x.2.2.1 x.2.2.2.1 ∈ lw_tbl := List.forall_mem_cons.mpr ⟨qm_cd_80, List.forall_mem_cons.mpr ⟨qm_cd_81, List.forall_mem_cons.mpr ⟨qm_cd_82, List.forall_mem_cons.mpr ⟨qm_cd_83, List.forall_mem_cons.mpr ⟨qm_cd_84, List.forall_mem_cons.mpr ⟨qm_cd_85, List.forall_mem_cons.mpr ⟨qm_cd_86, List.forall_mem_cons.mpr ⟨qm_cd_87, List.forall_mem_cons.mpr ⟨qm_cd_88, List.forall_mem_cons.mpr ⟨qm_cd_89, List.forall_mem_cons.mpr ⟨qm_cd_90, List.forall_mem_cons.mpr ⟨qm_cd_91, List.forall_mem_cons.mpr ⟨qm_cd_92, List.forall_mem_cons.mpr ⟨qm_cd_93, List.forall_mem_cons.mpr ⟨qm_cd_94, List.forall_mem_cons.mpr ⟨qm_cd_95, List.forall_mem_cons.mpr ⟨qm_cd_96, List.forall_mem_cons.mpr ⟨qm_cd_97, List.forall_mem_cons.mpr ⟨qm_cd_98, List.forall_mem_cons.mpr ⟨qm_cd_99, List.forall_mem_cons.mpr ⟨qm_cd_100, List.forall_mem_cons.mpr ⟨qm_cd_101, List.forall_mem_cons.mpr ⟨qm_cd_102, List.forall_mem_cons.mpr ⟨qm_cd_103, List.forall_mem_cons.mpr ⟨qm_cd_104, List.forall_mem_cons.mpr ⟨qm_cd_105, List.forall_mem_cons.mpr ⟨qm_cd_106, List.forall_mem_cons.mpr ⟨qm_cd_107, List.forall_mem_cons.mpr ⟨qm_cd_108, List.forall_mem_cons.mpr ⟨qm_cd_109, List.forall_mem_cons.mpr ⟨qm_cd_110, List.forall_mem_cons.mpr ⟨qm_cd_111, List.forall_mem_cons.mpr ⟨qm_cd_112, List.forall_mem_cons.mpr ⟨qm_cd_113, List.forall_mem_cons.mpr ⟨qm_cd_114, List.forall_mem_cons.mpr ⟨qm_cd_115, List.forall_mem_cons.mpr ⟨qm_cd_116, List.forall_mem_cons.mpr ⟨qm_cd_117, List.forall_mem_cons.mpr ⟨qm_cd_118, List.forall_mem_cons.mpr ⟨qm_cd_119, fun _ h => absurd h List.not_mem_nil⟩⟩⟩⟩⟩⟩⟩⟩⟩⟩⟩⟩⟩⟩⟩⟩⟩⟩⟩⟩⟩⟩⟩⟩⟩⟩⟩⟩⟩⟩⟩⟩⟩⟩⟩⟩⟩⟩⟩⟩
theorem qm_cda_3 : ∀ x ∈ qm_info_3, Cond.code x.1 x.2.1 x.2.2.1 x.2.2.2.1 ∈ lw_tbl := List.forall_mem_cons.mpr ⟨qm_cd_120, List.forall_mem_cons.mpr ⟨qm_cd_121, List.forall_mem_cons.mpr ⟨qm_cd_122, List.forall_mem_cons.mpr ⟨qm_cd_123, List.forall_mem_cons.mpr ⟨qm_cd_124, List.forall_mem_cons.mpr ⟨qm_cd_125, List.forall_mem_cons.mpr ⟨qm_cd_126, List.forall_mem_cons.mpr ⟨qm_cd_127, List.forall_mem_cons.mpr ⟨qm_cd_128, List.forall_mem_cons.mpr ⟨qm_cd_129, List.forall_mem_cons.mpr ⟨qm_cd_130, List.forall_mem_cons.mpr ⟨qm_cd_131, List.forall_mem_cons.mpr ⟨qm_cd_132, List.forall_mem_cons.mpr ⟨qm_cd_133, List.forall_mem_cons.mpr ⟨qm_cd_134, List.forall_mem_cons.mpr ⟨qm_cd_135, List.forall_mem_cons.mpr ⟨qm_cd_136, List.forall_mem_cons.mpr ⟨qm_cd_137, List.forall_mem_cons.mpr ⟨qm_cd_138, List.forall_mem_cons.mpr ⟨qm_cd_139, List.forall_mem_cons.mpr ⟨qm_cd_140, List.forall_mem_cons.mpr ⟨qm_cd_141, List.forall_mem_cons.mpr ⟨qm_cd_142, List.forall_mem_cons.mpr ⟨qm_cd_143, List.forall_mem_cons.mpr ⟨qm_cd_144, List.forall_mem_cons.mpr ⟨qm_cd_145, List.forall_mem_cons.mpr ⟨qm_cd_146, List.forall_mem_cons.mpr ⟨qm_cd_147, List.forall_mem_cons.mpr ⟨qm_cd_148, List.forall_mem_cons.mpr ⟨qm_cd_149, List.forall_mem_cons.mpr ⟨qm_cd_150, List.forall_mem_cons.mpr ⟨qm_cd_151, List.forall_mem_cons.mpr ⟨qm_cd_152, List.forall_mem_cons.mpr ⟨qm_cd_153, List.forall_mem_cons.mpr ⟨qm_cd_154, List.forall_mem_cons.mpr ⟨qm_cd_155, List.forall_mem_cons.mpr ⟨qm_cd_156, List.forall_mem_cons.mpr ⟨qm_cd_157, List.forall_mem_cons.mpr ⟨qm_cd_158, List.forall_mem_cons.mpr ⟨qm_cd_159, fun _ h => absurd h List.not_mem_nil⟩⟩⟩⟩⟩⟩⟩⟩⟩⟩⟩⟩⟩⟩⟩⟩⟩⟩⟩⟩⟩⟩⟩⟩⟩⟩⟩⟩⟩⟩⟩⟩⟩⟩⟩⟩⟩⟩⟩⟩
theorem qm_cda_4 : ∀ x ∈ qm_info_4, Cond.code x.1 x.2.1 x.2.2.1 x.2.2.2.1 ∈ lw_tbl := List.forall_mem_cons.mpr ⟨qm_cd_160, List.forall_mem_cons.mpr ⟨qm_cd_161, List.forall_mem_cons.mpr ⟨qm_cd_162, List.forall_mem_cons.mpr ⟨qm_cd_163, List.forall_mem_cons.mpr ⟨qm_cd_164, List.forall_mem_cons.mpr ⟨qm_cd_165, List.forall_mem_cons.mpr ⟨qm_cd_166, List.forall_mem_cons.mpr ⟨qm_cd_167, List.forall_mem_cons.mpr ⟨qm_cd_168, List.forall_mem_cons.mpr ⟨qm_cd_169, List.forall_mem_cons.mpr ⟨qm_cd_170, List.forall_mem_cons.mpr ⟨qm_cd_171, List.forall_mem_cons.mpr ⟨qm_cd_172, List.forall_mem_cons.mpr ⟨qm_cd_173, List.forall_mem_cons.mpr ⟨qm_cd_174, List.forall_mem_cons.mpr ⟨qm_cd_175, List.forall_mem_cons.mpr ⟨qm_cd_176, List.forall_mem_cons.mpr ⟨qm_cd_177, List.forall_mem_cons.mpr ⟨qm_cd_178, List.forall_mem_cons.mpr ⟨qm_cd_179, List.forall_mem_cons.mpr ⟨qm_cd_180, List.forall_mem_cons.mpr ⟨qm_cd_181, List.forall_mem_cons.mpr ⟨qm_cd_182, List.forall_mem_cons.mpr ⟨qm_cd_183, List.forall_mem_cons.mpr ⟨qm_cd_184, List.forall_mem_cons.mpr ⟨qm_cd_185, List.forall_mem_cons.mpr ⟨qm_cd_186, List.forall_mem_cons.mpr ⟨qm_cd_187, List.forall_mem_cons.mpr ⟨qm_cd_188, List.forall_mem_cons.mpr ⟨qm_cd_189, List.forall_mem_cons.mpr ⟨qm_cd_190, List.forall_mem_cons.mpr ⟨qm_cd_191, List.forall_mem_cons.mpr ⟨qm_cd_192, List.forall_mem_cons.mpr ⟨qm_cd_193, List.forall_mem_cons.mpr ⟨qm_cd_194, List.forall_mem_cons.mpr ⟨qm_cd_195, List.forall_mem_cons.mpr ⟨qm_cd_196, List.forall_mem_cons.mpr ⟨qm_cd_197, List.forall_mem_cons.mpr ⟨qm_cd_198, List.forall_mem_cons.mpr ⟨qm_cd_199, fun _ h => absurd h List.not_mem_nil⟩⟩⟩⟩⟩⟩⟩⟩⟩⟩⟩⟩⟩⟩⟩⟩⟩⟩⟩⟩⟩⟩⟩⟩⟩⟩⟩⟩⟩⟩⟩⟩⟩⟩⟩⟩⟩⟩⟩⟩
theorem qm_cda_5 : ∀ x ∈ qm_info_5, Cond.code x.1 x.2.1 x.2.2.1 x.2.2.2.1 ∈ lw_tbl := List.forall_mem_cons.mpr ⟨qm_cd_200, List.forall_mem_cons.mpr ⟨qm_cd_201, List.forall_mem_cons.mpr ⟨qm_cd_202, List.forall_mem_cons.mpr ⟨qm_cd_203, List.forall_mem_cons.mpr ⟨qm_cd_204, List.forall_mem_cons.mpr ⟨qm_cd_205, List.forall_mem_cons.mpr ⟨qm_cd_206, List.forall_mem_cons.mpr ⟨qm_cd_207, List.forall_mem_cons.mpr ⟨qm_cd_208, List.forall_mem_cons.mpr ⟨qm_cd_209, List.forall_mem_cons.mpr ⟨qm_cd_210, List.forall_mem_cons.mpr ⟨qm_cd_211, List.forall_mem_cons.mpr ⟨qm_cd_212, List.forall_mem_cons.mpr ⟨qm_cd_213, List.forall_mem_cons.mpr ⟨qm_cd_214, List.forall_mem_cons.mpr ⟨qm_cd_215, List.forall_mem_cons.mpr ⟨qm_cd_216, List.forall_mem_cons.mpr ⟨qm_cd_217, List.forall_mem_cons.mpr ⟨qm_cd_218, List.forall_mem_cons.mpr ⟨qm_cd_219, List.forall_mem_cons.mpr ⟨qm_cd_220, List.forall_mem_cons.mpr ⟨qm_cd_221, List.forall_mem_cons.mpr ⟨qm_cd_222, fun _ h => absurd h List.not_mem_nil⟩⟩⟩⟩⟩⟩⟩⟩⟩⟩⟩⟩⟩⟩⟩⟩⟩⟩⟩⟩⟩⟩⟩
theorem qm_info_ok_0 : qm_infL qm_info_0 qm_ip_0 = true := by decide +kernel
theorem qm_info_ok_1 : qm_infL qm_info_1 qm_ip_1 = true := by decide +kernel
theorem qm_info_ok_2 : qm_infL qm_info_2 qm_ip_2 = true := by decide +kernel
theorem qm_info_ok_3 : qm_infL qm_info_3 qm_ip_3 = true := by decide +kernel
theorem qm_info_ok_4 : qm_infL qm_info_4 qm_ip_4 = true := by decide +kernel
theorem qm_info_ok_5 : qm_infL qm_info_5 qm_ip_5 = true := by decide +kernel
def qm_csB (q : Nat × Nat × Nat × Nat × Nat × Nat × Nat × Nat × Nat) : Bool := match qm_info[q.2.2.2.1]? with
  | some m => plainName m.1.cls && match q.2.2.1 with
    | 0 => qm_at q.2.2.2.2.2.2.1 (.methodLink (qm_own q.1) q.2.1 m.1) && qm_at q.2.2.2.2.2.2.2.1 (.instanceMethod m.1) && qm_at q.2.2.2.2.2.2.2.2 (.selects m.1.cls m.1 m.1) && decide (q.2.2.2.2.1 = m.2.2.2.2.2 + 1 ∧ q.2.2.2.2.2.1 = m.2.2.2.2.1 ∧ q.2.2.2.2.2.1 < 10)
    | 1 => qm_at q.2.2.2.2.2.2.1 (.methodLink (qm_own q.1) q.2.1 m.1) && qm_at q.2.2.2.2.2.2.2.1 (.static m.1) && decide (q.2.2.2.2.1 = m.2.2.2.2.2)
    | 2 => qm_at q.2.2.2.2.2.2.1 (.methodLink (qm_own q.1) q.2.1 m.1) && qm_at q.2.2.2.2.2.2.2.1 (.instanceMethod m.1) && decide (m.1.name = "<init>" ∧ m.2.2.2.1 = none ∧ q.2.2.2.2.1 = m.2.2.2.2.2 + 1)
    | 3 => qm_atN q.2.2.2.2.2.2.1 (.methodLinkNest (qm_own q.1) q.2.1 m.1 "TowerBoards") && qm_at q.2.2.2.2.2.2.2.1 (.static m.1) && decide (q.2.2.2.2.1 = m.2.2.2.2.2)
    | 4 => qm_atN q.2.2.2.2.2.2.1 (.methodLinkNest (qm_own q.1) q.2.1 m.1 "TowerBoards") && qm_at q.2.2.2.2.2.2.2.1 (.instanceMethod m.1) && decide (m.1.name = "<init>" ∧ m.2.2.2.1 = none ∧ q.2.2.2.2.1 = m.2.2.2.2.2 + 1)
    | _ => false
  | none => false
theorem qm_cs_ok : qm_cs.all qm_csB = true := by decide +kernel
theorem qm_os_ok : qm_os.all (fun q => qm_at q.2.2 (.methodLink (qm_own q.1) q.2.1 objectInit)) = true := by decide +kernel
theorem qm_ys_ok : qm_ys.all (fun q => qm_at q.2.2 (.methodLink (qm_own q.1) q.2.1 arraycopyName)) = true := by decide +kernel
theorem qm_mx_ok : qm_mx.all (fun q => qm_at q.2.2 (.methodLink (qm_own q.1) q.2.1 Lib.Math.max.name)) = true := by decide +kernel
theorem qm_an_ok : qm_an.all (fun q => qm_at q.2.2.2 (.classLink (qm_own q.1) q.2.1 (if q.2.2.1 = 2 then RX7 else RX1)) && decide (q.2.2.1 = 2 ∨ q.2.2.1 = 3)) = true := by decide +kernel
theorem qm_ki_ok : qm_ki.all (fun q => qm_at q.2.2.2 (.constant (qm_own q.1) q.2.1 q.2.2.1)) = true := by decide +kernel
theorem qm_kl_ok : qm_kl.all (fun q => qm_at q.2.2.2 (.constantLong (qm_own q.1) q.2.1 q.2.2.1.toInt64)) = true := by decide +kernel
def qm_nwB (q : Nat × Nat × Nat × Nat × Nat × Nat) : Bool := match vwCl[q.2.2.1]? with
  | some r => qm_at q.2.2.2.1 (.classLink (qm_own q.1) q.2.1 r.1) && qm_at q.2.2.2.2.1 (.instantiable r.1 r.2.2) && qm_at q.2.2.2.2.2 (.initialized r.1)
  | none => false
theorem qm_nw_ok : qm_nw.all qm_nwB = true := by decide +kernel
theorem qm_oi1 : Cond.instanceMethod objectInit ∈ qm_tb := qm_at_mem (i := 79) (by decide +kernel)
theorem qm_oi2 : Cond.code objectInit ⟨#[0xb1]⟩ 1 none ∈ qm_tb := qm_at_mem (i := 80) (by decide +kernel)
theorem qm_ac1 : Cond.native arraycopyName ∈ qm_tb := qm_at_mem (i := 326) (by decide +kernel)
theorem qm_ac2 : Cond.static arraycopyName ∈ qm_tb := qm_at_mem (i := 325) (by decide +kernel)
theorem qm_ac3 : Cond.initialized "java/lang/System" ∈ qm_tb := qm_at_mem (i := 70) (by decide +kernel)
theorem qm_mx1 : Cond.static Lib.Math.max.name ∈ qm_tb := qm_at_mem (i := 485) (by decide +kernel)
theorem qm_mx2 : Cond.initialized "java/lang/Math" ∈ qm_tb := qm_at_mem (i := 72) (by decide +kernel)
theorem qm_mx3 : Cond.code Lib.Math.max.name Lib.Math.max.code 2 (some .int) ∈ qm_tb := qm_at_mem (i := 486) (by decide +kernel)
theorem qm_arI : Cond.arrayClass .int ∈ qm_tb := qm_at_mem (i := 117) (by decide +kernel)
theorem qm_arL : Cond.arrayClass .long ∈ qm_tb := qm_at_mem (i := 920) (by decide +kernel)
def qm_atL : List Cond → List Nat → Bool
  | [], _ => true
  | w :: ws, q :: qs => qm_at q w && qm_atL ws qs
  | _ :: _, [] => false
theorem qm_atL_mem : ∀ {ws : List Cond} {ps : List Nat}, qm_atL ws ps = true → ∀ w ∈ ws, w ∈ qm_tb
  | [], _, _, _, h => by cases h
  | _ :: _, [], h, _, _ => by cases h
  | v :: ws, q :: qs, h, w, hw => by
    rw [qm_atL, Bool.and_eq_true] at h
    rcases List.mem_cons.mp hw with rfl | hw
    · exact qm_at_mem h.1
    · exact qm_atL_mem h.2 w hw
theorem qm_in0 : ∀ w ∈ u_ws RX0 TX0 5, w ∈ qm_tb := qm_atL_mem (ps := [198, 200, 202, 204, 206]) (by decide +kernel)
theorem qm_in1 : ∀ w ∈ u_ws RX1 TX1 4, w ∈ qm_tb := qm_atL_mem (ps := [108, 110, 112, 114]) (by decide +kernel)
theorem qm_in2 : ∀ w ∈ u_ws RX2 TX2 1, w ∈ qm_tb := qm_atL_mem (ps := [148]) (by decide +kernel)
theorem qm_in3 : ∀ w ∈ u_ws RX3 TX3 2, w ∈ qm_tb := qm_atL_mem (ps := [182, 184]) (by decide +kernel)
theorem qm_in4 : ∀ w ∈ u_ws RX4 TX4 4, w ∈ qm_tb := qm_atL_mem (ps := [163, 165, 167, 169]) (by decide +kernel)
theorem qm_in5 : ∀ w ∈ u_ws RX5 TX5 2, w ∈ qm_tb := qm_atL_mem (ps := [126, 128]) (by decide +kernel)
theorem qm_in6 : ∀ w ∈ u_ws RX6 TX6 1, w ∈ qm_tb := qm_atL_mem (ps := [138]) (by decide +kernel)
theorem qm_in7 : ∀ w ∈ u_ws RX7 TX7 2, w ∈ qm_tb := qm_atL_mem (ps := [221, 223]) (by decide +kernel)
theorem qm_in8 : ∀ w ∈ u_ws RX8 TX8 16, w ∈ qm_tb := qm_atL_mem (ps := [242, 244, 246, 248, 250, 252, 254, 256, 258, 260, 262, 264, 266, 268, 270, 272]) (by decide +kernel)
theorem qm_in9 : ∀ w ∈ u_ws RX9 TX9 34, w ∈ qm_tb := qm_atL_mem (ps := [851, 853, 855, 857, 859, 861, 863, 865, 867, 869, 871, 873, 875, 877, 879, 881, 883, 885, 887, 889, 891, 893, 895, 897, 899, 901, 903, 905, 907, 909, 911, 913, 915, 917]) (by decide +kernel)
theorem qm_cl {ci : Nat} {r : vw_C} (h : vwCl[ci]? = some r) : (∀ w ∈ u_ws r.1 r.2.1 r.2.2, w ∈ qm_tb) ∧ (∃ ty : Nat → FieldType, ∀ k, k < r.2.2 → parseFieldDescriptor (r.2.1 k).2.2.1 = some (ty k)) ∧ (∀ a, a < r.2.2 → ∀ b, b < r.2.2 → a ≠ b → (r.2.1 a).2.1 ≠ (r.2.1 b).2.1) := by
  match ci, h with
  | 0, h => cases h; exact ⟨qm_in0, ⟨tyX0, tyX0_ok⟩, nmX0⟩
  | 1, h => cases h; exact ⟨qm_in1, ⟨tyX1, tyX1_ok⟩, nmX1⟩
  | 2, h => cases h; exact ⟨qm_in2, ⟨tyX2, tyX2_ok⟩, nmX2⟩
  | 3, h => cases h; exact ⟨qm_in3, ⟨tyX3, tyX3_ok⟩, nmX3⟩
  | 4, h => cases h; exact ⟨qm_in4, ⟨tyX4, tyX4_ok⟩, nmX4⟩
  | 5, h => cases h; exact ⟨qm_in5, ⟨tyX5, tyX5_ok⟩, nmX5⟩
  | 6, h => cases h; exact ⟨qm_in6, ⟨tyX6, tyX6_ok⟩, nmX6⟩
  | 7, h => cases h; exact ⟨qm_in7, ⟨tyX7, tyX7_ok⟩, nmX7⟩
  | 8, h => cases h; exact ⟨qm_in8, ⟨tyX8, tyX8_ok⟩, nmX8⟩
  | 9, h => cases h; exact ⟨qm_in9, ⟨tyX9, tyX9_ok⟩, nmX9⟩
  | k + 10, h => simp [vwCl] at h
theorem qm_infL_ok : ∀ {ms : List qm_Inf} {qs : List (Nat × Nat)}, qm_infL ms qs = true → ∀ x ∈ ms, ∃ q, qm_infB x q = true
  | [], _, _, _, h => by cases h
  | _ :: _, [], h, _, _ => by cases h
  | y :: ms, q :: qs, h, x, hx => by
    rw [qm_infL, Bool.and_eq_true] at h
    rcases List.mem_cons.mp hx with rfl | hx
    · exact ⟨q, h.1⟩
    · exact qm_infL_ok h.2 x hx
theorem qm_inf_split {P : qm_Inf → Prop} (h0 : ∀ x ∈ qm_info_0, P x) (h1 : ∀ x ∈ qm_info_1, P x) (h2 : ∀ x ∈ qm_info_2, P x) (h3 : ∀ x ∈ qm_info_3, P x) (h4 : ∀ x ∈ qm_info_4, P x) (h5 : ∀ x ∈ qm_info_5, P x) : ∀ x ∈ qm_info, P x := by
  intro x hx
  unfold qm_info at hx
  simp only [List.mem_append] at hx
  rcases hx with hx | hx | hx | hx | hx | hx
  · exact h0 x hx
  · exact h1 x hx
  · exact h2 x hx
  · exact h3 x hx
  · exact h4 x hx
  · exact h5 x hx
theorem qm_inf_ok : ∀ x ∈ qm_info, ∃ q, qm_infB x q = true := qm_inf_split (qm_infL_ok qm_info_ok_0) (qm_infL_ok qm_info_ok_1) (qm_infL_ok qm_info_ok_2) (qm_infL_ok qm_info_ok_3) (qm_infL_ok qm_info_ok_4) (qm_infL_ok qm_info_ok_5)
theorem qm_inf_cd : ∀ x ∈ qm_info, Cond.code x.1 x.2.1 x.2.2.1 x.2.2.2.1 ∈ lw_tbl := qm_inf_split qm_cda_0 qm_cda_1 qm_cda_2 qm_cda_3 qm_cda_4 qm_cda_5
