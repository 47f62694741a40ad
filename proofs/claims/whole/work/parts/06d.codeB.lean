-- 37: TowerBoards$Lightest.<init>
def kk_37_0 : List qm_I := (.aload 0, 0, 0, 0) :: (.invokespecial 0, 0, 0, 0) :: (.aload 0, 0, 0, 0) :: (.iconst 0, 0, 0, 64) :: (.newarray .int, 0, 0, 0) :: (.putfield 4, 0, 2, 0) :: (.aload 0, 0, 0, 0) :: (.iconst 0, 0, 0, 64) :: (.newarray .int, 0, 0, 0) :: (.putfield 4, 1, 2, 0) :: (.aload 0, 0, 0, 0) :: (.iconst 0, 0, 0, 0) :: (.putfield 4, 2, 0, 0) :: (.aload 0, 0, 0, 0) :: (.iconst 0, 0, 0, 0) :: (.putfield 4, 3, 0, 0) :: (.return_, 0, 0, 0) :: []
def kt_37 : qm_T := [(0, kk_37_0)]
theorem kc_37_0 : qm_chain 4 true (none) cX4_init 0 kk_37_0 := qm_chain_of _ _ _ _ 17 _ 31 _ (by decide +kernel) trivial
theorem ka_37 : ∀ t : Int, 0 ≤ t → qm_chain 4 true (none) cX4_init t.toNat (qm_lk kt_37 t) := qm_lk_ok (List.forall_mem_cons.mpr ⟨⟨by decide, kc_37_0⟩, fun _ h => absurd h List.not_mem_nil⟩)
theorem kg_37 : qm_G1 (yX4_init, cX4_init, 1, none, 4, 0) (1, kt_37) := ⟨rfl, true, (fun _ => rfl), ka_37⟩
-- 38: TowerBoards$Lightest.findFor
def kk_38_99 : List qm_I := (.return_, 0, 0, 0) :: []
def kk_38_93 : List qm_I := (.iinc 4 0, 0, 0, 1) :: (.goto 61, 0, 0, 0) :: kk_38_99
def kk_38_61 : List qm_I := (.iload 4, 0, 0, 0) :: (.iconst 0, 0, 0, 64) :: (.if_icmp .ge 99, 0, 0, 0) :: (.iload 4, 0, 0, 0) :: (.invokestatic 220, 1, 0, 0) :: (.iload 3, 0, 0, 0) :: (.if_icmp .ne 93, 0, 0, 0) :: (.aload 0, 0, 0, 0) :: (.getfield 4, 1, 0, 0) :: (.iload 4, 0, 0, 0) :: (.iaload, 0, 0, 0) :: (.ifCond .le 93, 0, 0, 0) :: (.aload 0, 0, 0, 0) :: (.iload 4, 0, 0, 0) :: (.invokevirtual 41, 2, 4, 0) :: kk_38_93
def kk_38_48 : List qm_I := (.aload 0, 0, 0, 0) :: (.iconst 0, 0, 0, 0) :: (.putfield 4, 2, 0, 0) :: (.aload 0, 0, 0, 0) :: (.iconst 0, 0, 0, 0) :: (.putfield 4, 3, 0, 0) :: (.iconst 0, 0, 0, 0) :: (.istore 4, 0, 0, 0) :: kk_38_61
def kk_38_25 : List qm_I := (.iload 4, 0, 0, 0) :: (.aload 1, 0, 0, 0) :: (.getfield 1, 1, 0, 0) :: (.if_icmp .ge 48, 0, 0, 0) :: (.aload 0, 0, 0, 0) :: (.aload 1, 0, 0, 0) :: (.aload 2, 0, 0, 0) :: (.iload 4, 0, 0, 0) :: (.invokevirtual 39, 4, 4, 0) :: (.iinc 4 0, 0, 0, 1) :: (.goto 25, 0, 0, 0) :: kk_38_48
def kk_38_0 : List qm_I := (.aload 0, 0, 0, 0) :: (.getfield 4, 1, 0, 0) :: (.iconst 0, 0, 0, 0) :: (.invokestatic 222, 2, 0, 0) :: (.aload 0, 0, 0, 0) :: (.getfield 4, 0, 0, 0) :: (.iconst 0, 0, 0, 0) :: (.iconst 0, 0, 0, 0) :: (.iastore, 0, 0, 0) :: (.aload 0, 0, 0, 0) :: (.getfield 4, 1, 0, 0) :: (.iconst 0, 0, 0, 0) :: (.iconst 0, 0, 0, 1) :: (.iastore, 0, 0, 0) :: (.iconst 0, 0, 0, 0) :: (.istore 4, 0, 0, 0) :: kk_38_25
def kt_38 : qm_T := [(0, kk_38_0), (25, kk_38_25), (48, kk_38_48), (61, kk_38_61), (93, kk_38_93), (99, kk_38_99)]
theorem kc_38_99 : qm_chain 4 false (none) cX4_findFor 99 kk_38_99 := qm_chain_of _ _ _ _ 1 _ 100 _ (by decide +kernel) trivial
theorem kc_38_93 : qm_chain 4 false (none) cX4_findFor 93 kk_38_93 := qm_chain_of _ _ _ _ 2 _ 99 _ (by decide +kernel) kc_38_99
theorem kc_38_61 : qm_chain 4 false (none) cX4_findFor 61 kk_38_61 := qm_chain_of _ _ _ _ 15 _ 93 _ (by decide +kernel) kc_38_93
theorem kc_38_48 : qm_chain 4 false (none) cX4_findFor 48 kk_38_48 := qm_chain_of _ _ _ _ 8 _ 61 _ (by decide +kernel) kc_38_61
theorem kc_38_25 : qm_chain 4 false (none) cX4_findFor 25 kk_38_25 := qm_chain_of _ _ _ _ 11 _ 48 _ (by decide +kernel) kc_38_48
theorem kc_38_0 : qm_chain 4 false (none) cX4_findFor 0 kk_38_0 := qm_chain_of _ _ _ _ 16 _ 25 _ (by decide +kernel) kc_38_25
theorem ka_38 : ∀ t : Int, 0 ≤ t → qm_chain 4 false (none) cX4_findFor t.toNat (qm_lk kt_38 t) := qm_lk_ok (List.forall_mem_cons.mpr ⟨⟨by decide, kc_38_0⟩, List.forall_mem_cons.mpr ⟨⟨by decide, kc_38_25⟩, List.forall_mem_cons.mpr ⟨⟨by decide, kc_38_48⟩, List.forall_mem_cons.mpr ⟨⟨by decide, kc_38_61⟩, List.forall_mem_cons.mpr ⟨⟨by decide, kc_38_93⟩, List.forall_mem_cons.mpr ⟨⟨by decide, kc_38_99⟩, fun _ h => absurd h List.not_mem_nil⟩⟩⟩⟩⟩⟩)
theorem kg_38 : qm_G1 (yX4_findFor, cX4_findFor, 5, none, 4, 3) (5, kt_38) := ⟨rfl, false, (fun z => by cases z), ka_38⟩
-- 39: TowerBoards$Lightest.addRow
def kk_39_107 : List qm_I := (.return_, 0, 0, 0) :: []
def kk_39_101 : List qm_I := (.iinc 4 0, 0, 0, -1) :: (.goto 4, 0, 0, 0) :: kk_39_107
def kk_39_95 : List qm_I := (.iinc 6 0, 0, 0, 1) :: (.goto 39, 0, 0, 0) :: kk_39_101
def kk_39_39 : List qm_I := (.iload 6, 0, 0, 0) :: (.iconst 0, 0, 0, 6) :: (.if_icmp .ge 101, 0, 0, 0) :: (.iload 5, 0, 0, 0) :: (.iconst 0, 0, 0, 1) :: (.iload 6, 0, 0, 0) :: (.ishl, 0, 0, 0) :: (.iand, 0, 0, 0) :: (.ifCond .eq 95, 0, 0, 0) :: (.aload 0, 0, 0, 0) :: (.iload 4, 0, 0, 0) :: (.iconst 0, 0, 0, 1) :: (.iload 6, 0, 0, 0) :: (.ishl, 0, 0, 0) :: (.ior, 0, 0, 0) :: (.aload 0, 0, 0, 0) :: (.getfield 4, 0, 0, 0) :: (.iload 4, 0, 0, 0) :: (.iaload, 0, 0, 0) :: (.aload 2, 0, 0, 0) :: (.iload 3, 0, 0, 0) :: (.aload 1, 0, 0, 0) :: (.getfield 1, 2, 0, 0) :: (.imul, 0, 0, 0) :: (.iload 6, 0, 0, 0) :: (.iadd, 0, 0, 0) :: (.invokevirtual 64, 2, 7, 0) :: (.iadd, 0, 0, 0) :: (.aload 0, 0, 0, 0) :: (.getfield 4, 1, 0, 0) :: (.iload 4, 0, 0, 0) :: (.iaload, 0, 0, 0) :: (.invokevirtual 40, 4, 4, 0) :: kk_39_95
def kk_39_34 : List qm_I := (.istore 5, 0, 0, 0) :: (.iconst 0, 0, 0, 0) :: (.istore 6, 0, 0, 0) :: kk_39_39
def kk_39_23 : List qm_I := (.aload 1, 0, 0, 0) :: (.getfield 1, 3, 0, 0) :: (.iload 3, 0, 0, 0) :: (.iaload, 0, 0, 0) :: (.iload 4, 0, 0, 0) :: (.iconst 0, 0, 0, -1) :: (.ixor, 0, 0, 0) :: (.iand, 0, 0, 0) :: kk_39_34
def kk_39_4 : List qm_I := (.iload 4, 0, 0, 0) :: (.ifCond .lt 107, 0, 0, 0) :: (.aload 0, 0, 0, 0) :: (.getfield 4, 1, 0, 0) :: (.iload 4, 0, 0, 0) :: (.iaload, 0, 0, 0) :: (.ifCond .ne 23, 0, 0, 0) :: (.iconst 0, 0, 0, 0) :: (.goto 34, 0, 0, 0) :: kk_39_23
def kk_39_0 : List qm_I := (.iconst 0, 0, 0, 63) :: (.istore 4, 0, 0, 0) :: kk_39_4
def kt_39 : qm_T := [(0, kk_39_0), (4, kk_39_4), (23, kk_39_23), (34, kk_39_34), (39, kk_39_39), (95, kk_39_95), (101, kk_39_101), (107, kk_39_107)]
theorem kc_39_107 : qm_chain 4 false (none) cX4_addRow 107 kk_39_107 := qm_chain_of _ _ _ _ 1 _ 108 _ (by decide +kernel) trivial
theorem kc_39_101 : qm_chain 4 false (none) cX4_addRow 101 kk_39_101 := qm_chain_of _ _ _ _ 2 _ 107 _ (by decide +kernel) kc_39_107
theorem kc_39_95 : qm_chain 4 false (none) cX4_addRow 95 kk_39_95 := qm_chain_of _ _ _ _ 2 _ 101 _ (by decide +kernel) kc_39_101
theorem kc_39_39 : qm_chain 4 false (none) cX4_addRow 39 kk_39_39 := qm_chain_of _ _ _ _ 33 _ 95 _ (by decide +kernel) kc_39_95
theorem kc_39_34 : qm_chain 4 false (none) cX4_addRow 34 kk_39_34 := qm_chain_of _ _ _ _ 3 _ 39 _ (by decide +kernel) kc_39_39
theorem kc_39_23 : qm_chain 4 false (none) cX4_addRow 23 kk_39_23 := qm_chain_of _ _ _ _ 8 _ 34 _ (by decide +kernel) kc_39_34
theorem kc_39_4 : qm_chain 4 false (none) cX4_addRow 4 kk_39_4 := qm_chain_of _ _ _ _ 9 _ 23 _ (by decide +kernel) kc_39_23
theorem kc_39_0 : qm_chain 4 false (none) cX4_addRow 0 kk_39_0 := qm_chain_of _ _ _ _ 2 _ 4 _ (by decide +kernel) kc_39_4
theorem ka_39 : ∀ t : Int, 0 ≤ t → qm_chain 4 false (none) cX4_addRow t.toNat (qm_lk kt_39 t) := qm_lk_ok (List.forall_mem_cons.mpr ⟨⟨by decide, kc_39_0⟩, List.forall_mem_cons.mpr ⟨⟨by decide, kc_39_4⟩, List.forall_mem_cons.mpr ⟨⟨by decide, kc_39_23⟩, List.forall_mem_cons.mpr ⟨⟨by decide, kc_39_34⟩, List.forall_mem_cons.mpr ⟨⟨by decide, kc_39_39⟩, List.forall_mem_cons.mpr ⟨⟨by decide, kc_39_95⟩, List.forall_mem_cons.mpr ⟨⟨by decide, kc_39_101⟩, List.forall_mem_cons.mpr ⟨⟨by decide, kc_39_107⟩, fun _ h => absurd h List.not_mem_nil⟩⟩⟩⟩⟩⟩⟩⟩)
theorem kg_39 : qm_G1 (yX4_addRow, cX4_addRow, 7, none, 4, 3) (7, kt_39) := ⟨rfl, false, (fun z => by cases z), ka_39⟩
-- 40: TowerBoards$Lightest.offer
def kk_40_56 : List qm_I := (.return_, 0, 0, 0) :: []
def kk_40_36 : List qm_I := (.iload 2, 0, 0, 0) :: (.aload 0, 0, 0, 0) :: (.getfield 4, 0, 0, 0) :: (.iload 1, 0, 0, 0) :: (.iaload, 0, 0, 0) :: (.if_icmp .ne 56, 0, 0, 0) :: (.aload 0, 0, 0, 0) :: (.getfield 4, 1, 0, 0) :: (.iload 1, 0, 0, 0) :: (.dup2, 0, 0, 0) :: (.iaload, 0, 0, 0) :: (.iload 3, 0, 0, 0) :: (.iadd, 0, 0, 0) :: (.iastore, 0, 0, 0) :: kk_40_56
def kk_40_19 : List qm_I := (.aload 0, 0, 0, 0) :: (.getfield 4, 0, 0, 0) :: (.iload 1, 0, 0, 0) :: (.iload 2, 0, 0, 0) :: (.iastore, 0, 0, 0) :: (.aload 0, 0, 0, 0) :: (.getfield 4, 1, 0, 0) :: (.iload 1, 0, 0, 0) :: (.iload 3, 0, 0, 0) :: (.iastore, 0, 0, 0) :: (.goto 56, 0, 0, 0) :: kk_40_36
def kk_40_0 : List qm_I := (.aload 0, 0, 0, 0) :: (.getfield 4, 1, 0, 0) :: (.iload 1, 0, 0, 0) :: (.iaload, 0, 0, 0) :: (.ifCond .eq 19, 0, 0, 0) :: (.iload 2, 0, 0, 0) :: (.aload 0, 0, 0, 0) :: (.getfield 4, 0, 0, 0) :: (.iload 1, 0, 0, 0) :: (.iaload, 0, 0, 0) :: (.if_icmp .ge 36, 0, 0, 0) :: kk_40_19
def kt_40 : qm_T := [(0, kk_40_0), (19, kk_40_19), (36, kk_40_36), (56, kk_40_56)]
theorem kc_40_56 : qm_chain 4 false (none) cX4_offer 56 kk_40_56 := qm_chain_of _ _ _ _ 1 _ 57 _ (by decide +kernel) trivial
theorem kc_40_36 : qm_chain 4 false (none) cX4_offer 36 kk_40_36 := qm_chain_of _ _ _ _ 14 _ 56 _ (by decide +kernel) kc_40_56
theorem kc_40_19 : qm_chain 4 false (none) cX4_offer 19 kk_40_19 := qm_chain_of _ _ _ _ 11 _ 36 _ (by decide +kernel) kc_40_36
theorem kc_40_0 : qm_chain 4 false (none) cX4_offer 0 kk_40_0 := qm_chain_of _ _ _ _ 11 _ 19 _ (by decide +kernel) kc_40_19
theorem ka_40 : ∀ t : Int, 0 ≤ t → qm_chain 4 false (none) cX4_offer t.toNat (qm_lk kt_40 t) := qm_lk_ok (List.forall_mem_cons.mpr ⟨⟨by decide, kc_40_0⟩, List.forall_mem_cons.mpr ⟨⟨by decide, kc_40_19⟩, List.forall_mem_cons.mpr ⟨⟨by decide, kc_40_36⟩, List.forall_mem_cons.mpr ⟨⟨by decide, kc_40_56⟩, fun _ h => absurd h List.not_mem_nil⟩⟩⟩⟩)
theorem kg_40 : qm_G1 (yX4_offer, cX4_offer, 4, none, 4, 3) (4, kt_40) := ⟨rfl, false, (fun z => by cases z), ka_40⟩
-- 41: TowerBoards$Lightest.choose
def kk_41_71 : List qm_I := (.return_, 0, 0, 0) :: []
def kk_41_43 : List qm_I := (.aload 0, 0, 0, 0) :: (.getfield 4, 0, 0, 0) :: (.iload 1, 0, 0, 0) :: (.iaload, 0, 0, 0) :: (.aload 0, 0, 0, 0) :: (.getfield 4, 2, 0, 0) :: (.if_icmp .ne 71, 0, 0, 0) :: (.aload 0, 0, 0, 0) :: (.dup, 0, 0, 0) :: (.getfield 4, 3, 0, 0) :: (.aload 0, 0, 0, 0) :: (.getfield 4, 1, 0, 0) :: (.iload 1, 0, 0, 0) :: (.iaload, 0, 0, 0) :: (.iadd, 0, 0, 0) :: (.putfield 4, 3, 0, 0) :: kk_41_71
def kk_41_20 : List qm_I := (.aload 0, 0, 0, 0) :: (.aload 0, 0, 0, 0) :: (.getfield 4, 0, 0, 0) :: (.iload 1, 0, 0, 0) :: (.iaload, 0, 0, 0) :: (.putfield 4, 2, 0, 0) :: (.aload 0, 0, 0, 0) :: (.aload 0, 0, 0, 0) :: (.getfield 4, 1, 0, 0) :: (.iload 1, 0, 0, 0) :: (.iaload, 0, 0, 0) :: (.putfield 4, 3, 0, 0) :: (.goto 71, 0, 0, 0) :: kk_41_43
def kk_41_0 : List qm_I := (.aload 0, 0, 0, 0) :: (.getfield 4, 3, 0, 0) :: (.ifCond .eq 20, 0, 0, 0) :: (.aload 0, 0, 0, 0) :: (.getfield 4, 0, 0, 0) :: (.iload 1, 0, 0, 0) :: (.iaload, 0, 0, 0) :: (.aload 0, 0, 0, 0) :: (.getfield 4, 2, 0, 0) :: (.if_icmp .ge 43, 0, 0, 0) :: kk_41_20
def kt_41 : qm_T := [(0, kk_41_0), (20, kk_41_20), (43, kk_41_43), (71, kk_41_71)]
theorem kc_41_71 : qm_chain 4 false (none) cX4_choose 71 kk_41_71 := qm_chain_of _ _ _ _ 1 _ 72 _ (by decide +kernel) trivial
theorem kc_41_43 : qm_chain 4 false (none) cX4_choose 43 kk_41_43 := qm_chain_of _ _ _ _ 16 _ 71 _ (by decide +kernel) kc_41_71
theorem kc_41_20 : qm_chain 4 false (none) cX4_choose 20 kk_41_20 := qm_chain_of _ _ _ _ 13 _ 43 _ (by decide +kernel) kc_41_43
theorem kc_41_0 : qm_chain 4 false (none) cX4_choose 0 kk_41_0 := qm_chain_of _ _ _ _ 10 _ 20 _ (by decide +kernel) kc_41_20
theorem ka_41 : ∀ t : Int, 0 ≤ t → qm_chain 4 false (none) cX4_choose t.toNat (qm_lk kt_41 t) := qm_lk_ok (List.forall_mem_cons.mpr ⟨⟨by decide, kc_41_0⟩, List.forall_mem_cons.mpr ⟨⟨by decide, kc_41_20⟩, List.forall_mem_cons.mpr ⟨⟨by decide, kc_41_43⟩, List.forall_mem_cons.mpr ⟨⟨by decide, kc_41_71⟩, fun _ h => absurd h List.not_mem_nil⟩⟩⟩⟩)
theorem kg_41 : qm_G1 (yX4_choose, cX4_choose, 2, none, 4, 1) (2, kt_41) := ⟨rfl, false, (fun z => by cases z), ka_41⟩
-- 42: TowerBoards$Numbers.<init>
def kk_42_0 : List qm_I := (.aload 0, 0, 0, 0) :: (.invokespecial 0, 0, 0, 0) :: (.aload 0, 0, 0, 0) :: (.iconst 0, 0, 0, 64) :: (.newarray .int, 0, 0, 0) :: (.putfield 5, 0, 2, 0) :: (.aload 0, 0, 0, 0) :: (.iconst 0, 0, 0, 7) :: (.newarray .int, 0, 0, 0) :: (.putfield 5, 1, 2, 0) :: (.return_, 0, 0, 0) :: []
def kt_42 : qm_T := [(0, kk_42_0)]
theorem kc_42_0 : qm_chain 5 true (none) cX5_init 0 kk_42_0 := qm_chain_of _ _ _ _ 11 _ 21 _ (by decide +kernel) trivial
theorem ka_42 : ∀ t : Int, 0 ≤ t → qm_chain 5 true (none) cX5_init t.toNat (qm_lk kt_42 t) := qm_lk_ok (List.forall_mem_cons.mpr ⟨⟨by decide, kc_42_0⟩, fun _ h => absurd h List.not_mem_nil⟩)
theorem kg_42 : qm_G1 (yX5_init, cX5_init, 1, none, 5, 0) (1, kt_42) := ⟨rfl, true, (fun _ => rfl), ka_42⟩
-- 43: TowerBoards$Numbers.findFor
def kk_43_81 : List qm_I := (.return_, 0, 0, 0) :: []
def kk_43_51 : List qm_I := (.iload 2, 0, 0, 0) :: (.iconst 0, 0, 0, 64) :: (.if_icmp .ge 81, 0, 0, 0) :: (.aload 0, 0, 0, 0) :: (.getfield 5, 1, 0, 0) :: (.iload 2, 0, 0, 0) :: (.invokestatic 220, 1, 0, 0) :: (.dup2, 0, 0, 0) :: (.iaload, 0, 0, 0) :: (.aload 0, 0, 0, 0) :: (.getfield 5, 0, 0, 0) :: (.iload 2, 0, 0, 0) :: (.iaload, 0, 0, 0) :: (.iadd, 0, 0, 0) :: (.iastore, 0, 0, 0) :: (.iinc 2 0, 0, 0, 1) :: (.goto 51, 0, 0, 0) :: kk_43_81
def kk_43_41 : List qm_I := (.aload 0, 0, 0, 0) :: (.getfield 5, 1, 0, 0) :: (.iconst 0, 0, 0, 0) :: (.invokestatic 222, 2, 0, 0) :: (.iconst 0, 0, 0, 0) :: (.istore 2, 0, 0, 0) :: kk_43_51
def kk_43_17 : List qm_I := (.iload 2, 0, 0, 0) :: (.aload 1, 0, 0, 0) :: (.getfield 1, 1, 0, 0) :: (.if_icmp .ge 41, 0, 0, 0) :: (.aload 0, 0, 0, 0) :: (.aload 1, 0, 0, 0) :: (.getfield 1, 3, 0, 0) :: (.iload 2, 0, 0, 0) :: (.iaload, 0, 0, 0) :: (.invokevirtual 44, 2, 5, 0) :: (.iinc 2 0, 0, 0, 1) :: (.goto 17, 0, 0, 0) :: kk_43_41
def kk_43_0 : List qm_I := (.aload 0, 0, 0, 0) :: (.getfield 5, 0, 0, 0) :: (.iconst 0, 0, 0, 0) :: (.invokestatic 222, 2, 0, 0) :: (.aload 0, 0, 0, 0) :: (.getfield 5, 0, 0, 0) :: (.iconst 0, 0, 0, 0) :: (.iconst 0, 0, 0, 1) :: (.iastore, 0, 0, 0) :: (.iconst 0, 0, 0, 0) :: (.istore 2, 0, 0, 0) :: kk_43_17
def kt_43 : qm_T := [(0, kk_43_0), (17, kk_43_17), (41, kk_43_41), (51, kk_43_51), (81, kk_43_81)]
theorem kc_43_81 : qm_chain 5 false (none) cX5_findFor 81 kk_43_81 := qm_chain_of _ _ _ _ 1 _ 82 _ (by decide +kernel) trivial
theorem kc_43_51 : qm_chain 5 false (none) cX5_findFor 51 kk_43_51 := qm_chain_of _ _ _ _ 17 _ 81 _ (by decide +kernel) kc_43_81
theorem kc_43_41 : qm_chain 5 false (none) cX5_findFor 41 kk_43_41 := qm_chain_of _ _ _ _ 6 _ 51 _ (by decide +kernel) kc_43_51
theorem kc_43_17 : qm_chain 5 false (none) cX5_findFor 17 kk_43_17 := qm_chain_of _ _ _ _ 12 _ 41 _ (by decide +kernel) kc_43_41
theorem kc_43_0 : qm_chain 5 false (none) cX5_findFor 0 kk_43_0 := qm_chain_of _ _ _ _ 11 _ 17 _ (by decide +kernel) kc_43_17
theorem ka_43 : ∀ t : Int, 0 ≤ t → qm_chain 5 false (none) cX5_findFor t.toNat (qm_lk kt_43 t) := qm_lk_ok (List.forall_mem_cons.mpr ⟨⟨by decide, kc_43_0⟩, List.forall_mem_cons.mpr ⟨⟨by decide, kc_43_17⟩, List.forall_mem_cons.mpr ⟨⟨by decide, kc_43_41⟩, List.forall_mem_cons.mpr ⟨⟨by decide, kc_43_51⟩, List.forall_mem_cons.mpr ⟨⟨by decide, kc_43_81⟩, fun _ h => absurd h List.not_mem_nil⟩⟩⟩⟩⟩)
theorem kg_43 : qm_G1 (yX5_findFor, cX5_findFor, 3, none, 5, 1) (3, kt_43) := ⟨rfl, false, (fun z => by cases z), ka_43⟩
-- 44: TowerBoards$Numbers.addRow
def kk_44_77 : List qm_I := (.return_, 0, 0, 0) :: []
def kk_44_71 : List qm_I := (.iinc 2 0, 0, 0, -1) :: (.goto 3, 0, 0, 0) :: kk_44_77
def kk_44_65 : List qm_I := (.iinc 4 0, 0, 0, 1) :: (.goto 29, 0, 0, 0) :: kk_44_71
def kk_44_29 : List qm_I := (.iload 4, 0, 0, 0) :: (.iconst 0, 0, 0, 6) :: (.if_icmp .ge 71, 0, 0, 0) :: (.iload 3, 0, 0, 0) :: (.iconst 0, 0, 0, 1) :: (.iload 4, 0, 0, 0) :: (.ishl, 0, 0, 0) :: (.iand, 0, 0, 0) :: (.ifCond .eq 65, 0, 0, 0) :: (.aload 0, 0, 0, 0) :: (.getfield 5, 0, 0, 0) :: (.iload 2, 0, 0, 0) :: (.iconst 0, 0, 0, 1) :: (.iload 4, 0, 0, 0) :: (.ishl, 0, 0, 0) :: (.ior, 0, 0, 0) :: (.dup2, 0, 0, 0) :: (.iaload, 0, 0, 0) :: (.aload 0, 0, 0, 0) :: (.getfield 5, 0, 0, 0) :: (.iload 2, 0, 0, 0) :: (.iaload, 0, 0, 0) :: (.iadd, 0, 0, 0) :: (.iastore, 0, 0, 0) :: kk_44_65
def kk_44_25 : List qm_I := (.istore 3, 0, 0, 0) :: (.iconst 0, 0, 0, 0) :: (.istore 4, 0, 0, 0) :: kk_44_29
def kk_44_20 : List qm_I := (.iload 1, 0, 0, 0) :: (.iload 2, 0, 0, 0) :: (.iconst 0, 0, 0, -1) :: (.ixor, 0, 0, 0) :: (.iand, 0, 0, 0) :: kk_44_25
def kk_44_3 : List qm_I := (.iload 2, 0, 0, 0) :: (.ifCond .lt 77, 0, 0, 0) :: (.aload 0, 0, 0, 0) :: (.getfield 5, 0, 0, 0) :: (.iload 2, 0, 0, 0) :: (.iaload, 0, 0, 0) :: (.ifCond .ne 20, 0, 0, 0) :: (.iconst 0, 0, 0, 0) :: (.goto 25, 0, 0, 0) :: kk_44_20
def kk_44_0 : List qm_I := (.iconst 0, 0, 0, 63) :: (.istore 2, 0, 0, 0) :: kk_44_3
def kt_44 : qm_T := [(0, kk_44_0), (3, kk_44_3), (20, kk_44_20), (25, kk_44_25), (29, kk_44_29), (65, kk_44_65), (71, kk_44_71), (77, kk_44_77)]
theorem kc_44_77 : qm_chain 5 false (none) cX5_addRow 77 kk_44_77 := qm_chain_of _ _ _ _ 1 _ 78 _ (by decide +kernel) trivial
theorem kc_44_71 : qm_chain 5 false (none) cX5_addRow 71 kk_44_71 := qm_chain_of _ _ _ _ 2 _ 77 _ (by decide +kernel) kc_44_77
theorem kc_44_65 : qm_chain 5 false (none) cX5_addRow 65 kk_44_65 := qm_chain_of _ _ _ _ 2 _ 71 _ (by decide +kernel) kc_44_71
theorem kc_44_29 : qm_chain 5 false (none) cX5_addRow 29 kk_44_29 := qm_chain_of _ _ _ _ 24 _ 65 _ (by decide +kernel) kc_44_65
theorem kc_44_25 : qm_chain 5 false (none) cX5_addRow 25 kk_44_25 := qm_chain_of _ _ _ _ 3 _ 29 _ (by decide +kernel) kc_44_29
theorem kc_44_20 : qm_chain 5 false (none) cX5_addRow 20 kk_44_20 := qm_chain_of _ _ _ _ 5 _ 25 _ (by decide +kernel) kc_44_25
theorem kc_44_3 : qm_chain 5 false (none) cX5_addRow 3 kk_44_3 := qm_chain_of _ _ _ _ 9 _ 20 _ (by decide +kernel) kc_44_20
theorem kc_44_0 : qm_chain 5 false (none) cX5_addRow 0 kk_44_0 := qm_chain_of _ _ _ _ 2 _ 3 _ (by decide +kernel) kc_44_3
theorem ka_44 : ∀ t : Int, 0 ≤ t → qm_chain 5 false (none) cX5_addRow t.toNat (qm_lk kt_44 t) := qm_lk_ok (List.forall_mem_cons.mpr ⟨⟨by decide, kc_44_0⟩, List.forall_mem_cons.mpr ⟨⟨by decide, kc_44_3⟩, List.forall_mem_cons.mpr ⟨⟨by decide, kc_44_20⟩, List.forall_mem_cons.mpr ⟨⟨by decide, kc_44_25⟩, List.forall_mem_cons.mpr ⟨⟨by decide, kc_44_29⟩, List.forall_mem_cons.mpr ⟨⟨by decide, kc_44_65⟩, List.forall_mem_cons.mpr ⟨⟨by decide, kc_44_71⟩, List.forall_mem_cons.mpr ⟨⟨by decide, kc_44_77⟩, fun _ h => absurd h List.not_mem_nil⟩⟩⟩⟩⟩⟩⟩⟩)
theorem kg_44 : qm_G1 (yX5_addRow, cX5_addRow, 5, none, 5, 1) (5, kt_44) := ⟨rfl, false, (fun z => by cases z), ka_44⟩
-- 45: TowerBoards$Numbers.findForStairs
def kk_45_72 : List qm_I := (.return_, 0, 0, 0) :: []
def kk_45_66 : List qm_I := (.iinc 2 0, 0, 0, 1) :: (.goto 17, 0, 0, 0) :: kk_45_72
def kk_45_28 : List qm_I := (.iload 3, 0, 0, 0) :: (.ifCond .le 66, 0, 0, 0) :: (.aload 0, 0, 0, 0) :: (.getfield 5, 1, 0, 0) :: (.iload 3, 0, 0, 0) :: (.dup2, 0, 0, 0) :: (.iaload, 0, 0, 0) :: (.aload 0, 0, 0, 0) :: (.getfield 5, 1, 0, 0) :: (.iload 3, 0, 0, 0) :: (.iconst 0, 0, 0, 1) :: (.isub, 0, 0, 0) :: (.iaload, 0, 0, 0) :: (.aload 1, 0, 0, 0) :: (.getfield 3, 1, 0, 0) :: (.iload 2, 0, 0, 0) :: (.iaload, 0, 0, 0) :: (.iload 3, 0, 0, 0) :: (.iconst 0, 0, 0, 1) :: (.isub, 0, 0, 0) :: (.isub, 0, 0, 0) :: (.imul, 0, 0, 0) :: (.iadd, 0, 0, 0) :: (.iastore, 0, 0, 0) :: (.iinc 3 0, 0, 0, -1) :: (.goto 28, 0, 0, 0) :: kk_45_66
def kk_45_17 : List qm_I := (.iload 2, 0, 0, 0) :: (.aload 1, 0, 0, 0) :: (.getfield 3, 0, 0, 0) :: (.if_icmp .ge 72, 0, 0, 0) :: (.iconst 0, 0, 0, 6) :: (.istore 3, 0, 0, 0) :: kk_45_28
def kk_45_0 : List qm_I := (.aload 0, 0, 0, 0) :: (.getfield 5, 1, 0, 0) :: (.iconst 0, 0, 0, 0) :: (.invokestatic 222, 2, 0, 0) :: (.aload 0, 0, 0, 0) :: (.getfield 5, 1, 0, 0) :: (.iconst 0, 0, 0, 0) :: (.iconst 0, 0, 0, 1) :: (.iastore, 0, 0, 0) :: (.iconst 0, 0, 0, 0) :: (.istore 2, 0, 0, 0) :: kk_45_17
def kt_45 : qm_T := [(0, kk_45_0), (17, kk_45_17), (28, kk_45_28), (66, kk_45_66), (72, kk_45_72)]
theorem kc_45_72 : qm_chain 5 false (none) cX5_findForStairs 72 kk_45_72 := qm_chain_of _ _ _ _ 1 _ 73 _ (by decide +kernel) trivial
theorem kc_45_66 : qm_chain 5 false (none) cX5_findForStairs 66 kk_45_66 := qm_chain_of _ _ _ _ 2 _ 72 _ (by decide +kernel) kc_45_72
theorem kc_45_28 : qm_chain 5 false (none) cX5_findForStairs 28 kk_45_28 := qm_chain_of _ _ _ _ 26 _ 66 _ (by decide +kernel) kc_45_66
theorem kc_45_17 : qm_chain 5 false (none) cX5_findForStairs 17 kk_45_17 := qm_chain_of _ _ _ _ 6 _ 28 _ (by decide +kernel) kc_45_28
theorem kc_45_0 : qm_chain 5 false (none) cX5_findForStairs 0 kk_45_0 := qm_chain_of _ _ _ _ 11 _ 17 _ (by decide +kernel) kc_45_17
theorem ka_45 : ∀ t : Int, 0 ≤ t → qm_chain 5 false (none) cX5_findForStairs t.toNat (qm_lk kt_45 t) := qm_lk_ok (List.forall_mem_cons.mpr ⟨⟨by decide, kc_45_0⟩, List.forall_mem_cons.mpr ⟨⟨by decide, kc_45_17⟩, List.forall_mem_cons.mpr ⟨⟨by decide, kc_45_28⟩, List.forall_mem_cons.mpr ⟨⟨by decide, kc_45_66⟩, List.forall_mem_cons.mpr ⟨⟨by decide, kc_45_72⟩, fun _ h => absurd h List.not_mem_nil⟩⟩⟩⟩⟩)
theorem kg_45 : qm_G1 (yX5_findForStairs, cX5_findForStairs, 4, none, 5, 1) (4, kt_45) := ⟨rfl, false, (fun z => by cases z), ka_45⟩
-- 46: TowerBoards$Numbers.at
def kk_46_20 : List qm_I := (.ireturn, 0, 0, 0) :: []
def kk_46_19 : List qm_I := (.iconst 0, 0, 0, 0) :: kk_46_20
def kk_46_0 : List qm_I := (.iload 1, 0, 0, 0) :: (.iconst 0, 0, 0, 0) :: (.iconst 0, 0, 0, 6) :: (.invokestatic 118, 3, 0, 0) :: (.ifCond .eq 19, 0, 0, 0) :: (.aload 0, 0, 0, 0) :: (.getfield 5, 1, 0, 0) :: (.iload 1, 0, 0, 0) :: (.iaload, 0, 0, 0) :: (.goto 20, 0, 0, 0) :: kk_46_19
def kt_46 : qm_T := [(0, kk_46_0), (19, kk_46_19), (20, kk_46_20)]
theorem kc_46_20 : qm_chain 5 false (some .int) cX5_at 20 kk_46_20 := qm_chain_of _ _ _ _ 1 _ 21 _ (by decide +kernel) trivial
theorem kc_46_19 : qm_chain 5 false (some .int) cX5_at 19 kk_46_19 := qm_chain_of _ _ _ _ 1 _ 20 _ (by decide +kernel) kc_46_20
theorem kc_46_0 : qm_chain 5 false (some .int) cX5_at 0 kk_46_0 := qm_chain_of _ _ _ _ 10 _ 19 _ (by decide +kernel) kc_46_19
theorem ka_46 : ∀ t : Int, 0 ≤ t → qm_chain 5 false (some .int) cX5_at t.toNat (qm_lk kt_46 t) := qm_lk_ok (List.forall_mem_cons.mpr ⟨⟨by decide, kc_46_0⟩, List.forall_mem_cons.mpr ⟨⟨by decide, kc_46_19⟩, List.forall_mem_cons.mpr ⟨⟨by decide, kc_46_20⟩, fun _ h => absurd h List.not_mem_nil⟩⟩⟩)
theorem kg_46 : qm_G1 (yX5_at, cX5_at, 2, some .int, 5, 1) (2, kt_46) := ⟨rfl, false, (fun z => by cases z), ka_46⟩
-- 47: TowerBoards$Numbers.greatest
def kk_47_22 : List qm_I := (.iload 1, 0, 0, 0) :: (.ireturn, 0, 0, 0) :: []
def kk_47_3 : List qm_I := (.iload 1, 0, 0, 0) :: (.ifCond .le 22, 0, 0, 0) :: (.aload 0, 0, 0, 0) :: (.getfield 5, 1, 0, 0) :: (.iload 1, 0, 0, 0) :: (.iaload, 0, 0, 0) :: (.ifCond .ne 22, 0, 0, 0) :: (.iinc 1 0, 0, 0, -1) :: (.goto 3, 0, 0, 0) :: kk_47_22
def kk_47_0 : List qm_I := (.iconst 0, 0, 0, 6) :: (.istore 1, 0, 0, 0) :: kk_47_3
def kt_47 : qm_T := [(0, kk_47_0), (3, kk_47_3), (22, kk_47_22)]
theorem kc_47_22 : qm_chain 5 false (some .int) cX5_greatest 22 kk_47_22 := qm_chain_of _ _ _ _ 2 _ 24 _ (by decide +kernel) trivial
theorem kc_47_3 : qm_chain 5 false (some .int) cX5_greatest 3 kk_47_3 := qm_chain_of _ _ _ _ 9 _ 22 _ (by decide +kernel) kc_47_22
theorem kc_47_0 : qm_chain 5 false (some .int) cX5_greatest 0 kk_47_0 := qm_chain_of _ _ _ _ 2 _ 3 _ (by decide +kernel) kc_47_3
theorem ka_47 : ∀ t : Int, 0 ≤ t → qm_chain 5 false (some .int) cX5_greatest t.toNat (qm_lk kt_47 t) := qm_lk_ok (List.forall_mem_cons.mpr ⟨⟨by decide, kc_47_0⟩, List.forall_mem_cons.mpr ⟨⟨by decide, kc_47_3⟩, List.forall_mem_cons.mpr ⟨⟨by decide, kc_47_22⟩, fun _ h => absurd h List.not_mem_nil⟩⟩⟩)
theorem kg_47 : qm_G1 (yX5_greatest, cX5_greatest, 2, some .int, 5, 0) (2, kt_47) := ⟨rfl, false, (fun z => by cases z), ka_47⟩
-- 48: TowerBoards$Numbers.isSameAs
def kk_48_31 : List qm_I := (.iconst 0, 0, 0, 1) :: (.ireturn, 1, 0, 0) :: []
def kk_48_25 : List qm_I := (.iinc 2 0, 0, 0, 1) :: (.goto 2, 0, 0, 0) :: kk_48_31
def kk_48_2 : List qm_I := (.iload 2, 0, 0, 0) :: (.iconst 0, 0, 0, 6) :: (.if_icmp .gt 31, 0, 0, 0) :: (.aload 0, 0, 0, 0) :: (.getfield 5, 1, 0, 0) :: (.iload 2, 0, 0, 0) :: (.iaload, 0, 0, 0) :: (.aload 1, 0, 0, 0) :: (.getfield 5, 1, 0, 0) :: (.iload 2, 0, 0, 0) :: (.iaload, 0, 0, 0) :: (.if_icmp .eq 25, 0, 0, 0) :: (.iconst 0, 0, 0, 0) :: (.ireturn, 1, 0, 0) :: kk_48_25
def kk_48_0 : List qm_I := (.iconst 0, 0, 0, 0) :: (.istore 2, 0, 0, 0) :: kk_48_2
def kt_48 : qm_T := [(0, kk_48_0), (2, kk_48_2), (25, kk_48_25), (31, kk_48_31)]
theorem kc_48_31 : qm_chain 5 false (some .boolean) cX5_isSameAs 31 kk_48_31 := qm_chain_of _ _ _ _ 2 _ 33 _ (by decide +kernel) trivial
theorem kc_48_25 : qm_chain 5 false (some .boolean) cX5_isSameAs 25 kk_48_25 := qm_chain_of _ _ _ _ 2 _ 31 _ (by decide +kernel) kc_48_31
theorem kc_48_2 : qm_chain 5 false (some .boolean) cX5_isSameAs 2 kk_48_2 := qm_chain_of _ _ _ _ 14 _ 25 _ (by decide +kernel) kc_48_25
theorem kc_48_0 : qm_chain 5 false (some .boolean) cX5_isSameAs 0 kk_48_0 := qm_chain_of _ _ _ _ 2 _ 2 _ (by decide +kernel) kc_48_2
theorem ka_48 : ∀ t : Int, 0 ≤ t → qm_chain 5 false (some .boolean) cX5_isSameAs t.toNat (qm_lk kt_48 t) := qm_lk_ok (List.forall_mem_cons.mpr ⟨⟨by decide, kc_48_0⟩, List.forall_mem_cons.mpr ⟨⟨by decide, kc_48_2⟩, List.forall_mem_cons.mpr ⟨⟨by decide, kc_48_25⟩, List.forall_mem_cons.mpr ⟨⟨by decide, kc_48_31⟩, fun _ h => absurd h List.not_mem_nil⟩⟩⟩⟩)
theorem kg_48 : qm_G1 (yX5_isSameAs, cX5_isSameAs, 3, some .boolean, 5, 1) (3, kt_48) := ⟨rfl, false, (fun z => by cases z), ka_48⟩
-- 49: TowerBoards$Numbers.ordersThatHit
def kk_49_70 : List qm_I := (.lload 3, 0, 0, 0) :: (.lreturn, 0, 0, 0) :: []
def kk_49_11 : List qm_I := (.iload 9, 0, 0, 0) :: (.iload 2, 0, 0, 0) :: (.if_icmp .gt 70, 0, 0, 0) :: (.lload 3, 0, 0, 0) :: (.lload 5, 0, 0, 0) :: (.lload 7, 0, 0, 0) :: (.lmul, 0, 0, 0) :: (.aload 0, 0, 0, 0) :: (.iload 9, 0, 0, 0) :: (.invokevirtual 46, 2, 5, 0) :: (.i2l, 0, 0, 0) :: (.lmul, 0, 0, 0) :: (.iload 2, 0, 0, 0) :: (.iload 9, 0, 0, 0) :: (.isub, 0, 0, 0) :: (.invokestatic 50, 1, 0, 0) :: (.lmul, 0, 0, 0) :: (.ladd, 0, 0, 0) :: (.lstore 3, 0, 0, 0) :: (.lload 5, 0, 0, 0) :: (.lneg, 0, 0, 0) :: (.lstore 5, 0, 0, 0) :: (.lload 7, 0, 0, 0) :: (.iload 9, 0, 0, 0) :: (.iconst 0, 0, 0, 1) :: (.iadd, 0, 0, 0) :: (.i2l, 0, 0, 0) :: (.lmul, 0, 0, 0) :: (.iload 9, 0, 0, 0) :: (.iconst 0, 0, 0, 1) :: (.iadd, 0, 0, 0) :: (.iload 1, 0, 0, 0) :: (.isub, 0, 0, 0) :: (.i2l, 0, 0, 0) :: (.ldiv, 0, 0, 0) :: (.lstore 7, 0, 0, 0) :: (.iinc 9 0, 0, 0, 1) :: (.goto 11, 0, 0, 0) :: kk_49_70
def kk_49_0 : List qm_I := (.lconst 0, 0, 0, 0) :: (.lstore 3, 0, 0, 0) :: (.lconst 0, 0, 0, 1) :: (.lstore 5, 0, 0, 0) :: (.lconst 0, 0, 0, 1) :: (.lstore 7, 0, 0, 0) :: (.iload 1, 0, 0, 0) :: (.istore 9, 0, 0, 0) :: kk_49_11
def kt_49 : qm_T := [(0, kk_49_0), (11, kk_49_11), (70, kk_49_70)]
theorem kc_49_70 : qm_chain 5 false (some .long) cX5_ordersThatHit 70 kk_49_70 := qm_chain_of _ _ _ _ 2 _ 72 _ (by decide +kernel) trivial
theorem kc_49_11 : qm_chain 5 false (some .long) cX5_ordersThatHit 11 kk_49_11 := qm_chain_of _ _ _ _ 38 _ 70 _ (by decide +kernel) kc_49_70
theorem kc_49_0 : qm_chain 5 false (some .long) cX5_ordersThatHit 0 kk_49_0 := qm_chain_of _ _ _ _ 8 _ 11 _ (by decide +kernel) kc_49_11
theorem ka_49 : ∀ t : Int, 0 ≤ t → qm_chain 5 false (some .long) cX5_ordersThatHit t.toNat (qm_lk kt_49 t) := qm_lk_ok (List.forall_mem_cons.mpr ⟨⟨by decide, kc_49_0⟩, List.forall_mem_cons.mpr ⟨⟨by decide, kc_49_11⟩, List.forall_mem_cons.mpr ⟨⟨by decide, kc_49_70⟩, fun _ h => absurd h List.not_mem_nil⟩⟩⟩)
theorem kg_49 : qm_G1 (yX5_ordersThatHit, cX5_ordersThatHit, 10, some .long, 5, 2) (10, kt_49) := ⟨rfl, false, (fun z => by cases z), ka_49⟩
-- 50: TowerBoards$Numbers.factorial
def kk_50_20 : List qm_I := (.lload 1, 0, 0, 0) :: (.lreturn, 0, 0, 0) :: []
def kk_50_4 : List qm_I := (.iload 3, 0, 0, 0) :: (.iload 0, 0, 0, 0) :: (.if_icmp .gt 20, 0, 0, 0) :: (.lload 1, 0, 0, 0) :: (.iload 3, 0, 0, 0) :: (.i2l, 0, 0, 0) :: (.lmul, 0, 0, 0) :: (.lstore 1, 0, 0, 0) :: (.iinc 3 0, 0, 0, 1) :: (.goto 4, 0, 0, 0) :: kk_50_20
def kk_50_0 : List qm_I := (.lconst 0, 0, 0, 1) :: (.lstore 1, 0, 0, 0) :: (.iconst 0, 0, 0, 2) :: (.istore 3, 0, 0, 0) :: kk_50_4
def kt_50 : qm_T := [(0, kk_50_0), (4, kk_50_4), (20, kk_50_20)]
theorem kc_50_20 : qm_chain 5 false (some .long) cX5_factorial 20 kk_50_20 := qm_chain_of _ _ _ _ 2 _ 22 _ (by decide +kernel) trivial
theorem kc_50_4 : qm_chain 5 false (some .long) cX5_factorial 4 kk_50_4 := qm_chain_of _ _ _ _ 10 _ 20 _ (by decide +kernel) kc_50_20
theorem kc_50_0 : qm_chain 5 false (some .long) cX5_factorial 0 kk_50_0 := qm_chain_of _ _ _ _ 4 _ 4 _ (by decide +kernel) kc_50_4
theorem ka_50 : ∀ t : Int, 0 ≤ t → qm_chain 5 false (some .long) cX5_factorial t.toNat (qm_lk kt_50 t) := qm_lk_ok (List.forall_mem_cons.mpr ⟨⟨by decide, kc_50_0⟩, List.forall_mem_cons.mpr ⟨⟨by decide, kc_50_4⟩, List.forall_mem_cons.mpr ⟨⟨by decide, kc_50_20⟩, fun _ h => absurd h List.not_mem_nil⟩⟩⟩)
theorem kg_50 : qm_G1 (yX5_factorial, cX5_factorial, 4, some .long, 5, 1) (4, kt_50) := ⟨rfl, false, (fun z => by cases z), ka_50⟩
-- 51: TowerBoards$Numbers.fallingSum
def kk_51_45 : List qm_I := (.lload 3, 0, 0, 0) :: (.lreturn, 0, 0, 0) :: []
def kk_51_8 : List qm_I := (.iload 7, 0, 0, 0) :: (.iload 2, 0, 0, 0) :: (.if_icmp .gt 45, 0, 0, 0) :: (.lload 3, 0, 0, 0) :: (.aload 0, 0, 0, 0) :: (.iload 2, 0, 0, 0) :: (.iload 7, 0, 0, 0) :: (.isub, 0, 0, 0) :: (.invokevirtual 46, 2, 5, 0) :: (.i2l, 0, 0, 0) :: (.lload 5, 0, 0, 0) :: (.lmul, 0, 0, 0) :: (.ladd, 0, 0, 0) :: (.lstore 3, 0, 0, 0) :: (.lload 5, 0, 0, 0) :: (.iload 1, 0, 0, 0) :: (.iload 7, 0, 0, 0) :: (.isub, 0, 0, 0) :: (.i2l, 0, 0, 0) :: (.lmul, 0, 0, 0) :: (.lstore 5, 0, 0, 0) :: (.iinc 7 0, 0, 0, 1) :: (.goto 8, 0, 0, 0) :: kk_51_45
def kk_51_0 : List qm_I := (.lconst 0, 0, 0, 0) :: (.lstore 3, 0, 0, 0) :: (.lconst 0, 0, 0, 1) :: (.lstore 5, 0, 0, 0) :: (.iconst 0, 0, 0, 0) :: (.istore 7, 0, 0, 0) :: kk_51_8
def kt_51 : qm_T := [(0, kk_51_0), (8, kk_51_8), (45, kk_51_45)]
theorem kc_51_45 : qm_chain 5 false (some .long) cX5_fallingSum 45 kk_51_45 := qm_chain_of _ _ _ _ 2 _ 47 _ (by decide +kernel) trivial
theorem kc_51_8 : qm_chain 5 false (some .long) cX5_fallingSum 8 kk_51_8 := qm_chain_of _ _ _ _ 23 _ 45 _ (by decide +kernel) kc_51_45
theorem kc_51_0 : qm_chain 5 false (some .long) cX5_fallingSum 0 kk_51_0 := qm_chain_of _ _ _ _ 6 _ 8 _ (by decide +kernel) kc_51_8
theorem ka_51 : ∀ t : Int, 0 ≤ t → qm_chain 5 false (some .long) cX5_fallingSum t.toNat (qm_lk kt_51 t) := qm_lk_ok (List.forall_mem_cons.mpr ⟨⟨by decide, kc_51_0⟩, List.forall_mem_cons.mpr ⟨⟨by decide, kc_51_8⟩, List.forall_mem_cons.mpr ⟨⟨by decide, kc_51_45⟩, fun _ h => absurd h List.not_mem_nil⟩⟩⟩)
theorem kg_51 : qm_G1 (yX5_fallingSum, cX5_fallingSum, 8, some .long, 5, 2) (8, kt_51) := ⟨rfl, false, (fun z => by cases z), ka_51⟩
-- 52: TowerBoards$Order.<init>
def kk_52_0 : List qm_I := (.aload 0, 0, 0, 0) :: (.invokespecial 0, 0, 0, 0) :: (.aload 0, 0, 0, 0) :: (.iconst 0, 0, 0, 448) :: (.newarray .int, 0, 0, 0) :: (.putfield 6, 0, 2, 0) :: (.return_, 0, 0, 0) :: []
def kt_52 : qm_T := [(0, kk_52_0)]
theorem kc_52_0 : qm_chain 6 true (none) cX6_init 0 kk_52_0 := qm_chain_of _ _ _ _ 7 _ 14 _ (by decide +kernel) trivial
theorem ka_52 : ∀ t : Int, 0 ≤ t → qm_chain 6 true (none) cX6_init t.toNat (qm_lk kt_52 t) := qm_lk_ok (List.forall_mem_cons.mpr ⟨⟨by decide, kc_52_0⟩, fun _ h => absurd h List.not_mem_nil⟩)
theorem kg_52 : qm_G1 (yX6_init, cX6_init, 1, none, 6, 0) (1, kt_52) := ⟨rfl, true, (fun _ => rfl), ka_52⟩
-- 53: TowerBoards$Order.prepare
def kk_53_111 : List qm_I := (.return_, 0, 0, 0) :: []
def kk_53_105 : List qm_I := (.iinc 3 0, 0, 0, -1) :: (.goto 48, 0, 0, 0) :: kk_53_111
def kk_53_55 : List qm_I := (.iload 4, 0, 0, 0) :: (.iconst 0, 0, 0, 64) :: (.if_icmp .ge 105, 0, 0, 0) :: (.aload 0, 0, 0, 0) :: (.getfield 6, 0, 0, 0) :: (.iload 3, 0, 0, 0) :: (.iconst 0, 0, 0, 64) :: (.imul, 0, 0, 0) :: (.iload 4, 0, 0, 0) :: (.iadd, 0, 0, 0) :: (.aload 0, 0, 0, 0) :: (.aload 1, 0, 0, 0) :: (.iload 3, 0, 0, 0) :: (.iload 4, 0, 0, 0) :: (.iconst 0, 0, 0, 6) :: (.invokevirtual 54, 5, 6, 0) :: (.aload 0, 0, 0, 0) :: (.getfield 6, 0, 0, 0) :: (.iload 3, 0, 0, 0) :: (.iconst 0, 0, 0, 1) :: (.iadd, 0, 0, 0) :: (.iconst 0, 0, 0, 64) :: (.imul, 0, 0, 0) :: (.iload 4, 0, 0, 0) :: (.iadd, 0, 0, 0) :: (.iaload, 0, 0, 0) :: (.iadd, 0, 0, 0) :: (.iastore, 0, 0, 0) :: (.iinc 4 0, 0, 0, 1) :: (.goto 55, 0, 0, 0) :: kk_53_105
def kk_53_48 : List qm_I := (.iload 3, 0, 0, 0) :: (.ifCond .lt 111, 0, 0, 0) :: (.iconst 0, 0, 0, 0) :: (.istore 4, 0, 0, 0) :: kk_53_55
def kk_53_41 : List qm_I := (.aload 1, 0, 0, 0) :: (.getfield 1, 1, 0, 0) :: (.iconst 0, 0, 0, 1) :: (.isub, 0, 0, 0) :: (.istore 3, 0, 0, 0) :: kk_53_48
def kk_53_34 : List qm_I := (.iastore, 0, 0, 0) :: (.iinc 3 0, 0, 0, 1) :: (.goto 2, 0, 0, 0) :: kk_53_41
def kk_53_33 : List qm_I := (.iconst 0, 0, 0, 0) :: kk_53_34
def kk_53_2 : List qm_I := (.iload 3, 0, 0, 0) :: (.iconst 0, 0, 0, 64) :: (.if_icmp .ge 41, 0, 0, 0) :: (.aload 0, 0, 0, 0) :: (.getfield 6, 0, 0, 0) :: (.aload 1, 0, 0, 0) :: (.getfield 1, 1, 0, 0) :: (.iconst 0, 0, 0, 64) :: (.imul, 0, 0, 0) :: (.iload 3, 0, 0, 0) :: (.iadd, 0, 0, 0) :: (.iload 3, 0, 0, 0) :: (.invokestatic 220, 1, 0, 0) :: (.iload 2, 0, 0, 0) :: (.if_icmp .ne 33, 0, 0, 0) :: (.iconst 0, 0, 0, 1) :: (.goto 34, 0, 0, 0) :: kk_53_33
def kk_53_0 : List qm_I := (.iconst 0, 0, 0, 0) :: (.istore 3, 0, 0, 0) :: kk_53_2
def kt_53 : qm_T := [(0, kk_53_0), (2, kk_53_2), (33, kk_53_33), (34, kk_53_34), (41, kk_53_41), (48, kk_53_48), (55, kk_53_55), (105, kk_53_105), (111, kk_53_111)]
theorem kc_53_111 : qm_chain 6 false (none) cX6_prepare 111 kk_53_111 := qm_chain_of _ _ _ _ 1 _ 112 _ (by decide +kernel) trivial
theorem kc_53_105 : qm_chain 6 false (none) cX6_prepare 105 kk_53_105 := qm_chain_of _ _ _ _ 2 _ 111 _ (by decide +kernel) kc_53_111
theorem kc_53_55 : qm_chain 6 false (none) cX6_prepare 55 kk_53_55 := qm_chain_of _ _ _ _ 30 _ 105 _ (by decide +kernel) kc_53_105
theorem kc_53_48 : qm_chain 6 false (none) cX6_prepare 48 kk_53_48 := qm_chain_of _ _ _ _ 4 _ 55 _ (by decide +kernel) kc_53_55
theorem kc_53_41 : qm_chain 6 false (none) cX6_prepare 41 kk_53_41 := qm_chain_of _ _ _ _ 5 _ 48 _ (by decide +kernel) kc_53_48
theorem kc_53_34 : qm_chain 6 false (none) cX6_prepare 34 kk_53_34 := qm_chain_of _ _ _ _ 3 _ 41 _ (by decide +kernel) kc_53_41
theorem kc_53_33 : qm_chain 6 false (none) cX6_prepare 33 kk_53_33 := qm_chain_of _ _ _ _ 1 _ 34 _ (by decide +kernel) kc_53_34
theorem kc_53_2 : qm_chain 6 false (none) cX6_prepare 2 kk_53_2 := qm_chain_of _ _ _ _ 17 _ 33 _ (by decide +kernel) kc_53_33
theorem kc_53_0 : qm_chain 6 false (none) cX6_prepare 0 kk_53_0 := qm_chain_of _ _ _ _ 2 _ 2 _ (by decide +kernel) kc_53_2
theorem ka_53 : ∀ t : Int, 0 ≤ t → qm_chain 6 false (none) cX6_prepare t.toNat (qm_lk kt_53 t) := qm_lk_ok (List.forall_mem_cons.mpr ⟨⟨by decide, kc_53_0⟩, List.forall_mem_cons.mpr ⟨⟨by decide, kc_53_2⟩, List.forall_mem_cons.mpr ⟨⟨by decide, kc_53_33⟩, List.forall_mem_cons.mpr ⟨⟨by decide, kc_53_34⟩, List.forall_mem_cons.mpr ⟨⟨by decide, kc_53_41⟩, List.forall_mem_cons.mpr ⟨⟨by decide, kc_53_48⟩, List.forall_mem_cons.mpr ⟨⟨by decide, kc_53_55⟩, List.forall_mem_cons.mpr ⟨⟨by decide, kc_53_105⟩, List.forall_mem_cons.mpr ⟨⟨by decide, kc_53_111⟩, fun _ h => absurd h List.not_mem_nil⟩⟩⟩⟩⟩⟩⟩⟩⟩)
theorem kg_53 : qm_G1 (yX6_prepare, cX6_prepare, 5, none, 6, 2) (5, kt_53) := ⟨rfl, false, (fun z => by cases z), ka_53⟩
-- 54: TowerBoards$Order.countAhead
def kk_54_64 : List qm_I := (.iload 6, 0, 0, 0) :: (.ireturn, 0, 0, 0) :: []
def kk_54_58 : List qm_I := (.iinc 7 0, 0, 0, 1) :: (.goto 18, 0, 0, 0) :: kk_54_64
def kk_54_18 : List qm_I := (.iload 7, 0, 0, 0) :: (.iload 4, 0, 0, 0) :: (.if_icmp .ge 64, 0, 0, 0) :: (.iload 5, 0, 0, 0) :: (.iconst 0, 0, 0, 1) :: (.iload 7, 0, 0, 0) :: (.ishl, 0, 0, 0) :: (.iand, 0, 0, 0) :: (.ifCond .eq 58, 0, 0, 0) :: (.iload 6, 0, 0, 0) :: (.aload 0, 0, 0, 0) :: (.getfield 6, 0, 0, 0) :: (.iload 2, 0, 0, 0) :: (.iconst 0, 0, 0, 1) :: (.iadd, 0, 0, 0) :: (.iconst 0, 0, 0, 64) :: (.imul, 0, 0, 0) :: (.iload 3, 0, 0, 0) :: (.iconst 0, 0, 0, 1) :: (.iload 7, 0, 0, 0) :: (.ishl, 0, 0, 0) :: (.ior, 0, 0, 0) :: (.iadd, 0, 0, 0) :: (.iaload, 0, 0, 0) :: (.iadd, 0, 0, 0) :: (.istore 6, 0, 0, 0) :: kk_54_58
def kk_54_0 : List qm_I := (.aload 1, 0, 0, 0) :: (.getfield 1, 3, 0, 0) :: (.iload 2, 0, 0, 0) :: (.iaload, 0, 0, 0) :: (.iload 3, 0, 0, 0) :: (.iconst 0, 0, 0, -1) :: (.ixor, 0, 0, 0) :: (.iand, 0, 0, 0) :: (.istore 5, 0, 0, 0) :: (.iconst 0, 0, 0, 0) :: (.istore 6, 0, 0, 0) :: (.iconst 0, 0, 0, 0) :: (.istore 7, 0, 0, 0) :: kk_54_18
def kt_54 : qm_T := [(0, kk_54_0), (18, kk_54_18), (58, kk_54_58), (64, kk_54_64)]
theorem kc_54_64 : qm_chain 6 false (some .int) cX6_countAhead 64 kk_54_64 := qm_chain_of _ _ _ _ 2 _ 67 _ (by decide +kernel) trivial
theorem kc_54_58 : qm_chain 6 false (some .int) cX6_countAhead 58 kk_54_58 := qm_chain_of _ _ _ _ 2 _ 64 _ (by decide +kernel) kc_54_64
theorem kc_54_18 : qm_chain 6 false (some .int) cX6_countAhead 18 kk_54_18 := qm_chain_of _ _ _ _ 26 _ 58 _ (by decide +kernel) kc_54_58
theorem kc_54_0 : qm_chain 6 false (some .int) cX6_countAhead 0 kk_54_0 := qm_chain_of _ _ _ _ 13 _ 18 _ (by decide +kernel) kc_54_18
theorem ka_54 : ∀ t : Int, 0 ≤ t → qm_chain 6 false (some .int) cX6_countAhead t.toNat (qm_lk kt_54 t) := qm_lk_ok (List.forall_mem_cons.mpr ⟨⟨by decide, kc_54_0⟩, List.forall_mem_cons.mpr ⟨⟨by decide, kc_54_18⟩, List.forall_mem_cons.mpr ⟨⟨by decide, kc_54_58⟩, List.forall_mem_cons.mpr ⟨⟨by decide, kc_54_64⟩, fun _ h => absurd h List.not_mem_nil⟩⟩⟩⟩)
theorem kg_54 : qm_G1 (yX6_countAhead, cX6_countAhead, 8, some .int, 6, 4) (8, kt_54) := ⟨rfl, false, (fun z => by cases z), ka_54⟩
-- 55: TowerBoards$Order.all
def kk_55_0 : List qm_I := (.aload 0, 0, 0, 0) :: (.getfield 6, 0, 0, 0) :: (.iconst 0, 0, 0, 0) :: (.iaload, 0, 0, 0) :: (.ireturn, 0, 0, 0) :: []
def kt_55 : qm_T := [(0, kk_55_0)]
theorem kc_55_0 : qm_chain 6 false (some .int) cX6_all 0 kk_55_0 := qm_chain_of _ _ _ _ 5 _ 7 _ (by decide +kernel) trivial
theorem ka_55 : ∀ t : Int, 0 ≤ t → qm_chain 6 false (some .int) cX6_all t.toNat (qm_lk kt_55 t) := qm_lk_ok (List.forall_mem_cons.mpr ⟨⟨by decide, kc_55_0⟩, fun _ h => absurd h List.not_mem_nil⟩)
theorem kg_55 : qm_G1 (yX6_all, cX6_all, 1, some .int, 6, 0) (1, kt_55) := ⟨rfl, false, (fun z => by cases z), ka_55⟩
-- 56: TowerBoards$Order.numberOf
def kk_56_81 : List qm_I := (.iload 3, 0, 0, 0) :: (.ireturn, 0, 0, 0) :: []
def kk_56_75 : List qm_I := (.iinc 5 0, 0, 0, 1) :: (.goto 8, 0, 0, 0) :: kk_56_81
def kk_56_61 : List qm_I := (.iload 3, 0, 0, 0) :: (.aload 0, 0, 0, 0) :: (.aload 2, 0, 0, 0) :: (.iload 5, 0, 0, 0) :: (.iload 4, 0, 0, 0) :: (.iconst 0, 0, 0, 6) :: (.invokevirtual 54, 5, 6, 0) :: (.iadd, 0, 0, 0) :: (.istore 3, 0, 0, 0) :: kk_56_75
def kk_56_8 : List qm_I := (.iload 5, 0, 0, 0) :: (.aload 2, 0, 0, 0) :: (.getfield 1, 1, 0, 0) :: (.if_icmp .ge 81, 0, 0, 0) :: (.aload 1, 0, 0, 0) :: (.iload 5, 0, 0, 0) :: (.invokevirtual 64, 2, 7, 0) :: (.istore 6, 0, 0, 0) :: (.iload 6, 0, 0, 0) :: (.iconst 0, 0, 0, 0) :: (.iconst 0, 0, 0, 5) :: (.invokestatic 118, 3, 0, 0) :: (.ifCond .eq 61, 0, 0, 0) :: (.iload 3, 0, 0, 0) :: (.aload 0, 0, 0, 0) :: (.aload 2, 0, 0, 0) :: (.iload 5, 0, 0, 0) :: (.iload 4, 0, 0, 0) :: (.iload 6, 0, 0, 0) :: (.invokevirtual 54, 5, 6, 0) :: (.iadd, 0, 0, 0) :: (.istore 3, 0, 0, 0) :: (.iload 4, 0, 0, 0) :: (.iconst 0, 0, 0, 1) :: (.iload 6, 0, 0, 0) :: (.ishl, 0, 0, 0) :: (.ior, 0, 0, 0) :: (.istore 4, 0, 0, 0) :: (.goto 75, 0, 0, 0) :: kk_56_61
def kk_56_0 : List qm_I := (.iconst 0, 0, 0, 0) :: (.istore 3, 0, 0, 0) :: (.iconst 0, 0, 0, 0) :: (.istore 4, 0, 0, 0) :: (.iconst 0, 0, 0, 0) :: (.istore 5, 0, 0, 0) :: kk_56_8
def kt_56 : qm_T := [(0, kk_56_0), (8, kk_56_8), (61, kk_56_61), (75, kk_56_75), (81, kk_56_81)]
theorem kc_56_81 : qm_chain 6 false (some .int) cX6_numberOf 81 kk_56_81 := qm_chain_of _ _ _ _ 2 _ 83 _ (by decide +kernel) trivial
theorem kc_56_75 : qm_chain 6 false (some .int) cX6_numberOf 75 kk_56_75 := qm_chain_of _ _ _ _ 2 _ 81 _ (by decide +kernel) kc_56_81
theorem kc_56_61 : qm_chain 6 false (some .int) cX6_numberOf 61 kk_56_61 := qm_chain_of _ _ _ _ 9 _ 75 _ (by decide +kernel) kc_56_75
theorem kc_56_8 : qm_chain 6 false (some .int) cX6_numberOf 8 kk_56_8 := qm_chain_of _ _ _ _ 29 _ 61 _ (by decide +kernel) kc_56_61
theorem kc_56_0 : qm_chain 6 false (some .int) cX6_numberOf 0 kk_56_0 := qm_chain_of _ _ _ _ 6 _ 8 _ (by decide +kernel) kc_56_8
theorem ka_56 : ∀ t : Int, 0 ≤ t → qm_chain 6 false (some .int) cX6_numberOf t.toNat (qm_lk kt_56 t) := qm_lk_ok (List.forall_mem_cons.mpr ⟨⟨by decide, kc_56_0⟩, List.forall_mem_cons.mpr ⟨⟨by decide, kc_56_8⟩, List.forall_mem_cons.mpr ⟨⟨by decide, kc_56_61⟩, List.forall_mem_cons.mpr ⟨⟨by decide, kc_56_75⟩, List.forall_mem_cons.mpr ⟨⟨by decide, kc_56_81⟩, fun _ h => absurd h List.not_mem_nil⟩⟩⟩⟩⟩)
theorem kg_56 : qm_G1 (yX6_numberOf, cX6_numberOf, 7, some .int, 6, 2) (7, kt_56) := ⟨rfl, false, (fun z => by cases z), ka_56⟩
-- 57: TowerBoards$Order.writeTo
def kk_57_102 : List qm_I := (.return_, 0, 0, 0) :: []
def kk_57_93 : List qm_I := (.ior, 0, 0, 0) :: (.istore 5, 0, 0, 0) :: (.iinc 6 0, 0, 0, 1) :: (.goto 17, 0, 0, 0) :: kk_57_102
def kk_57_92 : List qm_I := (.iconst 0, 0, 0, 0) :: kk_57_93
def kk_57_75 : List qm_I := (.iastore, 0, 0, 0) :: (.iload 5, 0, 0, 0) :: (.iload 7, 0, 0, 0) :: (.iconst 0, 0, 0, 6) :: (.if_icmp .ge 92, 0, 0, 0) :: (.iconst 0, 0, 0, 1) :: (.iload 7, 0, 0, 0) :: (.ishl, 0, 0, 0) :: (.goto 93, 0, 0, 0) :: kk_57_92
def kk_57_73 : List qm_I := (.iconst 0, 0, 0, -9) :: kk_57_75
def kk_57_17 : List qm_I := (.iload 6, 0, 0, 0) :: (.aload 2, 0, 0, 0) :: (.getfield 1, 1, 0, 0) :: (.if_icmp .ge 102, 0, 0, 0) :: (.aload 0, 0, 0, 0) :: (.aload 2, 0, 0, 0) :: (.iload 6, 0, 0, 0) :: (.iload 5, 0, 0, 0) :: (.iload 4, 0, 0, 0) :: (.invokevirtual 58, 5, 6, 0) :: (.istore 7, 0, 0, 0) :: (.iload 4, 0, 0, 0) :: (.aload 0, 0, 0, 0) :: (.aload 2, 0, 0, 0) :: (.iload 6, 0, 0, 0) :: (.iload 5, 0, 0, 0) :: (.iload 7, 0, 0, 0) :: (.invokevirtual 54, 5, 6, 0) :: (.isub, 0, 0, 0) :: (.istore 4, 0, 0, 0) :: (.aload 1, 0, 0, 0) :: (.getfield 7, 1, 0, 0) :: (.iload 6, 0, 0, 0) :: (.iload 7, 0, 0, 0) :: (.iconst 0, 0, 0, 6) :: (.if_icmp .ge 73, 0, 0, 0) :: (.iload 7, 0, 0, 0) :: (.goto 75, 0, 0, 0) :: kk_57_73
def kk_57_0 : List qm_I := (.iload 3, 0, 0, 0) :: (.istore 4, 0, 0, 0) :: (.iconst 0, 0, 0, 0) :: (.istore 5, 0, 0, 0) :: (.aload 1, 0, 0, 0) :: (.aload 2, 0, 0, 0) :: (.getfield 1, 1, 0, 0) :: (.invokevirtual 61, 2, 7, 0) :: (.iconst 0, 0, 0, 0) :: (.istore 6, 0, 0, 0) :: kk_57_17
def kt_57 : qm_T := [(0, kk_57_0), (17, kk_57_17), (73, kk_57_73), (75, kk_57_75), (92, kk_57_92), (93, kk_57_93), (102, kk_57_102)]
theorem kc_57_102 : qm_chain 6 false (none) cX6_writeTo 102 kk_57_102 := qm_chain_of _ _ _ _ 1 _ 103 _ (by decide +kernel) trivial
theorem kc_57_93 : qm_chain 6 false (none) cX6_writeTo 93 kk_57_93 := qm_chain_of _ _ _ _ 4 _ 102 _ (by decide +kernel) kc_57_102
theorem kc_57_92 : qm_chain 6 false (none) cX6_writeTo 92 kk_57_92 := qm_chain_of _ _ _ _ 1 _ 93 _ (by decide +kernel) kc_57_93
theorem kc_57_75 : qm_chain 6 false (none) cX6_writeTo 75 kk_57_75 := qm_chain_of _ _ _ _ 9 _ 92 _ (by decide +kernel) kc_57_92
theorem kc_57_73 : qm_chain 6 false (none) cX6_writeTo 73 kk_57_73 := qm_chain_of _ _ _ _ 1 _ 75 _ (by decide +kernel) kc_57_75
theorem kc_57_17 : qm_chain 6 false (none) cX6_writeTo 17 kk_57_17 := qm_chain_of _ _ _ _ 28 _ 73 _ (by decide +kernel) kc_57_73
theorem kc_57_0 : qm_chain 6 false (none) cX6_writeTo 0 kk_57_0 := qm_chain_of _ _ _ _ 10 _ 17 _ (by decide +kernel) kc_57_17
theorem ka_57 : ∀ t : Int, 0 ≤ t → qm_chain 6 false (none) cX6_writeTo t.toNat (qm_lk kt_57 t) := qm_lk_ok (List.forall_mem_cons.mpr ⟨⟨by decide, kc_57_0⟩, List.forall_mem_cons.mpr ⟨⟨by decide, kc_57_17⟩, List.forall_mem_cons.mpr ⟨⟨by decide, kc_57_73⟩, List.forall_mem_cons.mpr ⟨⟨by decide, kc_57_75⟩, List.forall_mem_cons.mpr ⟨⟨by decide, kc_57_92⟩, List.forall_mem_cons.mpr ⟨⟨by decide, kc_57_93⟩, List.forall_mem_cons.mpr ⟨⟨by decide, kc_57_102⟩, fun _ h => absurd h List.not_mem_nil⟩⟩⟩⟩⟩⟩⟩)
theorem kg_57 : qm_G1 (yX6_writeTo, cX6_writeTo, 8, none, 6, 3) (8, kt_57) := ⟨rfl, false, (fun z => by cases z), ka_57⟩
-- 58: TowerBoards$Order.columnOf
def kk_58_35 : List qm_I := (.iconst 0, 0, 0, 6) :: (.ireturn, 0, 0, 0) :: []
def kk_58_29 : List qm_I := (.iinc 5 0, 0, 0, 1) :: (.goto 3, 0, 0, 0) :: kk_58_35
def kk_58_3 : List qm_I := (.iload 5, 0, 0, 0) :: (.iconst 0, 0, 0, 6) :: (.if_icmp .ge 35, 0, 0, 0) :: (.iload 4, 0, 0, 0) :: (.aload 0, 0, 0, 0) :: (.aload 1, 0, 0, 0) :: (.iload 2, 0, 0, 0) :: (.iload 3, 0, 0, 0) :: (.iload 5, 0, 0, 0) :: (.iconst 0, 0, 0, 1) :: (.iadd, 0, 0, 0) :: (.invokevirtual 54, 5, 6, 0) :: (.if_icmp .ge 29, 0, 0, 0) :: (.iload 5, 0, 0, 0) :: (.ireturn, 0, 0, 0) :: kk_58_29
def kk_58_0 : List qm_I := (.iconst 0, 0, 0, 0) :: (.istore 5, 0, 0, 0) :: kk_58_3
def kt_58 : qm_T := [(0, kk_58_0), (3, kk_58_3), (29, kk_58_29), (35, kk_58_35)]
theorem kc_58_35 : qm_chain 6 false (some .int) cX6_columnOf 35 kk_58_35 := qm_chain_of _ _ _ _ 2 _ 38 _ (by decide +kernel) trivial
theorem kc_58_29 : qm_chain 6 false (some .int) cX6_columnOf 29 kk_58_29 := qm_chain_of _ _ _ _ 2 _ 35 _ (by decide +kernel) kc_58_35
theorem kc_58_3 : qm_chain 6 false (some .int) cX6_columnOf 3 kk_58_3 := qm_chain_of _ _ _ _ 15 _ 29 _ (by decide +kernel) kc_58_29
theorem kc_58_0 : qm_chain 6 false (some .int) cX6_columnOf 0 kk_58_0 := qm_chain_of _ _ _ _ 2 _ 3 _ (by decide +kernel) kc_58_3
theorem ka_58 : ∀ t : Int, 0 ≤ t → qm_chain 6 false (some .int) cX6_columnOf t.toNat (qm_lk kt_58 t) := qm_lk_ok (List.forall_mem_cons.mpr ⟨⟨by decide, kc_58_0⟩, List.forall_mem_cons.mpr ⟨⟨by decide, kc_58_3⟩, List.forall_mem_cons.mpr ⟨⟨by decide, kc_58_29⟩, List.forall_mem_cons.mpr ⟨⟨by decide, kc_58_35⟩, fun _ h => absurd h List.not_mem_nil⟩⟩⟩⟩)
theorem kg_58 : qm_G1 (yX6_columnOf, cX6_columnOf, 6, some .int, 6, 4) (6, kt_58) := ⟨rfl, false, (fun z => by cases z), ka_58⟩
-- 59: TowerBoards$Row.<init>
def kk_59_0 : List qm_I := (.aload 0, 0, 0, 0) :: (.invokespecial 0, 0, 0, 0) :: (.aload 0, 0, 0, 0) :: (.iconst 0, 0, 0, -1) :: (.putfield 7, 0, 0, 0) :: (.aload 0, 0, 0, 0) :: (.iconst 0, 0, 0, 36) :: (.newarray .int, 0, 0, 0) :: (.putfield 7, 1, 2, 0) :: (.return_, 0, 0, 0) :: []
def kt_59 : qm_T := [(0, kk_59_0)]
theorem kc_59_0 : qm_chain 7 true (none) cX7_init 0 kk_59_0 := qm_chain_of _ _ _ _ 10 _ 18 _ (by decide +kernel) trivial
theorem ka_59 : ∀ t : Int, 0 ≤ t → qm_chain 7 true (none) cX7_init t.toNat (qm_lk kt_59 t) := qm_lk_ok (List.forall_mem_cons.mpr ⟨⟨by decide, kc_59_0⟩, fun _ h => absurd h List.not_mem_nil⟩)
theorem kg_59 : qm_G1 (yX7_init, cX7_init, 1, none, 7, 0) (1, kt_59) := ⟨rfl, true, (fun _ => rfl), ka_59⟩
-- 60: TowerBoards$Row.isThere
def kk_60_13 : List qm_I := (.ireturn, 1, 0, 0) :: []
def kk_60_12 : List qm_I := (.iconst 0, 0, 0, 0) :: kk_60_13
def kk_60_0 : List qm_I := (.aload 0, 0, 0, 0) :: (.getfield 7, 0, 0, 0) :: (.iconst 0, 0, 0, -1) :: (.if_icmp .eq 12, 0, 0, 0) :: (.iconst 0, 0, 0, 1) :: (.goto 13, 0, 0, 0) :: kk_60_12
def kt_60 : qm_T := [(0, kk_60_0), (12, kk_60_12), (13, kk_60_13)]
theorem kc_60_13 : qm_chain 7 false (some .boolean) cX7_isThere 13 kk_60_13 := qm_chain_of _ _ _ _ 1 _ 14 _ (by decide +kernel) trivial
theorem kc_60_12 : qm_chain 7 false (some .boolean) cX7_isThere 12 kk_60_12 := qm_chain_of _ _ _ _ 1 _ 13 _ (by decide +kernel) kc_60_13
theorem kc_60_0 : qm_chain 7 false (some .boolean) cX7_isThere 0 kk_60_0 := qm_chain_of _ _ _ _ 6 _ 12 _ (by decide +kernel) kc_60_12
theorem ka_60 : ∀ t : Int, 0 ≤ t → qm_chain 7 false (some .boolean) cX7_isThere t.toNat (qm_lk kt_60 t) := qm_lk_ok (List.forall_mem_cons.mpr ⟨⟨by decide, kc_60_0⟩, List.forall_mem_cons.mpr ⟨⟨by decide, kc_60_12⟩, List.forall_mem_cons.mpr ⟨⟨by decide, kc_60_13⟩, fun _ h => absurd h List.not_mem_nil⟩⟩⟩)
theorem kg_60 : qm_G1 (yX7_isThere, cX7_isThere, 1, some .boolean, 7, 0) (1, kt_60) := ⟨rfl, false, (fun z => by cases z), ka_60⟩
-- 61: TowerBoards$Row.begin
def kk_61_0 : List qm_I := (.aload 0, 0, 0, 0) :: (.iload 1, 0, 0, 0) :: (.putfield 7, 0, 0, 0) :: (.aload 0, 0, 0, 0) :: (.getfield 7, 1, 0, 0) :: (.iconst 0, 0, 0, 0) :: (.invokestatic 222, 2, 0, 0) :: (.return_, 0, 0, 0) :: []
def kt_61 : qm_T := [(0, kk_61_0)]
theorem kc_61_0 : qm_chain 7 false (none) cX7_begin 0 kk_61_0 := qm_chain_of _ _ _ _ 8 _ 14 _ (by decide +kernel) trivial
theorem ka_61 : ∀ t : Int, 0 ≤ t → qm_chain 7 false (none) cX7_begin t.toNat (qm_lk kt_61 t) := qm_lk_ok (List.forall_mem_cons.mpr ⟨⟨by decide, kc_61_0⟩, fun _ h => absurd h List.not_mem_nil⟩)
theorem kg_61 : qm_G1 (yX7_begin, cX7_begin, 2, none, 7, 1) (2, kt_61) := ⟨rfl, false, (fun z => by cases z), ka_61⟩
-- 62: TowerBoards$Row.hasPlace
def kk_62_17 : List qm_I := (.ireturn, 1, 0, 0) :: []
def kk_62_16 : List qm_I := (.iconst 0, 0, 0, 0) :: kk_62_17
def kk_62_0 : List qm_I := (.iload 1, 0, 0, 0) :: (.ifCond .lt 16, 0, 0, 0) :: (.iload 1, 0, 0, 0) :: (.aload 0, 0, 0, 0) :: (.getfield 7, 0, 0, 0) :: (.if_icmp .ge 16, 0, 0, 0) :: (.iconst 0, 0, 0, 1) :: (.goto 17, 0, 0, 0) :: kk_62_16
def kt_62 : qm_T := [(0, kk_62_0), (16, kk_62_16), (17, kk_62_17)]
theorem kc_62_17 : qm_chain 7 false (some .boolean) cX7_hasPlace 17 kk_62_17 := qm_chain_of _ _ _ _ 1 _ 18 _ (by decide +kernel) trivial
theorem kc_62_16 : qm_chain 7 false (some .boolean) cX7_hasPlace 16 kk_62_16 := qm_chain_of _ _ _ _ 1 _ 17 _ (by decide +kernel) kc_62_17
theorem kc_62_0 : qm_chain 7 false (some .boolean) cX7_hasPlace 0 kk_62_0 := qm_chain_of _ _ _ _ 8 _ 16 _ (by decide +kernel) kc_62_16
theorem ka_62 : ∀ t : Int, 0 ≤ t → qm_chain 7 false (some .boolean) cX7_hasPlace t.toNat (qm_lk kt_62 t) := qm_lk_ok (List.forall_mem_cons.mpr ⟨⟨by decide, kc_62_0⟩, List.forall_mem_cons.mpr ⟨⟨by decide, kc_62_16⟩, List.forall_mem_cons.mpr ⟨⟨by decide, kc_62_17⟩, fun _ h => absurd h List.not_mem_nil⟩⟩⟩)
theorem kg_62 : qm_G1 (yX7_hasPlace, cX7_hasPlace, 2, some .boolean, 7, 1) (2, kt_62) := ⟨rfl, false, (fun z => by cases z), ka_62⟩
-- 63: TowerBoards$Row.hasSpan
def kk_63_31 : List qm_I := (.ireturn, 1, 0, 0) :: []
def kk_63_30 : List qm_I := (.iconst 0, 0, 0, 0) :: kk_63_31
def kk_63_0 : List qm_I := (.iload 1, 0, 0, 0) :: (.ifCond .lt 30, 0, 0, 0) :: (.iload 1, 0, 0, 0) :: (.aload 0, 0, 0, 0) :: (.getfield 7, 0, 0, 0) :: (.if_icmp .gt 30, 0, 0, 0) :: (.iload 2, 0, 0, 0) :: (.ifCond .lt 30, 0, 0, 0) :: (.iload 2, 0, 0, 0) :: (.aload 0, 0, 0, 0) :: (.getfield 7, 0, 0, 0) :: (.iload 1, 0, 0, 0) :: (.isub, 0, 0, 0) :: (.if_icmp .gt 30, 0, 0, 0) :: (.iconst 0, 0, 0, 1) :: (.goto 31, 0, 0, 0) :: kk_63_30
def kt_63 : qm_T := [(0, kk_63_0), (30, kk_63_30), (31, kk_63_31)]
theorem kc_63_31 : qm_chain 7 false (some .boolean) cX7_hasSpan 31 kk_63_31 := qm_chain_of _ _ _ _ 1 _ 32 _ (by decide +kernel) trivial
theorem kc_63_30 : qm_chain 7 false (some .boolean) cX7_hasSpan 30 kk_63_30 := qm_chain_of _ _ _ _ 1 _ 31 _ (by decide +kernel) kc_63_31
theorem kc_63_0 : qm_chain 7 false (some .boolean) cX7_hasSpan 0 kk_63_0 := qm_chain_of _ _ _ _ 16 _ 30 _ (by decide +kernel) kc_63_30
theorem ka_63 : ∀ t : Int, 0 ≤ t → qm_chain 7 false (some .boolean) cX7_hasSpan t.toNat (qm_lk kt_63 t) := qm_lk_ok (List.forall_mem_cons.mpr ⟨⟨by decide, kc_63_0⟩, List.forall_mem_cons.mpr ⟨⟨by decide, kc_63_30⟩, List.forall_mem_cons.mpr ⟨⟨by decide, kc_63_31⟩, fun _ h => absurd h List.not_mem_nil⟩⟩⟩)
theorem kg_63 : qm_G1 (yX7_hasSpan, cX7_hasSpan, 3, some .boolean, 7, 2) (3, kt_63) := ⟨rfl, false, (fun z => by cases z), ka_63⟩
-- 64: TowerBoards$Row.at
def kk_64_18 : List qm_I := (.ireturn, 0, 0, 0) :: []
def kk_64_17 : List qm_I := (.iconst 0, 0, 0, 0) :: kk_64_18
def kk_64_0 : List qm_I := (.aload 0, 0, 0, 0) :: (.iload 1, 0, 0, 0) :: (.invokevirtual 62, 2, 7, 0) :: (.ifCond .eq 17, 0, 0, 0) :: (.aload 0, 0, 0, 0) :: (.getfield 7, 1, 0, 0) :: (.iload 1, 0, 0, 0) :: (.iaload, 0, 0, 0) :: (.goto 18, 0, 0, 0) :: kk_64_17
def kt_64 : qm_T := [(0, kk_64_0), (17, kk_64_17), (18, kk_64_18)]
theorem kc_64_18 : qm_chain 7 false (some .int) cX7_at 18 kk_64_18 := qm_chain_of _ _ _ _ 1 _ 19 _ (by decide +kernel) trivial
theorem kc_64_17 : qm_chain 7 false (some .int) cX7_at 17 kk_64_17 := qm_chain_of _ _ _ _ 1 _ 18 _ (by decide +kernel) kc_64_18
theorem kc_64_0 : qm_chain 7 false (some .int) cX7_at 0 kk_64_0 := qm_chain_of _ _ _ _ 9 _ 17 _ (by decide +kernel) kc_64_17
theorem ka_64 : ∀ t : Int, 0 ≤ t → qm_chain 7 false (some .int) cX7_at t.toNat (qm_lk kt_64 t) := qm_lk_ok (List.forall_mem_cons.mpr ⟨⟨by decide, kc_64_0⟩, List.forall_mem_cons.mpr ⟨⟨by decide, kc_64_17⟩, List.forall_mem_cons.mpr ⟨⟨by decide, kc_64_18⟩, fun _ h => absurd h List.not_mem_nil⟩⟩⟩)
theorem kg_64 : qm_G1 (yX7_at, cX7_at, 2, some .int, 7, 1) (2, kt_64) := ⟨rfl, false, (fun z => by cases z), ka_64⟩
-- 65: TowerBoards$Row.total
def kk_65_28 : List qm_I := (.lload 1, 0, 0, 0) :: (.lreturn, 0, 0, 0) :: []
def kk_65_4 : List qm_I := (.iload 3, 0, 0, 0) :: (.aload 0, 0, 0, 0) :: (.getfield 7, 0, 0, 0) :: (.if_icmp .ge 28, 0, 0, 0) :: (.lload 1, 0, 0, 0) :: (.aload 0, 0, 0, 0) :: (.getfield 7, 1, 0, 0) :: (.iload 3, 0, 0, 0) :: (.iaload, 0, 0, 0) :: (.i2l, 0, 0, 0) :: (.ladd, 0, 0, 0) :: (.lstore 1, 0, 0, 0) :: (.iinc 3 0, 0, 0, 1) :: (.goto 4, 0, 0, 0) :: kk_65_28
def kk_65_0 : List qm_I := (.lconst 0, 0, 0, 0) :: (.lstore 1, 0, 0, 0) :: (.iconst 0, 0, 0, 0) :: (.istore 3, 0, 0, 0) :: kk_65_4
def kt_65 : qm_T := [(0, kk_65_0), (4, kk_65_4), (28, kk_65_28)]
theorem kc_65_28 : qm_chain 7 false (some .long) cX7_total 28 kk_65_28 := qm_chain_of _ _ _ _ 2 _ 30 _ (by decide +kernel) trivial
theorem kc_65_4 : qm_chain 7 false (some .long) cX7_total 4 kk_65_4 := qm_chain_of _ _ _ _ 14 _ 28 _ (by decide +kernel) kc_65_28
theorem kc_65_0 : qm_chain 7 false (some .long) cX7_total 0 kk_65_0 := qm_chain_of _ _ _ _ 4 _ 4 _ (by decide +kernel) kc_65_4
theorem ka_65 : ∀ t : Int, 0 ≤ t → qm_chain 7 false (some .long) cX7_total t.toNat (qm_lk kt_65 t) := qm_lk_ok (List.forall_mem_cons.mpr ⟨⟨by decide, kc_65_0⟩, List.forall_mem_cons.mpr ⟨⟨by decide, kc_65_4⟩, List.forall_mem_cons.mpr ⟨⟨by decide, kc_65_28⟩, fun _ h => absurd h List.not_mem_nil⟩⟩⟩)
theorem kg_65 : qm_G1 (yX7_total, cX7_total, 4, some .long, 7, 0) (4, kt_65) := ⟨rfl, false, (fun z => by cases z), ka_65⟩
-- 66: TowerBoards$Row.isAllWithin
def kk_66_32 : List qm_I := (.iconst 0, 0, 0, 1) :: (.ireturn, 1, 0, 0) :: []
def kk_66_26 : List qm_I := (.iinc 3 0, 0, 0, 1) :: (.goto 2, 0, 0, 0) :: kk_66_32
def kk_66_2 : List qm_I := (.iload 3, 0, 0, 0) :: (.aload 0, 0, 0, 0) :: (.getfield 7, 0, 0, 0) :: (.if_icmp .ge 32, 0, 0, 0) :: (.aload 0, 0, 0, 0) :: (.getfield 7, 1, 0, 0) :: (.iload 3, 0, 0, 0) :: (.iaload, 0, 0, 0) :: (.iload 1, 0, 0, 0) :: (.iload 2, 0, 0, 0) :: (.invokestatic 118, 3, 0, 0) :: (.ifCond .ne 26, 0, 0, 0) :: (.iconst 0, 0, 0, 0) :: (.ireturn, 1, 0, 0) :: kk_66_26
def kk_66_0 : List qm_I := (.iconst 0, 0, 0, 0) :: (.istore 3, 0, 0, 0) :: kk_66_2
def kt_66 : qm_T := [(0, kk_66_0), (2, kk_66_2), (26, kk_66_26), (32, kk_66_32)]
theorem kc_66_32 : qm_chain 7 false (some .boolean) cX7_isAllWithin 32 kk_66_32 := qm_chain_of _ _ _ _ 2 _ 34 _ (by decide +kernel) trivial
theorem kc_66_26 : qm_chain 7 false (some .boolean) cX7_isAllWithin 26 kk_66_26 := qm_chain_of _ _ _ _ 2 _ 32 _ (by decide +kernel) kc_66_32
theorem kc_66_2 : qm_chain 7 false (some .boolean) cX7_isAllWithin 2 kk_66_2 := qm_chain_of _ _ _ _ 14 _ 26 _ (by decide +kernel) kc_66_26
theorem kc_66_0 : qm_chain 7 false (some .boolean) cX7_isAllWithin 0 kk_66_0 := qm_chain_of _ _ _ _ 2 _ 2 _ (by decide +kernel) kc_66_2
theorem ka_66 : ∀ t : Int, 0 ≤ t → qm_chain 7 false (some .boolean) cX7_isAllWithin t.toNat (qm_lk kt_66 t) := qm_lk_ok (List.forall_mem_cons.mpr ⟨⟨by decide, kc_66_0⟩, List.forall_mem_cons.mpr ⟨⟨by decide, kc_66_2⟩, List.forall_mem_cons.mpr ⟨⟨by decide, kc_66_26⟩, List.forall_mem_cons.mpr ⟨⟨by decide, kc_66_32⟩, fun _ h => absurd h List.not_mem_nil⟩⟩⟩⟩)
theorem kg_66 : qm_G1 (yX7_isAllWithin, cX7_isAllWithin, 4, some .boolean, 7, 2) (4, kt_66) := ⟨rfl, false, (fun z => by cases z), ka_66⟩
-- 67: TowerBoards$Row.isRising
def kk_67_35 : List qm_I := (.iconst 0, 0, 0, 1) :: (.ireturn, 1, 0, 0) :: []
def kk_67_29 : List qm_I := (.iinc 1 0, 0, 0, 1) :: (.goto 2, 0, 0, 0) :: kk_67_35
def kk_67_2 : List qm_I := (.iload 1, 0, 0, 0) :: (.aload 0, 0, 0, 0) :: (.getfield 7, 0, 0, 0) :: (.if_icmp .ge 35, 0, 0, 0) :: (.aload 0, 0, 0, 0) :: (.getfield 7, 1, 0, 0) :: (.iload 1, 0, 0, 0) :: (.iaload, 0, 0, 0) :: (.aload 0, 0, 0, 0) :: (.getfield 7, 1, 0, 0) :: (.iload 1, 0, 0, 0) :: (.iconst 0, 0, 0, 1) :: (.isub, 0, 0, 0) :: (.iaload, 0, 0, 0) :: (.if_icmp .ge 29, 0, 0, 0) :: (.iconst 0, 0, 0, 0) :: (.ireturn, 1, 0, 0) :: kk_67_29
def kk_67_0 : List qm_I := (.iconst 0, 0, 0, 1) :: (.istore 1, 0, 0, 0) :: kk_67_2
def kt_67 : qm_T := [(0, kk_67_0), (2, kk_67_2), (29, kk_67_29), (35, kk_67_35)]
theorem kc_67_35 : qm_chain 7 false (some .boolean) cX7_isRising 35 kk_67_35 := qm_chain_of _ _ _ _ 2 _ 37 _ (by decide +kernel) trivial
theorem kc_67_29 : qm_chain 7 false (some .boolean) cX7_isRising 29 kk_67_29 := qm_chain_of _ _ _ _ 2 _ 35 _ (by decide +kernel) kc_67_35
theorem kc_67_2 : qm_chain 7 false (some .boolean) cX7_isRising 2 kk_67_2 := qm_chain_of _ _ _ _ 17 _ 29 _ (by decide +kernel) kc_67_29
theorem kc_67_0 : qm_chain 7 false (some .boolean) cX7_isRising 0 kk_67_0 := qm_chain_of _ _ _ _ 2 _ 2 _ (by decide +kernel) kc_67_2
theorem ka_67 : ∀ t : Int, 0 ≤ t → qm_chain 7 false (some .boolean) cX7_isRising t.toNat (qm_lk kt_67 t) := qm_lk_ok (List.forall_mem_cons.mpr ⟨⟨by decide, kc_67_0⟩, List.forall_mem_cons.mpr ⟨⟨by decide, kc_67_2⟩, List.forall_mem_cons.mpr ⟨⟨by decide, kc_67_29⟩, List.forall_mem_cons.mpr ⟨⟨by decide, kc_67_35⟩, fun _ h => absurd h List.not_mem_nil⟩⟩⟩⟩)
theorem kg_67 : qm_G1 (yX7_isRising, cX7_isRising, 2, some .boolean, 7, 0) (2, kt_67) := ⟨rfl, false, (fun z => by cases z), ka_67⟩
-- 68: TowerBoards$Row.towerCount
def kk_68_32 : List qm_I := (.iload 1, 0, 0, 0) :: (.ireturn, 0, 0, 0) :: []
def kk_68_26 : List qm_I := (.iinc 2 0, 0, 0, 1) :: (.goto 4, 0, 0, 0) :: kk_68_32
def kk_68_4 : List qm_I := (.iload 2, 0, 0, 0) :: (.aload 0, 0, 0, 0) :: (.getfield 7, 0, 0, 0) :: (.if_icmp .ge 32, 0, 0, 0) :: (.aload 0, 0, 0, 0) :: (.getfield 7, 1, 0, 0) :: (.iload 2, 0, 0, 0) :: (.iaload, 0, 0, 0) :: (.iconst 0, 0, 0, -9) :: (.if_icmp .eq 26, 0, 0, 0) :: (.iinc 1 0, 0, 0, 1) :: kk_68_26
def kk_68_0 : List qm_I := (.iconst 0, 0, 0, 0) :: (.istore 1, 0, 0, 0) :: (.iconst 0, 0, 0, 0) :: (.istore 2, 0, 0, 0) :: kk_68_4
def kt_68 : qm_T := [(0, kk_68_0), (4, kk_68_4), (26, kk_68_26), (32, kk_68_32)]
theorem kc_68_32 : qm_chain 7 false (some .int) cX7_towerCount 32 kk_68_32 := qm_chain_of _ _ _ _ 2 _ 34 _ (by decide +kernel) trivial
theorem kc_68_26 : qm_chain 7 false (some .int) cX7_towerCount 26 kk_68_26 := qm_chain_of _ _ _ _ 2 _ 32 _ (by decide +kernel) kc_68_32
theorem kc_68_4 : qm_chain 7 false (some .int) cX7_towerCount 4 kk_68_4 := qm_chain_of _ _ _ _ 11 _ 26 _ (by decide +kernel) kc_68_26
theorem kc_68_0 : qm_chain 7 false (some .int) cX7_towerCount 0 kk_68_0 := qm_chain_of _ _ _ _ 4 _ 4 _ (by decide +kernel) kc_68_4
theorem ka_68 : ∀ t : Int, 0 ≤ t → qm_chain 7 false (some .int) cX7_towerCount t.toNat (qm_lk kt_68 t) := qm_lk_ok (List.forall_mem_cons.mpr ⟨⟨by decide, kc_68_0⟩, List.forall_mem_cons.mpr ⟨⟨by decide, kc_68_4⟩, List.forall_mem_cons.mpr ⟨⟨by decide, kc_68_26⟩, List.forall_mem_cons.mpr ⟨⟨by decide, kc_68_32⟩, fun _ h => absurd h List.not_mem_nil⟩⟩⟩⟩)
theorem kg_68 : qm_G1 (yX7_towerCount, cX7_towerCount, 3, some .int, 7, 0) (3, kt_68) := ⟨rfl, false, (fun z => by cases z), ka_68⟩
-- 69: TowerBoards$Row.ringWithLeast
def kk_69_57 : List qm_I := (.iconst 0, 0, 0, 0) :: (.ireturn, 0, 0, 0) :: []
def kk_69_51 : List qm_I := (.iinc 4 0, 0, 0, 1) :: (.goto 7, 0, 0, 0) :: kk_69_57
def kk_69_31 : List qm_I := (.iload 2, 0, 0, 0) :: (.iconst 0, 0, 0, 1) :: (.iload 3, 0, 0, 0) :: (.ishl, 0, 0, 0) :: (.ior, 0, 0, 0) :: (.istore 2, 0, 0, 0) :: (.aload 0, 0, 0, 0) :: (.getfield 7, 1, 0, 0) :: (.iload 3, 0, 0, 0) :: (.iaload, 0, 0, 0) :: (.istore 3, 0, 0, 0) :: (.iload 3, 0, 0, 0) :: (.iload 1, 0, 0, 0) :: (.if_icmp .ne 51, 0, 0, 0) :: (.iload 2, 0, 0, 0) :: (.ireturn, 0, 0, 0) :: kk_69_51
def kk_69_29 : List qm_I := (.iconst 0, 0, 0, 0) :: (.ireturn, 0, 0, 0) :: kk_69_31
def kk_69_7 : List qm_I := (.iload 4, 0, 0, 0) :: (.aload 0, 0, 0, 0) :: (.getfield 7, 0, 0, 0) :: (.if_icmp .ge 57, 0, 0, 0) :: (.aload 0, 0, 0, 0) :: (.iload 3, 0, 0, 0) :: (.invokevirtual 62, 2, 7, 0) :: (.ifCond .eq 29, 0, 0, 0) :: (.iload 3, 0, 0, 0) :: (.iload 1, 0, 0, 0) :: (.if_icmp .ge 31, 0, 0, 0) :: kk_69_29
def kk_69_0 : List qm_I := (.iconst 0, 0, 0, 0) :: (.istore 2, 0, 0, 0) :: (.iload 1, 0, 0, 0) :: (.istore 3, 0, 0, 0) :: (.iconst 0, 0, 0, 0) :: (.istore 4, 0, 0, 0) :: kk_69_7
def kt_69 : qm_T := [(0, kk_69_0), (7, kk_69_7), (29, kk_69_29), (31, kk_69_31), (51, kk_69_51), (57, kk_69_57)]
theorem kc_69_57 : qm_chain 7 false (some .int) cX7_ringWithLeast 57 kk_69_57 := qm_chain_of _ _ _ _ 2 _ 59 _ (by decide +kernel) trivial
theorem kc_69_51 : qm_chain 7 false (some .int) cX7_ringWithLeast 51 kk_69_51 := qm_chain_of _ _ _ _ 2 _ 57 _ (by decide +kernel) kc_69_57
theorem kc_69_31 : qm_chain 7 false (some .int) cX7_ringWithLeast 31 kk_69_31 := qm_chain_of _ _ _ _ 16 _ 51 _ (by decide +kernel) kc_69_51
theorem kc_69_29 : qm_chain 7 false (some .int) cX7_ringWithLeast 29 kk_69_29 := qm_chain_of _ _ _ _ 2 _ 31 _ (by decide +kernel) kc_69_31
theorem kc_69_7 : qm_chain 7 false (some .int) cX7_ringWithLeast 7 kk_69_7 := qm_chain_of _ _ _ _ 11 _ 29 _ (by decide +kernel) kc_69_29
theorem kc_69_0 : qm_chain 7 false (some .int) cX7_ringWithLeast 0 kk_69_0 := qm_chain_of _ _ _ _ 6 _ 7 _ (by decide +kernel) kc_69_7
theorem ka_69 : ∀ t : Int, 0 ≤ t → qm_chain 7 false (some .int) cX7_ringWithLeast t.toNat (qm_lk kt_69 t) := qm_lk_ok (List.forall_mem_cons.mpr ⟨⟨by decide, kc_69_0⟩, List.forall_mem_cons.mpr ⟨⟨by decide, kc_69_7⟩, List.forall_mem_cons.mpr ⟨⟨by decide, kc_69_29⟩, List.forall_mem_cons.mpr ⟨⟨by decide, kc_69_31⟩, List.forall_mem_cons.mpr ⟨⟨by decide, kc_69_51⟩, List.forall_mem_cons.mpr ⟨⟨by decide, kc_69_57⟩, fun _ h => absurd h List.not_mem_nil⟩⟩⟩⟩⟩⟩)
theorem kg_69 : qm_G1 (yX7_ringWithLeast, cX7_ringWithLeast, 5, some .int, 7, 1) (5, kt_69) := ⟨rfl, false, (fun z => by cases z), ka_69⟩
-- 70: TowerBoards$Row.digestOnto
def kk_70_45 : List qm_I := (.lload 3, 0, 0, 0) :: (.lreturn, 0, 0, 0) :: []
def kk_70_15 : List qm_I := (.iload 5, 0, 0, 0) :: (.aload 0, 0, 0, 0) :: (.getfield 7, 0, 0, 0) :: (.if_icmp .ge 45, 0, 0, 0) :: (.lconst 0, 0, 0, 31) :: (.lload 3, 0, 0, 0) :: (.lmul, 0, 0, 0) :: (.aload 0, 0, 0, 0) :: (.getfield 7, 1, 0, 0) :: (.iload 5, 0, 0, 0) :: (.iaload, 0, 0, 0) :: (.i2l, 0, 0, 0) :: (.ladd, 0, 0, 0) :: (.lstore 3, 0, 0, 0) :: (.iinc 5 0, 0, 0, 1) :: (.goto 15, 0, 0, 0) :: kk_70_45
def kk_70_0 : List qm_I := (.lconst 0, 0, 0, 31) :: (.lload 1, 0, 0, 0) :: (.lmul, 0, 0, 0) :: (.aload 0, 0, 0, 0) :: (.getfield 7, 0, 0, 0) :: (.i2l, 0, 0, 0) :: (.ladd, 0, 0, 0) :: (.lstore 3, 0, 0, 0) :: (.iconst 0, 0, 0, 0) :: (.istore 5, 0, 0, 0) :: kk_70_15
def kt_70 : qm_T := [(0, kk_70_0), (15, kk_70_15), (45, kk_70_45)]
theorem kc_70_45 : qm_chain 7 false (some .long) cX7_digestOnto 45 kk_70_45 := qm_chain_of _ _ _ _ 2 _ 47 _ (by decide +kernel) trivial
theorem kc_70_15 : qm_chain 7 false (some .long) cX7_digestOnto 15 kk_70_15 := qm_chain_of _ _ _ _ 16 _ 45 _ (by decide +kernel) kc_70_45
theorem kc_70_0 : qm_chain 7 false (some .long) cX7_digestOnto 0 kk_70_0 := qm_chain_of _ _ _ _ 10 _ 15 _ (by decide +kernel) kc_70_15
theorem ka_70 : ∀ t : Int, 0 ≤ t → qm_chain 7 false (some .long) cX7_digestOnto t.toNat (qm_lk kt_70 t) := qm_lk_ok (List.forall_mem_cons.mpr ⟨⟨by decide, kc_70_0⟩, List.forall_mem_cons.mpr ⟨⟨by decide, kc_70_15⟩, List.forall_mem_cons.mpr ⟨⟨by decide, kc_70_45⟩, fun _ h => absurd h List.not_mem_nil⟩⟩⟩)
theorem kg_70 : qm_G1 (yX7_digestOnto, cX7_digestOnto, 6, some .long, 7, 1) (6, kt_70) := ⟨rfl, false, (fun z => by cases z), ka_70⟩
-- 218: java/lang/Integer.lowestOneBit_0f7a4
def kk_218_0 : List qm_I := (.iload 0, 0, 0, 0) :: (.iload 0, 0, 0, 0) :: (.ineg, 0, 0, 0) :: (.iand, 0, 0, 0) :: (.ireturn, 0, 0, 0) :: []
def kt_218 : qm_T := [(0, kk_218_0)]
theorem kc_218_0 : qm_chain 11 false (some .int) cJ6_lowestOneBit_0f7a4 0 kk_218_0 := qm_chain_of _ _ _ _ 5 _ 5 _ (by decide +kernel) trivial
theorem ka_218 : ∀ t : Int, 0 ≤ t → qm_chain 11 false (some .int) cJ6_lowestOneBit_0f7a4 t.toNat (qm_lk kt_218 t) := qm_lk_ok (List.forall_mem_cons.mpr ⟨⟨by decide, kc_218_0⟩, fun _ h => absurd h List.not_mem_nil⟩)
theorem kg_218 : qm_G1 (yJ6_lowestOneBit_0f7a4, cJ6_lowestOneBit_0f7a4, 1, some .int, 11, 1) (1, kt_218) := ⟨rfl, false, (fun z => by cases z), ka_218⟩
-- 219: java/lang/Integer.numberOfTrailingZeros_0f7a4
def kk_219_74 : List qm_I := (.iload 1, 0, 0, 0) :: (.iload 0, 0, 0, 0) :: (.iconst 0, 0, 0, 1) :: (.iushr, 0, 0, 0) :: (.iadd, 0, 0, 0) :: (.ireturn, 0, 0, 0) :: []
def kk_219_62 : List qm_I := (.iload 0, 0, 0, 0) :: (.iconst 0, 0, 0, 4) :: (.if_icmp .le 74, 0, 0, 0) :: (.iinc 1 0, 0, 0, 2) :: (.iload 0, 0, 0, 0) :: (.iconst 0, 0, 0, 2) :: (.iushr, 0, 0, 0) :: (.istore 0, 0, 0, 0) :: kk_219_74
def kk_219_49 : List qm_I := (.iload 0, 0, 0, 0) :: (.iconst 0, 0, 0, 16) :: (.if_icmp .le 62, 0, 0, 0) :: (.iinc 1 0, 0, 0, 4) :: (.iload 0, 0, 0, 0) :: (.iconst 0, 0, 0, 4) :: (.iushr, 0, 0, 0) :: (.istore 0, 0, 0, 0) :: kk_219_62
def kk_219_34 : List qm_I := (.iload 0, 0, 0, 0) :: (.iconst 0, 0, 0, 256) :: (.if_icmp .le 49, 0, 0, 0) :: (.iinc 1 0, 0, 0, 8) :: (.iload 0, 0, 0, 0) :: (.iconst 0, 0, 0, 8) :: (.iushr, 0, 0, 0) :: (.istore 0, 0, 0, 0) :: kk_219_49
def kk_219_17 : List qm_I := (.iconst 0, 0, 0, 1) :: (.istore 1, 0, 0, 0) :: (.iload 0, 0, 0, 0) :: (.iconst 0, 0, 0, 65536) :: (.if_icmp .le 34, 0, 0, 0) :: (.iinc 1 0, 0, 0, 16) :: (.iload 0, 0, 0, 0) :: (.iconst 0, 0, 0, 16) :: (.iushr, 0, 0, 0) :: (.istore 0, 0, 0, 0) :: kk_219_34
def kk_219_0 : List qm_I := (.iload 0, 0, 0, 0) :: (.iconst 0, 0, 0, -1) :: (.ixor, 0, 0, 0) :: (.iload 0, 0, 0, 0) :: (.iconst 0, 0, 0, 1) :: (.isub, 0, 0, 0) :: (.iand, 0, 0, 0) :: (.istore 0, 0, 0, 0) :: (.iload 0, 0, 0, 0) :: (.ifCond .gt 17, 0, 0, 0) :: (.iload 0, 0, 0, 0) :: (.iconst 0, 0, 0, 32) :: (.iand, 0, 0, 0) :: (.ireturn, 0, 0, 0) :: kk_219_17
def kt_219 : qm_T := [(0, kk_219_0), (17, kk_219_17), (34, kk_219_34), (49, kk_219_49), (62, kk_219_62), (74, kk_219_74)]
theorem kc_219_74 : qm_chain 11 false (some .int) cJ6_numberOfTrailingZeros_0f7a4 74 kk_219_74 := qm_chain_of _ _ _ _ 6 _ 80 _ (by decide +kernel) trivial
theorem kc_219_62 : qm_chain 11 false (some .int) cJ6_numberOfTrailingZeros_0f7a4 62 kk_219_62 := qm_chain_of _ _ _ _ 8 _ 74 _ (by decide +kernel) kc_219_74
theorem kc_219_49 : qm_chain 11 false (some .int) cJ6_numberOfTrailingZeros_0f7a4 49 kk_219_49 := qm_chain_of _ _ _ _ 8 _ 62 _ (by decide +kernel) kc_219_62
theorem kc_219_34 : qm_chain 11 false (some .int) cJ6_numberOfTrailingZeros_0f7a4 34 kk_219_34 := qm_chain_of _ _ _ _ 8 _ 49 _ (by decide +kernel) kc_219_49
theorem kc_219_17 : qm_chain 11 false (some .int) cJ6_numberOfTrailingZeros_0f7a4 17 kk_219_17 := qm_chain_of _ _ _ _ 10 _ 34 _ (by decide +kernel) kc_219_34
theorem kc_219_0 : qm_chain 11 false (some .int) cJ6_numberOfTrailingZeros_0f7a4 0 kk_219_0 := qm_chain_of _ _ _ _ 14 _ 17 _ (by decide +kernel) kc_219_17
theorem ka_219 : ∀ t : Int, 0 ≤ t → qm_chain 11 false (some .int) cJ6_numberOfTrailingZeros_0f7a4 t.toNat (qm_lk kt_219 t) := qm_lk_ok (List.forall_mem_cons.mpr ⟨⟨by decide, kc_219_0⟩, List.forall_mem_cons.mpr ⟨⟨by decide, kc_219_17⟩, List.forall_mem_cons.mpr ⟨⟨by decide, kc_219_34⟩, List.forall_mem_cons.mpr ⟨⟨by decide, kc_219_49⟩, List.forall_mem_cons.mpr ⟨⟨by decide, kc_219_62⟩, List.forall_mem_cons.mpr ⟨⟨by decide, kc_219_74⟩, fun _ h => absurd h List.not_mem_nil⟩⟩⟩⟩⟩⟩)
theorem kg_219 : qm_G1 (yJ6_numberOfTrailingZeros_0f7a4, cJ6_numberOfTrailingZeros_0f7a4, 2, some .int, 11, 1) (2, kt_219) := ⟨rfl, false, (fun z => by cases z), ka_219⟩
-- 220: java/lang/Integer.bitCount_0f7a4
def kk_220_0 : List qm_I := (.iload 0, 0, 0, 0) :: (.iload 0, 0, 0, 0) :: (.iconst 0, 0, 0, 1) :: (.iushr, 0, 0, 0) :: (.iconst 0, 0, 0, 1431655765) :: (.iand, 0, 0, 0) :: (.isub, 0, 0, 0) :: (.istore 0, 0, 0, 0) :: (.iload 0, 0, 0, 0) :: (.iconst 0, 0, 0, 858993459) :: (.iand, 0, 0, 0) :: (.iload 0, 0, 0, 0) :: (.iconst 0, 0, 0, 2) :: (.iushr, 0, 0, 0) :: (.iconst 0, 0, 0, 858993459) :: (.iand, 0, 0, 0) :: (.iadd, 0, 0, 0) :: (.istore 0, 0, 0, 0) :: (.iload 0, 0, 0, 0) :: (.iload 0, 0, 0, 0) :: (.iconst 0, 0, 0, 4) :: (.iushr, 0, 0, 0) :: (.iadd, 0, 0, 0) :: (.iconst 0, 0, 0, 252645135) :: (.iand, 0, 0, 0) :: (.istore 0, 0, 0, 0) :: (.iload 0, 0, 0, 0) :: (.iload 0, 0, 0, 0) :: (.iconst 0, 0, 0, 8) :: (.iushr, 0, 0, 0) :: (.iadd, 0, 0, 0) :: (.istore 0, 0, 0, 0) :: (.iload 0, 0, 0, 0) :: (.iload 0, 0, 0, 0) :: (.iconst 0, 0, 0, 16) :: (.iushr, 0, 0, 0) :: (.iadd, 0, 0, 0) :: (.istore 0, 0, 0, 0) :: (.iload 0, 0, 0, 0) :: (.iconst 0, 0, 0, 63) :: (.iand, 0, 0, 0) :: (.ireturn, 0, 0, 0) :: []
def kt_220 : qm_T := [(0, kk_220_0)]
theorem kc_220_0 : qm_chain 11 false (some .int) cJ6_bitCount_0f7a4 0 kk_220_0 := qm_chain_of _ _ _ _ 42 _ 53 _ (by decide +kernel) trivial
theorem ka_220 : ∀ t : Int, 0 ≤ t → qm_chain 11 false (some .int) cJ6_bitCount_0f7a4 t.toNat (qm_lk kt_220 t) := qm_lk_ok (List.forall_mem_cons.mpr ⟨⟨by decide, kc_220_0⟩, fun _ h => absurd h List.not_mem_nil⟩)
theorem kg_220 : qm_G1 (yJ6_bitCount_0f7a4, cJ6_bitCount_0f7a4, 1, some .int, 11, 1) (1, kt_220) := ⟨rfl, false, (fun z => by cases z), ka_220⟩
-- 221: java/lang/Math.max_7cf53
def kk_221_10 : List qm_I := (.ireturn, 0, 0, 0) :: []
def kk_221_9 : List qm_I := (.iload 1, 0, 0, 0) :: kk_221_10
def kk_221_0 : List qm_I := (.iload 0, 0, 0, 0) :: (.iload 1, 0, 0, 0) :: (.if_icmp .lt 9, 0, 0, 0) :: (.iload 0, 0, 0, 0) :: (.goto 10, 0, 0, 0) :: kk_221_9
def kt_221 : qm_T := [(0, kk_221_0), (9, kk_221_9), (10, kk_221_10)]
theorem kc_221_10 : qm_chain 12 false (some .int) cJ9_max_7cf53 10 kk_221_10 := qm_chain_of _ _ _ _ 1 _ 11 _ (by decide +kernel) trivial
theorem kc_221_9 : qm_chain 12 false (some .int) cJ9_max_7cf53 9 kk_221_9 := qm_chain_of _ _ _ _ 1 _ 10 _ (by decide +kernel) kc_221_10
theorem kc_221_0 : qm_chain 12 false (some .int) cJ9_max_7cf53 0 kk_221_0 := qm_chain_of _ _ _ _ 5 _ 9 _ (by decide +kernel) kc_221_9
theorem ka_221 : ∀ t : Int, 0 ≤ t → qm_chain 12 false (some .int) cJ9_max_7cf53 t.toNat (qm_lk kt_221 t) := qm_lk_ok (List.forall_mem_cons.mpr ⟨⟨by decide, kc_221_0⟩, List.forall_mem_cons.mpr ⟨⟨by decide, kc_221_9⟩, List.forall_mem_cons.mpr ⟨⟨by decide, kc_221_10⟩, fun _ h => absurd h List.not_mem_nil⟩⟩⟩)
theorem kg_221 : qm_G1 (yJ9_max_7cf53, cJ9_max_7cf53, 2, some .int, 12, 2) (2, kt_221) := ⟨rfl, false, (fun z => by cases z), ka_221⟩
-- 222: java/util/Arrays.fill_53178
def kk_222_20 : List qm_I := (.return_, 0, 0, 0) :: []
def kk_222_5 : List qm_I := (.iload 2, 0, 0, 0) :: (.iload 3, 0, 0, 0) :: (.if_icmp .ge 20, 0, 0, 0) :: (.aload 0, 0, 0, 0) :: (.iload 2, 0, 0, 0) :: (.iload 1, 0, 0, 0) :: (.iastore, 0, 0, 0) :: (.iinc 2 0, 0, 0, 1) :: (.goto 5, 0, 0, 0) :: kk_222_20
def kk_222_0 : List qm_I := (.iconst 0, 0, 0, 0) :: (.istore 2, 0, 0, 0) :: (.aload 0, 0, 0, 0) :: (.arraylength, 0, 0, 0) :: (.istore 3, 0, 0, 0) :: kk_222_5
def kt_222 : qm_T := [(0, kk_222_0), (5, kk_222_5), (20, kk_222_20)]
theorem kc_222_20 : qm_chain 13 false (none) cJ7_fill_53178 20 kk_222_20 := qm_chain_of _ _ _ _ 1 _ 21 _ (by decide +kernel) trivial
theorem kc_222_5 : qm_chain 13 false (none) cJ7_fill_53178 5 kk_222_5 := qm_chain_of _ _ _ _ 9 _ 20 _ (by decide +kernel) kc_222_20
theorem kc_222_0 : qm_chain 13 false (none) cJ7_fill_53178 0 kk_222_0 := qm_chain_of _ _ _ _ 5 _ 5 _ (by decide +kernel) kc_222_5
theorem ka_222 : ∀ t : Int, 0 ≤ t → qm_chain 13 false (none) cJ7_fill_53178 t.toNat (qm_lk kt_222 t) := qm_lk_ok (List.forall_mem_cons.mpr ⟨⟨by decide, kc_222_0⟩, List.forall_mem_cons.mpr ⟨⟨by decide, kc_222_5⟩, List.forall_mem_cons.mpr ⟨⟨by decide, kc_222_20⟩, fun _ h => absurd h List.not_mem_nil⟩⟩⟩)
theorem kg_222 : qm_G1 (yJ7_fill_53178, cJ7_fill_53178, 4, none, 13, 2) (4, kt_222) := ⟨rfl, false, (fun z => by cases z), ka_222⟩
