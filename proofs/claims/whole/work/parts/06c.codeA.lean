-- 0: TowerBoards$Arrows.<init>
def kk_0_0 : List qm_I := (.aload 0, 0, 0, 0) :: (.invokespecial 0, 0, 0, 0) :: (.aload 0, 0, 0, 0) :: (.iconst 0, 0, 0, 384) :: (.newarray .int, 0, 0, 0) :: (.putfield 0, 0, 2, 0) :: (.aload 0, 0, 0, 0) :: (.iconst 0, 0, 0, 64) :: (.newarray .int, 0, 0, 0) :: (.putfield 0, 1, 2, 0) :: (.aload 0, 0, 0, 0) :: (.iconst 0, 0, 0, 64) :: (.newarray .int, 0, 0, 0) :: (.putfield 0, 2, 2, 0) :: (.aload 0, 0, 0, 0) :: (.iconst 0, 0, 0, 3136) :: (.newarray .int, 0, 0, 0) :: (.putfield 0, 3, 2, 0) :: (.aload 0, 0, 0, 0) :: (.iconst 0, 0, 0, 0) :: (.putfield 0, 4, 0, 0) :: (.return_, 0, 0, 0) :: []
def kt_0 : qm_T := [(0, kk_0_0)]
theorem kc_0_0 : qm_chain 0 true (none) cX0_init 0 kk_0_0 := qm_chain_of _ _ _ _ 22 _ 44 _ (by decide +kernel) trivial
theorem ka_0 : ∀ t : Int, 0 ≤ t → qm_chain 0 true (none) cX0_init t.toNat (qm_lk kt_0 t) := qm_lk_ok (List.forall_mem_cons.mpr ⟨⟨by decide, kc_0_0⟩, fun _ h => absurd h List.not_mem_nil⟩)
theorem kg_0 : qm_G1 (yX0_init, cX0_init, 1, none, 0, 0) (1, kt_0) := ⟨rfl, true, (fun _ => rfl), ka_0⟩
-- 1: TowerBoards$Arrows.findFor
def kk_1_59 : List qm_I := (.return_, 0, 0, 0) :: []
def kk_1_40 : List qm_I := (.iload 3, 0, 0, 0) :: (.aload 0, 0, 0, 0) :: (.getfield 0, 4, 0, 0) :: (.if_icmp .gt 59, 0, 0, 0) :: (.aload 0, 0, 0, 0) :: (.iload 3, 0, 0, 0) :: (.invokevirtual 5, 2, 0, 0) :: (.iinc 3 0, 0, 0, 1) :: (.goto 40, 0, 0, 0) :: kk_1_59
def kk_1_0 : List qm_I := (.aload 0, 0, 0, 0) :: (.iconst 0, 0, 0, 1) :: (.aload 1, 0, 0, 0) :: (.getfield 1, 1, 0, 0) :: (.ishl, 0, 0, 0) :: (.iconst 0, 0, 0, 1) :: (.isub, 0, 0, 0) :: (.putfield 0, 4, 0, 0) :: (.aload 0, 0, 0, 0) :: (.aload 1, 0, 0, 0) :: (.invokevirtual 2, 2, 0, 0) :: (.aload 0, 0, 0, 0) :: (.aload 1, 0, 0, 0) :: (.iload 2, 0, 0, 0) :: (.invokevirtual 3, 3, 0, 0) :: (.aload 0, 0, 0, 0) :: (.getfield 0, 3, 0, 0) :: (.iconst 0, 0, 0, 0) :: (.invokestatic 222, 2, 0, 0) :: (.aload 0, 0, 0, 0) :: (.getfield 0, 3, 0, 0) :: (.iconst 0, 0, 0, 0) :: (.iconst 0, 0, 0, 1) :: (.iastore, 0, 0, 0) :: (.iconst 0, 0, 0, 1) :: (.istore 3, 0, 0, 0) :: kk_1_40
def kt_1 : qm_T := [(0, kk_1_0), (40, kk_1_40), (59, kk_1_59)]
theorem kc_1_59 : qm_chain 0 false (none) cX0_findFor 59 kk_1_59 := qm_chain_of _ _ _ _ 1 _ 60 _ (by decide +kernel) trivial
theorem kc_1_40 : qm_chain 0 false (none) cX0_findFor 40 kk_1_40 := qm_chain_of _ _ _ _ 9 _ 59 _ (by decide +kernel) kc_1_59
theorem kc_1_0 : qm_chain 0 false (none) cX0_findFor 0 kk_1_0 := qm_chain_of _ _ _ _ 26 _ 40 _ (by decide +kernel) kc_1_40
theorem ka_1 : ∀ t : Int, 0 ≤ t → qm_chain 0 false (none) cX0_findFor t.toNat (qm_lk kt_1 t) := qm_lk_ok (List.forall_mem_cons.mpr ⟨⟨by decide, kc_1_0⟩, List.forall_mem_cons.mpr ⟨⟨by decide, kc_1_40⟩, List.forall_mem_cons.mpr ⟨⟨by decide, kc_1_59⟩, fun _ h => absurd h List.not_mem_nil⟩⟩⟩)
theorem kg_1 : qm_G1 (yX0_findFor, cX0_findFor, 4, none, 0, 2) (4, kt_1) := ⟨rfl, false, (fun z => by cases z), ka_1⟩
-- 2: TowerBoards$Arrows.findPaths
def kk_2_77 : List qm_I := (.return_, 0, 0, 0) :: []
def kk_2_71 : List qm_I := (.iinc 2 0, 0, 0, 1) :: (.goto 2, 0, 0, 0) :: kk_2_77
def kk_2_19 : List qm_I := (.iload 3, 0, 0, 0) :: (.aload 1, 0, 0, 0) :: (.getfield 1, 1, 0, 0) :: (.if_icmp .ge 71, 0, 0, 0) :: (.aload 0, 0, 0, 0) :: (.getfield 0, 0, 0, 0) :: (.iload 2, 0, 0, 0) :: (.iconst 0, 0, 0, 6) :: (.imul, 0, 0, 0) :: (.iload 3, 0, 0, 0) :: (.iadd, 0, 0, 0) :: (.aload 0, 0, 0, 0) :: (.aload 1, 0, 0, 0) :: (.iload 2, 0, 0, 0) :: (.iload 3, 0, 0, 0) :: (.invokevirtual 4, 4, 0, 0) :: (.iastore, 0, 0, 0) :: (.aload 0, 0, 0, 0) :: (.getfield 0, 1, 0, 0) :: (.iload 2, 0, 0, 0) :: (.dup2, 0, 0, 0) :: (.iaload, 0, 0, 0) :: (.aload 0, 0, 0, 0) :: (.getfield 0, 0, 0, 0) :: (.iload 2, 0, 0, 0) :: (.iconst 0, 0, 0, 6) :: (.imul, 0, 0, 0) :: (.iload 3, 0, 0, 0) :: (.iadd, 0, 0, 0) :: (.iaload, 0, 0, 0) :: (.iadd, 0, 0, 0) :: (.iastore, 0, 0, 0) :: (.iinc 3 0, 0, 0, 1) :: (.goto 19, 0, 0, 0) :: kk_2_71
def kk_2_2 : List qm_I := (.iload 2, 0, 0, 0) :: (.aload 0, 0, 0, 0) :: (.getfield 0, 4, 0, 0) :: (.if_icmp .gt 77, 0, 0, 0) :: (.aload 0, 0, 0, 0) :: (.getfield 0, 1, 0, 0) :: (.iload 2, 0, 0, 0) :: (.iconst 0, 0, 0, 0) :: (.iastore, 0, 0, 0) :: (.iconst 0, 0, 0, 0) :: (.istore 3, 0, 0, 0) :: kk_2_19
def kk_2_0 : List qm_I := (.iconst 0, 0, 0, 1) :: (.istore 2, 0, 0, 0) :: kk_2_2
def kt_2 : qm_T := [(0, kk_2_0), (2, kk_2_2), (19, kk_2_19), (71, kk_2_71), (77, kk_2_77)]
theorem kc_2_77 : qm_chain 0 false (none) cX0_findPaths 77 kk_2_77 := qm_chain_of _ _ _ _ 1 _ 78 _ (by decide +kernel) trivial
theorem kc_2_71 : qm_chain 0 false (none) cX0_findPaths 71 kk_2_71 := qm_chain_of _ _ _ _ 2 _ 77 _ (by decide +kernel) kc_2_77
theorem kc_2_19 : qm_chain 0 false (none) cX0_findPaths 19 kk_2_19 := qm_chain_of _ _ _ _ 34 _ 71 _ (by decide +kernel) kc_2_71
theorem kc_2_2 : qm_chain 0 false (none) cX0_findPaths 2 kk_2_2 := qm_chain_of _ _ _ _ 11 _ 19 _ (by decide +kernel) kc_2_19
theorem kc_2_0 : qm_chain 0 false (none) cX0_findPaths 0 kk_2_0 := qm_chain_of _ _ _ _ 2 _ 2 _ (by decide +kernel) kc_2_2
theorem ka_2 : ∀ t : Int, 0 ≤ t → qm_chain 0 false (none) cX0_findPaths t.toNat (qm_lk kt_2 t) := qm_lk_ok (List.forall_mem_cons.mpr ⟨⟨by decide, kc_2_0⟩, List.forall_mem_cons.mpr ⟨⟨by decide, kc_2_2⟩, List.forall_mem_cons.mpr ⟨⟨by decide, kc_2_19⟩, List.forall_mem_cons.mpr ⟨⟨by decide, kc_2_71⟩, List.forall_mem_cons.mpr ⟨⟨by decide, kc_2_77⟩, fun _ h => absurd h List.not_mem_nil⟩⟩⟩⟩⟩)
theorem kg_2 : qm_G1 (yX0_findPaths, cX0_findPaths, 4, none, 0, 1) (4, kt_2) := ⟨rfl, false, (fun z => by cases z), ka_2⟩
-- 3: TowerBoards$Arrows.findRings
def kk_3_138 : List qm_I := (.return_, 0, 0, 0) :: []
def kk_3_132 : List qm_I := (.iinc 3 0, 0, 0, 1) :: (.goto 2, 0, 0, 0) :: kk_3_138
def kk_3_126 : List qm_I := (.iinc 5 0, 0, 0, 1) :: (.goto 26, 0, 0, 0) :: kk_3_132
def kk_3_85 : List qm_I := (.iastore, 0, 0, 0) :: (.aload 1, 0, 0, 0) :: (.iload 5, 0, 0, 0) :: (.iload 4, 0, 0, 0) :: (.invokevirtual 19, 3, 1, 0) :: (.ifCond .eq 126, 0, 0, 0) :: (.iload 3, 0, 0, 0) :: (.invokestatic 220, 1, 0, 0) :: (.iload 2, 0, 0, 0) :: (.if_icmp .lt 126, 0, 0, 0) :: (.aload 0, 0, 0, 0) :: (.getfield 0, 2, 0, 0) :: (.iload 3, 0, 0, 0) :: (.dup2, 0, 0, 0) :: (.iaload, 0, 0, 0) :: (.aload 0, 0, 0, 0) :: (.getfield 0, 0, 0, 0) :: (.iload 3, 0, 0, 0) :: (.iconst 0, 0, 0, 6) :: (.imul, 0, 0, 0) :: (.iload 5, 0, 0, 0) :: (.iadd, 0, 0, 0) :: (.iaload, 0, 0, 0) :: (.iadd, 0, 0, 0) :: (.iastore, 0, 0, 0) :: kk_3_126
def kk_3_77 : List qm_I := (.aload 0, 0, 0, 0) :: (.aload 1, 0, 0, 0) :: (.iload 3, 0, 0, 0) :: (.iload 5, 0, 0, 0) :: (.invokevirtual 4, 4, 0, 0) :: kk_3_85
def kk_3_55 : List qm_I := (.istore 6, 0, 0, 0) :: (.aload 0, 0, 0, 0) :: (.getfield 0, 0, 0, 0) :: (.iload 3, 0, 0, 0) :: (.iconst 0, 0, 0, 6) :: (.imul, 0, 0, 0) :: (.iload 5, 0, 0, 0) :: (.iadd, 0, 0, 0) :: (.iload 6, 0, 0, 0) :: (.ifCond .eq 77, 0, 0, 0) :: (.iconst 0, 0, 0, 0) :: (.goto 85, 0, 0, 0) :: kk_3_77
def kk_3_54 : List qm_I := (.iconst 0, 0, 0, 0) :: kk_3_55
def kk_3_26 : List qm_I := (.iload 5, 0, 0, 0) :: (.aload 1, 0, 0, 0) :: (.getfield 1, 1, 0, 0) :: (.if_icmp .ge 132, 0, 0, 0) :: (.iload 5, 0, 0, 0) :: (.iload 4, 0, 0, 0) :: (.if_icmp .ne 54, 0, 0, 0) :: (.iload 3, 0, 0, 0) :: (.invokestatic 220, 1, 0, 0) :: (.iconst 0, 0, 0, 1) :: (.if_icmp .le 54, 0, 0, 0) :: (.iconst 0, 0, 0, 1) :: (.goto 55, 0, 0, 0) :: kk_3_54
def kk_3_2 : List qm_I := (.iload 3, 0, 0, 0) :: (.aload 0, 0, 0, 0) :: (.getfield 0, 4, 0, 0) :: (.if_icmp .gt 138, 0, 0, 0) :: (.iload 3, 0, 0, 0) :: (.invokestatic 219, 1, 0, 0) :: (.istore 4, 0, 0, 0) :: (.aload 0, 0, 0, 0) :: (.getfield 0, 2, 0, 0) :: (.iload 3, 0, 0, 0) :: (.iconst 0, 0, 0, 0) :: (.iastore, 0, 0, 0) :: (.iconst 0, 0, 0, 0) :: (.istore 5, 0, 0, 0) :: kk_3_26
def kk_3_0 : List qm_I := (.iconst 0, 0, 0, 1) :: (.istore 3, 0, 0, 0) :: kk_3_2
def kt_3 : qm_T := [(0, kk_3_0), (2, kk_3_2), (26, kk_3_26), (54, kk_3_54), (55, kk_3_55), (77, kk_3_77), (85, kk_3_85), (126, kk_3_126), (132, kk_3_132), (138, kk_3_138)]
theorem kc_3_138 : qm_chain 0 false (none) cX0_findRings 138 kk_3_138 := qm_chain_of _ _ _ _ 1 _ 139 _ (by decide +kernel) trivial
theorem kc_3_132 : qm_chain 0 false (none) cX0_findRings 132 kk_3_132 := qm_chain_of _ _ _ _ 2 _ 138 _ (by decide +kernel) kc_3_138
theorem kc_3_126 : qm_chain 0 false (none) cX0_findRings 126 kk_3_126 := qm_chain_of _ _ _ _ 2 _ 132 _ (by decide +kernel) kc_3_132
theorem kc_3_85 : qm_chain 0 false (none) cX0_findRings 85 kk_3_85 := qm_chain_of _ _ _ _ 25 _ 126 _ (by decide +kernel) kc_3_126
theorem kc_3_77 : qm_chain 0 false (none) cX0_findRings 77 kk_3_77 := qm_chain_of _ _ _ _ 5 _ 85 _ (by decide +kernel) kc_3_85
theorem kc_3_55 : qm_chain 0 false (none) cX0_findRings 55 kk_3_55 := qm_chain_of _ _ _ _ 12 _ 77 _ (by decide +kernel) kc_3_77
theorem kc_3_54 : qm_chain 0 false (none) cX0_findRings 54 kk_3_54 := qm_chain_of _ _ _ _ 1 _ 55 _ (by decide +kernel) kc_3_55
theorem kc_3_26 : qm_chain 0 false (none) cX0_findRings 26 kk_3_26 := qm_chain_of _ _ _ _ 13 _ 54 _ (by decide +kernel) kc_3_54
theorem kc_3_2 : qm_chain 0 false (none) cX0_findRings 2 kk_3_2 := qm_chain_of _ _ _ _ 14 _ 26 _ (by decide +kernel) kc_3_26
theorem kc_3_0 : qm_chain 0 false (none) cX0_findRings 0 kk_3_0 := qm_chain_of _ _ _ _ 2 _ 2 _ (by decide +kernel) kc_3_2
theorem ka_3 : ∀ t : Int, 0 ≤ t → qm_chain 0 false (none) cX0_findRings t.toNat (qm_lk kt_3 t) := qm_lk_ok (List.forall_mem_cons.mpr ⟨⟨by decide, kc_3_0⟩, List.forall_mem_cons.mpr ⟨⟨by decide, kc_3_2⟩, List.forall_mem_cons.mpr ⟨⟨by decide, kc_3_26⟩, List.forall_mem_cons.mpr ⟨⟨by decide, kc_3_54⟩, List.forall_mem_cons.mpr ⟨⟨by decide, kc_3_55⟩, List.forall_mem_cons.mpr ⟨⟨by decide, kc_3_77⟩, List.forall_mem_cons.mpr ⟨⟨by decide, kc_3_85⟩, List.forall_mem_cons.mpr ⟨⟨by decide, kc_3_126⟩, List.forall_mem_cons.mpr ⟨⟨by decide, kc_3_132⟩, List.forall_mem_cons.mpr ⟨⟨by decide, kc_3_138⟩, fun _ h => absurd h List.not_mem_nil⟩⟩⟩⟩⟩⟩⟩⟩⟩⟩)
theorem kg_3 : qm_G1 (yX0_findRings, cX0_findRings, 7, none, 0, 2) (7, kt_3) := ⟨rfl, false, (fun z => by cases z), ka_3⟩
-- 4: TowerBoards$Arrows.walksTo
def kk_4_73 : List qm_I := (.iload 5, 0, 0, 0) :: (.ireturn, 0, 0, 0) :: []
def kk_4_67 : List qm_I := (.iinc 6 0, 0, 0, 1) :: (.goto 30, 0, 0, 0) :: kk_4_73
def kk_4_30 : List qm_I := (.iload 6, 0, 0, 0) :: (.aload 1, 0, 0, 0) :: (.getfield 1, 1, 0, 0) :: (.if_icmp .ge 73, 0, 0, 0) :: (.aload 1, 0, 0, 0) :: (.iload 6, 0, 0, 0) :: (.iload 3, 0, 0, 0) :: (.invokevirtual 19, 3, 1, 0) :: (.ifCond .eq 67, 0, 0, 0) :: (.iload 5, 0, 0, 0) :: (.aload 0, 0, 0, 0) :: (.getfield 0, 0, 0, 0) :: (.iload 4, 0, 0, 0) :: (.iconst 0, 0, 0, 6) :: (.imul, 0, 0, 0) :: (.iload 6, 0, 0, 0) :: (.iadd, 0, 0, 0) :: (.iaload, 0, 0, 0) :: (.iadd, 0, 0, 0) :: (.istore 5, 0, 0, 0) :: kk_4_67
def kk_4_24 : List qm_I := (.iconst 0, 0, 0, 0) :: (.istore 5, 0, 0, 0) :: (.iconst 0, 0, 0, 0) :: (.istore 6, 0, 0, 0) :: kk_4_30
def kk_4_17 : List qm_I := (.iload 4, 0, 0, 0) :: (.ifCond .ne 24, 0, 0, 0) :: (.iconst 0, 0, 0, 1) :: (.ireturn, 0, 0, 0) :: kk_4_24
def kk_4_0 : List qm_I := (.iload 2, 0, 0, 0) :: (.iconst 0, 0, 0, 1) :: (.iload 3, 0, 0, 0) :: (.ishl, 0, 0, 0) :: (.iconst 0, 0, 0, -1) :: (.ixor, 0, 0, 0) :: (.iand, 0, 0, 0) :: (.istore 4, 0, 0, 0) :: (.iload 4, 0, 0, 0) :: (.iload 2, 0, 0, 0) :: (.if_icmp .ne 17, 0, 0, 0) :: (.iconst 0, 0, 0, 0) :: (.ireturn, 0, 0, 0) :: kk_4_17
def kt_4 : qm_T := [(0, kk_4_0), (17, kk_4_17), (24, kk_4_24), (30, kk_4_30), (67, kk_4_67), (73, kk_4_73)]
theorem kc_4_73 : qm_chain 0 false (some .int) cX0_walksTo 73 kk_4_73 := qm_chain_of _ _ _ _ 2 _ 76 _ (by decide +kernel) trivial
theorem kc_4_67 : qm_chain 0 false (some .int) cX0_walksTo 67 kk_4_67 := qm_chain_of _ _ _ _ 2 _ 73 _ (by decide +kernel) kc_4_73
theorem kc_4_30 : qm_chain 0 false (some .int) cX0_walksTo 30 kk_4_30 := qm_chain_of _ _ _ _ 20 _ 67 _ (by decide +kernel) kc_4_67
theorem kc_4_24 : qm_chain 0 false (some .int) cX0_walksTo 24 kk_4_24 := qm_chain_of _ _ _ _ 4 _ 30 _ (by decide +kernel) kc_4_30
theorem kc_4_17 : qm_chain 0 false (some .int) cX0_walksTo 17 kk_4_17 := qm_chain_of _ _ _ _ 4 _ 24 _ (by decide +kernel) kc_4_24
theorem kc_4_0 : qm_chain 0 false (some .int) cX0_walksTo 0 kk_4_0 := qm_chain_of _ _ _ _ 13 _ 17 _ (by decide +kernel) kc_4_17
theorem ka_4 : ∀ t : Int, 0 ≤ t → qm_chain 0 false (some .int) cX0_walksTo t.toNat (qm_lk kt_4 t) := qm_lk_ok (List.forall_mem_cons.mpr ⟨⟨by decide, kc_4_0⟩, List.forall_mem_cons.mpr ⟨⟨by decide, kc_4_17⟩, List.forall_mem_cons.mpr ⟨⟨by decide, kc_4_24⟩, List.forall_mem_cons.mpr ⟨⟨by decide, kc_4_30⟩, List.forall_mem_cons.mpr ⟨⟨by decide, kc_4_67⟩, List.forall_mem_cons.mpr ⟨⟨by decide, kc_4_73⟩, fun _ h => absurd h List.not_mem_nil⟩⟩⟩⟩⟩⟩)
theorem kg_4 : qm_G1 (yX0_walksTo, cX0_walksTo, 7, some .int, 0, 3) (7, kt_4) := ⟨rfl, false, (fun z => by cases z), ka_4⟩
-- 5: TowerBoards$Arrows.fallApart
def kk_5_38 : List qm_I := (.return_, 0, 0, 0) :: []
def kk_5_32 : List qm_I := (.iinc 3 0, 0, 0, 1) :: (.goto 7, 0, 0, 0) :: kk_5_38
def kk_5_7 : List qm_I := (.iload 3, 0, 0, 0) :: (.iload 1, 0, 0, 0) :: (.if_icmp .gt 38, 0, 0, 0) :: (.iload 3, 0, 0, 0) :: (.iload 1, 0, 0, 0) :: (.iconst 0, 0, 0, -1) :: (.ixor, 0, 0, 0) :: (.iand, 0, 0, 0) :: (.ifCond .ne 32, 0, 0, 0) :: (.iload 3, 0, 0, 0) :: (.iload 2, 0, 0, 0) :: (.iand, 0, 0, 0) :: (.ifCond .eq 32, 0, 0, 0) :: (.aload 0, 0, 0, 0) :: (.iload 1, 0, 0, 0) :: (.iload 3, 0, 0, 0) :: (.invokevirtual 6, 3, 0, 0) :: kk_5_32
def kk_5_0 : List qm_I := (.iload 1, 0, 0, 0) :: (.invokestatic 218, 1, 0, 0) :: (.istore 2, 0, 0, 0) :: (.iconst 0, 0, 0, 1) :: (.istore 3, 0, 0, 0) :: kk_5_7
def kt_5 : qm_T := [(0, kk_5_0), (7, kk_5_7), (32, kk_5_32), (38, kk_5_38)]
theorem kc_5_38 : qm_chain 0 false (none) cX0_fallApart 38 kk_5_38 := qm_chain_of _ _ _ _ 1 _ 39 _ (by decide +kernel) trivial
theorem kc_5_32 : qm_chain 0 false (none) cX0_fallApart 32 kk_5_32 := qm_chain_of _ _ _ _ 2 _ 38 _ (by decide +kernel) kc_5_38
theorem kc_5_7 : qm_chain 0 false (none) cX0_fallApart 7 kk_5_7 := qm_chain_of _ _ _ _ 17 _ 32 _ (by decide +kernel) kc_5_32
theorem kc_5_0 : qm_chain 0 false (none) cX0_fallApart 0 kk_5_0 := qm_chain_of _ _ _ _ 5 _ 7 _ (by decide +kernel) kc_5_7
theorem ka_5 : ∀ t : Int, 0 ≤ t → qm_chain 0 false (none) cX0_fallApart t.toNat (qm_lk kt_5 t) := qm_lk_ok (List.forall_mem_cons.mpr ⟨⟨by decide, kc_5_0⟩, List.forall_mem_cons.mpr ⟨⟨by decide, kc_5_7⟩, List.forall_mem_cons.mpr ⟨⟨by decide, kc_5_32⟩, List.forall_mem_cons.mpr ⟨⟨by decide, kc_5_38⟩, fun _ h => absurd h List.not_mem_nil⟩⟩⟩⟩)
theorem kg_5 : qm_G1 (yX0_fallApart, cX0_fallApart, 4, none, 0, 1) (4, kt_5) := ⟨rfl, false, (fun z => by cases z), ka_5⟩
-- 6: TowerBoards$Arrows.addPart
def kk_6_133 : List qm_I := (.return_, 0, 0, 0) :: []
def kk_6_127 : List qm_I := (.iinc 5 0, 0, 0, 1) :: (.goto 24, 0, 0, 0) :: kk_6_133
def kk_6_34 : List qm_I := (.iload 6, 0, 0, 0) :: (.iconst 0, 0, 0, 6) :: (.iload 5, 0, 0, 0) :: (.isub, 0, 0, 0) :: (.if_icmp .ge 127, 0, 0, 0) :: (.aload 0, 0, 0, 0) :: (.getfield 0, 3, 0, 0) :: (.iload 3, 0, 0, 0) :: (.iload 5, 0, 0, 0) :: (.iconst 0, 0, 0, 7) :: (.imul, 0, 0, 0) :: (.iadd, 0, 0, 0) :: (.iload 6, 0, 0, 0) :: (.iadd, 0, 0, 0) :: (.iaload, 0, 0, 0) :: (.istore 7, 0, 0, 0) :: (.aload 0, 0, 0, 0) :: (.getfield 0, 3, 0, 0) :: (.iload 4, 0, 0, 0) :: (.iload 5, 0, 0, 0) :: (.iconst 0, 0, 0, 1) :: (.iadd, 0, 0, 0) :: (.iconst 0, 0, 0, 7) :: (.imul, 0, 0, 0) :: (.iadd, 0, 0, 0) :: (.iload 6, 0, 0, 0) :: (.iadd, 0, 0, 0) :: (.dup2, 0, 0, 0) :: (.iaload, 0, 0, 0) :: (.aload 0, 0, 0, 0) :: (.getfield 0, 1, 0, 0) :: (.iload 2, 0, 0, 0) :: (.iaload, 0, 0, 0) :: (.iload 7, 0, 0, 0) :: (.imul, 0, 0, 0) :: (.iadd, 0, 0, 0) :: (.iastore, 0, 0, 0) :: (.aload 0, 0, 0, 0) :: (.getfield 0, 3, 0, 0) :: (.iload 4, 0, 0, 0) :: (.iload 5, 0, 0, 0) :: (.iconst 0, 0, 0, 7) :: (.imul, 0, 0, 0) :: (.iadd, 0, 0, 0) :: (.iload 6, 0, 0, 0) :: (.iadd, 0, 0, 0) :: (.iconst 0, 0, 0, 1) :: (.iadd, 0, 0, 0) :: (.dup2, 0, 0, 0) :: (.iaload, 0, 0, 0) :: (.aload 0, 0, 0, 0) :: (.getfield 0, 2, 0, 0) :: (.iload 2, 0, 0, 0) :: (.iaload, 0, 0, 0) :: (.iload 7, 0, 0, 0) :: (.imul, 0, 0, 0) :: (.iadd, 0, 0, 0) :: (.iastore, 0, 0, 0) :: (.iinc 6 0, 0, 0, 1) :: (.goto 34, 0, 0, 0) :: kk_6_127
def kk_6_24 : List qm_I := (.iload 5, 0, 0, 0) :: (.iconst 0, 0, 0, 6) :: (.if_icmp .ge 133, 0, 0, 0) :: (.iconst 0, 0, 0, 0) :: (.istore 6, 0, 0, 0) :: kk_6_34
def kk_6_0 : List qm_I := (.iload 1, 0, 0, 0) :: (.iload 2, 0, 0, 0) :: (.iconst 0, 0, 0, -1) :: (.ixor, 0, 0, 0) :: (.iand, 0, 0, 0) :: (.iconst 0, 0, 0, 7) :: (.imul, 0, 0, 0) :: (.iconst 0, 0, 0, 7) :: (.imul, 0, 0, 0) :: (.istore 3, 0, 0, 0) :: (.iload 1, 0, 0, 0) :: (.iconst 0, 0, 0, 7) :: (.imul, 0, 0, 0) :: (.iconst 0, 0, 0, 7) :: (.imul, 0, 0, 0) :: (.istore 4, 0, 0, 0) :: (.iconst 0, 0, 0, 0) :: (.istore 5, 0, 0, 0) :: kk_6_24
def kt_6 : qm_T := [(0, kk_6_0), (24, kk_6_24), (34, kk_6_34), (127, kk_6_127), (133, kk_6_133)]
theorem kc_6_133 : qm_chain 0 false (none) cX0_addPart 133 kk_6_133 := qm_chain_of _ _ _ _ 1 _ 134 _ (by decide +kernel) trivial
theorem kc_6_127 : qm_chain 0 false (none) cX0_addPart 127 kk_6_127 := qm_chain_of _ _ _ _ 2 _ 133 _ (by decide +kernel) kc_6_133
theorem kc_6_34 : qm_chain 0 false (none) cX0_addPart 34 kk_6_34 := qm_chain_of _ _ _ _ 60 _ 127 _ (by decide +kernel) kc_6_127
theorem kc_6_24 : qm_chain 0 false (none) cX0_addPart 24 kk_6_24 := qm_chain_of _ _ _ _ 5 _ 34 _ (by decide +kernel) kc_6_34
theorem kc_6_0 : qm_chain 0 false (none) cX0_addPart 0 kk_6_0 := qm_chain_of _ _ _ _ 18 _ 24 _ (by decide +kernel) kc_6_24
theorem ka_6 : ∀ t : Int, 0 ≤ t → qm_chain 0 false (none) cX0_addPart t.toNat (qm_lk kt_6 t) := qm_lk_ok (List.forall_mem_cons.mpr ⟨⟨by decide, kc_6_0⟩, List.forall_mem_cons.mpr ⟨⟨by decide, kc_6_24⟩, List.forall_mem_cons.mpr ⟨⟨by decide, kc_6_34⟩, List.forall_mem_cons.mpr ⟨⟨by decide, kc_6_127⟩, List.forall_mem_cons.mpr ⟨⟨by decide, kc_6_133⟩, fun _ h => absurd h List.not_mem_nil⟩⟩⟩⟩⟩)
theorem kg_6 : qm_G1 (yX0_addPart, cX0_addPart, 8, none, 0, 2) (8, kt_6) := ⟨rfl, false, (fun z => by cases z), ka_6⟩
-- 7: TowerBoards$Arrows.standsOf
def kk_7_22 : List qm_I := (.aload 0, 0, 0, 0) :: (.getfield 0, 3, 0, 0) :: (.aload 0, 0, 0, 0) :: (.getfield 0, 4, 0, 0) :: (.iconst 0, 0, 0, 7) :: (.imul, 0, 0, 0) :: (.iload 1, 0, 0, 0) :: (.iadd, 0, 0, 0) :: (.iconst 0, 0, 0, 7) :: (.imul, 0, 0, 0) :: (.iload 2, 0, 0, 0) :: (.iadd, 0, 0, 0) :: (.iaload, 0, 0, 0) :: (.ireturn, 0, 0, 0) :: []
def kk_7_20 : List qm_I := (.iconst 0, 0, 0, 0) :: (.ireturn, 0, 0, 0) :: kk_7_22
def kk_7_0 : List qm_I := (.iload 1, 0, 0, 0) :: (.iconst 0, 0, 0, 0) :: (.iconst 0, 0, 0, 6) :: (.invokestatic 118, 3, 0, 0) :: (.ifCond .eq 20, 0, 0, 0) :: (.iload 2, 0, 0, 0) :: (.iconst 0, 0, 0, 0) :: (.iconst 0, 0, 0, 6) :: (.invokestatic 118, 3, 0, 0) :: (.ifCond .ne 22, 0, 0, 0) :: kk_7_20
def kt_7 : qm_T := [(0, kk_7_0), (20, kk_7_20), (22, kk_7_22)]
theorem kc_7_22 : qm_chain 0 false (some .int) cX0_standsOf 22 kk_7_22 := qm_chain_of _ _ _ _ 14 _ 42 _ (by decide +kernel) trivial
theorem kc_7_20 : qm_chain 0 false (some .int) cX0_standsOf 20 kk_7_20 := qm_chain_of _ _ _ _ 2 _ 22 _ (by decide +kernel) kc_7_22
theorem kc_7_0 : qm_chain 0 false (some .int) cX0_standsOf 0 kk_7_0 := qm_chain_of _ _ _ _ 10 _ 20 _ (by decide +kernel) kc_7_20
theorem ka_7 : ∀ t : Int, 0 ≤ t → qm_chain 0 false (some .int) cX0_standsOf t.toNat (qm_lk kt_7 t) := qm_lk_ok (List.forall_mem_cons.mpr ⟨⟨by decide, kc_7_0⟩, List.forall_mem_cons.mpr ⟨⟨by decide, kc_7_20⟩, List.forall_mem_cons.mpr ⟨⟨by decide, kc_7_22⟩, fun _ h => absurd h List.not_mem_nil⟩⟩⟩)
theorem kg_7 : qm_G1 (yX0_standsOf, cX0_standsOf, 3, some .int, 0, 2) (3, kt_7) := ⟨rfl, false, (fun z => by cases z), ka_7⟩
-- 8: TowerBoards$Board.<init>
def kk_8_0 : List qm_I := (.aload 0, 0, 0, 0) :: (.invokespecial 0, 0, 0, 0) :: (.aload 0, 0, 0, 0) :: (.iconst 0, 0, 0, -1) :: (.putfield 1, 0, 0, 0) :: (.aload 0, 0, 0, 0) :: (.iconst 0, 0, 0, 1) :: (.putfield 1, 1, 0, 0) :: (.aload 0, 0, 0, 0) :: (.iconst 0, 0, 0, 1) :: (.putfield 1, 2, 0, 0) :: (.aload 0, 0, 0, 0) :: (.iconst 0, 0, 0, 6) :: (.newarray .int, 0, 0, 0) :: (.putfield 1, 3, 2, 0) :: (.return_, 0, 0, 0) :: []
def kt_8 : qm_T := [(0, kk_8_0)]
theorem kc_8_0 : qm_chain 1 true (none) cX1_init 0 kk_8_0 := qm_chain_of _ _ _ _ 16 _ 28 _ (by decide +kernel) trivial
theorem ka_8 : ∀ t : Int, 0 ≤ t → qm_chain 1 true (none) cX1_init t.toNat (qm_lk kt_8 t) := qm_lk_ok (List.forall_mem_cons.mpr ⟨⟨by decide, kc_8_0⟩, fun _ h => absurd h List.not_mem_nil⟩)
theorem kg_8 : qm_G1 (yX1_init, cX1_init, 1, none, 1, 0) (1, kt_8) := ⟨rfl, true, (fun _ => rfl), ka_8⟩
-- 9: TowerBoards$Board.isThere
def kk_9_13 : List qm_I := (.ireturn, 1, 0, 0) :: []
def kk_9_12 : List qm_I := (.iconst 0, 0, 0, 0) :: kk_9_13
def kk_9_0 : List qm_I := (.aload 0, 0, 0, 0) :: (.getfield 1, 0, 0, 0) :: (.iconst 0, 0, 0, -1) :: (.if_icmp .eq 12, 0, 0, 0) :: (.iconst 0, 0, 0, 1) :: (.goto 13, 0, 0, 0) :: kk_9_12
def kt_9 : qm_T := [(0, kk_9_0), (12, kk_9_12), (13, kk_9_13)]
theorem kc_9_13 : qm_chain 1 false (some .boolean) cX1_isThere 13 kk_9_13 := qm_chain_of _ _ _ _ 1 _ 14 _ (by decide +kernel) trivial
theorem kc_9_12 : qm_chain 1 false (some .boolean) cX1_isThere 12 kk_9_12 := qm_chain_of _ _ _ _ 1 _ 13 _ (by decide +kernel) kc_9_13
theorem kc_9_0 : qm_chain 1 false (some .boolean) cX1_isThere 0 kk_9_0 := qm_chain_of _ _ _ _ 6 _ 12 _ (by decide +kernel) kc_9_12
theorem ka_9 : ∀ t : Int, 0 ≤ t → qm_chain 1 false (some .boolean) cX1_isThere t.toNat (qm_lk kt_9 t) := qm_lk_ok (List.forall_mem_cons.mpr ⟨⟨by decide, kc_9_0⟩, List.forall_mem_cons.mpr ⟨⟨by decide, kc_9_12⟩, List.forall_mem_cons.mpr ⟨⟨by decide, kc_9_13⟩, fun _ h => absurd h List.not_mem_nil⟩⟩⟩)
theorem kg_9 : qm_G1 (yX1_isThere, cX1_isThere, 1, some .boolean, 1, 0) (1, kt_9) := ⟨rfl, false, (fun z => by cases z), ka_9⟩
-- 10: TowerBoards$Board.begin
def kk_10_0 : List qm_I := (.aload 0, 0, 0, 0) :: (.iload 1, 0, 0, 0) :: (.putfield 1, 0, 0, 0) :: (.aload 0, 0, 0, 0) :: (.iload 2, 0, 0, 0) :: (.putfield 1, 1, 0, 0) :: (.aload 0, 0, 0, 0) :: (.iload 3, 0, 0, 0) :: (.putfield 1, 2, 0, 0) :: (.aload 0, 0, 0, 0) :: (.getfield 1, 3, 0, 0) :: (.iconst 0, 0, 0, 0) :: (.invokestatic 222, 2, 0, 0) :: (.return_, 0, 0, 0) :: []
def kt_10 : qm_T := [(0, kk_10_0)]
theorem kc_10_0 : qm_chain 1 false (none) cX1_begin 0 kk_10_0 := qm_chain_of _ _ _ _ 14 _ 24 _ (by decide +kernel) trivial
theorem ka_10 : ∀ t : Int, 0 ≤ t → qm_chain 1 false (none) cX1_begin t.toNat (qm_lk kt_10 t) := qm_lk_ok (List.forall_mem_cons.mpr ⟨⟨by decide, kc_10_0⟩, fun _ h => absurd h List.not_mem_nil⟩)
theorem kg_10 : qm_G1 (yX1_begin, cX1_begin, 4, none, 1, 3) (4, kt_10) := ⟨rfl, false, (fun z => by cases z), ka_10⟩
-- 11: TowerBoards$Board.takeAll
def kk_11_0 : List qm_I := (.aload 0, 0, 0, 0) :: (.aload 1, 0, 0, 0) :: (.getfield 1, 0, 0, 0) :: (.aload 1, 0, 0, 0) :: (.getfield 1, 1, 0, 0) :: (.aload 1, 0, 0, 0) :: (.getfield 1, 2, 0, 0) :: (.invokevirtual 10, 4, 1, 0) :: (.aload 1, 0, 0, 0) :: (.getfield 1, 3, 0, 0) :: (.iconst 0, 0, 0, 0) :: (.aload 0, 0, 0, 0) :: (.getfield 1, 3, 0, 0) :: (.iconst 0, 0, 0, 0) :: (.iconst 0, 0, 0, 6) :: (.invokespecial 1, 0, 0, 0) :: (.return_, 0, 0, 0) :: []
def kt_11 : qm_T := [(0, kk_11_0)]
theorem kc_11_0 : qm_chain 1 false (none) cX1_takeAll 0 kk_11_0 := qm_chain_of _ _ _ _ 17 _ 32 _ (by decide +kernel) trivial
theorem ka_11 : ∀ t : Int, 0 ≤ t → qm_chain 1 false (none) cX1_takeAll t.toNat (qm_lk kt_11 t) := qm_lk_ok (List.forall_mem_cons.mpr ⟨⟨by decide, kc_11_0⟩, fun _ h => absurd h List.not_mem_nil⟩)
theorem kg_11 : qm_G1 (yX1_takeAll, cX1_takeAll, 2, none, 1, 1) (2, kt_11) := ⟨rfl, false, (fun z => by cases z), ka_11⟩
-- 12: TowerBoards$Board.takeUntouched
def kk_12_61 : List qm_I := (.return_, 0, 0, 0) :: []
def kk_12_54 : List qm_I := (.iastore, 0, 0, 0) :: (.iinc 4 0, 0, 0, 1) :: (.goto 16, 0, 0, 0) :: kk_12_61
def kk_12_41 : List qm_I := (.aload 1, 0, 0, 0) :: (.getfield 1, 3, 0, 0) :: (.iload 4, 0, 0, 0) :: (.iaload, 0, 0, 0) :: (.iconst 0, 0, 0, 1) :: (.iload 3, 0, 0, 0) :: (.ishl, 0, 0, 0) :: (.iconst 0, 0, 0, -1) :: (.ixor, 0, 0, 0) :: (.iand, 0, 0, 0) :: kk_12_54
def kk_12_16 : List qm_I := (.iload 4, 0, 0, 0) :: (.aload 0, 0, 0, 0) :: (.getfield 1, 1, 0, 0) :: (.if_icmp .ge 61, 0, 0, 0) :: (.aload 0, 0, 0, 0) :: (.getfield 1, 3, 0, 0) :: (.iload 4, 0, 0, 0) :: (.iload 4, 0, 0, 0) :: (.iload 2, 0, 0, 0) :: (.if_icmp .ne 41, 0, 0, 0) :: (.iconst 0, 0, 0, 0) :: (.goto 54, 0, 0, 0) :: kk_12_41
def kk_12_0 : List qm_I := (.aload 0, 0, 0, 0) :: (.iconst 0, 0, 0, 0) :: (.aload 1, 0, 0, 0) :: (.getfield 1, 1, 0, 0) :: (.aload 1, 0, 0, 0) :: (.getfield 1, 2, 0, 0) :: (.invokevirtual 10, 4, 1, 0) :: (.iconst 0, 0, 0, 0) :: (.istore 4, 0, 0, 0) :: kk_12_16
def kt_12 : qm_T := [(0, kk_12_0), (16, kk_12_16), (41, kk_12_41), (54, kk_12_54), (61, kk_12_61)]
theorem kc_12_61 : qm_chain 1 false (none) cX1_takeUntouched 61 kk_12_61 := qm_chain_of _ _ _ _ 1 _ 62 _ (by decide +kernel) trivial
theorem kc_12_54 : qm_chain 1 false (none) cX1_takeUntouched 54 kk_12_54 := qm_chain_of _ _ _ _ 3 _ 61 _ (by decide +kernel) kc_12_61
theorem kc_12_41 : qm_chain 1 false (none) cX1_takeUntouched 41 kk_12_41 := qm_chain_of _ _ _ _ 10 _ 54 _ (by decide +kernel) kc_12_54
theorem kc_12_16 : qm_chain 1 false (none) cX1_takeUntouched 16 kk_12_16 := qm_chain_of _ _ _ _ 12 _ 41 _ (by decide +kernel) kc_12_41
theorem kc_12_0 : qm_chain 1 false (none) cX1_takeUntouched 0 kk_12_0 := qm_chain_of _ _ _ _ 9 _ 16 _ (by decide +kernel) kc_12_16
theorem ka_12 : ∀ t : Int, 0 ≤ t → qm_chain 1 false (none) cX1_takeUntouched t.toNat (qm_lk kt_12 t) := qm_lk_ok (List.forall_mem_cons.mpr ⟨⟨by decide, kc_12_0⟩, List.forall_mem_cons.mpr ⟨⟨by decide, kc_12_16⟩, List.forall_mem_cons.mpr ⟨⟨by decide, kc_12_41⟩, List.forall_mem_cons.mpr ⟨⟨by decide, kc_12_54⟩, List.forall_mem_cons.mpr ⟨⟨by decide, kc_12_61⟩, fun _ h => absurd h List.not_mem_nil⟩⟩⟩⟩⟩)
theorem kg_12 : qm_G1 (yX1_takeUntouched, cX1_takeUntouched, 5, none, 1, 3) (5, kt_12) := ⟨rfl, false, (fun z => by cases z), ka_12⟩
-- 13: TowerBoards$Board.takeDiagonals
def kk_13_82 : List qm_I := (.return_, 0, 0, 0) :: []
def kk_13_76 : List qm_I := (.iinc 3 0, 0, 0, 1) :: (.goto 11, 0, 0, 0) :: kk_13_82
def kk_13_70 : List qm_I := (.iinc 4 0, 0, 0, 1) :: (.goto 22, 0, 0, 0) :: kk_13_76
def kk_13_22 : List qm_I := (.iload 4, 0, 0, 0) :: (.aload 1, 0, 0, 0) :: (.getfield 1, 2, 0, 0) :: (.if_icmp .ge 76, 0, 0, 0) :: (.aload 1, 0, 0, 0) :: (.iload 3, 0, 0, 0) :: (.iload 4, 0, 0, 0) :: (.invokevirtual 19, 3, 1, 0) :: (.ifCond .eq 70, 0, 0, 0) :: (.iload 3, 0, 0, 0) :: (.iload 4, 0, 0, 0) :: (.iadd, 0, 0, 0) :: (.iconst 0, 0, 0, 2) :: (.irem, 0, 0, 0) :: (.iload 2, 0, 0, 0) :: (.if_icmp .ne 70, 0, 0, 0) :: (.aload 0, 0, 0, 0) :: (.iload 3, 0, 0, 0) :: (.iload 4, 0, 0, 0) :: (.iadd, 0, 0, 0) :: (.iconst 0, 0, 0, 2) :: (.idiv, 0, 0, 0) :: (.iload 3, 0, 0, 0) :: (.iload 4, 0, 0, 0) :: (.isub, 0, 0, 0) :: (.iconst 0, 0, 0, 6) :: (.iadd, 0, 0, 0) :: (.iconst 0, 0, 0, 2) :: (.idiv, 0, 0, 0) :: (.invokevirtual 20, 3, 1, 0) :: kk_13_70
def kk_13_11 : List qm_I := (.iload 3, 0, 0, 0) :: (.aload 1, 0, 0, 0) :: (.getfield 1, 1, 0, 0) :: (.if_icmp .ge 82, 0, 0, 0) :: (.iconst 0, 0, 0, 0) :: (.istore 4, 0, 0, 0) :: kk_13_22
def kk_13_0 : List qm_I := (.aload 0, 0, 0, 0) :: (.iconst 0, 0, 0, 0) :: (.iconst 0, 0, 0, 6) :: (.iconst 0, 0, 0, 6) :: (.invokevirtual 10, 4, 1, 0) :: (.iconst 0, 0, 0, 0) :: (.istore 3, 0, 0, 0) :: kk_13_11
def kt_13 : qm_T := [(0, kk_13_0), (11, kk_13_11), (22, kk_13_22), (70, kk_13_70), (76, kk_13_76), (82, kk_13_82)]
theorem kc_13_82 : qm_chain 1 false (none) cX1_takeDiagonals 82 kk_13_82 := qm_chain_of _ _ _ _ 1 _ 83 _ (by decide +kernel) trivial
theorem kc_13_76 : qm_chain 1 false (none) cX1_takeDiagonals 76 kk_13_76 := qm_chain_of _ _ _ _ 2 _ 82 _ (by decide +kernel) kc_13_82
theorem kc_13_70 : qm_chain 1 false (none) cX1_takeDiagonals 70 kk_13_70 := qm_chain_of _ _ _ _ 2 _ 76 _ (by decide +kernel) kc_13_76
theorem kc_13_22 : qm_chain 1 false (none) cX1_takeDiagonals 22 kk_13_22 := qm_chain_of _ _ _ _ 30 _ 70 _ (by decide +kernel) kc_13_70
theorem kc_13_11 : qm_chain 1 false (none) cX1_takeDiagonals 11 kk_13_11 := qm_chain_of _ _ _ _ 6 _ 22 _ (by decide +kernel) kc_13_22
theorem kc_13_0 : qm_chain 1 false (none) cX1_takeDiagonals 0 kk_13_0 := qm_chain_of _ _ _ _ 7 _ 11 _ (by decide +kernel) kc_13_11
theorem ka_13 : ∀ t : Int, 0 ≤ t → qm_chain 1 false (none) cX1_takeDiagonals t.toNat (qm_lk kt_13 t) := qm_lk_ok (List.forall_mem_cons.mpr ⟨⟨by decide, kc_13_0⟩, List.forall_mem_cons.mpr ⟨⟨by decide, kc_13_11⟩, List.forall_mem_cons.mpr ⟨⟨by decide, kc_13_22⟩, List.forall_mem_cons.mpr ⟨⟨by decide, kc_13_70⟩, List.forall_mem_cons.mpr ⟨⟨by decide, kc_13_76⟩, List.forall_mem_cons.mpr ⟨⟨by decide, kc_13_82⟩, fun _ h => absurd h List.not_mem_nil⟩⟩⟩⟩⟩⟩)
theorem kg_13 : qm_G1 (yX1_takeDiagonals, cX1_takeDiagonals, 5, none, 1, 2) (5, kt_13) := ⟨rfl, false, (fun z => by cases z), ka_13⟩
-- 14: TowerBoards$Board.isOfKind
def kk_14_30 : List qm_I := (.ireturn, 1, 0, 0) :: []
def kk_14_29 : List qm_I := (.iconst 0, 0, 0, 0) :: kk_14_30
def kk_14_25 : List qm_I := (.iconst 0, 0, 0, 1) :: (.goto 30, 0, 0, 0) :: kk_14_29
def kk_14_0 : List qm_I := (.iload 1, 0, 0, 0) :: (.ifCond .eq 25, 0, 0, 0) :: (.iload 1, 0, 0, 0) :: (.aload 0, 0, 0, 0) :: (.getfield 1, 0, 0, 0) :: (.if_icmp .eq 25, 0, 0, 0) :: (.iload 1, 0, 0, 0) :: (.iconst 0, 0, 0, 2) :: (.if_icmp .ne 29, 0, 0, 0) :: (.aload 0, 0, 0, 0) :: (.getfield 1, 0, 0, 0) :: (.iconst 0, 0, 0, 3) :: (.if_icmp .ne 29, 0, 0, 0) :: kk_14_25
def kt_14 : qm_T := [(0, kk_14_0), (25, kk_14_25), (29, kk_14_29), (30, kk_14_30)]
theorem kc_14_30 : qm_chain 1 false (some .boolean) cX1_isOfKind 30 kk_14_30 := qm_chain_of _ _ _ _ 1 _ 31 _ (by decide +kernel) trivial
theorem kc_14_29 : qm_chain 1 false (some .boolean) cX1_isOfKind 29 kk_14_29 := qm_chain_of _ _ _ _ 1 _ 30 _ (by decide +kernel) kc_14_30
theorem kc_14_25 : qm_chain 1 false (some .boolean) cX1_isOfKind 25 kk_14_25 := qm_chain_of _ _ _ _ 2 _ 29 _ (by decide +kernel) kc_14_29
theorem kc_14_0 : qm_chain 1 false (some .boolean) cX1_isOfKind 0 kk_14_0 := qm_chain_of _ _ _ _ 13 _ 25 _ (by decide +kernel) kc_14_25
theorem ka_14 : ∀ t : Int, 0 ≤ t → qm_chain 1 false (some .boolean) cX1_isOfKind t.toNat (qm_lk kt_14 t) := qm_lk_ok (List.forall_mem_cons.mpr ⟨⟨by decide, kc_14_0⟩, List.forall_mem_cons.mpr ⟨⟨by decide, kc_14_25⟩, List.forall_mem_cons.mpr ⟨⟨by decide, kc_14_29⟩, List.forall_mem_cons.mpr ⟨⟨by decide, kc_14_30⟩, fun _ h => absurd h List.not_mem_nil⟩⟩⟩⟩)
theorem kg_14 : qm_G1 (yX1_isOfKind, cX1_isOfKind, 2, some .boolean, 1, 1) (2, kt_14) := ⟨rfl, false, (fun z => by cases z), ka_14⟩
-- 15: TowerBoards$Board.isSquare
def kk_15_16 : List qm_I := (.ireturn, 1, 0, 0) :: []
def kk_15_15 : List qm_I := (.iconst 0, 0, 0, 0) :: kk_15_16
def kk_15_0 : List qm_I := (.aload 0, 0, 0, 0) :: (.getfield 1, 1, 0, 0) :: (.aload 0, 0, 0, 0) :: (.getfield 1, 2, 0, 0) :: (.if_icmp .ne 15, 0, 0, 0) :: (.iconst 0, 0, 0, 1) :: (.goto 16, 0, 0, 0) :: kk_15_15
def kt_15 : qm_T := [(0, kk_15_0), (15, kk_15_15), (16, kk_15_16)]
theorem kc_15_16 : qm_chain 1 false (some .boolean) cX1_isSquare 16 kk_15_16 := qm_chain_of _ _ _ _ 1 _ 17 _ (by decide +kernel) trivial
theorem kc_15_15 : qm_chain 1 false (some .boolean) cX1_isSquare 15 kk_15_15 := qm_chain_of _ _ _ _ 1 _ 16 _ (by decide +kernel) kc_15_16
theorem kc_15_0 : qm_chain 1 false (some .boolean) cX1_isSquare 0 kk_15_0 := qm_chain_of _ _ _ _ 7 _ 15 _ (by decide +kernel) kc_15_15
theorem ka_15 : ∀ t : Int, 0 ≤ t → qm_chain 1 false (some .boolean) cX1_isSquare t.toNat (qm_lk kt_15 t) := qm_lk_ok (List.forall_mem_cons.mpr ⟨⟨by decide, kc_15_0⟩, List.forall_mem_cons.mpr ⟨⟨by decide, kc_15_15⟩, List.forall_mem_cons.mpr ⟨⟨by decide, kc_15_16⟩, fun _ h => absurd h List.not_mem_nil⟩⟩⟩)
theorem kg_15 : qm_G1 (yX1_isSquare, cX1_isSquare, 1, some .boolean, 1, 0) (1, kt_15) := ⟨rfl, false, (fun z => by cases z), ka_15⟩
-- 16: TowerBoards$Board.side
def kk_16_0 : List qm_I := (.aload 0, 0, 0, 0) :: (.getfield 1, 1, 0, 0) :: (.aload 0, 0, 0, 0) :: (.getfield 1, 2, 0, 0) :: (.invokespecial 2, 0, 0, 0) :: (.ireturn, 0, 0, 0) :: []
def kt_16 : qm_T := [(0, kk_16_0)]
theorem kc_16_0 : qm_chain 1 false (some .int) cX1_side 0 kk_16_0 := qm_chain_of _ _ _ _ 6 _ 12 _ (by decide +kernel) trivial
theorem ka_16 : ∀ t : Int, 0 ≤ t → qm_chain 1 false (some .int) cX1_side t.toNat (qm_lk kt_16 t) := qm_lk_ok (List.forall_mem_cons.mpr ⟨⟨by decide, kc_16_0⟩, fun _ h => absurd h List.not_mem_nil⟩)
theorem kg_16 : qm_G1 (yX1_side, cX1_side, 1, some .int, 1, 0) (1, kt_16) := ⟨rfl, false, (fun z => by cases z), ka_16⟩
-- 17: TowerBoards$Board.allColumns
def kk_17_0 : List qm_I := (.iconst 0, 0, 0, 1) :: (.aload 0, 0, 0, 0) :: (.getfield 1, 2, 0, 0) :: (.ishl, 0, 0, 0) :: (.iconst 0, 0, 0, 1) :: (.isub, 0, 0, 0) :: (.ireturn, 0, 0, 0) :: []
def kt_17 : qm_T := [(0, kk_17_0)]
theorem kc_17_0 : qm_chain 1 false (some .int) cX1_allColumns 0 kk_17_0 := qm_chain_of _ _ _ _ 7 _ 9 _ (by decide +kernel) trivial
theorem ka_17 : ∀ t : Int, 0 ≤ t → qm_chain 1 false (some .int) cX1_allColumns t.toNat (qm_lk kt_17 t) := qm_lk_ok (List.forall_mem_cons.mpr ⟨⟨by decide, kc_17_0⟩, fun _ h => absurd h List.not_mem_nil⟩)
theorem kg_17 : qm_G1 (yX1_allColumns, cX1_allColumns, 1, some .int, 1, 0) (1, kt_17) := ⟨rfl, false, (fun z => by cases z), ka_17⟩
-- 18: TowerBoards$Board.hasPlace
def kk_18_29 : List qm_I := (.ireturn, 1, 0, 0) :: []
def kk_18_28 : List qm_I := (.iconst 0, 0, 0, 0) :: kk_18_29
def kk_18_0 : List qm_I := (.iload 1, 0, 0, 0) :: (.ifCond .lt 28, 0, 0, 0) :: (.iload 1, 0, 0, 0) :: (.aload 0, 0, 0, 0) :: (.getfield 1, 1, 0, 0) :: (.if_icmp .ge 28, 0, 0, 0) :: (.iload 2, 0, 0, 0) :: (.ifCond .lt 28, 0, 0, 0) :: (.iload 2, 0, 0, 0) :: (.aload 0, 0, 0, 0) :: (.getfield 1, 2, 0, 0) :: (.if_icmp .ge 28, 0, 0, 0) :: (.iconst 0, 0, 0, 1) :: (.goto 29, 0, 0, 0) :: kk_18_28
def kt_18 : qm_T := [(0, kk_18_0), (28, kk_18_28), (29, kk_18_29)]
theorem kc_18_29 : qm_chain 1 false (some .boolean) cX1_hasPlace 29 kk_18_29 := qm_chain_of _ _ _ _ 1 _ 30 _ (by decide +kernel) trivial
theorem kc_18_28 : qm_chain 1 false (some .boolean) cX1_hasPlace 28 kk_18_28 := qm_chain_of _ _ _ _ 1 _ 29 _ (by decide +kernel) kc_18_29
theorem kc_18_0 : qm_chain 1 false (some .boolean) cX1_hasPlace 0 kk_18_0 := qm_chain_of _ _ _ _ 14 _ 28 _ (by decide +kernel) kc_18_28
theorem ka_18 : ∀ t : Int, 0 ≤ t → qm_chain 1 false (some .boolean) cX1_hasPlace t.toNat (qm_lk kt_18 t) := qm_lk_ok (List.forall_mem_cons.mpr ⟨⟨by decide, kc_18_0⟩, List.forall_mem_cons.mpr ⟨⟨by decide, kc_18_28⟩, List.forall_mem_cons.mpr ⟨⟨by decide, kc_18_29⟩, fun _ h => absurd h List.not_mem_nil⟩⟩⟩)
theorem kg_18 : qm_G1 (yX1_hasPlace, cX1_hasPlace, 3, some .boolean, 1, 2) (3, kt_18) := ⟨rfl, false, (fun z => by cases z), ka_18⟩
-- 19: TowerBoards$Board.hasCell
def kk_19_27 : List qm_I := (.ireturn, 1, 0, 0) :: []
def kk_19_26 : List qm_I := (.iconst 0, 0, 0, 0) :: kk_19_27
def kk_19_0 : List qm_I := (.aload 0, 0, 0, 0) :: (.iload 1, 0, 0, 0) :: (.iload 2, 0, 0, 0) :: (.invokevirtual 18, 3, 1, 0) :: (.ifCond .eq 26, 0, 0, 0) :: (.aload 0, 0, 0, 0) :: (.getfield 1, 3, 0, 0) :: (.iload 1, 0, 0, 0) :: (.iaload, 0, 0, 0) :: (.iconst 0, 0, 0, 1) :: (.iload 2, 0, 0, 0) :: (.ishl, 0, 0, 0) :: (.iand, 0, 0, 0) :: (.ifCond .eq 26, 0, 0, 0) :: (.iconst 0, 0, 0, 1) :: (.goto 27, 0, 0, 0) :: kk_19_26
def kt_19 : qm_T := [(0, kk_19_0), (26, kk_19_26), (27, kk_19_27)]
theorem kc_19_27 : qm_chain 1 false (some .boolean) cX1_hasCell 27 kk_19_27 := qm_chain_of _ _ _ _ 1 _ 28 _ (by decide +kernel) trivial
theorem kc_19_26 : qm_chain 1 false (some .boolean) cX1_hasCell 26 kk_19_26 := qm_chain_of _ _ _ _ 1 _ 27 _ (by decide +kernel) kc_19_27
theorem kc_19_0 : qm_chain 1 false (some .boolean) cX1_hasCell 0 kk_19_0 := qm_chain_of _ _ _ _ 16 _ 26 _ (by decide +kernel) kc_19_26
theorem ka_19 : ∀ t : Int, 0 ≤ t → qm_chain 1 false (some .boolean) cX1_hasCell t.toNat (qm_lk kt_19 t) := qm_lk_ok (List.forall_mem_cons.mpr ⟨⟨by decide, kc_19_0⟩, List.forall_mem_cons.mpr ⟨⟨by decide, kc_19_26⟩, List.forall_mem_cons.mpr ⟨⟨by decide, kc_19_27⟩, fun _ h => absurd h List.not_mem_nil⟩⟩⟩)
theorem kg_19 : qm_G1 (yX1_hasCell, cX1_hasCell, 3, some .boolean, 1, 2) (3, kt_19) := ⟨rfl, false, (fun z => by cases z), ka_19⟩
-- 20: TowerBoards$Board.addCell
def kk_20_21 : List qm_I := (.return_, 0, 0, 0) :: []
def kk_20_0 : List qm_I := (.aload 0, 0, 0, 0) :: (.iload 1, 0, 0, 0) :: (.iload 2, 0, 0, 0) :: (.invokevirtual 18, 3, 1, 0) :: (.ifCond .eq 21, 0, 0, 0) :: (.aload 0, 0, 0, 0) :: (.getfield 1, 3, 0, 0) :: (.iload 1, 0, 0, 0) :: (.dup2, 0, 0, 0) :: (.iaload, 0, 0, 0) :: (.iconst 0, 0, 0, 1) :: (.iload 2, 0, 0, 0) :: (.ishl, 0, 0, 0) :: (.ior, 0, 0, 0) :: (.iastore, 0, 0, 0) :: kk_20_21
def kt_20 : qm_T := [(0, kk_20_0), (21, kk_20_21)]
theorem kc_20_21 : qm_chain 1 false (none) cX1_addCell 21 kk_20_21 := qm_chain_of _ _ _ _ 1 _ 22 _ (by decide +kernel) trivial
theorem kc_20_0 : qm_chain 1 false (none) cX1_addCell 0 kk_20_0 := qm_chain_of _ _ _ _ 15 _ 21 _ (by decide +kernel) kc_20_21
theorem ka_20 : ∀ t : Int, 0 ≤ t → qm_chain 1 false (none) cX1_addCell t.toNat (qm_lk kt_20 t) := qm_lk_ok (List.forall_mem_cons.mpr ⟨⟨by decide, kc_20_0⟩, List.forall_mem_cons.mpr ⟨⟨by decide, kc_20_21⟩, fun _ h => absurd h List.not_mem_nil⟩⟩)
theorem kg_20 : qm_G1 (yX1_addCell, cX1_addCell, 3, none, 1, 2) (3, kt_20) := ⟨rfl, false, (fun z => by cases z), ka_20⟩
-- 21: TowerBoards$Board.cellCount
def kk_21_30 : List qm_I := (.iload 1, 0, 0, 0) :: (.ireturn, 0, 0, 0) :: []
def kk_21_4 : List qm_I := (.iload 2, 0, 0, 0) :: (.aload 0, 0, 0, 0) :: (.getfield 1, 1, 0, 0) :: (.if_icmp .ge 30, 0, 0, 0) :: (.iload 1, 0, 0, 0) :: (.aload 0, 0, 0, 0) :: (.getfield 1, 3, 0, 0) :: (.iload 2, 0, 0, 0) :: (.iaload, 0, 0, 0) :: (.invokestatic 220, 1, 0, 0) :: (.iadd, 0, 0, 0) :: (.istore 1, 0, 0, 0) :: (.iinc 2 0, 0, 0, 1) :: (.goto 4, 0, 0, 0) :: kk_21_30
def kk_21_0 : List qm_I := (.iconst 0, 0, 0, 0) :: (.istore 1, 0, 0, 0) :: (.iconst 0, 0, 0, 0) :: (.istore 2, 0, 0, 0) :: kk_21_4
def kt_21 : qm_T := [(0, kk_21_0), (4, kk_21_4), (30, kk_21_30)]
theorem kc_21_30 : qm_chain 1 false (some .int) cX1_cellCount 30 kk_21_30 := qm_chain_of _ _ _ _ 2 _ 32 _ (by decide +kernel) trivial
theorem kc_21_4 : qm_chain 1 false (some .int) cX1_cellCount 4 kk_21_4 := qm_chain_of _ _ _ _ 14 _ 30 _ (by decide +kernel) kc_21_30
theorem kc_21_0 : qm_chain 1 false (some .int) cX1_cellCount 0 kk_21_0 := qm_chain_of _ _ _ _ 4 _ 4 _ (by decide +kernel) kc_21_4
theorem ka_21 : ∀ t : Int, 0 ≤ t → qm_chain 1 false (some .int) cX1_cellCount t.toNat (qm_lk kt_21 t) := qm_lk_ok (List.forall_mem_cons.mpr ⟨⟨by decide, kc_21_0⟩, List.forall_mem_cons.mpr ⟨⟨by decide, kc_21_4⟩, List.forall_mem_cons.mpr ⟨⟨by decide, kc_21_30⟩, fun _ h => absurd h List.not_mem_nil⟩⟩⟩)
theorem kg_21 : qm_G1 (yX1_cellCount, cX1_cellCount, 3, some .int, 1, 0) (3, kt_21) := ⟨rfl, false, (fun z => by cases z), ka_21⟩
-- 22: TowerBoards$Board.unlikeLengths
def kk_22_40 : List qm_I := (.iload 1, 0, 0, 0) :: (.ireturn, 0, 0, 0) :: []
def kk_22_34 : List qm_I := (.iinc 3 0, 0, 0, 1) :: (.goto 6, 0, 0, 0) :: kk_22_40
def kk_22_6 : List qm_I := (.iload 3, 0, 0, 0) :: (.aload 0, 0, 0, 0) :: (.getfield 1, 1, 0, 0) :: (.if_icmp .ge 40, 0, 0, 0) :: (.aload 0, 0, 0, 0) :: (.getfield 1, 3, 0, 0) :: (.iload 3, 0, 0, 0) :: (.iaload, 0, 0, 0) :: (.iload 2, 0, 0, 0) :: (.if_icmp .eq 34, 0, 0, 0) :: (.iinc 1 0, 0, 0, 1) :: (.aload 0, 0, 0, 0) :: (.getfield 1, 3, 0, 0) :: (.iload 3, 0, 0, 0) :: (.iaload, 0, 0, 0) :: (.istore 2, 0, 0, 0) :: kk_22_34
def kk_22_0 : List qm_I := (.iconst 0, 0, 0, 0) :: (.istore 1, 0, 0, 0) :: (.iconst 0, 0, 0, 0) :: (.istore 2, 0, 0, 0) :: (.iconst 0, 0, 0, 0) :: (.istore 3, 0, 0, 0) :: kk_22_6
def kt_22 : qm_T := [(0, kk_22_0), (6, kk_22_6), (34, kk_22_34), (40, kk_22_40)]
theorem kc_22_40 : qm_chain 1 false (some .int) cX1_unlikeLengths 40 kk_22_40 := qm_chain_of _ _ _ _ 2 _ 42 _ (by decide +kernel) trivial
theorem kc_22_34 : qm_chain 1 false (some .int) cX1_unlikeLengths 34 kk_22_34 := qm_chain_of _ _ _ _ 2 _ 40 _ (by decide +kernel) kc_22_40
theorem kc_22_6 : qm_chain 1 false (some .int) cX1_unlikeLengths 6 kk_22_6 := qm_chain_of _ _ _ _ 16 _ 34 _ (by decide +kernel) kc_22_34
theorem kc_22_0 : qm_chain 1 false (some .int) cX1_unlikeLengths 0 kk_22_0 := qm_chain_of _ _ _ _ 6 _ 6 _ (by decide +kernel) kc_22_6
theorem ka_22 : ∀ t : Int, 0 ≤ t → qm_chain 1 false (some .int) cX1_unlikeLengths t.toNat (qm_lk kt_22 t) := qm_lk_ok (List.forall_mem_cons.mpr ⟨⟨by decide, kc_22_0⟩, List.forall_mem_cons.mpr ⟨⟨by decide, kc_22_6⟩, List.forall_mem_cons.mpr ⟨⟨by decide, kc_22_34⟩, List.forall_mem_cons.mpr ⟨⟨by decide, kc_22_40⟩, fun _ h => absurd h List.not_mem_nil⟩⟩⟩⟩)
theorem kg_22 : qm_G1 (yX1_unlikeLengths, cX1_unlikeLengths, 4, some .int, 1, 0) (4, kt_22) := ⟨rfl, false, (fun z => by cases z), ka_22⟩
-- 23: TowerBoards$Board.columnsOutside
def kk_23_35 : List qm_I := (.iload 2, 0, 0, 0) :: (.ireturn, 0, 0, 0) :: []
def kk_23_29 : List qm_I := (.iinc 3 0, 0, 0, 1) :: (.goto 4, 0, 0, 0) :: kk_23_35
def kk_23_4 : List qm_I := (.iload 3, 0, 0, 0) :: (.aload 0, 0, 0, 0) :: (.getfield 1, 1, 0, 0) :: (.if_icmp .ge 35, 0, 0, 0) :: (.iload 1, 0, 0, 0) :: (.iconst 0, 0, 0, 1) :: (.iload 3, 0, 0, 0) :: (.ishl, 0, 0, 0) :: (.iand, 0, 0, 0) :: (.ifCond .ne 29, 0, 0, 0) :: (.iload 2, 0, 0, 0) :: (.aload 0, 0, 0, 0) :: (.getfield 1, 3, 0, 0) :: (.iload 3, 0, 0, 0) :: (.iaload, 0, 0, 0) :: (.ior, 0, 0, 0) :: (.istore 2, 0, 0, 0) :: kk_23_29
def kk_23_0 : List qm_I := (.iconst 0, 0, 0, 0) :: (.istore 2, 0, 0, 0) :: (.iconst 0, 0, 0, 0) :: (.istore 3, 0, 0, 0) :: kk_23_4
def kt_23 : qm_T := [(0, kk_23_0), (4, kk_23_4), (29, kk_23_29), (35, kk_23_35)]
theorem kc_23_35 : qm_chain 1 false (some .int) cX1_columnsOutside 35 kk_23_35 := qm_chain_of _ _ _ _ 2 _ 37 _ (by decide +kernel) trivial
theorem kc_23_29 : qm_chain 1 false (some .int) cX1_columnsOutside 29 kk_23_29 := qm_chain_of _ _ _ _ 2 _ 35 _ (by decide +kernel) kc_23_35
theorem kc_23_4 : qm_chain 1 false (some .int) cX1_columnsOutside 4 kk_23_4 := qm_chain_of _ _ _ _ 17 _ 29 _ (by decide +kernel) kc_23_29
theorem kc_23_0 : qm_chain 1 false (some .int) cX1_columnsOutside 0 kk_23_0 := qm_chain_of _ _ _ _ 4 _ 4 _ (by decide +kernel) kc_23_4
theorem ka_23 : ∀ t : Int, 0 ≤ t → qm_chain 1 false (some .int) cX1_columnsOutside t.toNat (qm_lk kt_23 t) := qm_lk_ok (List.forall_mem_cons.mpr ⟨⟨by decide, kc_23_0⟩, List.forall_mem_cons.mpr ⟨⟨by decide, kc_23_4⟩, List.forall_mem_cons.mpr ⟨⟨by decide, kc_23_29⟩, List.forall_mem_cons.mpr ⟨⟨by decide, kc_23_35⟩, fun _ h => absurd h List.not_mem_nil⟩⟩⟩⟩)
theorem kg_23 : qm_G1 (yX1_columnsOutside, cX1_columnsOutside, 4, some .int, 1, 1) (4, kt_23) := ⟨rfl, false, (fun z => by cases z), ka_23⟩
-- 24: TowerBoards$Board.faultOfStand
def kk_24_73 : List qm_I := (.iconst 0, 0, 0, 0) :: (.ireturn, 0, 0, 0) :: []
def kk_24_67 : List qm_I := (.iinc 3 0, 0, 0, 1) :: (.goto 17, 0, 0, 0) :: kk_24_73
def kk_24_60 : List qm_I := (.iload 2, 0, 0, 0) :: (.iconst 0, 0, 0, 1) :: (.iload 4, 0, 0, 0) :: (.ishl, 0, 0, 0) :: (.ior, 0, 0, 0) :: (.istore 2, 0, 0, 0) :: kk_24_67
def kk_24_58 : List qm_I := (.iconst 0, 0, 0, 3) :: (.ireturn, 0, 0, 0) :: kk_24_60
def kk_24_17 : List qm_I := (.iload 3, 0, 0, 0) :: (.aload 0, 0, 0, 0) :: (.getfield 1, 1, 0, 0) :: (.if_icmp .ge 73, 0, 0, 0) :: (.aload 1, 0, 0, 0) :: (.iload 3, 0, 0, 0) :: (.invokevirtual 64, 2, 7, 0) :: (.istore 4, 0, 0, 0) :: (.iload 4, 0, 0, 0) :: (.iconst 0, 0, 0, -9) :: (.if_icmp .eq 67, 0, 0, 0) :: (.aload 0, 0, 0, 0) :: (.iload 3, 0, 0, 0) :: (.iload 4, 0, 0, 0) :: (.invokevirtual 19, 3, 1, 0) :: (.ifCond .eq 58, 0, 0, 0) :: (.iload 2, 0, 0, 0) :: (.iconst 0, 0, 0, 1) :: (.iload 4, 0, 0, 0) :: (.ishl, 0, 0, 0) :: (.iand, 0, 0, 0) :: (.ifCond .eq 60, 0, 0, 0) :: kk_24_58
def kk_24_13 : List qm_I := (.iconst 0, 0, 0, 0) :: (.istore 2, 0, 0, 0) :: (.iconst 0, 0, 0, 0) :: (.istore 3, 0, 0, 0) :: kk_24_17
def kk_24_0 : List qm_I := (.aload 1, 0, 0, 0) :: (.getfield 7, 0, 0, 0) :: (.aload 0, 0, 0, 0) :: (.getfield 1, 1, 0, 0) :: (.if_icmp .eq 13, 0, 0, 0) :: (.iconst 0, 0, 0, 5) :: (.ireturn, 0, 0, 0) :: kk_24_13
def kt_24 : qm_T := [(0, kk_24_0), (13, kk_24_13), (17, kk_24_17), (58, kk_24_58), (60, kk_24_60), (67, kk_24_67), (73, kk_24_73)]
theorem kc_24_73 : qm_chain 1 false (some .int) cX1_faultOfStand 73 kk_24_73 := qm_chain_of _ _ _ _ 2 _ 75 _ (by decide +kernel) trivial
theorem kc_24_67 : qm_chain 1 false (some .int) cX1_faultOfStand 67 kk_24_67 := qm_chain_of _ _ _ _ 2 _ 73 _ (by decide +kernel) kc_24_73
theorem kc_24_60 : qm_chain 1 false (some .int) cX1_faultOfStand 60 kk_24_60 := qm_chain_of _ _ _ _ 6 _ 67 _ (by decide +kernel) kc_24_67
theorem kc_24_58 : qm_chain 1 false (some .int) cX1_faultOfStand 58 kk_24_58 := qm_chain_of _ _ _ _ 2 _ 60 _ (by decide +kernel) kc_24_60
theorem kc_24_17 : qm_chain 1 false (some .int) cX1_faultOfStand 17 kk_24_17 := qm_chain_of _ _ _ _ 22 _ 58 _ (by decide +kernel) kc_24_58
theorem kc_24_13 : qm_chain 1 false (some .int) cX1_faultOfStand 13 kk_24_13 := qm_chain_of _ _ _ _ 4 _ 17 _ (by decide +kernel) kc_24_17
theorem kc_24_0 : qm_chain 1 false (some .int) cX1_faultOfStand 0 kk_24_0 := qm_chain_of _ _ _ _ 7 _ 13 _ (by decide +kernel) kc_24_13
theorem ka_24 : ∀ t : Int, 0 ≤ t → qm_chain 1 false (some .int) cX1_faultOfStand t.toNat (qm_lk kt_24 t) := qm_lk_ok (List.forall_mem_cons.mpr ⟨⟨by decide, kc_24_0⟩, List.forall_mem_cons.mpr ⟨⟨by decide, kc_24_13⟩, List.forall_mem_cons.mpr ⟨⟨by decide, kc_24_17⟩, List.forall_mem_cons.mpr ⟨⟨by decide, kc_24_58⟩, List.forall_mem_cons.mpr ⟨⟨by decide, kc_24_60⟩, List.forall_mem_cons.mpr ⟨⟨by decide, kc_24_67⟩, List.forall_mem_cons.mpr ⟨⟨by decide, kc_24_73⟩, fun _ h => absurd h List.not_mem_nil⟩⟩⟩⟩⟩⟩⟩)
theorem kg_24 : qm_G1 (yX1_faultOfStand, cX1_faultOfStand, 5, some .int, 1, 1) (5, kt_24) := ⟨rfl, false, (fun z => by cases z), ka_24⟩
-- 25: TowerBoards$Board.faultOfWeights
def kk_25_36 : List qm_I := (.ireturn, 0, 0, 0) :: []
def kk_25_35 : List qm_I := (.iconst 0, 0, 0, 3) :: kk_25_36
def kk_25_18 : List qm_I := (.aload 1, 0, 0, 0) :: (.iconst 0, 0, 0, -1000) :: (.iconst 0, 0, 0, 1000) :: (.invokevirtual 66, 3, 7, 0) :: (.ifCond .eq 35, 0, 0, 0) :: (.iconst 0, 0, 0, 0) :: (.goto 36, 0, 0, 0) :: kk_25_35
def kk_25_0 : List qm_I := (.aload 1, 0, 0, 0) :: (.getfield 7, 0, 0, 0) :: (.aload 0, 0, 0, 0) :: (.getfield 1, 1, 0, 0) :: (.aload 0, 0, 0, 0) :: (.getfield 1, 2, 0, 0) :: (.imul, 0, 0, 0) :: (.if_icmp .eq 18, 0, 0, 0) :: (.iconst 0, 0, 0, 5) :: (.ireturn, 0, 0, 0) :: kk_25_18
def kt_25 : qm_T := [(0, kk_25_0), (18, kk_25_18), (35, kk_25_35), (36, kk_25_36)]
theorem kc_25_36 : qm_chain 1 false (some .int) cX1_faultOfWeights 36 kk_25_36 := qm_chain_of _ _ _ _ 1 _ 37 _ (by decide +kernel) trivial
theorem kc_25_35 : qm_chain 1 false (some .int) cX1_faultOfWeights 35 kk_25_35 := qm_chain_of _ _ _ _ 1 _ 36 _ (by decide +kernel) kc_25_36
theorem kc_25_18 : qm_chain 1 false (some .int) cX1_faultOfWeights 18 kk_25_18 := qm_chain_of _ _ _ _ 7 _ 35 _ (by decide +kernel) kc_25_35
theorem kc_25_0 : qm_chain 1 false (some .int) cX1_faultOfWeights 0 kk_25_0 := qm_chain_of _ _ _ _ 10 _ 18 _ (by decide +kernel) kc_25_18
theorem ka_25 : ∀ t : Int, 0 ≤ t → qm_chain 1 false (some .int) cX1_faultOfWeights t.toNat (qm_lk kt_25 t) := qm_lk_ok (List.forall_mem_cons.mpr ⟨⟨by decide, kc_25_0⟩, List.forall_mem_cons.mpr ⟨⟨by decide, kc_25_18⟩, List.forall_mem_cons.mpr ⟨⟨by decide, kc_25_35⟩, List.forall_mem_cons.mpr ⟨⟨by decide, kc_25_36⟩, fun _ h => absurd h List.not_mem_nil⟩⟩⟩⟩)
theorem kg_25 : qm_G1 (yX1_faultOfWeights, cX1_faultOfWeights, 2, some .int, 1, 1) (2, kt_25) := ⟨rfl, false, (fun z => by cases z), ka_25⟩
-- 26: TowerBoards$Board.digestOnto
def kk_26_78 : List qm_I := (.lload 3, 0, 0, 0) :: (.lreturn, 0, 0, 0) :: []
def kk_26_48 : List qm_I := (.iload 5, 0, 0, 0) :: (.aload 0, 0, 0, 0) :: (.getfield 1, 1, 0, 0) :: (.if_icmp .ge 78, 0, 0, 0) :: (.lconst 0, 0, 0, 31) :: (.lload 3, 0, 0, 0) :: (.lmul, 0, 0, 0) :: (.aload 0, 0, 0, 0) :: (.getfield 1, 3, 0, 0) :: (.iload 5, 0, 0, 0) :: (.iaload, 0, 0, 0) :: (.i2l, 0, 0, 0) :: (.ladd, 0, 0, 0) :: (.lstore 3, 0, 0, 0) :: (.iinc 5 0, 0, 0, 1) :: (.goto 48, 0, 0, 0) :: kk_26_78
def kk_26_21 : List qm_I := (.lconst 0, 0, 0, 31) :: (.lload 3, 0, 0, 0) :: (.lmul, 0, 0, 0) :: (.aload 0, 0, 0, 0) :: (.getfield 1, 1, 0, 0) :: (.i2l, 0, 0, 0) :: (.ladd, 0, 0, 0) :: (.lstore 3, 0, 0, 0) :: (.lconst 0, 0, 0, 31) :: (.lload 3, 0, 0, 0) :: (.lmul, 0, 0, 0) :: (.aload 0, 0, 0, 0) :: (.getfield 1, 2, 0, 0) :: (.i2l, 0, 0, 0) :: (.ladd, 0, 0, 0) :: (.lstore 3, 0, 0, 0) :: (.iconst 0, 0, 0, 0) :: (.istore 5, 0, 0, 0) :: kk_26_48
def kk_26_0 : List qm_I := (.lconst 0, 0, 0, 31) :: (.lload 1, 0, 0, 0) :: (.lmul, 0, 0, 0) :: (.aload 0, 0, 0, 0) :: (.getfield 1, 0, 0, 0) :: (.i2l, 0, 0, 0) :: (.ladd, 0, 0, 0) :: (.lstore 3, 0, 0, 0) :: (.aload 0, 0, 0, 0) :: (.invokevirtual 9, 1, 1, 0) :: (.ifCond .ne 21, 0, 0, 0) :: (.lload 3, 0, 0, 0) :: (.lreturn, 0, 0, 0) :: kk_26_21
def kt_26 : qm_T := [(0, kk_26_0), (21, kk_26_21), (48, kk_26_48), (78, kk_26_78)]
theorem kc_26_78 : qm_chain 1 false (some .long) cX1_digestOnto 78 kk_26_78 := qm_chain_of _ _ _ _ 2 _ 80 _ (by decide +kernel) trivial
theorem kc_26_48 : qm_chain 1 false (some .long) cX1_digestOnto 48 kk_26_48 := qm_chain_of _ _ _ _ 16 _ 78 _ (by decide +kernel) kc_26_78
theorem kc_26_21 : qm_chain 1 false (some .long) cX1_digestOnto 21 kk_26_21 := qm_chain_of _ _ _ _ 18 _ 48 _ (by decide +kernel) kc_26_48
theorem kc_26_0 : qm_chain 1 false (some .long) cX1_digestOnto 0 kk_26_0 := qm_chain_of _ _ _ _ 13 _ 21 _ (by decide +kernel) kc_26_21
theorem ka_26 : ∀ t : Int, 0 ≤ t → qm_chain 1 false (some .long) cX1_digestOnto t.toNat (qm_lk kt_26 t) := qm_lk_ok (List.forall_mem_cons.mpr ⟨⟨by decide, kc_26_0⟩, List.forall_mem_cons.mpr ⟨⟨by decide, kc_26_21⟩, List.forall_mem_cons.mpr ⟨⟨by decide, kc_26_48⟩, List.forall_mem_cons.mpr ⟨⟨by decide, kc_26_78⟩, fun _ h => absurd h List.not_mem_nil⟩⟩⟩⟩)
theorem kg_26 : qm_G1 (yX1_digestOnto, cX1_digestOnto, 6, some .long, 1, 1) (6, kt_26) := ⟨rfl, false, (fun z => by cases z), ka_26⟩
-- 27: TowerBoards$FreeCells.<init>
def kk_27_0 : List qm_I := (.aload 0, 0, 0, 0) :: (.invokespecial 0, 0, 0, 0) :: (.aload 0, 0, 0, 0) :: (.iconst 0, 0, 0, 2368) :: (.newarray .int, 0, 0, 0) :: (.putfield 2, 0, 2, 0) :: (.return_, 0, 0, 0) :: []
def kt_27 : qm_T := [(0, kk_27_0)]
theorem kc_27_0 : qm_chain 2 true (none) cX2_init 0 kk_27_0 := qm_chain_of _ _ _ _ 7 _ 14 _ (by decide +kernel) trivial
theorem ka_27 : ∀ t : Int, 0 ≤ t → qm_chain 2 true (none) cX2_init t.toNat (qm_lk kt_27 t) := qm_lk_ok (List.forall_mem_cons.mpr ⟨⟨by decide, kc_27_0⟩, fun _ h => absurd h List.not_mem_nil⟩)
theorem kg_27 : qm_G1 (yX2_init, cX2_init, 1, none, 2, 0) (1, kt_27) := ⟨rfl, true, (fun _ => rfl), ka_27⟩
-- 28: TowerBoards$FreeCells.findFor
def kk_28_76 : List qm_I := (.return_, 0, 0, 0) :: []
def kk_28_70 : List qm_I := (.iinc 2 0, 0, 0, 1) :: (.goto 17, 0, 0, 0) :: kk_28_76
def kk_28_64 : List qm_I := (.iinc 3 0, 0, 0, -1) :: (.goto 28, 0, 0, 0) :: kk_28_70
def kk_28_36 : List qm_I := (.iload 4, 0, 0, 0) :: (.ifCond .lt 64, 0, 0, 0) :: (.aload 0, 0, 0, 0) :: (.aload 1, 0, 0, 0) :: (.getfield 1, 3, 0, 0) :: (.iload 2, 0, 0, 0) :: (.iaload, 0, 0, 0) :: (.iload 3, 0, 0, 0) :: (.iconst 0, 0, 0, -1) :: (.ixor, 0, 0, 0) :: (.iand, 0, 0, 0) :: (.iload 3, 0, 0, 0) :: (.iload 4, 0, 0, 0) :: (.invokevirtual 29, 4, 2, 0) :: (.iinc 4 0, 0, 0, -1) :: (.goto 36, 0, 0, 0) :: kk_28_64
def kk_28_28 : List qm_I := (.iload 3, 0, 0, 0) :: (.ifCond .lt 70, 0, 0, 0) :: (.iconst 0, 0, 0, 36) :: (.istore 4, 0, 0, 0) :: kk_28_36
def kk_28_17 : List qm_I := (.iload 2, 0, 0, 0) :: (.aload 1, 0, 0, 0) :: (.getfield 1, 1, 0, 0) :: (.if_icmp .ge 76, 0, 0, 0) :: (.iconst 0, 0, 0, 63) :: (.istore 3, 0, 0, 0) :: kk_28_28
def kk_28_0 : List qm_I := (.aload 0, 0, 0, 0) :: (.getfield 2, 0, 0, 0) :: (.iconst 0, 0, 0, 0) :: (.invokestatic 222, 2, 0, 0) :: (.aload 0, 0, 0, 0) :: (.getfield 2, 0, 0, 0) :: (.iconst 0, 0, 0, 0) :: (.iconst 0, 0, 0, 1) :: (.iastore, 0, 0, 0) :: (.iconst 0, 0, 0, 0) :: (.istore 2, 0, 0, 0) :: kk_28_17
def kt_28 : qm_T := [(0, kk_28_0), (17, kk_28_17), (28, kk_28_28), (36, kk_28_36), (64, kk_28_64), (70, kk_28_70), (76, kk_28_76)]
theorem kc_28_76 : qm_chain 2 false (none) cX2_findFor 76 kk_28_76 := qm_chain_of _ _ _ _ 1 _ 77 _ (by decide +kernel) trivial
theorem kc_28_70 : qm_chain 2 false (none) cX2_findFor 70 kk_28_70 := qm_chain_of _ _ _ _ 2 _ 76 _ (by decide +kernel) kc_28_76
theorem kc_28_64 : qm_chain 2 false (none) cX2_findFor 64 kk_28_64 := qm_chain_of _ _ _ _ 2 _ 70 _ (by decide +kernel) kc_28_70
theorem kc_28_36 : qm_chain 2 false (none) cX2_findFor 36 kk_28_36 := qm_chain_of _ _ _ _ 16 _ 64 _ (by decide +kernel) kc_28_64
theorem kc_28_28 : qm_chain 2 false (none) cX2_findFor 28 kk_28_28 := qm_chain_of _ _ _ _ 4 _ 36 _ (by decide +kernel) kc_28_36
theorem kc_28_17 : qm_chain 2 false (none) cX2_findFor 17 kk_28_17 := qm_chain_of _ _ _ _ 6 _ 28 _ (by decide +kernel) kc_28_28
theorem kc_28_0 : qm_chain 2 false (none) cX2_findFor 0 kk_28_0 := qm_chain_of _ _ _ _ 11 _ 17 _ (by decide +kernel) kc_28_17
theorem ka_28 : ∀ t : Int, 0 ≤ t → qm_chain 2 false (none) cX2_findFor t.toNat (qm_lk kt_28 t) := qm_lk_ok (List.forall_mem_cons.mpr ⟨⟨by decide, kc_28_0⟩, List.forall_mem_cons.mpr ⟨⟨by decide, kc_28_17⟩, List.forall_mem_cons.mpr ⟨⟨by decide, kc_28_28⟩, List.forall_mem_cons.mpr ⟨⟨by decide, kc_28_36⟩, List.forall_mem_cons.mpr ⟨⟨by decide, kc_28_64⟩, List.forall_mem_cons.mpr ⟨⟨by decide, kc_28_70⟩, List.forall_mem_cons.mpr ⟨⟨by decide, kc_28_76⟩, fun _ h => absurd h List.not_mem_nil⟩⟩⟩⟩⟩⟩⟩)
theorem kg_28 : qm_G1 (yX2_findFor, cX2_findFor, 5, none, 2, 1) (5, kt_28) := ⟨rfl, false, (fun z => by cases z), ka_28⟩
-- 29: TowerBoards$FreeCells.addRow
def kk_29_98 : List qm_I := (.return_, 0, 0, 0) :: []
def kk_29_92 : List qm_I := (.iinc 5 0, 0, 0, 1) :: (.goto 47, 0, 0, 0) :: kk_29_98
def kk_29_47 : List qm_I := (.iload 5, 0, 0, 0) :: (.iconst 0, 0, 0, 6) :: (.if_icmp .ge 98, 0, 0, 0) :: (.iload 1, 0, 0, 0) :: (.iconst 0, 0, 0, 1) :: (.iload 5, 0, 0, 0) :: (.ishl, 0, 0, 0) :: (.iand, 0, 0, 0) :: (.ifCond .eq 92, 0, 0, 0) :: (.iload 1, 0, 0, 0) :: (.iconst 0, 0, 0, 1) :: (.iload 5, 0, 0, 0) :: (.ishl, 0, 0, 0) :: (.iconst 0, 0, 0, 1) :: (.isub, 0, 0, 0) :: (.iand, 0, 0, 0) :: (.istore 6, 0, 0, 0) :: (.aload 0, 0, 0, 0) :: (.iload 2, 0, 0, 0) :: (.iconst 0, 0, 0, 1) :: (.iload 5, 0, 0, 0) :: (.ishl, 0, 0, 0) :: (.ior, 0, 0, 0) :: (.iload 3, 0, 0, 0) :: (.iload 6, 0, 0, 0) :: (.invokestatic 220, 1, 0, 0) :: (.iadd, 0, 0, 0) :: (.iload 4, 0, 0, 0) :: (.invokevirtual 30, 4, 2, 0) :: kk_29_92
def kk_29_19 : List qm_I := (.aload 0, 0, 0, 0) :: (.getfield 2, 0, 0, 0) :: (.iload 2, 0, 0, 0) :: (.iconst 0, 0, 0, 37) :: (.imul, 0, 0, 0) :: (.iload 3, 0, 0, 0) :: (.iadd, 0, 0, 0) :: (.iconst 0, 0, 0, 0) :: (.iastore, 0, 0, 0) :: (.aload 0, 0, 0, 0) :: (.iload 2, 0, 0, 0) :: (.iload 3, 0, 0, 0) :: (.iload 1, 0, 0, 0) :: (.invokestatic 220, 1, 0, 0) :: (.iadd, 0, 0, 0) :: (.iload 4, 0, 0, 0) :: (.invokevirtual 30, 4, 2, 0) :: (.iconst 0, 0, 0, 0) :: (.istore 5, 0, 0, 0) :: kk_29_47
def kk_29_0 : List qm_I := (.aload 0, 0, 0, 0) :: (.getfield 2, 0, 0, 0) :: (.iload 2, 0, 0, 0) :: (.iconst 0, 0, 0, 37) :: (.imul, 0, 0, 0) :: (.iload 3, 0, 0, 0) :: (.iadd, 0, 0, 0) :: (.iaload, 0, 0, 0) :: (.istore 4, 0, 0, 0) :: (.iload 4, 0, 0, 0) :: (.ifCond .ne 19, 0, 0, 0) :: (.return_, 0, 0, 0) :: kk_29_19
def kt_29 : qm_T := [(0, kk_29_0), (19, kk_29_19), (47, kk_29_47), (92, kk_29_92), (98, kk_29_98)]
theorem kc_29_98 : qm_chain 2 false (none) cX2_addRow 98 kk_29_98 := qm_chain_of _ _ _ _ 1 _ 99 _ (by decide +kernel) trivial
theorem kc_29_92 : qm_chain 2 false (none) cX2_addRow 92 kk_29_92 := qm_chain_of _ _ _ _ 2 _ 98 _ (by decide +kernel) kc_29_98
theorem kc_29_47 : qm_chain 2 false (none) cX2_addRow 47 kk_29_47 := qm_chain_of _ _ _ _ 29 _ 92 _ (by decide +kernel) kc_29_92
theorem kc_29_19 : qm_chain 2 false (none) cX2_addRow 19 kk_29_19 := qm_chain_of _ _ _ _ 19 _ 47 _ (by decide +kernel) kc_29_47
theorem kc_29_0 : qm_chain 2 false (none) cX2_addRow 0 kk_29_0 := qm_chain_of _ _ _ _ 12 _ 19 _ (by decide +kernel) kc_29_19
theorem ka_29 : ∀ t : Int, 0 ≤ t → qm_chain 2 false (none) cX2_addRow t.toNat (qm_lk kt_29 t) := qm_lk_ok (List.forall_mem_cons.mpr ⟨⟨by decide, kc_29_0⟩, List.forall_mem_cons.mpr ⟨⟨by decide, kc_29_19⟩, List.forall_mem_cons.mpr ⟨⟨by decide, kc_29_47⟩, List.forall_mem_cons.mpr ⟨⟨by decide, kc_29_92⟩, List.forall_mem_cons.mpr ⟨⟨by decide, kc_29_98⟩, fun _ h => absurd h List.not_mem_nil⟩⟩⟩⟩⟩)
theorem kg_29 : qm_G1 (yX2_addRow, cX2_addRow, 7, none, 2, 3) (7, kt_29) := ⟨rfl, false, (fun z => by cases z), ka_29⟩
-- 30: TowerBoards$FreeCells.give
def kk_30_21 : List qm_I := (.return_, 0, 0, 0) :: []
def kk_30_0 : List qm_I := (.iload 2, 0, 0, 0) :: (.iconst 0, 0, 0, 37) :: (.if_icmp .ge 21, 0, 0, 0) :: (.aload 0, 0, 0, 0) :: (.getfield 2, 0, 0, 0) :: (.iload 1, 0, 0, 0) :: (.iconst 0, 0, 0, 37) :: (.imul, 0, 0, 0) :: (.iload 2, 0, 0, 0) :: (.iadd, 0, 0, 0) :: (.dup2, 0, 0, 0) :: (.iaload, 0, 0, 0) :: (.iload 3, 0, 0, 0) :: (.iadd, 0, 0, 0) :: (.iastore, 0, 0, 0) :: kk_30_21
def kt_30 : qm_T := [(0, kk_30_0), (21, kk_30_21)]
theorem kc_30_21 : qm_chain 2 false (none) cX2_give 21 kk_30_21 := qm_chain_of _ _ _ _ 1 _ 22 _ (by decide +kernel) trivial
theorem kc_30_0 : qm_chain 2 false (none) cX2_give 0 kk_30_0 := qm_chain_of _ _ _ _ 15 _ 21 _ (by decide +kernel) kc_30_21
theorem ka_30 : ∀ t : Int, 0 ≤ t → qm_chain 2 false (none) cX2_give t.toNat (qm_lk kt_30 t) := qm_lk_ok (List.forall_mem_cons.mpr ⟨⟨by decide, kc_30_0⟩, List.forall_mem_cons.mpr ⟨⟨by decide, kc_30_21⟩, fun _ h => absurd h List.not_mem_nil⟩⟩)
theorem kg_30 : qm_G1 (yX2_give, cX2_give, 4, none, 2, 3) (4, kt_30) := ⟨rfl, false, (fun z => by cases z), ka_30⟩
-- 31: TowerBoards$FreeCells.standsThatLeave
def kk_31_42 : List qm_I := (.iload 3, 0, 0, 0) :: (.ireturn, 0, 0, 0) :: []
def kk_31_36 : List qm_I := (.iinc 4 0, 0, 0, 1) :: (.goto 5, 0, 0, 0) :: kk_31_42
def kk_31_5 : List qm_I := (.iload 4, 0, 0, 0) :: (.iconst 0, 0, 0, 64) :: (.if_icmp .ge 42, 0, 0, 0) :: (.iload 4, 0, 0, 0) :: (.invokestatic 220, 1, 0, 0) :: (.iload 1, 0, 0, 0) :: (.if_icmp .ne 36, 0, 0, 0) :: (.iload 3, 0, 0, 0) :: (.aload 0, 0, 0, 0) :: (.getfield 2, 0, 0, 0) :: (.iload 4, 0, 0, 0) :: (.iconst 0, 0, 0, 37) :: (.imul, 0, 0, 0) :: (.iload 2, 0, 0, 0) :: (.iadd, 0, 0, 0) :: (.iaload, 0, 0, 0) :: (.iadd, 0, 0, 0) :: (.istore 3, 0, 0, 0) :: kk_31_36
def kk_31_0 : List qm_I := (.iconst 0, 0, 0, 0) :: (.istore 3, 0, 0, 0) :: (.iconst 0, 0, 0, 0) :: (.istore 4, 0, 0, 0) :: kk_31_5
def kt_31 : qm_T := [(0, kk_31_0), (5, kk_31_5), (36, kk_31_36), (42, kk_31_42)]
theorem kc_31_42 : qm_chain 2 false (some .int) cX2_standsThatLeave 42 kk_31_42 := qm_chain_of _ _ _ _ 2 _ 44 _ (by decide +kernel) trivial
theorem kc_31_36 : qm_chain 2 false (some .int) cX2_standsThatLeave 36 kk_31_36 := qm_chain_of _ _ _ _ 2 _ 42 _ (by decide +kernel) kc_31_42
theorem kc_31_5 : qm_chain 2 false (some .int) cX2_standsThatLeave 5 kk_31_5 := qm_chain_of _ _ _ _ 18 _ 36 _ (by decide +kernel) kc_31_36
theorem kc_31_0 : qm_chain 2 false (some .int) cX2_standsThatLeave 0 kk_31_0 := qm_chain_of _ _ _ _ 4 _ 5 _ (by decide +kernel) kc_31_5
theorem ka_31 : ∀ t : Int, 0 ≤ t → qm_chain 2 false (some .int) cX2_standsThatLeave t.toNat (qm_lk kt_31 t) := qm_lk_ok (List.forall_mem_cons.mpr ⟨⟨by decide, kc_31_0⟩, List.forall_mem_cons.mpr ⟨⟨by decide, kc_31_5⟩, List.forall_mem_cons.mpr ⟨⟨by decide, kc_31_36⟩, List.forall_mem_cons.mpr ⟨⟨by decide, kc_31_42⟩, fun _ h => absurd h List.not_mem_nil⟩⟩⟩⟩)
theorem kg_31 : qm_G1 (yX2_standsThatLeave, cX2_standsThatLeave, 5, some .int, 2, 2) (5, kt_31) := ⟨rfl, false, (fun z => by cases z), ka_31⟩
-- 32: TowerBoards$Lengths.<init>
def kk_32_0 : List qm_I := (.aload 0, 0, 0, 0) :: (.invokespecial 0, 0, 0, 0) :: (.aload 0, 0, 0, 0) :: (.iconst 0, 0, 0, 1) :: (.putfield 3, 0, 0, 0) :: (.aload 0, 0, 0, 0) :: (.iconst 0, 0, 0, 6) :: (.newarray .int, 0, 0, 0) :: (.putfield 3, 1, 2, 0) :: (.return_, 0, 0, 0) :: []
def kt_32 : qm_T := [(0, kk_32_0)]
theorem kc_32_0 : qm_chain 3 true (none) cX3_init 0 kk_32_0 := qm_chain_of _ _ _ _ 10 _ 18 _ (by decide +kernel) trivial
theorem ka_32 : ∀ t : Int, 0 ≤ t → qm_chain 3 true (none) cX3_init t.toNat (qm_lk kt_32 t) := qm_lk_ok (List.forall_mem_cons.mpr ⟨⟨by decide, kc_32_0⟩, fun _ h => absurd h List.not_mem_nil⟩)
theorem kg_32 : qm_G1 (yX3_init, cX3_init, 1, none, 3, 0) (1, kt_32) := ⟨rfl, true, (fun _ => rfl), ka_32⟩
-- 33: TowerBoards$Lengths.beginWith
def kk_33_0 : List qm_I := (.aload 0, 0, 0, 0) :: (.iload 1, 0, 0, 0) :: (.putfield 3, 0, 0, 0) :: (.aload 0, 0, 0, 0) :: (.getfield 3, 1, 0, 0) :: (.iconst 0, 0, 0, 0) :: (.invokestatic 222, 2, 0, 0) :: (.return_, 0, 0, 0) :: []
def kt_33 : qm_T := [(0, kk_33_0)]
theorem kc_33_0 : qm_chain 3 false (none) cX3_beginWith 0 kk_33_0 := qm_chain_of _ _ _ _ 8 _ 14 _ (by decide +kernel) trivial
theorem ka_33 : ∀ t : Int, 0 ≤ t → qm_chain 3 false (none) cX3_beginWith t.toNat (qm_lk kt_33 t) := qm_lk_ok (List.forall_mem_cons.mpr ⟨⟨by decide, kc_33_0⟩, fun _ h => absurd h List.not_mem_nil⟩)
theorem kg_33 : qm_G1 (yX3_beginWith, cX3_beginWith, 2, none, 3, 1) (2, kt_33) := ⟨rfl, false, (fun z => by cases z), ka_33⟩
-- 34: TowerBoards$Lengths.goOn
def kk_34_68 : List qm_I := (.iconst 0, 0, 0, 1) :: (.ireturn, 1, 0, 0) :: []
def kk_34_47 : List qm_I := (.iload 3, 0, 0, 0) :: (.aload 0, 0, 0, 0) :: (.getfield 3, 0, 0, 0) :: (.if_icmp .ge 68, 0, 0, 0) :: (.aload 0, 0, 0, 0) :: (.getfield 3, 1, 0, 0) :: (.iload 3, 0, 0, 0) :: (.iload 2, 0, 0, 0) :: (.iastore, 0, 0, 0) :: (.iinc 3 0, 0, 0, 1) :: (.goto 47, 0, 0, 0) :: kk_34_68
def kk_34_36 : List qm_I := (.aload 0, 0, 0, 0) :: (.getfield 3, 1, 0, 0) :: (.iload 1, 0, 0, 0) :: (.iaload, 0, 0, 0) :: (.iconst 0, 0, 0, 1) :: (.iadd, 0, 0, 0) :: (.istore 2, 0, 0, 0) :: (.iload 1, 0, 0, 0) :: (.istore 3, 0, 0, 0) :: kk_34_47
def kk_34_30 : List qm_I := (.iload 1, 0, 0, 0) :: (.ifCond .ge 36, 0, 0, 0) :: (.iconst 0, 0, 0, 0) :: (.ireturn, 1, 0, 0) :: kk_34_36
def kk_34_7 : List qm_I := (.iload 1, 0, 0, 0) :: (.ifCond .lt 30, 0, 0, 0) :: (.aload 0, 0, 0, 0) :: (.getfield 3, 1, 0, 0) :: (.iload 1, 0, 0, 0) :: (.iaload, 0, 0, 0) :: (.aload 0, 0, 0, 0) :: (.getfield 3, 0, 0, 0) :: (.if_icmp .ne 30, 0, 0, 0) :: (.iinc 1 0, 0, 0, -1) :: (.goto 7, 0, 0, 0) :: kk_34_30
def kk_34_0 : List qm_I := (.aload 0, 0, 0, 0) :: (.getfield 3, 0, 0, 0) :: (.iconst 0, 0, 0, 1) :: (.isub, 0, 0, 0) :: (.istore 1, 0, 0, 0) :: kk_34_7
def kt_34 : qm_T := [(0, kk_34_0), (7, kk_34_7), (30, kk_34_30), (36, kk_34_36), (47, kk_34_47), (68, kk_34_68)]
theorem kc_34_68 : qm_chain 3 false (some .boolean) cX3_goOn 68 kk_34_68 := qm_chain_of _ _ _ _ 2 _ 70 _ (by decide +kernel) trivial
theorem kc_34_47 : qm_chain 3 false (some .boolean) cX3_goOn 47 kk_34_47 := qm_chain_of _ _ _ _ 11 _ 68 _ (by decide +kernel) kc_34_68
theorem kc_34_36 : qm_chain 3 false (some .boolean) cX3_goOn 36 kk_34_36 := qm_chain_of _ _ _ _ 9 _ 47 _ (by decide +kernel) kc_34_47
theorem kc_34_30 : qm_chain 3 false (some .boolean) cX3_goOn 30 kk_34_30 := qm_chain_of _ _ _ _ 4 _ 36 _ (by decide +kernel) kc_34_36
theorem kc_34_7 : qm_chain 3 false (some .boolean) cX3_goOn 7 kk_34_7 := qm_chain_of _ _ _ _ 11 _ 30 _ (by decide +kernel) kc_34_30
theorem kc_34_0 : qm_chain 3 false (some .boolean) cX3_goOn 0 kk_34_0 := qm_chain_of _ _ _ _ 5 _ 7 _ (by decide +kernel) kc_34_7
theorem ka_34 : ∀ t : Int, 0 ≤ t → qm_chain 3 false (some .boolean) cX3_goOn t.toNat (qm_lk kt_34 t) := qm_lk_ok (List.forall_mem_cons.mpr ⟨⟨by decide, kc_34_0⟩, List.forall_mem_cons.mpr ⟨⟨by decide, kc_34_7⟩, List.forall_mem_cons.mpr ⟨⟨by decide, kc_34_30⟩, List.forall_mem_cons.mpr ⟨⟨by decide, kc_34_36⟩, List.forall_mem_cons.mpr ⟨⟨by decide, kc_34_47⟩, List.forall_mem_cons.mpr ⟨⟨by decide, kc_34_68⟩, fun _ h => absurd h List.not_mem_nil⟩⟩⟩⟩⟩⟩)
theorem kg_34 : qm_G1 (yX3_goOn, cX3_goOn, 4, some .boolean, 3, 0) (4, kt_34) := ⟨rfl, false, (fun z => by cases z), ka_34⟩
-- 35: TowerBoards$Lengths.haveCells
def kk_35_37 : List qm_I := (.ireturn, 1, 0, 0) :: []
def kk_35_36 : List qm_I := (.iconst 0, 0, 0, 0) :: kk_35_37
def kk_35_27 : List qm_I := (.iload 2, 0, 0, 0) :: (.iload 1, 0, 0, 0) :: (.if_icmp .ne 36, 0, 0, 0) :: (.iconst 0, 0, 0, 1) :: (.goto 37, 0, 0, 0) :: kk_35_36
def kk_35_4 : List qm_I := (.iload 3, 0, 0, 0) :: (.aload 0, 0, 0, 0) :: (.getfield 3, 0, 0, 0) :: (.if_icmp .ge 27, 0, 0, 0) :: (.iload 2, 0, 0, 0) :: (.aload 0, 0, 0, 0) :: (.getfield 3, 1, 0, 0) :: (.iload 3, 0, 0, 0) :: (.iaload, 0, 0, 0) :: (.iadd, 0, 0, 0) :: (.istore 2, 0, 0, 0) :: (.iinc 3 0, 0, 0, 1) :: (.goto 4, 0, 0, 0) :: kk_35_27
def kk_35_0 : List qm_I := (.iconst 0, 0, 0, 0) :: (.istore 2, 0, 0, 0) :: (.iconst 0, 0, 0, 0) :: (.istore 3, 0, 0, 0) :: kk_35_4
def kt_35 : qm_T := [(0, kk_35_0), (4, kk_35_4), (27, kk_35_27), (36, kk_35_36), (37, kk_35_37)]
theorem kc_35_37 : qm_chain 3 false (some .boolean) cX3_haveCells 37 kk_35_37 := qm_chain_of _ _ _ _ 1 _ 38 _ (by decide +kernel) trivial
theorem kc_35_36 : qm_chain 3 false (some .boolean) cX3_haveCells 36 kk_35_36 := qm_chain_of _ _ _ _ 1 _ 37 _ (by decide +kernel) kc_35_37
theorem kc_35_27 : qm_chain 3 false (some .boolean) cX3_haveCells 27 kk_35_27 := qm_chain_of _ _ _ _ 5 _ 36 _ (by decide +kernel) kc_35_36
theorem kc_35_4 : qm_chain 3 false (some .boolean) cX3_haveCells 4 kk_35_4 := qm_chain_of _ _ _ _ 13 _ 27 _ (by decide +kernel) kc_35_27
theorem kc_35_0 : qm_chain 3 false (some .boolean) cX3_haveCells 0 kk_35_0 := qm_chain_of _ _ _ _ 4 _ 4 _ (by decide +kernel) kc_35_4
theorem ka_35 : ∀ t : Int, 0 ≤ t → qm_chain 3 false (some .boolean) cX3_haveCells t.toNat (qm_lk kt_35 t) := qm_lk_ok (List.forall_mem_cons.mpr ⟨⟨by decide, kc_35_0⟩, List.forall_mem_cons.mpr ⟨⟨by decide, kc_35_4⟩, List.forall_mem_cons.mpr ⟨⟨by decide, kc_35_27⟩, List.forall_mem_cons.mpr ⟨⟨by decide, kc_35_36⟩, List.forall_mem_cons.mpr ⟨⟨by decide, kc_35_37⟩, fun _ h => absurd h List.not_mem_nil⟩⟩⟩⟩⟩)
theorem kg_35 : qm_G1 (yX3_haveCells, cX3_haveCells, 4, some .boolean, 3, 1) (4, kt_35) := ⟨rfl, false, (fun z => by cases z), ka_35⟩
-- 36: TowerBoards$Lengths.writeTo
def kk_36_36 : List qm_I := (.return_, 0, 0, 0) :: []
def kk_36_10 : List qm_I := (.iload 2, 0, 0, 0) :: (.aload 0, 0, 0, 0) :: (.getfield 3, 0, 0, 0) :: (.if_icmp .ge 36, 0, 0, 0) :: (.aload 1, 0, 0, 0) :: (.getfield 7, 1, 0, 0) :: (.iload 2, 0, 0, 0) :: (.aload 0, 0, 0, 0) :: (.getfield 3, 1, 0, 0) :: (.iload 2, 0, 0, 0) :: (.iaload, 0, 0, 0) :: (.iastore, 0, 0, 0) :: (.iinc 2 0, 0, 0, 1) :: (.goto 10, 0, 0, 0) :: kk_36_36
def kk_36_0 : List qm_I := (.aload 1, 0, 0, 0) :: (.aload 0, 0, 0, 0) :: (.getfield 3, 0, 0, 0) :: (.invokevirtual 61, 2, 7, 0) :: (.iconst 0, 0, 0, 0) :: (.istore 2, 0, 0, 0) :: kk_36_10
def kt_36 : qm_T := [(0, kk_36_0), (10, kk_36_10), (36, kk_36_36)]
theorem kc_36_36 : qm_chain 3 false (none) cX3_writeTo 36 kk_36_36 := qm_chain_of _ _ _ _ 1 _ 37 _ (by decide +kernel) trivial
theorem kc_36_10 : qm_chain 3 false (none) cX3_writeTo 10 kk_36_10 := qm_chain_of _ _ _ _ 14 _ 36 _ (by decide +kernel) kc_36_36
theorem kc_36_0 : qm_chain 3 false (none) cX3_writeTo 0 kk_36_0 := qm_chain_of _ _ _ _ 6 _ 10 _ (by decide +kernel) kc_36_10
theorem ka_36 : ∀ t : Int, 0 ≤ t → qm_chain 3 false (none) cX3_writeTo t.toNat (qm_lk kt_36 t) := qm_lk_ok (List.forall_mem_cons.mpr ⟨⟨by decide, kc_36_0⟩, List.forall_mem_cons.mpr ⟨⟨by decide, kc_36_10⟩, List.forall_mem_cons.mpr ⟨⟨by decide, kc_36_36⟩, fun _ h => absurd h List.not_mem_nil⟩⟩⟩)
theorem kg_36 : qm_G1 (yX3_writeTo, cX3_writeTo, 3, none, 3, 1) (3, kt_36) := ⟨rfl, false, (fun z => by cases z), ka_36⟩
