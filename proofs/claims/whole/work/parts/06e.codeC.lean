-- 71: TowerBoards.<init>
def kk_71_197 : List qm_I := (.return_, 0, 0, 0) :: []
def kk_71_172 : List qm_I := (.iload 1, 0, 0, 0) :: (.iconst 0, 0, 0, 12) :: (.if_icmp .ge 197, 0, 0, 0) :: (.aload 0, 0, 0, 0) :: (.getfield 8, 1, 0, 0) :: (.iload 1, 0, 0, 0) :: (.new 1, 0, 0, 0) :: (.dup, 0, 0, 0) :: (.invokevirtual 8, 1, 1, 0) :: (.aastore, 0, 0, 0) :: (.iinc 1 0, 0, 0, 1) :: (.goto 172, 0, 0, 0) :: kk_71_197
def kk_71_170 : List qm_I := (.iconst 0, 0, 0, 0) :: (.istore 1, 0, 0, 0) :: kk_71_172
def kk_71_145 : List qm_I := (.iload 1, 0, 0, 0) :: (.iconst 0, 0, 0, 8) :: (.if_icmp .ge 170, 0, 0, 0) :: (.aload 0, 0, 0, 0) :: (.getfield 8, 0, 0, 0) :: (.iload 1, 0, 0, 0) :: (.new 7, 0, 0, 0) :: (.dup, 0, 0, 0) :: (.invokevirtual 59, 1, 7, 0) :: (.aastore, 0, 0, 0) :: (.iinc 1 0, 0, 0, 1) :: (.goto 145, 0, 0, 0) :: kk_71_170
def kk_71_0 : List qm_I := (.aload 0, 0, 0, 0) :: (.invokespecial 0, 0, 0, 0) :: (.aload 0, 0, 0, 0) :: (.iconst 0, 0, 0, 8) :: (.anewarray 2, 0, 0, 0) :: (.putfield 8, 0, 2, 0) :: (.aload 0, 0, 0, 0) :: (.iconst 0, 0, 0, 12) :: (.anewarray 3, 0, 0, 0) :: (.putfield 8, 1, 2, 0) :: (.aload 0, 0, 0, 0) :: (.iconst 0, 0, 0, 6) :: (.newarray .int, 0, 0, 0) :: (.putfield 8, 2, 2, 0) :: (.aload 0, 0, 0, 0) :: (.new 1, 0, 0, 0) :: (.dup, 0, 0, 0) :: (.invokevirtual 8, 1, 1, 0) :: (.putfield 8, 3, 2, 0) :: (.aload 0, 0, 0, 0) :: (.new 5, 0, 0, 0) :: (.dup, 0, 0, 0) :: (.invokevirtual 42, 1, 5, 0) :: (.putfield 8, 4, 2, 0) :: (.aload 0, 0, 0, 0) :: (.new 5, 0, 0, 0) :: (.dup, 0, 0, 0) :: (.invokevirtual 42, 1, 5, 0) :: (.putfield 8, 5, 2, 0) :: (.aload 0, 0, 0, 0) :: (.new 6, 0, 0, 0) :: (.dup, 0, 0, 0) :: (.invokevirtual 52, 1, 6, 0) :: (.putfield 8, 6, 2, 0) :: (.aload 0, 0, 0, 0) :: (.new 2, 0, 0, 0) :: (.dup, 0, 0, 0) :: (.invokevirtual 27, 1, 2, 0) :: (.putfield 8, 7, 2, 0) :: (.aload 0, 0, 0, 0) :: (.new 4, 0, 0, 0) :: (.dup, 0, 0, 0) :: (.invokevirtual 37, 1, 4, 0) :: (.putfield 8, 8, 2, 0) :: (.aload 0, 0, 0, 0) :: (.new 3, 0, 0, 0) :: (.dup, 0, 0, 0) :: (.invokevirtual 32, 1, 3, 0) :: (.putfield 8, 9, 2, 0) :: (.aload 0, 0, 0, 0) :: (.new 0, 0, 0, 0) :: (.dup, 0, 0, 0) :: (.invokevirtual 0, 1, 0, 0) :: (.putfield 8, 10, 2, 0) :: (.aload 0, 0, 0, 0) :: (.lconst 0, 0, 0, 0) :: (.putfield 8, 11, 1, 0) :: (.aload 0, 0, 0, 0) :: (.iconst 0, 0, 0, 0) :: (.putfield 8, 12, 0, 0) :: (.aload 0, 0, 0, 0) :: (.lconst 0, 0, 0, 0) :: (.putfield 8, 13, 1, 0) :: (.aload 0, 0, 0, 0) :: (.lconst 0, 0, 0, 1) :: (.putfield 8, 14, 1, 0) :: (.aload 0, 0, 0, 0) :: (.iconst 0, 0, 0, 0) :: (.putfield 8, 15, 0, 0) :: (.iconst 0, 0, 0, 0) :: (.istore 1, 0, 0, 0) :: kk_71_145
def kt_71 : qm_T := [(0, kk_71_0), (145, kk_71_145), (170, kk_71_170), (172, kk_71_172), (197, kk_71_197)]
theorem kc_71_197 : qm_chain 8 true (none) cX8_init 197 kk_71_197 := qm_chain_of _ _ _ _ 1 _ 198 _ (by decide +kernel) trivial
theorem kc_71_172 : qm_chain 8 true (none) cX8_init 172 kk_71_172 := qm_chain_of _ _ _ _ 12 _ 197 _ (by decide +kernel) kc_71_197
theorem kc_71_170 : qm_chain 8 true (none) cX8_init 170 kk_71_170 := qm_chain_of _ _ _ _ 2 _ 172 _ (by decide +kernel) kc_71_172
theorem kc_71_145 : qm_chain 8 true (none) cX8_init 145 kk_71_145 := qm_chain_of _ _ _ _ 12 _ 170 _ (by decide +kernel) kc_71_170
theorem kc_71_0 : qm_chain 8 true (none) cX8_init 0 kk_71_0 := qm_chain_of _ _ _ _ 71 _ 145 _ (by decide +kernel) kc_71_145
theorem ka_71 : ∀ t : Int, 0 ≤ t → qm_chain 8 true (none) cX8_init t.toNat (qm_lk kt_71 t) := qm_lk_ok (List.forall_mem_cons.mpr ⟨⟨by decide, kc_71_0⟩, List.forall_mem_cons.mpr ⟨⟨by decide, kc_71_145⟩, List.forall_mem_cons.mpr ⟨⟨by decide, kc_71_170⟩, List.forall_mem_cons.mpr ⟨⟨by decide, kc_71_172⟩, List.forall_mem_cons.mpr ⟨⟨by decide, kc_71_197⟩, fun _ h => absurd h List.not_mem_nil⟩⟩⟩⟩⟩)
theorem kg_71 : qm_G1 (yX8_init, cX8_init, 2, none, 8, 0) (2, kt_71) := ⟨rfl, true, (fun _ => rfl), ka_71⟩
-- 72: TowerBoards.row
def kk_72_25 : List qm_I := (.aload 0, 0, 0, 0) :: (.getfield 8, 0, 0, 0) :: (.iload 1, 0, 0, 0) :: (.aaload, 0, 0, 0) :: (.iload 2, 0, 0, 0) :: (.invokevirtual 61, 2, 7, 0) :: (.iload 2, 0, 0, 0) :: (.ireturn, 0, 0, 0) :: []
def kk_72_15 : List qm_I := (.iload 2, 0, 0, 0) :: (.ifCond .ge 25, 0, 0, 0) :: (.aload 0, 0, 0, 0) :: (.iconst 0, 0, 0, 5) :: (.invokevirtual 123, 2, 8, 0) :: (.ireturn, 0, 0, 0) :: kk_72_25
def kk_72_13 : List qm_I := (.iconst 0, 0, 0, -1) :: (.ireturn, 0, 0, 0) :: kk_72_15
def kk_72_0 : List qm_I := (.iload 1, 0, 0, 0) :: (.invokestatic 119, 1, 0, 0) :: (.ifCond .eq 13, 0, 0, 0) :: (.iload 2, 0, 0, 0) :: (.iconst 0, 0, 0, 36) :: (.if_icmp .le 15, 0, 0, 0) :: kk_72_13
def kt_72 : qm_T := [(0, kk_72_0), (13, kk_72_13), (15, kk_72_15), (25, kk_72_25)]
theorem kc_72_25 : qm_chain 8 false (some .int) cX8_row 25 kk_72_25 := qm_chain_of _ _ _ _ 8 _ 37 _ (by decide +kernel) trivial
theorem kc_72_15 : qm_chain 8 false (some .int) cX8_row 15 kk_72_15 := qm_chain_of _ _ _ _ 6 _ 25 _ (by decide +kernel) kc_72_25
theorem kc_72_13 : qm_chain 8 false (some .int) cX8_row 13 kk_72_13 := qm_chain_of _ _ _ _ 2 _ 15 _ (by decide +kernel) kc_72_15
theorem kc_72_0 : qm_chain 8 false (some .int) cX8_row 0 kk_72_0 := qm_chain_of _ _ _ _ 6 _ 13 _ (by decide +kernel) kc_72_13
theorem ka_72 : ∀ t : Int, 0 ≤ t → qm_chain 8 false (some .int) cX8_row t.toNat (qm_lk kt_72 t) := qm_lk_ok (List.forall_mem_cons.mpr ⟨⟨by decide, kc_72_0⟩, List.forall_mem_cons.mpr ⟨⟨by decide, kc_72_13⟩, List.forall_mem_cons.mpr ⟨⟨by decide, kc_72_15⟩, List.forall_mem_cons.mpr ⟨⟨by decide, kc_72_25⟩, fun _ h => absurd h List.not_mem_nil⟩⟩⟩⟩)
theorem kg_72 : qm_G1 (yX8_row, cX8_row, 3, some .int, 8, 2) (3, kt_72) := ⟨rfl, false, (fun z => by cases z), ka_72⟩
-- 73: TowerBoards.lay
def kk_73_42 : List qm_I := (.aload 0, 0, 0, 0) :: (.aload 4, 0, 0, 0) :: (.getfield 7, 1, 0, 0) :: (.iload 2, 0, 0, 0) :: (.iaload, 0, 0, 0) :: (.putfield 8, 12, 0, 0) :: (.aload 4, 0, 0, 0) :: (.getfield 7, 1, 0, 0) :: (.iload 2, 0, 0, 0) :: (.iload 3, 0, 0, 0) :: (.iastore, 0, 0, 0) :: (.iconst 0, 0, 0, 1) :: (.ireturn, 0, 0, 0) :: []
def kk_73_27 : List qm_I := (.aload 4, 0, 0, 0) :: (.iload 2, 0, 0, 0) :: (.invokevirtual 62, 2, 7, 0) :: (.ifCond .ne 42, 0, 0, 0) :: (.aload 0, 0, 0, 0) :: (.iconst 0, 0, 0, 2) :: (.invokevirtual 123, 2, 8, 0) :: (.ireturn, 0, 0, 0) :: kk_73_42
def kk_73_9 : List qm_I := (.aload 0, 0, 0, 0) :: (.iload 1, 0, 0, 0) :: (.invokevirtual 121, 2, 8, 0) :: (.astore 4, 0, 0, 0) :: (.aload 4, 0, 0, 0) :: (.ifnonnull 27, 0, 0, 0) :: (.aload 0, 0, 0, 0) :: (.iconst 0, 0, 0, 1) :: (.invokevirtual 123, 2, 8, 0) :: (.ireturn, 0, 0, 0) :: kk_73_27
def kk_73_0 : List qm_I := (.iload 1, 0, 0, 0) :: (.invokestatic 119, 1, 0, 0) :: (.ifCond .ne 9, 0, 0, 0) :: (.iconst 0, 0, 0, -1) :: (.ireturn, 0, 0, 0) :: kk_73_9
def kt_73 : qm_T := [(0, kk_73_0), (9, kk_73_9), (27, kk_73_27), (42, kk_73_42)]
theorem kc_73_42 : qm_chain 8 false (some .int) cX8_lay 42 kk_73_42 := qm_chain_of _ _ _ _ 13 _ 63 _ (by decide +kernel) trivial
theorem kc_73_27 : qm_chain 8 false (some .int) cX8_lay 27 kk_73_27 := qm_chain_of _ _ _ _ 8 _ 42 _ (by decide +kernel) kc_73_42
theorem kc_73_9 : qm_chain 8 false (some .int) cX8_lay 9 kk_73_9 := qm_chain_of _ _ _ _ 10 _ 27 _ (by decide +kernel) kc_73_27
theorem kc_73_0 : qm_chain 8 false (some .int) cX8_lay 0 kk_73_0 := qm_chain_of _ _ _ _ 5 _ 9 _ (by decide +kernel) kc_73_9
theorem ka_73 : ∀ t : Int, 0 ≤ t → qm_chain 8 false (some .int) cX8_lay t.toNat (qm_lk kt_73 t) := qm_lk_ok (List.forall_mem_cons.mpr ⟨⟨by decide, kc_73_0⟩, List.forall_mem_cons.mpr ⟨⟨by decide, kc_73_9⟩, List.forall_mem_cons.mpr ⟨⟨by decide, kc_73_27⟩, List.forall_mem_cons.mpr ⟨⟨by decide, kc_73_42⟩, fun _ h => absurd h List.not_mem_nil⟩⟩⟩⟩)
theorem kg_73 : qm_G1 (yX8_lay, cX8_lay, 5, some .int, 8, 3) (5, kt_73) := ⟨rfl, false, (fun z => by cases z), ka_73⟩
-- 74: TowerBoards.tear
def kk_74_25 : List qm_I := (.aload 2, 0, 0, 0) :: (.iconst 0, 0, 0, -1) :: (.putfield 7, 0, 0, 0) :: (.iconst 0, 0, 0, 1) :: (.ireturn, 0, 0, 0) :: []
def kk_74_9 : List qm_I := (.aload 0, 0, 0, 0) :: (.iload 1, 0, 0, 0) :: (.invokevirtual 121, 2, 8, 0) :: (.astore 2, 0, 0, 0) :: (.aload 2, 0, 0, 0) :: (.ifnonnull 25, 0, 0, 0) :: (.aload 0, 0, 0, 0) :: (.iconst 0, 0, 0, 1) :: (.invokevirtual 123, 2, 8, 0) :: (.ireturn, 0, 0, 0) :: kk_74_25
def kk_74_0 : List qm_I := (.iload 1, 0, 0, 0) :: (.invokestatic 119, 1, 0, 0) :: (.ifCond .ne 9, 0, 0, 0) :: (.iconst 0, 0, 0, -1) :: (.ireturn, 0, 0, 0) :: kk_74_9
def kt_74 : qm_T := [(0, kk_74_0), (9, kk_74_9), (25, kk_74_25)]
theorem kc_74_25 : qm_chain 8 false (some .int) cX8_tear 25 kk_74_25 := qm_chain_of _ _ _ _ 5 _ 32 _ (by decide +kernel) trivial
theorem kc_74_9 : qm_chain 8 false (some .int) cX8_tear 9 kk_74_9 := qm_chain_of _ _ _ _ 10 _ 25 _ (by decide +kernel) kc_74_25
theorem kc_74_0 : qm_chain 8 false (some .int) cX8_tear 0 kk_74_0 := qm_chain_of _ _ _ _ 5 _ 9 _ (by decide +kernel) kc_74_9
theorem ka_74 : ∀ t : Int, 0 ≤ t → qm_chain 8 false (some .int) cX8_tear t.toNat (qm_lk kt_74 t) := qm_lk_ok (List.forall_mem_cons.mpr ⟨⟨by decide, kc_74_0⟩, List.forall_mem_cons.mpr ⟨⟨by decide, kc_74_9⟩, List.forall_mem_cons.mpr ⟨⟨by decide, kc_74_25⟩, fun _ h => absurd h List.not_mem_nil⟩⟩⟩)
theorem kg_74 : qm_G1 (yX8_tear, cX8_tear, 3, some .int, 8, 1) (3, kt_74) := ⟨rfl, false, (fun z => by cases z), ka_74⟩
-- 75: TowerBoards.copy
def kk_75_86 : List qm_I := (.aload 6, 0, 0, 0) :: (.getfield 7, 1, 0, 0) :: (.iload 2, 0, 0, 0) :: (.aload 7, 0, 0, 0) :: (.getfield 7, 1, 0, 0) :: (.iload 4, 0, 0, 0) :: (.iload 5, 0, 0, 0) :: (.invokespecial 1, 0, 0, 0) :: (.iconst 0, 0, 0, 1) :: (.ireturn, 0, 0, 0) :: []
def kk_75_80 : List qm_I := (.aload 0, 0, 0, 0) :: (.iconst 0, 0, 0, 2) :: (.invokevirtual 123, 2, 8, 0) :: (.ireturn, 0, 0, 0) :: kk_75_86
def kk_75_57 : List qm_I := (.aload 6, 0, 0, 0) :: (.iload 2, 0, 0, 0) :: (.iload 5, 0, 0, 0) :: (.invokevirtual 63, 3, 7, 0) :: (.ifCond .eq 80, 0, 0, 0) :: (.aload 7, 0, 0, 0) :: (.iload 4, 0, 0, 0) :: (.iload 5, 0, 0, 0) :: (.invokevirtual 63, 3, 7, 0) :: (.ifCond .ne 86, 0, 0, 0) :: kk_75_80
def kk_75_51 : List qm_I := (.aload 0, 0, 0, 0) :: (.iconst 0, 0, 0, 1) :: (.invokevirtual 123, 2, 8, 0) :: (.ireturn, 0, 0, 0) :: kk_75_57
def kk_75_27 : List qm_I := (.aload 0, 0, 0, 0) :: (.iload 1, 0, 0, 0) :: (.invokevirtual 121, 2, 8, 0) :: (.astore 6, 0, 0, 0) :: (.aload 0, 0, 0, 0) :: (.iload 3, 0, 0, 0) :: (.invokevirtual 121, 2, 8, 0) :: (.astore 7, 0, 0, 0) :: (.aload 6, 0, 0, 0) :: (.ifnull 51, 0, 0, 0) :: (.aload 7, 0, 0, 0) :: (.ifnonnull 57, 0, 0, 0) :: kk_75_51
def kk_75_16 : List qm_I := (.iload 5, 0, 0, 0) :: (.ifCond .ge 27, 0, 0, 0) :: (.aload 0, 0, 0, 0) :: (.iconst 0, 0, 0, 5) :: (.invokevirtual 123, 2, 8, 0) :: (.ireturn, 0, 0, 0) :: kk_75_27
def kk_75_14 : List qm_I := (.iconst 0, 0, 0, -1) :: (.ireturn, 0, 0, 0) :: kk_75_16
def kk_75_0 : List qm_I := (.iload 1, 0, 0, 0) :: (.invokestatic 119, 1, 0, 0) :: (.ifCond .eq 14, 0, 0, 0) :: (.iload 3, 0, 0, 0) :: (.invokestatic 119, 1, 0, 0) :: (.ifCond .ne 16, 0, 0, 0) :: kk_75_14
def kt_75 : qm_T := [(0, kk_75_0), (14, kk_75_14), (16, kk_75_16), (27, kk_75_27), (51, kk_75_51), (57, kk_75_57), (80, kk_75_80), (86, kk_75_86)]
theorem kc_75_86 : qm_chain 8 false (some .int) cX8_copy 86 kk_75_86 := qm_chain_of _ _ _ _ 10 _ 106 _ (by decide +kernel) trivial
theorem kc_75_80 : qm_chain 8 false (some .int) cX8_copy 80 kk_75_80 := qm_chain_of _ _ _ _ 4 _ 86 _ (by decide +kernel) kc_75_86
theorem kc_75_57 : qm_chain 8 false (some .int) cX8_copy 57 kk_75_57 := qm_chain_of _ _ _ _ 10 _ 80 _ (by decide +kernel) kc_75_80
theorem kc_75_51 : qm_chain 8 false (some .int) cX8_copy 51 kk_75_51 := qm_chain_of _ _ _ _ 4 _ 57 _ (by decide +kernel) kc_75_57
theorem kc_75_27 : qm_chain 8 false (some .int) cX8_copy 27 kk_75_27 := qm_chain_of _ _ _ _ 12 _ 51 _ (by decide +kernel) kc_75_51
theorem kc_75_16 : qm_chain 8 false (some .int) cX8_copy 16 kk_75_16 := qm_chain_of _ _ _ _ 6 _ 27 _ (by decide +kernel) kc_75_27
theorem kc_75_14 : qm_chain 8 false (some .int) cX8_copy 14 kk_75_14 := qm_chain_of _ _ _ _ 2 _ 16 _ (by decide +kernel) kc_75_16
theorem kc_75_0 : qm_chain 8 false (some .int) cX8_copy 0 kk_75_0 := qm_chain_of _ _ _ _ 6 _ 14 _ (by decide +kernel) kc_75_14
theorem ka_75 : ∀ t : Int, 0 ≤ t → qm_chain 8 false (some .int) cX8_copy t.toNat (qm_lk kt_75 t) := qm_lk_ok (List.forall_mem_cons.mpr ⟨⟨by decide, kc_75_0⟩, List.forall_mem_cons.mpr ⟨⟨by decide, kc_75_14⟩, List.forall_mem_cons.mpr ⟨⟨by decide, kc_75_16⟩, List.forall_mem_cons.mpr ⟨⟨by decide, kc_75_27⟩, List.forall_mem_cons.mpr ⟨⟨by decide, kc_75_51⟩, List.forall_mem_cons.mpr ⟨⟨by decide, kc_75_57⟩, List.forall_mem_cons.mpr ⟨⟨by decide, kc_75_80⟩, List.forall_mem_cons.mpr ⟨⟨by decide, kc_75_86⟩, fun _ h => absurd h List.not_mem_nil⟩⟩⟩⟩⟩⟩⟩⟩)
theorem kg_75 : qm_G1 (yX8_copy, cX8_copy, 8, some .int, 8, 5) (8, kt_75) := ⟨rfl, false, (fun z => by cases z), ka_75⟩
-- 76: TowerBoards.mean
def kk_76_38 : List qm_I := (.aload 0, 0, 0, 0) :: (.aload 2, 0, 0, 0) :: (.invokevirtual 65, 1, 7, 0) :: (.aload 2, 0, 0, 0) :: (.getfield 7, 0, 0, 0) :: (.i2l, 0, 0, 0) :: (.ldiv, 0, 0, 0) :: (.l2i, 0, 0, 0) :: (.putfield 8, 12, 0, 0) :: (.iconst 0, 0, 0, 1) :: (.ireturn, 0, 0, 0) :: []
def kk_76_25 : List qm_I := (.aload 2, 0, 0, 0) :: (.getfield 7, 0, 0, 0) :: (.ifCond .ne 38, 0, 0, 0) :: (.aload 0, 0, 0, 0) :: (.iconst 0, 0, 0, 4) :: (.invokevirtual 123, 2, 8, 0) :: (.ireturn, 0, 0, 0) :: kk_76_38
def kk_76_9 : List qm_I := (.aload 0, 0, 0, 0) :: (.iload 1, 0, 0, 0) :: (.invokevirtual 121, 2, 8, 0) :: (.astore 2, 0, 0, 0) :: (.aload 2, 0, 0, 0) :: (.ifnonnull 25, 0, 0, 0) :: (.aload 0, 0, 0, 0) :: (.iconst 0, 0, 0, 1) :: (.invokevirtual 123, 2, 8, 0) :: (.ireturn, 0, 0, 0) :: kk_76_25
def kk_76_0 : List qm_I := (.iload 1, 0, 0, 0) :: (.invokestatic 119, 1, 0, 0) :: (.ifCond .ne 9, 0, 0, 0) :: (.iconst 0, 0, 0, -1) :: (.ireturn, 0, 0, 0) :: kk_76_9
def kt_76 : qm_T := [(0, kk_76_0), (9, kk_76_9), (25, kk_76_25), (38, kk_76_38)]
theorem kc_76_38 : qm_chain 8 false (some .int) cX8_mean 38 kk_76_38 := qm_chain_of _ _ _ _ 11 _ 55 _ (by decide +kernel) trivial
theorem kc_76_25 : qm_chain 8 false (some .int) cX8_mean 25 kk_76_25 := qm_chain_of _ _ _ _ 7 _ 38 _ (by decide +kernel) kc_76_38
theorem kc_76_9 : qm_chain 8 false (some .int) cX8_mean 9 kk_76_9 := qm_chain_of _ _ _ _ 10 _ 25 _ (by decide +kernel) kc_76_25
theorem kc_76_0 : qm_chain 8 false (some .int) cX8_mean 0 kk_76_0 := qm_chain_of _ _ _ _ 5 _ 9 _ (by decide +kernel) kc_76_9
theorem ka_76 : ∀ t : Int, 0 ≤ t → qm_chain 8 false (some .int) cX8_mean t.toNat (qm_lk kt_76 t) := qm_lk_ok (List.forall_mem_cons.mpr ⟨⟨by decide, kc_76_0⟩, List.forall_mem_cons.mpr ⟨⟨by decide, kc_76_9⟩, List.forall_mem_cons.mpr ⟨⟨by decide, kc_76_25⟩, List.forall_mem_cons.mpr ⟨⟨by decide, kc_76_38⟩, fun _ h => absurd h List.not_mem_nil⟩⟩⟩⟩)
theorem kg_76 : qm_G1 (yX8_mean, cX8_mean, 3, some .int, 8, 1) (3, kt_76) := ⟨rfl, false, (fun z => by cases z), ka_76⟩
-- 77: TowerBoards.board
def kk_77_135 : List qm_I := (.aload 0, 0, 0, 0) :: (.iload 1, 0, 0, 0) :: (.invokevirtual 124, 2, 8, 0) :: (.ireturn, 0, 0, 0) :: []
def kk_77_101 : List qm_I := (.iload 5, 0, 0, 0) :: (.aload 4, 0, 0, 0) :: (.getfield 7, 0, 0, 0) :: (.if_icmp .ge 135, 0, 0, 0) :: (.aload 0, 0, 0, 0) :: (.getfield 8, 3, 0, 0) :: (.getfield 1, 3, 0, 0) :: (.iload 5, 0, 0, 0) :: (.aload 4, 0, 0, 0) :: (.getfield 7, 1, 0, 0) :: (.iload 5, 0, 0, 0) :: (.iaload, 0, 0, 0) :: (.iastore, 0, 0, 0) :: (.iinc 5 0, 0, 0, 1) :: (.goto 101, 0, 0, 0) :: kk_77_135
def kk_77_84 : List qm_I := (.aload 0, 0, 0, 0) :: (.getfield 8, 3, 0, 0) :: (.iconst 0, 0, 0, 0) :: (.aload 4, 0, 0, 0) :: (.getfield 7, 0, 0, 0) :: (.iload 2, 0, 0, 0) :: (.invokevirtual 10, 4, 1, 0) :: (.iconst 0, 0, 0, 0) :: (.istore 5, 0, 0, 0) :: kk_77_101
def kk_77_64 : List qm_I := (.aload 4, 0, 0, 0) :: (.iconst 0, 0, 0, 0) :: (.iconst 0, 0, 0, 1) :: (.iload 2, 0, 0, 0) :: (.ishl, 0, 0, 0) :: (.iconst 0, 0, 0, 1) :: (.isub, 0, 0, 0) :: (.invokevirtual 66, 3, 7, 0) :: (.ifCond .ne 84, 0, 0, 0) :: (.aload 0, 0, 0, 0) :: (.iconst 0, 0, 0, 3) :: (.invokevirtual 123, 2, 8, 0) :: (.ireturn, 0, 0, 0) :: kk_77_84
def kk_77_44 : List qm_I := (.aload 4, 0, 0, 0) :: (.getfield 7, 0, 0, 0) :: (.iconst 0, 0, 0, 1) :: (.iconst 0, 0, 0, 6) :: (.invokestatic 118, 3, 0, 0) :: (.ifCond .ne 64, 0, 0, 0) :: (.aload 0, 0, 0, 0) :: (.iconst 0, 0, 0, 5) :: (.invokevirtual 123, 2, 8, 0) :: (.ireturn, 0, 0, 0) :: kk_77_64
def kk_77_26 : List qm_I := (.aload 0, 0, 0, 0) :: (.iload 3, 0, 0, 0) :: (.invokevirtual 121, 2, 8, 0) :: (.astore 4, 0, 0, 0) :: (.aload 4, 0, 0, 0) :: (.ifnonnull 44, 0, 0, 0) :: (.aload 0, 0, 0, 0) :: (.iconst 0, 0, 0, 1) :: (.invokevirtual 123, 2, 8, 0) :: (.ireturn, 0, 0, 0) :: kk_77_44
def kk_77_24 : List qm_I := (.iconst 0, 0, 0, -1) :: (.ireturn, 0, 0, 0) :: kk_77_26
def kk_77_0 : List qm_I := (.iload 1, 0, 0, 0) :: (.invokestatic 120, 1, 0, 0) :: (.ifCond .eq 24, 0, 0, 0) :: (.iload 2, 0, 0, 0) :: (.iconst 0, 0, 0, 1) :: (.iconst 0, 0, 0, 6) :: (.invokestatic 118, 3, 0, 0) :: (.ifCond .eq 24, 0, 0, 0) :: (.iload 3, 0, 0, 0) :: (.invokestatic 119, 1, 0, 0) :: (.ifCond .ne 26, 0, 0, 0) :: kk_77_24
def kt_77 : qm_T := [(0, kk_77_0), (24, kk_77_24), (26, kk_77_26), (44, kk_77_44), (64, kk_77_64), (84, kk_77_84), (101, kk_77_101), (135, kk_77_135)]
theorem kc_77_135 : qm_chain 8 false (some .int) cX8_board 135 kk_77_135 := qm_chain_of _ _ _ _ 4 _ 141 _ (by decide +kernel) trivial
theorem kc_77_101 : qm_chain 8 false (some .int) cX8_board 101 kk_77_101 := qm_chain_of _ _ _ _ 15 _ 135 _ (by decide +kernel) kc_77_135
theorem kc_77_84 : qm_chain 8 false (some .int) cX8_board 84 kk_77_84 := qm_chain_of _ _ _ _ 9 _ 101 _ (by decide +kernel) kc_77_101
theorem kc_77_64 : qm_chain 8 false (some .int) cX8_board 64 kk_77_64 := qm_chain_of _ _ _ _ 13 _ 84 _ (by decide +kernel) kc_77_84
theorem kc_77_44 : qm_chain 8 false (some .int) cX8_board 44 kk_77_44 := qm_chain_of _ _ _ _ 10 _ 64 _ (by decide +kernel) kc_77_64
theorem kc_77_26 : qm_chain 8 false (some .int) cX8_board 26 kk_77_26 := qm_chain_of _ _ _ _ 10 _ 44 _ (by decide +kernel) kc_77_44
theorem kc_77_24 : qm_chain 8 false (some .int) cX8_board 24 kk_77_24 := qm_chain_of _ _ _ _ 2 _ 26 _ (by decide +kernel) kc_77_26
theorem kc_77_0 : qm_chain 8 false (some .int) cX8_board 0 kk_77_0 := qm_chain_of _ _ _ _ 11 _ 24 _ (by decide +kernel) kc_77_24
theorem ka_77 : ∀ t : Int, 0 ≤ t → qm_chain 8 false (some .int) cX8_board t.toNat (qm_lk kt_77 t) := qm_lk_ok (List.forall_mem_cons.mpr ⟨⟨by decide, kc_77_0⟩, List.forall_mem_cons.mpr ⟨⟨by decide, kc_77_24⟩, List.forall_mem_cons.mpr ⟨⟨by decide, kc_77_26⟩, List.forall_mem_cons.mpr ⟨⟨by decide, kc_77_44⟩, List.forall_mem_cons.mpr ⟨⟨by decide, kc_77_64⟩, List.forall_mem_cons.mpr ⟨⟨by decide, kc_77_84⟩, List.forall_mem_cons.mpr ⟨⟨by decide, kc_77_101⟩, List.forall_mem_cons.mpr ⟨⟨by decide, kc_77_135⟩, fun _ h => absurd h List.not_mem_nil⟩⟩⟩⟩⟩⟩⟩⟩)
theorem kg_77 : qm_G1 (yX8_board, cX8_board, 6, some .int, 8, 3) (6, kt_77) := ⟨rfl, false, (fun z => by cases z), ka_77⟩
-- 78: TowerBoards.stairs
def kk_78_143 : List qm_I := (.aload 0, 0, 0, 0) :: (.iload 1, 0, 0, 0) :: (.invokevirtual 124, 2, 8, 0) :: (.ireturn, 0, 0, 0) :: []
def kk_78_105 : List qm_I := (.iload 5, 0, 0, 0) :: (.aload 4, 0, 0, 0) :: (.getfield 7, 0, 0, 0) :: (.if_icmp .ge 143, 0, 0, 0) :: (.aload 0, 0, 0, 0) :: (.getfield 8, 3, 0, 0) :: (.getfield 1, 3, 0, 0) :: (.iload 5, 0, 0, 0) :: (.iconst 0, 0, 0, 1) :: (.aload 4, 0, 0, 0) :: (.getfield 7, 1, 0, 0) :: (.iload 5, 0, 0, 0) :: (.iaload, 0, 0, 0) :: (.ishl, 0, 0, 0) :: (.iconst 0, 0, 0, 1) :: (.isub, 0, 0, 0) :: (.iastore, 0, 0, 0) :: (.iinc 5 0, 0, 0, 1) :: (.goto 105, 0, 0, 0) :: kk_78_143
def kk_78_88 : List qm_I := (.aload 0, 0, 0, 0) :: (.getfield 8, 3, 0, 0) :: (.iconst 0, 0, 0, 1) :: (.aload 4, 0, 0, 0) :: (.getfield 7, 0, 0, 0) :: (.iload 2, 0, 0, 0) :: (.invokevirtual 10, 4, 1, 0) :: (.iconst 0, 0, 0, 0) :: (.istore 5, 0, 0, 0) :: kk_78_105
def kk_78_82 : List qm_I := (.aload 0, 0, 0, 0) :: (.iconst 0, 0, 0, 3) :: (.invokevirtual 123, 2, 8, 0) :: (.ireturn, 0, 0, 0) :: kk_78_88
def kk_78_64 : List qm_I := (.aload 4, 0, 0, 0) :: (.iconst 0, 0, 0, 0) :: (.iload 2, 0, 0, 0) :: (.invokevirtual 66, 3, 7, 0) :: (.ifCond .eq 82, 0, 0, 0) :: (.aload 4, 0, 0, 0) :: (.invokevirtual 67, 1, 7, 0) :: (.ifCond .ne 88, 0, 0, 0) :: kk_78_82
def kk_78_44 : List qm_I := (.aload 4, 0, 0, 0) :: (.getfield 7, 0, 0, 0) :: (.iconst 0, 0, 0, 1) :: (.iconst 0, 0, 0, 6) :: (.invokestatic 118, 3, 0, 0) :: (.ifCond .ne 64, 0, 0, 0) :: (.aload 0, 0, 0, 0) :: (.iconst 0, 0, 0, 5) :: (.invokevirtual 123, 2, 8, 0) :: (.ireturn, 0, 0, 0) :: kk_78_64
def kk_78_26 : List qm_I := (.aload 0, 0, 0, 0) :: (.iload 3, 0, 0, 0) :: (.invokevirtual 121, 2, 8, 0) :: (.astore 4, 0, 0, 0) :: (.aload 4, 0, 0, 0) :: (.ifnonnull 44, 0, 0, 0) :: (.aload 0, 0, 0, 0) :: (.iconst 0, 0, 0, 1) :: (.invokevirtual 123, 2, 8, 0) :: (.ireturn, 0, 0, 0) :: kk_78_44
def kk_78_24 : List qm_I := (.iconst 0, 0, 0, -1) :: (.ireturn, 0, 0, 0) :: kk_78_26
def kk_78_0 : List qm_I := (.iload 1, 0, 0, 0) :: (.invokestatic 120, 1, 0, 0) :: (.ifCond .eq 24, 0, 0, 0) :: (.iload 2, 0, 0, 0) :: (.iconst 0, 0, 0, 1) :: (.iconst 0, 0, 0, 6) :: (.invokestatic 118, 3, 0, 0) :: (.ifCond .eq 24, 0, 0, 0) :: (.iload 3, 0, 0, 0) :: (.invokestatic 119, 1, 0, 0) :: (.ifCond .ne 26, 0, 0, 0) :: kk_78_24
def kt_78 : qm_T := [(0, kk_78_0), (24, kk_78_24), (26, kk_78_26), (44, kk_78_44), (64, kk_78_64), (82, kk_78_82), (88, kk_78_88), (105, kk_78_105), (143, kk_78_143)]
theorem kc_78_143 : qm_chain 8 false (some .int) cX8_stairs 143 kk_78_143 := qm_chain_of _ _ _ _ 4 _ 149 _ (by decide +kernel) trivial
theorem kc_78_105 : qm_chain 8 false (some .int) cX8_stairs 105 kk_78_105 := qm_chain_of _ _ _ _ 19 _ 143 _ (by decide +kernel) kc_78_143
theorem kc_78_88 : qm_chain 8 false (some .int) cX8_stairs 88 kk_78_88 := qm_chain_of _ _ _ _ 9 _ 105 _ (by decide +kernel) kc_78_105
theorem kc_78_82 : qm_chain 8 false (some .int) cX8_stairs 82 kk_78_82 := qm_chain_of _ _ _ _ 4 _ 88 _ (by decide +kernel) kc_78_88
theorem kc_78_64 : qm_chain 8 false (some .int) cX8_stairs 64 kk_78_64 := qm_chain_of _ _ _ _ 8 _ 82 _ (by decide +kernel) kc_78_82
theorem kc_78_44 : qm_chain 8 false (some .int) cX8_stairs 44 kk_78_44 := qm_chain_of _ _ _ _ 10 _ 64 _ (by decide +kernel) kc_78_64
theorem kc_78_26 : qm_chain 8 false (some .int) cX8_stairs 26 kk_78_26 := qm_chain_of _ _ _ _ 10 _ 44 _ (by decide +kernel) kc_78_44
theorem kc_78_24 : qm_chain 8 false (some .int) cX8_stairs 24 kk_78_24 := qm_chain_of _ _ _ _ 2 _ 26 _ (by decide +kernel) kc_78_26
theorem kc_78_0 : qm_chain 8 false (some .int) cX8_stairs 0 kk_78_0 := qm_chain_of _ _ _ _ 11 _ 24 _ (by decide +kernel) kc_78_24
theorem ka_78 : ∀ t : Int, 0 ≤ t → qm_chain 8 false (some .int) cX8_stairs t.toNat (qm_lk kt_78 t) := qm_lk_ok (List.forall_mem_cons.mpr ⟨⟨by decide, kc_78_0⟩, List.forall_mem_cons.mpr ⟨⟨by decide, kc_78_24⟩, List.forall_mem_cons.mpr ⟨⟨by decide, kc_78_26⟩, List.forall_mem_cons.mpr ⟨⟨by decide, kc_78_44⟩, List.forall_mem_cons.mpr ⟨⟨by decide, kc_78_64⟩, List.forall_mem_cons.mpr ⟨⟨by decide, kc_78_82⟩, List.forall_mem_cons.mpr ⟨⟨by decide, kc_78_88⟩, List.forall_mem_cons.mpr ⟨⟨by decide, kc_78_105⟩, List.forall_mem_cons.mpr ⟨⟨by decide, kc_78_143⟩, fun _ h => absurd h List.not_mem_nil⟩⟩⟩⟩⟩⟩⟩⟩⟩)
theorem kg_78 : qm_G1 (yX8_stairs, cX8_stairs, 6, some .int, 8, 3) (6, kt_78) := ⟨rfl, false, (fun z => by cases z), ka_78⟩
-- 79: TowerBoards.ring
def kk_79_104 : List qm_I := (.aload 0, 0, 0, 0) :: (.iload 1, 0, 0, 0) :: (.invokevirtual 124, 2, 8, 0) :: (.pop, 0, 0, 0) :: (.iload 4, 0, 0, 0) :: (.ireturn, 0, 0, 0) :: []
def kk_79_63 : List qm_I := (.iload 5, 0, 0, 0) :: (.iload 2, 0, 0, 0) :: (.if_icmp .ge 104, 0, 0, 0) :: (.aload 0, 0, 0, 0) :: (.getfield 8, 3, 0, 0) :: (.getfield 1, 3, 0, 0) :: (.iload 5, 0, 0, 0) :: (.iload 3, 0, 0, 0) :: (.iload 5, 0, 0, 0) :: (.ishl, 0, 0, 0) :: (.iload 3, 0, 0, 0) :: (.iload 2, 0, 0, 0) :: (.iload 5, 0, 0, 0) :: (.isub, 0, 0, 0) :: (.ishr, 0, 0, 0) :: (.ior, 0, 0, 0) :: (.aload 0, 0, 0, 0) :: (.getfield 8, 3, 0, 0) :: (.invokevirtual 17, 1, 1, 0) :: (.iand, 0, 0, 0) :: (.iastore, 0, 0, 0) :: (.iinc 5 0, 0, 0, 1) :: (.goto 63, 0, 0, 0) :: kk_79_104
def kk_79_47 : List qm_I := (.istore 4, 0, 0, 0) :: (.aload 0, 0, 0, 0) :: (.getfield 8, 3, 0, 0) :: (.iload 4, 0, 0, 0) :: (.iload 2, 0, 0, 0) :: (.iload 2, 0, 0, 0) :: (.invokevirtual 10, 4, 1, 0) :: (.iconst 0, 0, 0, 0) :: (.istore 5, 0, 0, 0) :: kk_79_63
def kk_79_46 : List qm_I := (.iconst 0, 0, 0, 2) :: kk_79_47
def kk_79_32 : List qm_I := (.iload 2, 0, 0, 0) :: (.iconst 0, 0, 0, 2) :: (.if_icmp .lt 46, 0, 0, 0) :: (.iload 3, 0, 0, 0) :: (.iconst 0, 0, 0, 3) :: (.if_icmp .ne 46, 0, 0, 0) :: (.iconst 0, 0, 0, 3) :: (.goto 47, 0, 0, 0) :: kk_79_46
def kk_79_30 : List qm_I := (.iconst 0, 0, 0, -1) :: (.ireturn, 0, 0, 0) :: kk_79_32
def kk_79_0 : List qm_I := (.iload 1, 0, 0, 0) :: (.invokestatic 120, 1, 0, 0) :: (.ifCond .eq 30, 0, 0, 0) :: (.iload 2, 0, 0, 0) :: (.iconst 0, 0, 0, 1) :: (.iconst 0, 0, 0, 6) :: (.invokestatic 118, 3, 0, 0) :: (.ifCond .eq 30, 0, 0, 0) :: (.iload 3, 0, 0, 0) :: (.iconst 0, 0, 0, 0) :: (.iconst 0, 0, 0, 1) :: (.iload 2, 0, 0, 0) :: (.ishl, 0, 0, 0) :: (.iconst 0, 0, 0, 1) :: (.isub, 0, 0, 0) :: (.invokestatic 118, 3, 0, 0) :: (.ifCond .ne 32, 0, 0, 0) :: kk_79_30
def kt_79 : qm_T := [(0, kk_79_0), (30, kk_79_30), (32, kk_79_32), (46, kk_79_46), (47, kk_79_47), (63, kk_79_63), (104, kk_79_104)]
theorem kc_79_104 : qm_chain 8 false (some .int) cX8_ring 104 kk_79_104 := qm_chain_of _ _ _ _ 6 _ 113 _ (by decide +kernel) trivial
theorem kc_79_63 : qm_chain 8 false (some .int) cX8_ring 63 kk_79_63 := qm_chain_of _ _ _ _ 23 _ 104 _ (by decide +kernel) kc_79_104
theorem kc_79_47 : qm_chain 8 false (some .int) cX8_ring 47 kk_79_47 := qm_chain_of _ _ _ _ 9 _ 63 _ (by decide +kernel) kc_79_63
theorem kc_79_46 : qm_chain 8 false (some .int) cX8_ring 46 kk_79_46 := qm_chain_of _ _ _ _ 1 _ 47 _ (by decide +kernel) kc_79_47
theorem kc_79_32 : qm_chain 8 false (some .int) cX8_ring 32 kk_79_32 := qm_chain_of _ _ _ _ 8 _ 46 _ (by decide +kernel) kc_79_46
theorem kc_79_30 : qm_chain 8 false (some .int) cX8_ring 30 kk_79_30 := qm_chain_of _ _ _ _ 2 _ 32 _ (by decide +kernel) kc_79_32
theorem kc_79_0 : qm_chain 8 false (some .int) cX8_ring 0 kk_79_0 := qm_chain_of _ _ _ _ 17 _ 30 _ (by decide +kernel) kc_79_30
theorem ka_79 : ∀ t : Int, 0 ≤ t → qm_chain 8 false (some .int) cX8_ring t.toNat (qm_lk kt_79 t) := qm_lk_ok (List.forall_mem_cons.mpr ⟨⟨by decide, kc_79_0⟩, List.forall_mem_cons.mpr ⟨⟨by decide, kc_79_30⟩, List.forall_mem_cons.mpr ⟨⟨by decide, kc_79_32⟩, List.forall_mem_cons.mpr ⟨⟨by decide, kc_79_46⟩, List.forall_mem_cons.mpr ⟨⟨by decide, kc_79_47⟩, List.forall_mem_cons.mpr ⟨⟨by decide, kc_79_63⟩, List.forall_mem_cons.mpr ⟨⟨by decide, kc_79_104⟩, fun _ h => absurd h List.not_mem_nil⟩⟩⟩⟩⟩⟩⟩)
theorem kg_79 : qm_G1 (yX8_ring, cX8_ring, 6, some .int, 8, 3) (6, kt_79) := ⟨rfl, false, (fun z => by cases z), ka_79⟩
-- 80: TowerBoards.drop
def kk_80_25 : List qm_I := (.aload 2, 0, 0, 0) :: (.iconst 0, 0, 0, -1) :: (.putfield 1, 0, 0, 0) :: (.iconst 0, 0, 0, 1) :: (.ireturn, 0, 0, 0) :: []
def kk_80_9 : List qm_I := (.aload 0, 0, 0, 0) :: (.iload 1, 0, 0, 0) :: (.invokevirtual 122, 2, 8, 0) :: (.astore 2, 0, 0, 0) :: (.aload 2, 0, 0, 0) :: (.ifnonnull 25, 0, 0, 0) :: (.aload 0, 0, 0, 0) :: (.iconst 0, 0, 0, 1) :: (.invokevirtual 123, 2, 8, 0) :: (.ireturn, 0, 0, 0) :: kk_80_25
def kk_80_0 : List qm_I := (.iload 1, 0, 0, 0) :: (.invokestatic 120, 1, 0, 0) :: (.ifCond .ne 9, 0, 0, 0) :: (.iconst 0, 0, 0, -1) :: (.ireturn, 0, 0, 0) :: kk_80_9
def kt_80 : qm_T := [(0, kk_80_0), (9, kk_80_9), (25, kk_80_25)]
theorem kc_80_25 : qm_chain 8 false (some .int) cX8_drop 25 kk_80_25 := qm_chain_of _ _ _ _ 5 _ 32 _ (by decide +kernel) trivial
theorem kc_80_9 : qm_chain 8 false (some .int) cX8_drop 9 kk_80_9 := qm_chain_of _ _ _ _ 10 _ 25 _ (by decide +kernel) kc_80_25
theorem kc_80_0 : qm_chain 8 false (some .int) cX8_drop 0 kk_80_0 := qm_chain_of _ _ _ _ 5 _ 9 _ (by decide +kernel) kc_80_9
theorem ka_80 : ∀ t : Int, 0 ≤ t → qm_chain 8 false (some .int) cX8_drop t.toNat (qm_lk kt_80 t) := qm_lk_ok (List.forall_mem_cons.mpr ⟨⟨by decide, kc_80_0⟩, List.forall_mem_cons.mpr ⟨⟨by decide, kc_80_9⟩, List.forall_mem_cons.mpr ⟨⟨by decide, kc_80_25⟩, fun _ h => absurd h List.not_mem_nil⟩⟩⟩)
theorem kg_80 : qm_G1 (yX8_drop, cX8_drop, 3, some .int, 8, 1) (3, kt_80) := ⟨rfl, false, (fun z => by cases z), ka_80⟩
-- 81: TowerBoards.told
def kk_81_101 : List qm_I := (.iconst 0, 0, 0, 1) :: (.ireturn, 0, 0, 0) :: []
def kk_81_93 : List qm_I := (.aload 0, 0, 0, 0) :: (.aload 3, 0, 0, 0) :: (.invokevirtual 21, 1, 1, 0) :: (.putfield 8, 12, 0, 0) :: kk_81_101
def kk_81_82 : List qm_I := (.aload 0, 0, 0, 0) :: (.aload 3, 0, 0, 0) :: (.getfield 1, 2, 0, 0) :: (.putfield 8, 12, 0, 0) :: (.goto 101, 0, 0, 0) :: kk_81_93
def kk_81_71 : List qm_I := (.aload 0, 0, 0, 0) :: (.aload 3, 0, 0, 0) :: (.getfield 1, 1, 0, 0) :: (.putfield 8, 12, 0, 0) :: (.goto 101, 0, 0, 0) :: kk_81_82
def kk_81_60 : List qm_I := (.aload 0, 0, 0, 0) :: (.aload 3, 0, 0, 0) :: (.getfield 1, 0, 0, 0) :: (.putfield 8, 12, 0, 0) :: (.goto 101, 0, 0, 0) :: kk_81_71
def kk_81_34 : List qm_I := (.iload 2, 0, 0, 0) :: (.lookupswitch 93 #[(0, 60), (1, 71), (2, 82)], 0, 0, 0) :: kk_81_60
def kk_81_18 : List qm_I := (.aload 0, 0, 0, 0) :: (.iload 1, 0, 0, 0) :: (.invokevirtual 122, 2, 8, 0) :: (.astore 3, 0, 0, 0) :: (.aload 3, 0, 0, 0) :: (.ifnonnull 34, 0, 0, 0) :: (.aload 0, 0, 0, 0) :: (.iconst 0, 0, 0, 1) :: (.invokevirtual 123, 2, 8, 0) :: (.ireturn, 0, 0, 0) :: kk_81_34
def kk_81_16 : List qm_I := (.iconst 0, 0, 0, -1) :: (.ireturn, 0, 0, 0) :: kk_81_18
def kk_81_0 : List qm_I := (.iload 1, 0, 0, 0) :: (.invokestatic 120, 1, 0, 0) :: (.ifCond .eq 16, 0, 0, 0) :: (.iload 2, 0, 0, 0) :: (.iconst 0, 0, 0, 0) :: (.iconst 0, 0, 0, 3) :: (.invokestatic 118, 3, 0, 0) :: (.ifCond .ne 18, 0, 0, 0) :: kk_81_16
def kt_81 : qm_T := [(0, kk_81_0), (16, kk_81_16), (18, kk_81_18), (34, kk_81_34), (60, kk_81_60), (71, kk_81_71), (82, kk_81_82), (93, kk_81_93), (101, kk_81_101)]
theorem kc_81_101 : qm_chain 8 false (some .int) cX8_told 101 kk_81_101 := qm_chain_of _ _ _ _ 2 _ 103 _ (by decide +kernel) trivial
theorem kc_81_93 : qm_chain 8 false (some .int) cX8_told 93 kk_81_93 := qm_chain_of _ _ _ _ 4 _ 101 _ (by decide +kernel) kc_81_101
theorem kc_81_82 : qm_chain 8 false (some .int) cX8_told 82 kk_81_82 := qm_chain_of _ _ _ _ 5 _ 93 _ (by decide +kernel) kc_81_93
theorem kc_81_71 : qm_chain 8 false (some .int) cX8_told 71 kk_81_71 := qm_chain_of _ _ _ _ 5 _ 82 _ (by decide +kernel) kc_81_82
theorem kc_81_60 : qm_chain 8 false (some .int) cX8_told 60 kk_81_60 := qm_chain_of _ _ _ _ 5 _ 71 _ (by decide +kernel) kc_81_71
theorem kc_81_34 : qm_chain 8 false (some .int) cX8_told 34 kk_81_34 := qm_chain_of _ _ _ _ 2 _ 60 _ (by decide +kernel) kc_81_60
theorem kc_81_18 : qm_chain 8 false (some .int) cX8_told 18 kk_81_18 := qm_chain_of _ _ _ _ 10 _ 34 _ (by decide +kernel) kc_81_34
theorem kc_81_16 : qm_chain 8 false (some .int) cX8_told 16 kk_81_16 := qm_chain_of _ _ _ _ 2 _ 18 _ (by decide +kernel) kc_81_18
theorem kc_81_0 : qm_chain 8 false (some .int) cX8_told 0 kk_81_0 := qm_chain_of _ _ _ _ 8 _ 16 _ (by decide +kernel) kc_81_16
theorem ka_81 : ∀ t : Int, 0 ≤ t → qm_chain 8 false (some .int) cX8_told t.toNat (qm_lk kt_81 t) := qm_lk_ok (List.forall_mem_cons.mpr ⟨⟨by decide, kc_81_0⟩, List.forall_mem_cons.mpr ⟨⟨by decide, kc_81_16⟩, List.forall_mem_cons.mpr ⟨⟨by decide, kc_81_18⟩, List.forall_mem_cons.mpr ⟨⟨by decide, kc_81_34⟩, List.forall_mem_cons.mpr ⟨⟨by decide, kc_81_60⟩, List.forall_mem_cons.mpr ⟨⟨by decide, kc_81_71⟩, List.forall_mem_cons.mpr ⟨⟨by decide, kc_81_82⟩, List.forall_mem_cons.mpr ⟨⟨by decide, kc_81_93⟩, List.forall_mem_cons.mpr ⟨⟨by decide, kc_81_101⟩, fun _ h => absurd h List.not_mem_nil⟩⟩⟩⟩⟩⟩⟩⟩⟩)
theorem kg_81 : qm_G1 (yX8_told, cX8_told, 4, some .int, 8, 2) (4, kt_81) := ⟨rfl, false, (fun z => by cases z), ka_81⟩
-- 82: TowerBoards.is
def kk_82_47 : List qm_I := (.ireturn, 0, 0, 0) :: []
def kk_82_46 : List qm_I := (.iconst 0, 0, 0, 0) :: kk_82_47
def kk_82_34 : List qm_I := (.aload 3, 0, 0, 0) :: (.iload 2, 0, 0, 0) :: (.invokevirtual 14, 2, 1, 0) :: (.ifCond .eq 46, 0, 0, 0) :: (.iconst 0, 0, 0, 1) :: (.goto 47, 0, 0, 0) :: kk_82_46
def kk_82_18 : List qm_I := (.aload 0, 0, 0, 0) :: (.iload 1, 0, 0, 0) :: (.invokevirtual 122, 2, 8, 0) :: (.astore 3, 0, 0, 0) :: (.aload 3, 0, 0, 0) :: (.ifnonnull 34, 0, 0, 0) :: (.aload 0, 0, 0, 0) :: (.iconst 0, 0, 0, 1) :: (.invokevirtual 123, 2, 8, 0) :: (.ireturn, 0, 0, 0) :: kk_82_34
def kk_82_16 : List qm_I := (.iconst 0, 0, 0, -1) :: (.ireturn, 0, 0, 0) :: kk_82_18
def kk_82_0 : List qm_I := (.iload 1, 0, 0, 0) :: (.invokestatic 120, 1, 0, 0) :: (.ifCond .eq 16, 0, 0, 0) :: (.iload 2, 0, 0, 0) :: (.iconst 0, 0, 0, 0) :: (.iconst 0, 0, 0, 3) :: (.invokestatic 118, 3, 0, 0) :: (.ifCond .ne 18, 0, 0, 0) :: kk_82_16
def kt_82 : qm_T := [(0, kk_82_0), (16, kk_82_16), (18, kk_82_18), (34, kk_82_34), (46, kk_82_46), (47, kk_82_47)]
theorem kc_82_47 : qm_chain 8 false (some .int) cX8_is 47 kk_82_47 := qm_chain_of _ _ _ _ 1 _ 48 _ (by decide +kernel) trivial
theorem kc_82_46 : qm_chain 8 false (some .int) cX8_is 46 kk_82_46 := qm_chain_of _ _ _ _ 1 _ 47 _ (by decide +kernel) kc_82_47
theorem kc_82_34 : qm_chain 8 false (some .int) cX8_is 34 kk_82_34 := qm_chain_of _ _ _ _ 6 _ 46 _ (by decide +kernel) kc_82_46
theorem kc_82_18 : qm_chain 8 false (some .int) cX8_is 18 kk_82_18 := qm_chain_of _ _ _ _ 10 _ 34 _ (by decide +kernel) kc_82_34
theorem kc_82_16 : qm_chain 8 false (some .int) cX8_is 16 kk_82_16 := qm_chain_of _ _ _ _ 2 _ 18 _ (by decide +kernel) kc_82_18
theorem kc_82_0 : qm_chain 8 false (some .int) cX8_is 0 kk_82_0 := qm_chain_of _ _ _ _ 8 _ 16 _ (by decide +kernel) kc_82_16
theorem ka_82 : ∀ t : Int, 0 ≤ t → qm_chain 8 false (some .int) cX8_is t.toNat (qm_lk kt_82 t) := qm_lk_ok (List.forall_mem_cons.mpr ⟨⟨by decide, kc_82_0⟩, List.forall_mem_cons.mpr ⟨⟨by decide, kc_82_16⟩, List.forall_mem_cons.mpr ⟨⟨by decide, kc_82_18⟩, List.forall_mem_cons.mpr ⟨⟨by decide, kc_82_34⟩, List.forall_mem_cons.mpr ⟨⟨by decide, kc_82_46⟩, List.forall_mem_cons.mpr ⟨⟨by decide, kc_82_47⟩, fun _ h => absurd h List.not_mem_nil⟩⟩⟩⟩⟩⟩)
theorem kg_82 : qm_G1 (yX8_is, cX8_is, 4, some .int, 8, 2) (4, kt_82) := ⟨rfl, false, (fun z => by cases z), ka_82⟩
-- 83: TowerBoards.mark
def kk_83_88 : List qm_I := (.aload 3, 0, 0, 0) :: (.getfield 1, 1, 0, 0) :: (.ireturn, 0, 0, 0) :: []
def kk_83_81 : List qm_I := (.aload 3, 0, 0, 0) :: (.getfield 1, 3, 0, 0) :: (.iconst 0, 0, 0, 0) :: (.iaload, 0, 0, 0) :: (.ireturn, 0, 0, 0) :: kk_83_88
def kk_83_76 : List qm_I := (.aload 3, 0, 0, 0) :: (.invokevirtual 22, 1, 1, 0) :: (.ireturn, 0, 0, 0) :: kk_83_81
def kk_83_48 : List qm_I := (.iload 2, 0, 0, 0) :: (.lookupswitch 88 #[(1, 76), (2, 81)], 0, 0, 0) :: kk_83_76
def kk_83_34 : List qm_I := (.aload 3, 0, 0, 0) :: (.iload 2, 0, 0, 0) :: (.invokevirtual 14, 2, 1, 0) :: (.ifCond .ne 48, 0, 0, 0) :: (.aload 0, 0, 0, 0) :: (.iconst 0, 0, 0, 3) :: (.invokevirtual 123, 2, 8, 0) :: (.ireturn, 0, 0, 0) :: kk_83_48
def kk_83_18 : List qm_I := (.aload 0, 0, 0, 0) :: (.iload 1, 0, 0, 0) :: (.invokevirtual 122, 2, 8, 0) :: (.astore 3, 0, 0, 0) :: (.aload 3, 0, 0, 0) :: (.ifnonnull 34, 0, 0, 0) :: (.aload 0, 0, 0, 0) :: (.iconst 0, 0, 0, 1) :: (.invokevirtual 123, 2, 8, 0) :: (.ireturn, 0, 0, 0) :: kk_83_34
def kk_83_16 : List qm_I := (.iconst 0, 0, 0, -1) :: (.ireturn, 0, 0, 0) :: kk_83_18
def kk_83_0 : List qm_I := (.iload 1, 0, 0, 0) :: (.invokestatic 120, 1, 0, 0) :: (.ifCond .eq 16, 0, 0, 0) :: (.iload 2, 0, 0, 0) :: (.iconst 0, 0, 0, 1) :: (.iconst 0, 0, 0, 3) :: (.invokestatic 118, 3, 0, 0) :: (.ifCond .ne 18, 0, 0, 0) :: kk_83_16
def kt_83 : qm_T := [(0, kk_83_0), (16, kk_83_16), (18, kk_83_18), (34, kk_83_34), (48, kk_83_48), (76, kk_83_76), (81, kk_83_81), (88, kk_83_88)]
theorem kc_83_88 : qm_chain 8 false (some .int) cX8_mark 88 kk_83_88 := qm_chain_of _ _ _ _ 3 _ 93 _ (by decide +kernel) trivial
theorem kc_83_81 : qm_chain 8 false (some .int) cX8_mark 81 kk_83_81 := qm_chain_of _ _ _ _ 5 _ 88 _ (by decide +kernel) kc_83_88
theorem kc_83_76 : qm_chain 8 false (some .int) cX8_mark 76 kk_83_76 := qm_chain_of _ _ _ _ 3 _ 81 _ (by decide +kernel) kc_83_81
theorem kc_83_48 : qm_chain 8 false (some .int) cX8_mark 48 kk_83_48 := qm_chain_of _ _ _ _ 2 _ 76 _ (by decide +kernel) kc_83_76
theorem kc_83_34 : qm_chain 8 false (some .int) cX8_mark 34 kk_83_34 := qm_chain_of _ _ _ _ 8 _ 48 _ (by decide +kernel) kc_83_48
theorem kc_83_18 : qm_chain 8 false (some .int) cX8_mark 18 kk_83_18 := qm_chain_of _ _ _ _ 10 _ 34 _ (by decide +kernel) kc_83_34
theorem kc_83_16 : qm_chain 8 false (some .int) cX8_mark 16 kk_83_16 := qm_chain_of _ _ _ _ 2 _ 18 _ (by decide +kernel) kc_83_18
theorem kc_83_0 : qm_chain 8 false (some .int) cX8_mark 0 kk_83_0 := qm_chain_of _ _ _ _ 8 _ 16 _ (by decide +kernel) kc_83_16
theorem ka_83 : ∀ t : Int, 0 ≤ t → qm_chain 8 false (some .int) cX8_mark t.toNat (qm_lk kt_83 t) := qm_lk_ok (List.forall_mem_cons.mpr ⟨⟨by decide, kc_83_0⟩, List.forall_mem_cons.mpr ⟨⟨by decide, kc_83_16⟩, List.forall_mem_cons.mpr ⟨⟨by decide, kc_83_18⟩, List.forall_mem_cons.mpr ⟨⟨by decide, kc_83_34⟩, List.forall_mem_cons.mpr ⟨⟨by decide, kc_83_48⟩, List.forall_mem_cons.mpr ⟨⟨by decide, kc_83_76⟩, List.forall_mem_cons.mpr ⟨⟨by decide, kc_83_81⟩, List.forall_mem_cons.mpr ⟨⟨by decide, kc_83_88⟩, fun _ h => absurd h List.not_mem_nil⟩⟩⟩⟩⟩⟩⟩⟩)
theorem kg_83 : qm_G1 (yX8_mark, cX8_mark, 4, some .int, 8, 2) (4, kt_83) := ⟨rfl, false, (fun z => by cases z), ka_83⟩
-- 84: TowerBoards.cell
def kk_84_58 : List qm_I := (.ireturn, 0, 0, 0) :: []
def kk_84_57 : List qm_I := (.iconst 0, 0, 0, 0) :: kk_84_58
def kk_84_43 : List qm_I := (.aload 4, 0, 0, 0) :: (.iload 2, 0, 0, 0) :: (.iload 3, 0, 0, 0) :: (.invokevirtual 19, 3, 1, 0) :: (.ifCond .eq 57, 0, 0, 0) :: (.iconst 0, 0, 0, 1) :: (.goto 58, 0, 0, 0) :: kk_84_57
def kk_84_27 : List qm_I := (.aload 4, 0, 0, 0) :: (.iload 2, 0, 0, 0) :: (.iload 3, 0, 0, 0) :: (.invokevirtual 18, 3, 1, 0) :: (.ifCond .ne 43, 0, 0, 0) :: (.aload 0, 0, 0, 0) :: (.iconst 0, 0, 0, 2) :: (.invokevirtual 123, 2, 8, 0) :: (.ireturn, 0, 0, 0) :: kk_84_43
def kk_84_9 : List qm_I := (.aload 0, 0, 0, 0) :: (.iload 1, 0, 0, 0) :: (.invokevirtual 122, 2, 8, 0) :: (.astore 4, 0, 0, 0) :: (.aload 4, 0, 0, 0) :: (.ifnonnull 27, 0, 0, 0) :: (.aload 0, 0, 0, 0) :: (.iconst 0, 0, 0, 1) :: (.invokevirtual 123, 2, 8, 0) :: (.ireturn, 0, 0, 0) :: kk_84_27
def kk_84_0 : List qm_I := (.iload 1, 0, 0, 0) :: (.invokestatic 120, 1, 0, 0) :: (.ifCond .ne 9, 0, 0, 0) :: (.iconst 0, 0, 0, -1) :: (.ireturn, 0, 0, 0) :: kk_84_9
def kt_84 : qm_T := [(0, kk_84_0), (9, kk_84_9), (27, kk_84_27), (43, kk_84_43), (57, kk_84_57), (58, kk_84_58)]
theorem kc_84_58 : qm_chain 8 false (some .int) cX8_cell 58 kk_84_58 := qm_chain_of _ _ _ _ 1 _ 59 _ (by decide +kernel) trivial
theorem kc_84_57 : qm_chain 8 false (some .int) cX8_cell 57 kk_84_57 := qm_chain_of _ _ _ _ 1 _ 58 _ (by decide +kernel) kc_84_58
theorem kc_84_43 : qm_chain 8 false (some .int) cX8_cell 43 kk_84_43 := qm_chain_of _ _ _ _ 7 _ 57 _ (by decide +kernel) kc_84_57
theorem kc_84_27 : qm_chain 8 false (some .int) cX8_cell 27 kk_84_27 := qm_chain_of _ _ _ _ 9 _ 43 _ (by decide +kernel) kc_84_43
theorem kc_84_9 : qm_chain 8 false (some .int) cX8_cell 9 kk_84_9 := qm_chain_of _ _ _ _ 10 _ 27 _ (by decide +kernel) kc_84_27
theorem kc_84_0 : qm_chain 8 false (some .int) cX8_cell 0 kk_84_0 := qm_chain_of _ _ _ _ 5 _ 9 _ (by decide +kernel) kc_84_9
theorem ka_84 : ∀ t : Int, 0 ≤ t → qm_chain 8 false (some .int) cX8_cell t.toNat (qm_lk kt_84 t) := qm_lk_ok (List.forall_mem_cons.mpr ⟨⟨by decide, kc_84_0⟩, List.forall_mem_cons.mpr ⟨⟨by decide, kc_84_9⟩, List.forall_mem_cons.mpr ⟨⟨by decide, kc_84_27⟩, List.forall_mem_cons.mpr ⟨⟨by decide, kc_84_43⟩, List.forall_mem_cons.mpr ⟨⟨by decide, kc_84_57⟩, List.forall_mem_cons.mpr ⟨⟨by decide, kc_84_58⟩, fun _ h => absurd h List.not_mem_nil⟩⟩⟩⟩⟩⟩)
theorem kg_84 : qm_G1 (yX8_cell, cX8_cell, 5, some .int, 8, 3) (5, kt_84) := ⟨rfl, false, (fun z => by cases z), ka_84⟩
-- 85: TowerBoards.set
def kk_85_115 : List qm_I := (.ireturn, 0, 0, 0) :: []
def kk_85_114 : List qm_I := (.iconst 0, 0, 0, 0) :: kk_85_115
def kk_85_104 : List qm_I := (.iastore, 0, 0, 0) :: (.iload 6, 0, 0, 0) :: (.ifCond .eq 114, 0, 0, 0) :: (.iconst 0, 0, 0, 1) :: (.goto 115, 0, 0, 0) :: kk_85_114
def kk_85_91 : List qm_I := (.aload 5, 0, 0, 0) :: (.getfield 1, 3, 0, 0) :: (.iload 2, 0, 0, 0) :: (.iaload, 0, 0, 0) :: (.iconst 0, 0, 0, 1) :: (.iload 3, 0, 0, 0) :: (.ishl, 0, 0, 0) :: (.iconst 0, 0, 0, -1) :: (.ixor, 0, 0, 0) :: (.iand, 0, 0, 0) :: kk_85_104
def kk_85_57 : List qm_I := (.aload 5, 0, 0, 0) :: (.iload 2, 0, 0, 0) :: (.iload 3, 0, 0, 0) :: (.invokevirtual 19, 3, 1, 0) :: (.istore 6, 0, 0, 0) :: (.aload 5, 0, 0, 0) :: (.getfield 1, 3, 0, 0) :: (.iload 2, 0, 0, 0) :: (.iload 4, 0, 0, 0) :: (.ifCond .eq 91, 0, 0, 0) :: (.aload 5, 0, 0, 0) :: (.getfield 1, 3, 0, 0) :: (.iload 2, 0, 0, 0) :: (.iaload, 0, 0, 0) :: (.iconst 0, 0, 0, 1) :: (.iload 3, 0, 0, 0) :: (.ishl, 0, 0, 0) :: (.ior, 0, 0, 0) :: (.goto 104, 0, 0, 0) :: kk_85_91
def kk_85_41 : List qm_I := (.aload 5, 0, 0, 0) :: (.iload 2, 0, 0, 0) :: (.iload 3, 0, 0, 0) :: (.invokevirtual 18, 3, 1, 0) :: (.ifCond .ne 57, 0, 0, 0) :: (.aload 0, 0, 0, 0) :: (.iconst 0, 0, 0, 2) :: (.invokevirtual 123, 2, 8, 0) :: (.ireturn, 0, 0, 0) :: kk_85_57
def kk_85_27 : List qm_I := (.aload 5, 0, 0, 0) :: (.getfield 1, 0, 0, 0) :: (.ifCond .eq 41, 0, 0, 0) :: (.aload 0, 0, 0, 0) :: (.iconst 0, 0, 0, 3) :: (.invokevirtual 123, 2, 8, 0) :: (.ireturn, 0, 0, 0) :: kk_85_41
def kk_85_9 : List qm_I := (.aload 0, 0, 0, 0) :: (.iload 1, 0, 0, 0) :: (.invokevirtual 122, 2, 8, 0) :: (.astore 5, 0, 0, 0) :: (.aload 5, 0, 0, 0) :: (.ifnonnull 27, 0, 0, 0) :: (.aload 0, 0, 0, 0) :: (.iconst 0, 0, 0, 1) :: (.invokevirtual 123, 2, 8, 0) :: (.ireturn, 0, 0, 0) :: kk_85_27
def kk_85_0 : List qm_I := (.iload 1, 0, 0, 0) :: (.invokestatic 120, 1, 0, 0) :: (.ifCond .ne 9, 0, 0, 0) :: (.iconst 0, 0, 0, -1) :: (.ireturn, 0, 0, 0) :: kk_85_9
def kt_85 : qm_T := [(0, kk_85_0), (9, kk_85_9), (27, kk_85_27), (41, kk_85_41), (57, kk_85_57), (91, kk_85_91), (104, kk_85_104), (114, kk_85_114), (115, kk_85_115)]
theorem kc_85_115 : qm_chain 8 false (some .int) cX8_set 115 kk_85_115 := qm_chain_of _ _ _ _ 1 _ 116 _ (by decide +kernel) trivial
theorem kc_85_114 : qm_chain 8 false (some .int) cX8_set 114 kk_85_114 := qm_chain_of _ _ _ _ 1 _ 115 _ (by decide +kernel) kc_85_115
theorem kc_85_104 : qm_chain 8 false (some .int) cX8_set 104 kk_85_104 := qm_chain_of _ _ _ _ 5 _ 114 _ (by decide +kernel) kc_85_114
theorem kc_85_91 : qm_chain 8 false (some .int) cX8_set 91 kk_85_91 := qm_chain_of _ _ _ _ 10 _ 104 _ (by decide +kernel) kc_85_104
theorem kc_85_57 : qm_chain 8 false (some .int) cX8_set 57 kk_85_57 := qm_chain_of _ _ _ _ 19 _ 91 _ (by decide +kernel) kc_85_91
theorem kc_85_41 : qm_chain 8 false (some .int) cX8_set 41 kk_85_41 := qm_chain_of _ _ _ _ 9 _ 57 _ (by decide +kernel) kc_85_57
theorem kc_85_27 : qm_chain 8 false (some .int) cX8_set 27 kk_85_27 := qm_chain_of _ _ _ _ 7 _ 41 _ (by decide +kernel) kc_85_41
theorem kc_85_9 : qm_chain 8 false (some .int) cX8_set 9 kk_85_9 := qm_chain_of _ _ _ _ 10 _ 27 _ (by decide +kernel) kc_85_27
theorem kc_85_0 : qm_chain 8 false (some .int) cX8_set 0 kk_85_0 := qm_chain_of _ _ _ _ 5 _ 9 _ (by decide +kernel) kc_85_9
theorem ka_85 : ∀ t : Int, 0 ≤ t → qm_chain 8 false (some .int) cX8_set t.toNat (qm_lk kt_85 t) := qm_lk_ok (List.forall_mem_cons.mpr ⟨⟨by decide, kc_85_0⟩, List.forall_mem_cons.mpr ⟨⟨by decide, kc_85_9⟩, List.forall_mem_cons.mpr ⟨⟨by decide, kc_85_27⟩, List.forall_mem_cons.mpr ⟨⟨by decide, kc_85_41⟩, List.forall_mem_cons.mpr ⟨⟨by decide, kc_85_57⟩, List.forall_mem_cons.mpr ⟨⟨by decide, kc_85_91⟩, List.forall_mem_cons.mpr ⟨⟨by decide, kc_85_104⟩, List.forall_mem_cons.mpr ⟨⟨by decide, kc_85_114⟩, List.forall_mem_cons.mpr ⟨⟨by decide, kc_85_115⟩, fun _ h => absurd h List.not_mem_nil⟩⟩⟩⟩⟩⟩⟩⟩⟩)
theorem kg_85 : qm_G1 (yX8_set, cX8_set, 7, some .int, 8, 4) (7, kt_85) := ⟨rfl, false, (fun z => by cases z), ka_85⟩
-- 86: TowerBoards.other
def kk_86_90 : List qm_I := (.aload 0, 0, 0, 0) :: (.iload 2, 0, 0, 0) :: (.invokevirtual 124, 2, 8, 0) :: (.ireturn, 0, 0, 0) :: []
def kk_86_51 : List qm_I := (.iload 4, 0, 0, 0) :: (.aload 3, 0, 0, 0) :: (.getfield 1, 1, 0, 0) :: (.if_icmp .ge 90, 0, 0, 0) :: (.aload 0, 0, 0, 0) :: (.getfield 8, 3, 0, 0) :: (.getfield 1, 3, 0, 0) :: (.iload 4, 0, 0, 0) :: (.aload 3, 0, 0, 0) :: (.invokevirtual 17, 1, 1, 0) :: (.aload 3, 0, 0, 0) :: (.getfield 1, 3, 0, 0) :: (.iload 4, 0, 0, 0) :: (.iaload, 0, 0, 0) :: (.iconst 0, 0, 0, -1) :: (.ixor, 0, 0, 0) :: (.iand, 0, 0, 0) :: (.iastore, 0, 0, 0) :: (.iinc 4 0, 0, 0, 1) :: (.goto 51, 0, 0, 0) :: kk_86_90
def kk_86_32 : List qm_I := (.aload 0, 0, 0, 0) :: (.getfield 8, 3, 0, 0) :: (.iconst 0, 0, 0, 0) :: (.aload 3, 0, 0, 0) :: (.getfield 1, 1, 0, 0) :: (.aload 3, 0, 0, 0) :: (.getfield 1, 2, 0, 0) :: (.invokevirtual 10, 4, 1, 0) :: (.iconst 0, 0, 0, 0) :: (.istore 4, 0, 0, 0) :: kk_86_51
def kk_86_16 : List qm_I := (.aload 0, 0, 0, 0) :: (.iload 1, 0, 0, 0) :: (.invokevirtual 122, 2, 8, 0) :: (.astore 3, 0, 0, 0) :: (.aload 3, 0, 0, 0) :: (.ifnonnull 32, 0, 0, 0) :: (.aload 0, 0, 0, 0) :: (.iconst 0, 0, 0, 1) :: (.invokevirtual 123, 2, 8, 0) :: (.ireturn, 0, 0, 0) :: kk_86_32
def kk_86_14 : List qm_I := (.iconst 0, 0, 0, -1) :: (.ireturn, 0, 0, 0) :: kk_86_16
def kk_86_0 : List qm_I := (.iload 1, 0, 0, 0) :: (.invokestatic 120, 1, 0, 0) :: (.ifCond .eq 14, 0, 0, 0) :: (.iload 2, 0, 0, 0) :: (.invokestatic 120, 1, 0, 0) :: (.ifCond .ne 16, 0, 0, 0) :: kk_86_14
def kt_86 : qm_T := [(0, kk_86_0), (14, kk_86_14), (16, kk_86_16), (32, kk_86_32), (51, kk_86_51), (90, kk_86_90)]
theorem kc_86_90 : qm_chain 8 false (some .int) cX8_other 90 kk_86_90 := qm_chain_of _ _ _ _ 4 _ 96 _ (by decide +kernel) trivial
theorem kc_86_51 : qm_chain 8 false (some .int) cX8_other 51 kk_86_51 := qm_chain_of _ _ _ _ 20 _ 90 _ (by decide +kernel) kc_86_90
theorem kc_86_32 : qm_chain 8 false (some .int) cX8_other 32 kk_86_32 := qm_chain_of _ _ _ _ 10 _ 51 _ (by decide +kernel) kc_86_51
theorem kc_86_16 : qm_chain 8 false (some .int) cX8_other 16 kk_86_16 := qm_chain_of _ _ _ _ 10 _ 32 _ (by decide +kernel) kc_86_32
theorem kc_86_14 : qm_chain 8 false (some .int) cX8_other 14 kk_86_14 := qm_chain_of _ _ _ _ 2 _ 16 _ (by decide +kernel) kc_86_16
theorem kc_86_0 : qm_chain 8 false (some .int) cX8_other 0 kk_86_0 := qm_chain_of _ _ _ _ 6 _ 14 _ (by decide +kernel) kc_86_14
theorem ka_86 : ∀ t : Int, 0 ≤ t → qm_chain 8 false (some .int) cX8_other t.toNat (qm_lk kt_86 t) := qm_lk_ok (List.forall_mem_cons.mpr ⟨⟨by decide, kc_86_0⟩, List.forall_mem_cons.mpr ⟨⟨by decide, kc_86_14⟩, List.forall_mem_cons.mpr ⟨⟨by decide, kc_86_16⟩, List.forall_mem_cons.mpr ⟨⟨by decide, kc_86_32⟩, List.forall_mem_cons.mpr ⟨⟨by decide, kc_86_51⟩, List.forall_mem_cons.mpr ⟨⟨by decide, kc_86_90⟩, fun _ h => absurd h List.not_mem_nil⟩⟩⟩⟩⟩⟩)
theorem kg_86 : qm_G1 (yX8_other, cX8_other, 5, some .int, 8, 2) (5, kt_86) := ⟨rfl, false, (fun z => by cases z), ka_86⟩
-- 87: TowerBoards.turn
def kk_87_106 : List qm_I := (.aload 0, 0, 0, 0) :: (.iload 2, 0, 0, 0) :: (.invokevirtual 124, 2, 8, 0) :: (.ireturn, 0, 0, 0) :: []
def kk_87_100 : List qm_I := (.iinc 4 0, 0, 0, 1) :: (.goto 51, 0, 0, 0) :: kk_87_106
def kk_87_94 : List qm_I := (.iinc 5 0, 0, 0, 1) :: (.goto 63, 0, 0, 0) :: kk_87_100
def kk_87_63 : List qm_I := (.iload 5, 0, 0, 0) :: (.aload 3, 0, 0, 0) :: (.getfield 1, 2, 0, 0) :: (.if_icmp .ge 100, 0, 0, 0) :: (.aload 3, 0, 0, 0) :: (.iload 4, 0, 0, 0) :: (.iload 5, 0, 0, 0) :: (.invokevirtual 19, 3, 1, 0) :: (.ifCond .eq 94, 0, 0, 0) :: (.aload 0, 0, 0, 0) :: (.getfield 8, 3, 0, 0) :: (.iload 5, 0, 0, 0) :: (.iload 4, 0, 0, 0) :: (.invokevirtual 20, 3, 1, 0) :: kk_87_94
def kk_87_51 : List qm_I := (.iload 4, 0, 0, 0) :: (.aload 3, 0, 0, 0) :: (.getfield 1, 1, 0, 0) :: (.if_icmp .ge 106, 0, 0, 0) :: (.iconst 0, 0, 0, 0) :: (.istore 5, 0, 0, 0) :: kk_87_63
def kk_87_32 : List qm_I := (.aload 0, 0, 0, 0) :: (.getfield 8, 3, 0, 0) :: (.iconst 0, 0, 0, 0) :: (.aload 3, 0, 0, 0) :: (.getfield 1, 2, 0, 0) :: (.aload 3, 0, 0, 0) :: (.getfield 1, 1, 0, 0) :: (.invokevirtual 10, 4, 1, 0) :: (.iconst 0, 0, 0, 0) :: (.istore 4, 0, 0, 0) :: kk_87_51
def kk_87_16 : List qm_I := (.aload 0, 0, 0, 0) :: (.iload 1, 0, 0, 0) :: (.invokevirtual 122, 2, 8, 0) :: (.astore 3, 0, 0, 0) :: (.aload 3, 0, 0, 0) :: (.ifnonnull 32, 0, 0, 0) :: (.aload 0, 0, 0, 0) :: (.iconst 0, 0, 0, 1) :: (.invokevirtual 123, 2, 8, 0) :: (.ireturn, 0, 0, 0) :: kk_87_32
def kk_87_14 : List qm_I := (.iconst 0, 0, 0, -1) :: (.ireturn, 0, 0, 0) :: kk_87_16
def kk_87_0 : List qm_I := (.iload 1, 0, 0, 0) :: (.invokestatic 120, 1, 0, 0) :: (.ifCond .eq 14, 0, 0, 0) :: (.iload 2, 0, 0, 0) :: (.invokestatic 120, 1, 0, 0) :: (.ifCond .ne 16, 0, 0, 0) :: kk_87_14
def kt_87 : qm_T := [(0, kk_87_0), (14, kk_87_14), (16, kk_87_16), (32, kk_87_32), (51, kk_87_51), (63, kk_87_63), (94, kk_87_94), (100, kk_87_100), (106, kk_87_106)]
theorem kc_87_106 : qm_chain 8 false (some .int) cX8_turn 106 kk_87_106 := qm_chain_of _ _ _ _ 4 _ 112 _ (by decide +kernel) trivial
theorem kc_87_100 : qm_chain 8 false (some .int) cX8_turn 100 kk_87_100 := qm_chain_of _ _ _ _ 2 _ 106 _ (by decide +kernel) kc_87_106
theorem kc_87_94 : qm_chain 8 false (some .int) cX8_turn 94 kk_87_94 := qm_chain_of _ _ _ _ 2 _ 100 _ (by decide +kernel) kc_87_100
theorem kc_87_63 : qm_chain 8 false (some .int) cX8_turn 63 kk_87_63 := qm_chain_of _ _ _ _ 14 _ 94 _ (by decide +kernel) kc_87_94
theorem kc_87_51 : qm_chain 8 false (some .int) cX8_turn 51 kk_87_51 := qm_chain_of _ _ _ _ 6 _ 63 _ (by decide +kernel) kc_87_63
theorem kc_87_32 : qm_chain 8 false (some .int) cX8_turn 32 kk_87_32 := qm_chain_of _ _ _ _ 10 _ 51 _ (by decide +kernel) kc_87_51
theorem kc_87_16 : qm_chain 8 false (some .int) cX8_turn 16 kk_87_16 := qm_chain_of _ _ _ _ 10 _ 32 _ (by decide +kernel) kc_87_32
theorem kc_87_14 : qm_chain 8 false (some .int) cX8_turn 14 kk_87_14 := qm_chain_of _ _ _ _ 2 _ 16 _ (by decide +kernel) kc_87_16
theorem kc_87_0 : qm_chain 8 false (some .int) cX8_turn 0 kk_87_0 := qm_chain_of _ _ _ _ 6 _ 14 _ (by decide +kernel) kc_87_14
theorem ka_87 : ∀ t : Int, 0 ≤ t → qm_chain 8 false (some .int) cX8_turn t.toNat (qm_lk kt_87 t) := qm_lk_ok (List.forall_mem_cons.mpr ⟨⟨by decide, kc_87_0⟩, List.forall_mem_cons.mpr ⟨⟨by decide, kc_87_14⟩, List.forall_mem_cons.mpr ⟨⟨by decide, kc_87_16⟩, List.forall_mem_cons.mpr ⟨⟨by decide, kc_87_32⟩, List.forall_mem_cons.mpr ⟨⟨by decide, kc_87_51⟩, List.forall_mem_cons.mpr ⟨⟨by decide, kc_87_63⟩, List.forall_mem_cons.mpr ⟨⟨by decide, kc_87_94⟩, List.forall_mem_cons.mpr ⟨⟨by decide, kc_87_100⟩, List.forall_mem_cons.mpr ⟨⟨by decide, kc_87_106⟩, fun _ h => absurd h List.not_mem_nil⟩⟩⟩⟩⟩⟩⟩⟩⟩)
theorem kg_87 : qm_G1 (yX8_turn, cX8_turn, 6, some .int, 8, 2) (6, kt_87) := ⟨rfl, false, (fun z => by cases z), ka_87⟩
-- 88: TowerBoards.without
def kk_88_173 : List qm_I := (.aload 0, 0, 0, 0) :: (.iload 4, 0, 0, 0) :: (.invokevirtual 124, 2, 8, 0) :: (.ireturn, 0, 0, 0) :: []
def kk_88_139 : List qm_I := (.iaload, 0, 0, 0) :: (.istore 8, 0, 0, 0) :: (.aload 0, 0, 0, 0) :: (.getfield 8, 3, 0, 0) :: (.getfield 1, 3, 0, 0) :: (.iload 7, 0, 0, 0) :: (.iload 8, 0, 0, 0) :: (.iload 6, 0, 0, 0) :: (.iand, 0, 0, 0) :: (.iload 8, 0, 0, 0) :: (.iconst 0, 0, 0, 1) :: (.ishr, 0, 0, 0) :: (.iload 6, 0, 0, 0) :: (.iconst 0, 0, 0, -1) :: (.ixor, 0, 0, 0) :: (.iand, 0, 0, 0) :: (.ior, 0, 0, 0) :: (.iastore, 0, 0, 0) :: (.iinc 7 0, 0, 0, 1) :: (.goto 107, 0, 0, 0) :: kk_88_173
def kk_88_135 : List qm_I := (.iload 7, 0, 0, 0) :: (.iconst 0, 0, 0, 1) :: (.iadd, 0, 0, 0) :: kk_88_139
def kk_88_107 : List qm_I := (.iload 7, 0, 0, 0) :: (.aload 0, 0, 0, 0) :: (.getfield 8, 3, 0, 0) :: (.getfield 1, 1, 0, 0) :: (.if_icmp .ge 173, 0, 0, 0) :: (.aload 5, 0, 0, 0) :: (.getfield 1, 3, 0, 0) :: (.iload 7, 0, 0, 0) :: (.iload 2, 0, 0, 0) :: (.if_icmp .ge 135, 0, 0, 0) :: (.iload 7, 0, 0, 0) :: (.goto 139, 0, 0, 0) :: kk_88_135
def kk_88_75 : List qm_I := (.iconst 0, 0, 0, 1) :: (.iload 3, 0, 0, 0) :: (.ishl, 0, 0, 0) :: (.iconst 0, 0, 0, 1) :: (.isub, 0, 0, 0) :: (.istore 6, 0, 0, 0) :: (.aload 0, 0, 0, 0) :: (.getfield 8, 3, 0, 0) :: (.iconst 0, 0, 0, 0) :: (.aload 5, 0, 0, 0) :: (.getfield 1, 1, 0, 0) :: (.iconst 0, 0, 0, 1) :: (.isub, 0, 0, 0) :: (.aload 5, 0, 0, 0) :: (.getfield 1, 2, 0, 0) :: (.iconst 0, 0, 0, 1) :: (.isub, 0, 0, 0) :: (.invokevirtual 10, 4, 1, 0) :: (.iconst 0, 0, 0, 0) :: (.istore 7, 0, 0, 0) :: kk_88_107
def kk_88_69 : List qm_I := (.aload 0, 0, 0, 0) :: (.iconst 0, 0, 0, 5) :: (.invokevirtual 123, 2, 8, 0) :: (.ireturn, 0, 0, 0) :: kk_88_75
def kk_88_51 : List qm_I := (.aload 5, 0, 0, 0) :: (.getfield 1, 1, 0, 0) :: (.iconst 0, 0, 0, 1) :: (.if_icmp .eq 69, 0, 0, 0) :: (.aload 5, 0, 0, 0) :: (.getfield 1, 2, 0, 0) :: (.iconst 0, 0, 0, 1) :: (.if_icmp .ne 75, 0, 0, 0) :: kk_88_69
def kk_88_35 : List qm_I := (.aload 5, 0, 0, 0) :: (.iload 2, 0, 0, 0) :: (.iload 3, 0, 0, 0) :: (.invokevirtual 18, 3, 1, 0) :: (.ifCond .ne 51, 0, 0, 0) :: (.aload 0, 0, 0, 0) :: (.iconst 0, 0, 0, 2) :: (.invokevirtual 123, 2, 8, 0) :: (.ireturn, 0, 0, 0) :: kk_88_51
def kk_88_17 : List qm_I := (.aload 0, 0, 0, 0) :: (.iload 1, 0, 0, 0) :: (.invokevirtual 122, 2, 8, 0) :: (.astore 5, 0, 0, 0) :: (.aload 5, 0, 0, 0) :: (.ifnonnull 35, 0, 0, 0) :: (.aload 0, 0, 0, 0) :: (.iconst 0, 0, 0, 1) :: (.invokevirtual 123, 2, 8, 0) :: (.ireturn, 0, 0, 0) :: kk_88_35
def kk_88_15 : List qm_I := (.iconst 0, 0, 0, -1) :: (.ireturn, 0, 0, 0) :: kk_88_17
def kk_88_0 : List qm_I := (.iload 1, 0, 0, 0) :: (.invokestatic 120, 1, 0, 0) :: (.ifCond .eq 15, 0, 0, 0) :: (.iload 4, 0, 0, 0) :: (.invokestatic 120, 1, 0, 0) :: (.ifCond .ne 17, 0, 0, 0) :: kk_88_15
def kt_88 : qm_T := [(0, kk_88_0), (15, kk_88_15), (17, kk_88_17), (35, kk_88_35), (51, kk_88_51), (69, kk_88_69), (75, kk_88_75), (107, kk_88_107), (135, kk_88_135), (139, kk_88_139), (173, kk_88_173)]
theorem kc_88_173 : qm_chain 8 false (some .int) cX8_without 173 kk_88_173 := qm_chain_of _ _ _ _ 4 _ 180 _ (by decide +kernel) trivial
theorem kc_88_139 : qm_chain 8 false (some .int) cX8_without 139 kk_88_139 := qm_chain_of _ _ _ _ 20 _ 173 _ (by decide +kernel) kc_88_173
theorem kc_88_135 : qm_chain 8 false (some .int) cX8_without 135 kk_88_135 := qm_chain_of _ _ _ _ 3 _ 139 _ (by decide +kernel) kc_88_139
theorem kc_88_107 : qm_chain 8 false (some .int) cX8_without 107 kk_88_107 := qm_chain_of _ _ _ _ 12 _ 135 _ (by decide +kernel) kc_88_135
theorem kc_88_75 : qm_chain 8 false (some .int) cX8_without 75 kk_88_75 := qm_chain_of _ _ _ _ 20 _ 107 _ (by decide +kernel) kc_88_107
theorem kc_88_69 : qm_chain 8 false (some .int) cX8_without 69 kk_88_69 := qm_chain_of _ _ _ _ 4 _ 75 _ (by decide +kernel) kc_88_75
theorem kc_88_51 : qm_chain 8 false (some .int) cX8_without 51 kk_88_51 := qm_chain_of _ _ _ _ 8 _ 69 _ (by decide +kernel) kc_88_69
theorem kc_88_35 : qm_chain 8 false (some .int) cX8_without 35 kk_88_35 := qm_chain_of _ _ _ _ 9 _ 51 _ (by decide +kernel) kc_88_51
theorem kc_88_17 : qm_chain 8 false (some .int) cX8_without 17 kk_88_17 := qm_chain_of _ _ _ _ 10 _ 35 _ (by decide +kernel) kc_88_35
theorem kc_88_15 : qm_chain 8 false (some .int) cX8_without 15 kk_88_15 := qm_chain_of _ _ _ _ 2 _ 17 _ (by decide +kernel) kc_88_17
theorem kc_88_0 : qm_chain 8 false (some .int) cX8_without 0 kk_88_0 := qm_chain_of _ _ _ _ 6 _ 15 _ (by decide +kernel) kc_88_15
theorem ka_88 : ∀ t : Int, 0 ≤ t → qm_chain 8 false (some .int) cX8_without t.toNat (qm_lk kt_88 t) := qm_lk_ok (List.forall_mem_cons.mpr ⟨⟨by decide, kc_88_0⟩, List.forall_mem_cons.mpr ⟨⟨by decide, kc_88_15⟩, List.forall_mem_cons.mpr ⟨⟨by decide, kc_88_17⟩, List.forall_mem_cons.mpr ⟨⟨by decide, kc_88_35⟩, List.forall_mem_cons.mpr ⟨⟨by decide, kc_88_51⟩, List.forall_mem_cons.mpr ⟨⟨by decide, kc_88_69⟩, List.forall_mem_cons.mpr ⟨⟨by decide, kc_88_75⟩, List.forall_mem_cons.mpr ⟨⟨by decide, kc_88_107⟩, List.forall_mem_cons.mpr ⟨⟨by decide, kc_88_135⟩, List.forall_mem_cons.mpr ⟨⟨by decide, kc_88_139⟩, List.forall_mem_cons.mpr ⟨⟨by decide, kc_88_173⟩, fun _ h => absurd h List.not_mem_nil⟩⟩⟩⟩⟩⟩⟩⟩⟩⟩⟩)
theorem kg_88 : qm_G1 (yX8_without, cX8_without, 9, some .int, 8, 4) (9, kt_88) := ⟨rfl, false, (fun z => by cases z), ka_88⟩
-- 89: TowerBoards.join
def kk_89_178 : List qm_I := (.aload 0, 0, 0, 0) :: (.iload 3, 0, 0, 0) :: (.invokevirtual 124, 2, 8, 0) :: (.ireturn, 0, 0, 0) :: []
def kk_89_171 : List qm_I := (.iastore, 0, 0, 0) :: (.iinc 8 0, 0, 0, 1) :: (.goto 114, 0, 0, 0) :: kk_89_178
def kk_89_151 : List qm_I := (.aload 5, 0, 0, 0) :: (.getfield 1, 3, 0, 0) :: (.iload 8, 0, 0, 0) :: (.aload 4, 0, 0, 0) :: (.getfield 1, 1, 0, 0) :: (.isub, 0, 0, 0) :: (.iaload, 0, 0, 0) :: (.aload 4, 0, 0, 0) :: (.getfield 1, 2, 0, 0) :: (.ishl, 0, 0, 0) :: kk_89_171
def kk_89_114 : List qm_I := (.iload 8, 0, 0, 0) :: (.iload 6, 0, 0, 0) :: (.if_icmp .ge 178, 0, 0, 0) :: (.aload 0, 0, 0, 0) :: (.getfield 8, 3, 0, 0) :: (.getfield 1, 3, 0, 0) :: (.iload 8, 0, 0, 0) :: (.iload 8, 0, 0, 0) :: (.aload 4, 0, 0, 0) :: (.getfield 1, 1, 0, 0) :: (.if_icmp .ge 151, 0, 0, 0) :: (.aload 4, 0, 0, 0) :: (.getfield 1, 3, 0, 0) :: (.iload 8, 0, 0, 0) :: (.iaload, 0, 0, 0) :: (.goto 171, 0, 0, 0) :: kk_89_151
def kk_89_99 : List qm_I := (.aload 0, 0, 0, 0) :: (.getfield 8, 3, 0, 0) :: (.iconst 0, 0, 0, 0) :: (.iload 6, 0, 0, 0) :: (.iload 7, 0, 0, 0) :: (.invokevirtual 10, 4, 1, 0) :: (.iconst 0, 0, 0, 0) :: (.istore 8, 0, 0, 0) :: kk_89_114
def kk_89_93 : List qm_I := (.aload 0, 0, 0, 0) :: (.iconst 0, 0, 0, 5) :: (.invokevirtual 123, 2, 8, 0) :: (.ireturn, 0, 0, 0) :: kk_89_99
def kk_89_53 : List qm_I := (.aload 4, 0, 0, 0) :: (.getfield 1, 1, 0, 0) :: (.aload 5, 0, 0, 0) :: (.getfield 1, 1, 0, 0) :: (.iadd, 0, 0, 0) :: (.istore 6, 0, 0, 0) :: (.aload 4, 0, 0, 0) :: (.getfield 1, 2, 0, 0) :: (.aload 5, 0, 0, 0) :: (.getfield 1, 2, 0, 0) :: (.iadd, 0, 0, 0) :: (.istore 7, 0, 0, 0) :: (.iload 6, 0, 0, 0) :: (.iconst 0, 0, 0, 6) :: (.if_icmp .gt 93, 0, 0, 0) :: (.iload 7, 0, 0, 0) :: (.iconst 0, 0, 0, 6) :: (.if_icmp .le 99, 0, 0, 0) :: kk_89_93
def kk_89_47 : List qm_I := (.aload 0, 0, 0, 0) :: (.iconst 0, 0, 0, 1) :: (.invokevirtual 123, 2, 8, 0) :: (.ireturn, 0, 0, 0) :: kk_89_53
def kk_89_23 : List qm_I := (.aload 0, 0, 0, 0) :: (.iload 1, 0, 0, 0) :: (.invokevirtual 122, 2, 8, 0) :: (.astore 4, 0, 0, 0) :: (.aload 0, 0, 0, 0) :: (.iload 2, 0, 0, 0) :: (.invokevirtual 122, 2, 8, 0) :: (.astore 5, 0, 0, 0) :: (.aload 4, 0, 0, 0) :: (.ifnull 47, 0, 0, 0) :: (.aload 5, 0, 0, 0) :: (.ifnonnull 53, 0, 0, 0) :: kk_89_47
def kk_89_21 : List qm_I := (.iconst 0, 0, 0, -1) :: (.ireturn, 0, 0, 0) :: kk_89_23
def kk_89_0 : List qm_I := (.iload 1, 0, 0, 0) :: (.invokestatic 120, 1, 0, 0) :: (.ifCond .eq 21, 0, 0, 0) :: (.iload 2, 0, 0, 0) :: (.invokestatic 120, 1, 0, 0) :: (.ifCond .eq 21, 0, 0, 0) :: (.iload 3, 0, 0, 0) :: (.invokestatic 120, 1, 0, 0) :: (.ifCond .ne 23, 0, 0, 0) :: kk_89_21
def kt_89 : qm_T := [(0, kk_89_0), (21, kk_89_21), (23, kk_89_23), (47, kk_89_47), (53, kk_89_53), (93, kk_89_93), (99, kk_89_99), (114, kk_89_114), (151, kk_89_151), (171, kk_89_171), (178, kk_89_178)]
theorem kc_89_178 : qm_chain 8 false (some .int) cX8_join 178 kk_89_178 := qm_chain_of _ _ _ _ 4 _ 184 _ (by decide +kernel) trivial
theorem kc_89_171 : qm_chain 8 false (some .int) cX8_join 171 kk_89_171 := qm_chain_of _ _ _ _ 3 _ 178 _ (by decide +kernel) kc_89_178
theorem kc_89_151 : qm_chain 8 false (some .int) cX8_join 151 kk_89_151 := qm_chain_of _ _ _ _ 10 _ 171 _ (by decide +kernel) kc_89_171
theorem kc_89_114 : qm_chain 8 false (some .int) cX8_join 114 kk_89_114 := qm_chain_of _ _ _ _ 16 _ 151 _ (by decide +kernel) kc_89_151
theorem kc_89_99 : qm_chain 8 false (some .int) cX8_join 99 kk_89_99 := qm_chain_of _ _ _ _ 8 _ 114 _ (by decide +kernel) kc_89_114
theorem kc_89_93 : qm_chain 8 false (some .int) cX8_join 93 kk_89_93 := qm_chain_of _ _ _ _ 4 _ 99 _ (by decide +kernel) kc_89_99
theorem kc_89_53 : qm_chain 8 false (some .int) cX8_join 53 kk_89_53 := qm_chain_of _ _ _ _ 18 _ 93 _ (by decide +kernel) kc_89_93
theorem kc_89_47 : qm_chain 8 false (some .int) cX8_join 47 kk_89_47 := qm_chain_of _ _ _ _ 4 _ 53 _ (by decide +kernel) kc_89_53
theorem kc_89_23 : qm_chain 8 false (some .int) cX8_join 23 kk_89_23 := qm_chain_of _ _ _ _ 12 _ 47 _ (by decide +kernel) kc_89_47
theorem kc_89_21 : qm_chain 8 false (some .int) cX8_join 21 kk_89_21 := qm_chain_of _ _ _ _ 2 _ 23 _ (by decide +kernel) kc_89_23
theorem kc_89_0 : qm_chain 8 false (some .int) cX8_join 0 kk_89_0 := qm_chain_of _ _ _ _ 9 _ 21 _ (by decide +kernel) kc_89_21
theorem ka_89 : ∀ t : Int, 0 ≤ t → qm_chain 8 false (some .int) cX8_join t.toNat (qm_lk kt_89 t) := qm_lk_ok (List.forall_mem_cons.mpr ⟨⟨by decide, kc_89_0⟩, List.forall_mem_cons.mpr ⟨⟨by decide, kc_89_21⟩, List.forall_mem_cons.mpr ⟨⟨by decide, kc_89_23⟩, List.forall_mem_cons.mpr ⟨⟨by decide, kc_89_47⟩, List.forall_mem_cons.mpr ⟨⟨by decide, kc_89_53⟩, List.forall_mem_cons.mpr ⟨⟨by decide, kc_89_93⟩, List.forall_mem_cons.mpr ⟨⟨by decide, kc_89_99⟩, List.forall_mem_cons.mpr ⟨⟨by decide, kc_89_114⟩, List.forall_mem_cons.mpr ⟨⟨by decide, kc_89_151⟩, List.forall_mem_cons.mpr ⟨⟨by decide, kc_89_171⟩, List.forall_mem_cons.mpr ⟨⟨by decide, kc_89_178⟩, fun _ h => absurd h List.not_mem_nil⟩⟩⟩⟩⟩⟩⟩⟩⟩⟩⟩)
theorem kg_89 : qm_G1 (yX8_join, cX8_join, 9, some .int, 8, 3) (9, kt_89) := ⟨rfl, false, (fun z => by cases z), ka_89⟩
-- 90: TowerBoards.towers
def kk_90_35 : List qm_I := (.aload 0, 0, 0, 0) :: (.getfield 8, 4, 0, 0) :: (.aload 3, 0, 0, 0) :: (.invokevirtual 43, 2, 5, 0) :: (.aload 0, 0, 0, 0) :: (.aload 0, 0, 0, 0) :: (.getfield 8, 4, 0, 0) :: (.iload 2, 0, 0, 0) :: (.invokevirtual 46, 2, 5, 0) :: (.i2l, 0, 0, 0) :: (.putfield 8, 11, 1, 0) :: (.iconst 0, 0, 0, 1) :: (.ireturn, 0, 0, 0) :: []
def kk_90_19 : List qm_I := (.aload 0, 0, 0, 0) :: (.iload 1, 0, 0, 0) :: (.invokevirtual 122, 2, 8, 0) :: (.astore 3, 0, 0, 0) :: (.aload 3, 0, 0, 0) :: (.ifnonnull 35, 0, 0, 0) :: (.aload 0, 0, 0, 0) :: (.iconst 0, 0, 0, 1) :: (.invokevirtual 123, 2, 8, 0) :: (.ireturn, 0, 0, 0) :: kk_90_35
def kk_90_17 : List qm_I := (.iconst 0, 0, 0, -1) :: (.ireturn, 0, 0, 0) :: kk_90_19
def kk_90_0 : List qm_I := (.iload 1, 0, 0, 0) :: (.invokestatic 120, 1, 0, 0) :: (.ifCond .eq 17, 0, 0, 0) :: (.iload 2, 0, 0, 0) :: (.iconst 0, 0, 0, 0) :: (.iconst 0, 0, 0, 36) :: (.invokestatic 118, 3, 0, 0) :: (.ifCond .ne 19, 0, 0, 0) :: kk_90_17
def kt_90 : qm_T := [(0, kk_90_0), (17, kk_90_17), (19, kk_90_19), (35, kk_90_35)]
theorem kc_90_35 : qm_chain 8 false (some .int) cX8_towers 35 kk_90_35 := qm_chain_of _ _ _ _ 13 _ 58 _ (by decide +kernel) trivial
theorem kc_90_19 : qm_chain 8 false (some .int) cX8_towers 19 kk_90_19 := qm_chain_of _ _ _ _ 10 _ 35 _ (by decide +kernel) kc_90_35
theorem kc_90_17 : qm_chain 8 false (some .int) cX8_towers 17 kk_90_17 := qm_chain_of _ _ _ _ 2 _ 19 _ (by decide +kernel) kc_90_19
theorem kc_90_0 : qm_chain 8 false (some .int) cX8_towers 0 kk_90_0 := qm_chain_of _ _ _ _ 8 _ 17 _ (by decide +kernel) kc_90_17
theorem ka_90 : ∀ t : Int, 0 ≤ t → qm_chain 8 false (some .int) cX8_towers t.toNat (qm_lk kt_90 t) := qm_lk_ok (List.forall_mem_cons.mpr ⟨⟨by decide, kc_90_0⟩, List.forall_mem_cons.mpr ⟨⟨by decide, kc_90_17⟩, List.forall_mem_cons.mpr ⟨⟨by decide, kc_90_19⟩, List.forall_mem_cons.mpr ⟨⟨by decide, kc_90_35⟩, fun _ h => absurd h List.not_mem_nil⟩⟩⟩⟩)
theorem kg_90 : qm_G1 (yX8_towers, cX8_towers, 4, some .int, 8, 2) (4, kt_90) := ⟨rfl, false, (fun z => by cases z), ka_90⟩
-- 91: TowerBoards.hits
def kk_91_35 : List qm_I := (.aload 0, 0, 0, 0) :: (.getfield 8, 4, 0, 0) :: (.aload 3, 0, 0, 0) :: (.invokevirtual 43, 2, 5, 0) :: (.aload 0, 0, 0, 0) :: (.aload 0, 0, 0, 0) :: (.getfield 8, 4, 0, 0) :: (.iload 2, 0, 0, 0) :: (.aload 3, 0, 0, 0) :: (.invokevirtual 16, 1, 1, 0) :: (.invokevirtual 49, 3, 5, 0) :: (.putfield 8, 11, 1, 0) :: (.iconst 0, 0, 0, 1) :: (.ireturn, 0, 0, 0) :: []
def kk_91_19 : List qm_I := (.aload 0, 0, 0, 0) :: (.iload 1, 0, 0, 0) :: (.invokevirtual 122, 2, 8, 0) :: (.astore 3, 0, 0, 0) :: (.aload 3, 0, 0, 0) :: (.ifnonnull 35, 0, 0, 0) :: (.aload 0, 0, 0, 0) :: (.iconst 0, 0, 0, 1) :: (.invokevirtual 123, 2, 8, 0) :: (.ireturn, 0, 0, 0) :: kk_91_35
def kk_91_17 : List qm_I := (.iconst 0, 0, 0, -1) :: (.ireturn, 0, 0, 0) :: kk_91_19
def kk_91_0 : List qm_I := (.iload 1, 0, 0, 0) :: (.invokestatic 120, 1, 0, 0) :: (.ifCond .eq 17, 0, 0, 0) :: (.iload 2, 0, 0, 0) :: (.iconst 0, 0, 0, 0) :: (.iconst 0, 0, 0, 6) :: (.invokestatic 118, 3, 0, 0) :: (.ifCond .ne 19, 0, 0, 0) :: kk_91_17
def kt_91 : qm_T := [(0, kk_91_0), (17, kk_91_17), (19, kk_91_19), (35, kk_91_35)]
theorem kc_91_35 : qm_chain 8 false (some .int) cX8_hits 35 kk_91_35 := qm_chain_of _ _ _ _ 14 _ 61 _ (by decide +kernel) trivial
theorem kc_91_19 : qm_chain 8 false (some .int) cX8_hits 19 kk_91_19 := qm_chain_of _ _ _ _ 10 _ 35 _ (by decide +kernel) kc_91_35
theorem kc_91_17 : qm_chain 8 false (some .int) cX8_hits 17 kk_91_17 := qm_chain_of _ _ _ _ 2 _ 19 _ (by decide +kernel) kc_91_19
theorem kc_91_0 : qm_chain 8 false (some .int) cX8_hits 0 kk_91_0 := qm_chain_of _ _ _ _ 8 _ 17 _ (by decide +kernel) kc_91_17
theorem ka_91 : ∀ t : Int, 0 ≤ t → qm_chain 8 false (some .int) cX8_hits t.toNat (qm_lk kt_91 t) := qm_lk_ok (List.forall_mem_cons.mpr ⟨⟨by decide, kc_91_0⟩, List.forall_mem_cons.mpr ⟨⟨by decide, kc_91_17⟩, List.forall_mem_cons.mpr ⟨⟨by decide, kc_91_19⟩, List.forall_mem_cons.mpr ⟨⟨by decide, kc_91_35⟩, fun _ h => absurd h List.not_mem_nil⟩⟩⟩⟩)
theorem kg_91 : qm_G1 (yX8_hits, cX8_hits, 4, some .int, 8, 2) (4, kt_91) := ⟨rfl, false, (fun z => by cases z), ka_91⟩
-- 92: TowerBoards.meanHits
def kk_92_25 : List qm_I := (.aload 0, 0, 0, 0) :: (.aload 2, 0, 0, 0) :: (.invokevirtual 21, 1, 1, 0) :: (.aload 2, 0, 0, 0) :: (.invokevirtual 16, 1, 1, 0) :: (.invokevirtual 125, 3, 8, 0) :: (.iconst 0, 0, 0, 1) :: (.ireturn, 0, 0, 0) :: []
def kk_92_9 : List qm_I := (.aload 0, 0, 0, 0) :: (.iload 1, 0, 0, 0) :: (.invokevirtual 122, 2, 8, 0) :: (.astore 2, 0, 0, 0) :: (.aload 2, 0, 0, 0) :: (.ifnonnull 25, 0, 0, 0) :: (.aload 0, 0, 0, 0) :: (.iconst 0, 0, 0, 1) :: (.invokevirtual 123, 2, 8, 0) :: (.ireturn, 0, 0, 0) :: kk_92_25
def kk_92_0 : List qm_I := (.iload 1, 0, 0, 0) :: (.invokestatic 120, 1, 0, 0) :: (.ifCond .ne 9, 0, 0, 0) :: (.iconst 0, 0, 0, -1) :: (.ireturn, 0, 0, 0) :: kk_92_9
def kt_92 : qm_T := [(0, kk_92_0), (9, kk_92_9), (25, kk_92_25)]
theorem kc_92_25 : qm_chain 8 false (some .int) cX8_meanHits 25 kk_92_25 := qm_chain_of _ _ _ _ 8 _ 39 _ (by decide +kernel) trivial
theorem kc_92_9 : qm_chain 8 false (some .int) cX8_meanHits 9 kk_92_9 := qm_chain_of _ _ _ _ 10 _ 25 _ (by decide +kernel) kc_92_25
theorem kc_92_0 : qm_chain 8 false (some .int) cX8_meanHits 0 kk_92_0 := qm_chain_of _ _ _ _ 5 _ 9 _ (by decide +kernel) kc_92_9
theorem ka_92 : ∀ t : Int, 0 ≤ t → qm_chain 8 false (some .int) cX8_meanHits t.toNat (qm_lk kt_92 t) := qm_lk_ok (List.forall_mem_cons.mpr ⟨⟨by decide, kc_92_0⟩, List.forall_mem_cons.mpr ⟨⟨by decide, kc_92_9⟩, List.forall_mem_cons.mpr ⟨⟨by decide, kc_92_25⟩, fun _ h => absurd h List.not_mem_nil⟩⟩⟩)
theorem kg_92 : qm_G1 (yX8_meanHits, cX8_meanHits, 3, some .int, 8, 1) (3, kt_92) := ⟨rfl, false, (fun z => by cases z), ka_92⟩
-- 93: TowerBoards.alike
def kk_93_80 : List qm_I := (.ireturn, 0, 0, 0) :: []
def kk_93_79 : List qm_I := (.iconst 0, 0, 0, 0) :: kk_93_80
def kk_93_44 : List qm_I := (.aload 0, 0, 0, 0) :: (.getfield 8, 4, 0, 0) :: (.aload 3, 0, 0, 0) :: (.invokevirtual 43, 2, 5, 0) :: (.aload 0, 0, 0, 0) :: (.getfield 8, 5, 0, 0) :: (.aload 4, 0, 0, 0) :: (.invokevirtual 43, 2, 5, 0) :: (.aload 0, 0, 0, 0) :: (.getfield 8, 4, 0, 0) :: (.aload 0, 0, 0, 0) :: (.getfield 8, 5, 0, 0) :: (.invokevirtual 48, 2, 5, 0) :: (.ifCond .eq 79, 0, 0, 0) :: (.iconst 0, 0, 0, 1) :: (.goto 80, 0, 0, 0) :: kk_93_79
def kk_93_38 : List qm_I := (.aload 0, 0, 0, 0) :: (.iconst 0, 0, 0, 1) :: (.invokevirtual 123, 2, 8, 0) :: (.ireturn, 0, 0, 0) :: kk_93_44
def kk_93_16 : List qm_I := (.aload 0, 0, 0, 0) :: (.iload 1, 0, 0, 0) :: (.invokevirtual 122, 2, 8, 0) :: (.astore 3, 0, 0, 0) :: (.aload 0, 0, 0, 0) :: (.iload 2, 0, 0, 0) :: (.invokevirtual 122, 2, 8, 0) :: (.astore 4, 0, 0, 0) :: (.aload 3, 0, 0, 0) :: (.ifnull 38, 0, 0, 0) :: (.aload 4, 0, 0, 0) :: (.ifnonnull 44, 0, 0, 0) :: kk_93_38
def kk_93_14 : List qm_I := (.iconst 0, 0, 0, -1) :: (.ireturn, 0, 0, 0) :: kk_93_16
def kk_93_0 : List qm_I := (.iload 1, 0, 0, 0) :: (.invokestatic 120, 1, 0, 0) :: (.ifCond .eq 14, 0, 0, 0) :: (.iload 2, 0, 0, 0) :: (.invokestatic 120, 1, 0, 0) :: (.ifCond .ne 16, 0, 0, 0) :: kk_93_14
def kt_93 : qm_T := [(0, kk_93_0), (14, kk_93_14), (16, kk_93_16), (38, kk_93_38), (44, kk_93_44), (79, kk_93_79), (80, kk_93_80)]
theorem kc_93_80 : qm_chain 8 false (some .int) cX8_alike 80 kk_93_80 := qm_chain_of _ _ _ _ 1 _ 81 _ (by decide +kernel) trivial
theorem kc_93_79 : qm_chain 8 false (some .int) cX8_alike 79 kk_93_79 := qm_chain_of _ _ _ _ 1 _ 80 _ (by decide +kernel) kc_93_80
theorem kc_93_44 : qm_chain 8 false (some .int) cX8_alike 44 kk_93_44 := qm_chain_of _ _ _ _ 16 _ 79 _ (by decide +kernel) kc_93_79
theorem kc_93_38 : qm_chain 8 false (some .int) cX8_alike 38 kk_93_38 := qm_chain_of _ _ _ _ 4 _ 44 _ (by decide +kernel) kc_93_44
theorem kc_93_16 : qm_chain 8 false (some .int) cX8_alike 16 kk_93_16 := qm_chain_of _ _ _ _ 12 _ 38 _ (by decide +kernel) kc_93_38
theorem kc_93_14 : qm_chain 8 false (some .int) cX8_alike 14 kk_93_14 := qm_chain_of _ _ _ _ 2 _ 16 _ (by decide +kernel) kc_93_16
theorem kc_93_0 : qm_chain 8 false (some .int) cX8_alike 0 kk_93_0 := qm_chain_of _ _ _ _ 6 _ 14 _ (by decide +kernel) kc_93_14
theorem ka_93 : ∀ t : Int, 0 ≤ t → qm_chain 8 false (some .int) cX8_alike t.toNat (qm_lk kt_93 t) := qm_lk_ok (List.forall_mem_cons.mpr ⟨⟨by decide, kc_93_0⟩, List.forall_mem_cons.mpr ⟨⟨by decide, kc_93_14⟩, List.forall_mem_cons.mpr ⟨⟨by decide, kc_93_16⟩, List.forall_mem_cons.mpr ⟨⟨by decide, kc_93_38⟩, List.forall_mem_cons.mpr ⟨⟨by decide, kc_93_44⟩, List.forall_mem_cons.mpr ⟨⟨by decide, kc_93_79⟩, List.forall_mem_cons.mpr ⟨⟨by decide, kc_93_80⟩, fun _ h => absurd h List.not_mem_nil⟩⟩⟩⟩⟩⟩⟩)
theorem kg_93 : qm_G1 (yX8_alike, cX8_alike, 5, some .int, 8, 2) (5, kt_93) := ⟨rfl, false, (fun z => by cases z), ka_93⟩
-- 94: TowerBoards.stairsLike
def kk_94_152 : List qm_I := (.iload 5, 0, 0, 0) :: (.ireturn, 0, 0, 0) :: []
def kk_94_146 : List qm_I := (.iinc 6 0, 0, 0, 1) :: (.goto 61, 0, 0, 0) :: kk_94_152
def kk_94_133 : List qm_I := (.aload 0, 0, 0, 0) :: (.getfield 8, 9, 0, 0) :: (.invokevirtual 34, 1, 3, 0) :: (.ifCond .ne 146, 0, 0, 0) :: (.goto 152, 0, 0, 0) :: kk_94_146
def kk_94_130 : List qm_I := (.iinc 5 0, 0, 0, 1) :: kk_94_133
def kk_94_61 : List qm_I := (.iload 6, 0, 0, 0) :: (.iconst 0, 0, 0, 924) :: (.if_icmp .ge 152, 0, 0, 0) :: (.aload 0, 0, 0, 0) :: (.getfield 8, 9, 0, 0) :: (.aload 0, 0, 0, 0) :: (.getfield 8, 4, 0, 0) :: (.iconst 0, 0, 0, 1) :: (.invokevirtual 46, 2, 5, 0) :: (.invokevirtual 35, 2, 3, 0) :: (.ifCond .eq 133, 0, 0, 0) :: (.aload 0, 0, 0, 0) :: (.getfield 8, 5, 0, 0) :: (.aload 0, 0, 0, 0) :: (.getfield 8, 9, 0, 0) :: (.invokevirtual 45, 2, 5, 0) :: (.aload 0, 0, 0, 0) :: (.getfield 8, 4, 0, 0) :: (.aload 0, 0, 0, 0) :: (.getfield 8, 5, 0, 0) :: (.invokevirtual 48, 2, 5, 0) :: (.ifCond .eq 133, 0, 0, 0) :: (.iload 5, 0, 0, 0) :: (.ifCond .ne 130, 0, 0, 0) :: (.aload 0, 0, 0, 0) :: (.getfield 8, 9, 0, 0) :: (.aload 0, 0, 0, 0) :: (.getfield 8, 0, 0, 0) :: (.iload 2, 0, 0, 0) :: (.aaload, 0, 0, 0) :: (.invokevirtual 36, 2, 3, 0) :: kk_94_130
def kk_94_32 : List qm_I := (.aload 3, 0, 0, 0) :: (.invokevirtual 16, 1, 1, 0) :: (.istore 4, 0, 0, 0) :: (.iconst 0, 0, 0, 0) :: (.istore 5, 0, 0, 0) :: (.aload 0, 0, 0, 0) :: (.getfield 8, 4, 0, 0) :: (.aload 3, 0, 0, 0) :: (.invokevirtual 43, 2, 5, 0) :: (.aload 0, 0, 0, 0) :: (.getfield 8, 9, 0, 0) :: (.iload 4, 0, 0, 0) :: (.invokevirtual 33, 2, 3, 0) :: (.iconst 0, 0, 0, 0) :: (.istore 6, 0, 0, 0) :: kk_94_61
def kk_94_16 : List qm_I := (.aload 0, 0, 0, 0) :: (.iload 1, 0, 0, 0) :: (.invokevirtual 122, 2, 8, 0) :: (.astore 3, 0, 0, 0) :: (.aload 3, 0, 0, 0) :: (.ifnonnull 32, 0, 0, 0) :: (.aload 0, 0, 0, 0) :: (.iconst 0, 0, 0, 1) :: (.invokevirtual 123, 2, 8, 0) :: (.ireturn, 0, 0, 0) :: kk_94_32
def kk_94_14 : List qm_I := (.iconst 0, 0, 0, -1) :: (.ireturn, 0, 0, 0) :: kk_94_16
def kk_94_0 : List qm_I := (.iload 1, 0, 0, 0) :: (.invokestatic 120, 1, 0, 0) :: (.ifCond .eq 14, 0, 0, 0) :: (.iload 2, 0, 0, 0) :: (.invokestatic 119, 1, 0, 0) :: (.ifCond .ne 16, 0, 0, 0) :: kk_94_14
def kt_94 : qm_T := [(0, kk_94_0), (14, kk_94_14), (16, kk_94_16), (32, kk_94_32), (61, kk_94_61), (130, kk_94_130), (133, kk_94_133), (146, kk_94_146), (152, kk_94_152)]
theorem kc_94_152 : qm_chain 8 false (some .int) cX8_stairsLike 152 kk_94_152 := qm_chain_of _ _ _ _ 2 _ 155 _ (by decide +kernel) trivial
theorem kc_94_146 : qm_chain 8 false (some .int) cX8_stairsLike 146 kk_94_146 := qm_chain_of _ _ _ _ 2 _ 152 _ (by decide +kernel) kc_94_152
theorem kc_94_133 : qm_chain 8 false (some .int) cX8_stairsLike 133 kk_94_133 := qm_chain_of _ _ _ _ 5 _ 146 _ (by decide +kernel) kc_94_146
theorem kc_94_130 : qm_chain 8 false (some .int) cX8_stairsLike 130 kk_94_130 := qm_chain_of _ _ _ _ 1 _ 133 _ (by decide +kernel) kc_94_133
theorem kc_94_61 : qm_chain 8 false (some .int) cX8_stairsLike 61 kk_94_61 := qm_chain_of _ _ _ _ 31 _ 130 _ (by decide +kernel) kc_94_130
theorem kc_94_32 : qm_chain 8 false (some .int) cX8_stairsLike 32 kk_94_32 := qm_chain_of _ _ _ _ 15 _ 61 _ (by decide +kernel) kc_94_61
theorem kc_94_16 : qm_chain 8 false (some .int) cX8_stairsLike 16 kk_94_16 := qm_chain_of _ _ _ _ 10 _ 32 _ (by decide +kernel) kc_94_32
theorem kc_94_14 : qm_chain 8 false (some .int) cX8_stairsLike 14 kk_94_14 := qm_chain_of _ _ _ _ 2 _ 16 _ (by decide +kernel) kc_94_16
theorem kc_94_0 : qm_chain 8 false (some .int) cX8_stairsLike 0 kk_94_0 := qm_chain_of _ _ _ _ 6 _ 14 _ (by decide +kernel) kc_94_14
theorem ka_94 : ∀ t : Int, 0 ≤ t → qm_chain 8 false (some .int) cX8_stairsLike t.toNat (qm_lk kt_94 t) := qm_lk_ok (List.forall_mem_cons.mpr ⟨⟨by decide, kc_94_0⟩, List.forall_mem_cons.mpr ⟨⟨by decide, kc_94_14⟩, List.forall_mem_cons.mpr ⟨⟨by decide, kc_94_16⟩, List.forall_mem_cons.mpr ⟨⟨by decide, kc_94_32⟩, List.forall_mem_cons.mpr ⟨⟨by decide, kc_94_61⟩, List.forall_mem_cons.mpr ⟨⟨by decide, kc_94_130⟩, List.forall_mem_cons.mpr ⟨⟨by decide, kc_94_133⟩, List.forall_mem_cons.mpr ⟨⟨by decide, kc_94_146⟩, List.forall_mem_cons.mpr ⟨⟨by decide, kc_94_152⟩, fun _ h => absurd h List.not_mem_nil⟩⟩⟩⟩⟩⟩⟩⟩⟩)
theorem kg_94 : qm_G1 (yX8_stairsLike, cX8_stairsLike, 7, some .int, 8, 2) (7, kt_94) := ⟨rfl, false, (fun z => by cases z), ka_94⟩
-- 95: TowerBoards.sum
def kk_95_36 : List qm_I := (.aload 0, 0, 0, 0) :: (.getfield 8, 4, 0, 0) :: (.aload 3, 0, 0, 0) :: (.invokevirtual 43, 2, 5, 0) :: (.aload 0, 0, 0, 0) :: (.aload 0, 0, 0, 0) :: (.getfield 8, 4, 0, 0) :: (.iload 2, 0, 0, 0) :: (.aload 3, 0, 0, 0) :: (.invokevirtual 16, 1, 1, 0) :: (.invokevirtual 51, 3, 5, 0) :: (.putfield 8, 11, 1, 0) :: (.iconst 0, 0, 0, 1) :: (.ireturn, 0, 0, 0) :: []
def kk_95_20 : List qm_I := (.aload 0, 0, 0, 0) :: (.iload 1, 0, 0, 0) :: (.invokevirtual 122, 2, 8, 0) :: (.astore 3, 0, 0, 0) :: (.aload 3, 0, 0, 0) :: (.ifnonnull 36, 0, 0, 0) :: (.aload 0, 0, 0, 0) :: (.iconst 0, 0, 0, 1) :: (.invokevirtual 123, 2, 8, 0) :: (.ireturn, 0, 0, 0) :: kk_95_36
def kk_95_18 : List qm_I := (.iconst 0, 0, 0, -1) :: (.ireturn, 0, 0, 0) :: kk_95_20
def kk_95_0 : List qm_I := (.iload 1, 0, 0, 0) :: (.invokestatic 120, 1, 0, 0) :: (.ifCond .eq 18, 0, 0, 0) :: (.iload 2, 0, 0, 0) :: (.iconst 0, 0, 0, -50) :: (.iconst 0, 0, 0, 50) :: (.invokestatic 118, 3, 0, 0) :: (.ifCond .ne 20, 0, 0, 0) :: kk_95_18
def kt_95 : qm_T := [(0, kk_95_0), (18, kk_95_18), (20, kk_95_20), (36, kk_95_36)]
theorem kc_95_36 : qm_chain 8 false (some .int) cX8_sum 36 kk_95_36 := qm_chain_of _ _ _ _ 14 _ 62 _ (by decide +kernel) trivial
theorem kc_95_20 : qm_chain 8 false (some .int) cX8_sum 20 kk_95_20 := qm_chain_of _ _ _ _ 10 _ 36 _ (by decide +kernel) kc_95_36
theorem kc_95_18 : qm_chain 8 false (some .int) cX8_sum 18 kk_95_18 := qm_chain_of _ _ _ _ 2 _ 20 _ (by decide +kernel) kc_95_20
theorem kc_95_0 : qm_chain 8 false (some .int) cX8_sum 0 kk_95_0 := qm_chain_of _ _ _ _ 8 _ 18 _ (by decide +kernel) kc_95_18
theorem ka_95 : ∀ t : Int, 0 ≤ t → qm_chain 8 false (some .int) cX8_sum t.toNat (qm_lk kt_95 t) := qm_lk_ok (List.forall_mem_cons.mpr ⟨⟨by decide, kc_95_0⟩, List.forall_mem_cons.mpr ⟨⟨by decide, kc_95_18⟩, List.forall_mem_cons.mpr ⟨⟨by decide, kc_95_20⟩, List.forall_mem_cons.mpr ⟨⟨by decide, kc_95_36⟩, fun _ h => absurd h List.not_mem_nil⟩⟩⟩⟩)
theorem kg_95 : qm_G1 (yX8_sum, cX8_sum, 4, some .int, 8, 2) (4, kt_95) := ⟨rfl, false, (fun z => by cases z), ka_95⟩
-- 96: TowerBoards.root
def kk_96_70 : List qm_I := (.aload 0, 0, 0, 0) :: (.iload 2, 0, 0, 0) :: (.aload 3, 0, 0, 0) :: (.getfield 1, 3, 0, 0) :: (.iload 2, 0, 0, 0) :: (.iaload, 0, 0, 0) :: (.invokestatic 220, 1, 0, 0) :: (.isub, 0, 0, 0) :: (.putfield 8, 12, 0, 0) :: (.iconst 0, 0, 0, 1) :: (.ireturn, 0, 0, 0) :: []
def kk_96_50 : List qm_I := (.iload 2, 0, 0, 0) :: (.iconst 0, 0, 0, 0) :: (.aload 3, 0, 0, 0) :: (.getfield 1, 1, 0, 0) :: (.iconst 0, 0, 0, 1) :: (.isub, 0, 0, 0) :: (.invokestatic 118, 3, 0, 0) :: (.ifCond .ne 70, 0, 0, 0) :: (.aload 0, 0, 0, 0) :: (.iconst 0, 0, 0, 2) :: (.invokevirtual 123, 2, 8, 0) :: (.ireturn, 0, 0, 0) :: kk_96_70
def kk_96_44 : List qm_I := (.aload 0, 0, 0, 0) :: (.iconst 0, 0, 0, 3) :: (.invokevirtual 123, 2, 8, 0) :: (.ireturn, 0, 0, 0) :: kk_96_50
def kk_96_25 : List qm_I := (.aload 3, 0, 0, 0) :: (.getfield 1, 0, 0, 0) :: (.iconst 0, 0, 0, 1) :: (.if_icmp .ne 44, 0, 0, 0) :: (.aload 3, 0, 0, 0) :: (.getfield 1, 2, 0, 0) :: (.aload 3, 0, 0, 0) :: (.getfield 1, 1, 0, 0) :: (.if_icmp .le 50, 0, 0, 0) :: kk_96_44
def kk_96_9 : List qm_I := (.aload 0, 0, 0, 0) :: (.iload 1, 0, 0, 0) :: (.invokevirtual 122, 2, 8, 0) :: (.astore 3, 0, 0, 0) :: (.aload 3, 0, 0, 0) :: (.ifnonnull 25, 0, 0, 0) :: (.aload 0, 0, 0, 0) :: (.iconst 0, 0, 0, 1) :: (.invokevirtual 123, 2, 8, 0) :: (.ireturn, 0, 0, 0) :: kk_96_25
def kk_96_0 : List qm_I := (.iload 1, 0, 0, 0) :: (.invokestatic 120, 1, 0, 0) :: (.ifCond .ne 9, 0, 0, 0) :: (.iconst 0, 0, 0, -1) :: (.ireturn, 0, 0, 0) :: kk_96_9
def kt_96 : qm_T := [(0, kk_96_0), (9, kk_96_9), (25, kk_96_25), (44, kk_96_44), (50, kk_96_50), (70, kk_96_70)]
theorem kc_96_70 : qm_chain 8 false (some .int) cX8_root 70 kk_96_70 := qm_chain_of _ _ _ _ 11 _ 87 _ (by decide +kernel) trivial
theorem kc_96_50 : qm_chain 8 false (some .int) cX8_root 50 kk_96_50 := qm_chain_of _ _ _ _ 12 _ 70 _ (by decide +kernel) kc_96_70
theorem kc_96_44 : qm_chain 8 false (some .int) cX8_root 44 kk_96_44 := qm_chain_of _ _ _ _ 4 _ 50 _ (by decide +kernel) kc_96_50
theorem kc_96_25 : qm_chain 8 false (some .int) cX8_root 25 kk_96_25 := qm_chain_of _ _ _ _ 9 _ 44 _ (by decide +kernel) kc_96_44
theorem kc_96_9 : qm_chain 8 false (some .int) cX8_root 9 kk_96_9 := qm_chain_of _ _ _ _ 10 _ 25 _ (by decide +kernel) kc_96_25
theorem kc_96_0 : qm_chain 8 false (some .int) cX8_root 0 kk_96_0 := qm_chain_of _ _ _ _ 5 _ 9 _ (by decide +kernel) kc_96_9
theorem ka_96 : ∀ t : Int, 0 ≤ t → qm_chain 8 false (some .int) cX8_root t.toNat (qm_lk kt_96 t) := qm_lk_ok (List.forall_mem_cons.mpr ⟨⟨by decide, kc_96_0⟩, List.forall_mem_cons.mpr ⟨⟨by decide, kc_96_9⟩, List.forall_mem_cons.mpr ⟨⟨by decide, kc_96_25⟩, List.forall_mem_cons.mpr ⟨⟨by decide, kc_96_44⟩, List.forall_mem_cons.mpr ⟨⟨by decide, kc_96_50⟩, List.forall_mem_cons.mpr ⟨⟨by decide, kc_96_70⟩, fun _ h => absurd h List.not_mem_nil⟩⟩⟩⟩⟩⟩)
theorem kg_96 : qm_G1 (yX8_root, cX8_root, 4, some .int, 8, 2) (4, kt_96) := ⟨rfl, false, (fun z => by cases z), ka_96⟩
-- 97: TowerBoards.spread
def kk_97_47 : List qm_I := (.aload 0, 0, 0, 0) :: (.getfield 8, 7, 0, 0) :: (.aload 4, 0, 0, 0) :: (.invokevirtual 28, 2, 2, 0) :: (.aload 0, 0, 0, 0) :: (.aload 0, 0, 0, 0) :: (.getfield 8, 7, 0, 0) :: (.iload 2, 0, 0, 0) :: (.iload 3, 0, 0, 0) :: (.invokevirtual 31, 3, 2, 0) :: (.i2l, 0, 0, 0) :: (.putfield 8, 11, 1, 0) :: (.iconst 0, 0, 0, 1) :: (.ireturn, 0, 0, 0) :: []
def kk_97_29 : List qm_I := (.aload 0, 0, 0, 0) :: (.iload 1, 0, 0, 0) :: (.invokevirtual 122, 2, 8, 0) :: (.astore 4, 0, 0, 0) :: (.aload 4, 0, 0, 0) :: (.ifnonnull 47, 0, 0, 0) :: (.aload 0, 0, 0, 0) :: (.iconst 0, 0, 0, 1) :: (.invokevirtual 123, 2, 8, 0) :: (.ireturn, 0, 0, 0) :: kk_97_47
def kk_97_27 : List qm_I := (.iconst 0, 0, 0, -1) :: (.ireturn, 0, 0, 0) :: kk_97_29
def kk_97_0 : List qm_I := (.iload 1, 0, 0, 0) :: (.invokestatic 120, 1, 0, 0) :: (.ifCond .eq 27, 0, 0, 0) :: (.iload 2, 0, 0, 0) :: (.iconst 0, 0, 0, 0) :: (.iconst 0, 0, 0, 36) :: (.invokestatic 118, 3, 0, 0) :: (.ifCond .eq 27, 0, 0, 0) :: (.iload 3, 0, 0, 0) :: (.iconst 0, 0, 0, 0) :: (.iconst 0, 0, 0, 36) :: (.invokestatic 118, 3, 0, 0) :: (.ifCond .ne 29, 0, 0, 0) :: kk_97_27
def kt_97 : qm_T := [(0, kk_97_0), (27, kk_97_27), (29, kk_97_29), (47, kk_97_47)]
theorem kc_97_47 : qm_chain 8 false (some .int) cX8_spread 47 kk_97_47 := qm_chain_of _ _ _ _ 14 _ 72 _ (by decide +kernel) trivial
theorem kc_97_29 : qm_chain 8 false (some .int) cX8_spread 29 kk_97_29 := qm_chain_of _ _ _ _ 10 _ 47 _ (by decide +kernel) kc_97_47
theorem kc_97_27 : qm_chain 8 false (some .int) cX8_spread 27 kk_97_27 := qm_chain_of _ _ _ _ 2 _ 29 _ (by decide +kernel) kc_97_29
theorem kc_97_0 : qm_chain 8 false (some .int) cX8_spread 0 kk_97_0 := qm_chain_of _ _ _ _ 13 _ 27 _ (by decide +kernel) kc_97_27
theorem ka_97 : ∀ t : Int, 0 ≤ t → qm_chain 8 false (some .int) cX8_spread t.toNat (qm_lk kt_97 t) := qm_lk_ok (List.forall_mem_cons.mpr ⟨⟨by decide, kc_97_0⟩, List.forall_mem_cons.mpr ⟨⟨by decide, kc_97_27⟩, List.forall_mem_cons.mpr ⟨⟨by decide, kc_97_29⟩, List.forall_mem_cons.mpr ⟨⟨by decide, kc_97_47⟩, fun _ h => absurd h List.not_mem_nil⟩⟩⟩⟩)
theorem kg_97 : qm_G1 (yX8_spread, cX8_spread, 5, some .int, 8, 3) (5, kt_97) := ⟨rfl, false, (fun z => by cases z), ka_97⟩
-- 98: TowerBoards.stand
def kk_98_76 : List qm_I := (.aload 0, 0, 0, 0) :: (.getfield 8, 6, 0, 0) :: (.aload 0, 0, 0, 0) :: (.getfield 8, 0, 0, 0) :: (.iload 4, 0, 0, 0) :: (.aaload, 0, 0, 0) :: (.aload 5, 0, 0, 0) :: (.iload 3, 0, 0, 0) :: (.invokevirtual 57, 4, 6, 0) :: (.iconst 0, 0, 0, 1) :: (.ireturn, 0, 0, 0) :: []
def kk_98_49 : List qm_I := (.aload 0, 0, 0, 0) :: (.getfield 8, 6, 0, 0) :: (.aload 5, 0, 0, 0) :: (.iload 2, 0, 0, 0) :: (.invokevirtual 53, 3, 6, 0) :: (.iload 3, 0, 0, 0) :: (.aload 0, 0, 0, 0) :: (.getfield 8, 6, 0, 0) :: (.invokevirtual 55, 1, 6, 0) :: (.if_icmp .lt 76, 0, 0, 0) :: (.aload 0, 0, 0, 0) :: (.iconst 0, 0, 0, 2) :: (.invokevirtual 123, 2, 8, 0) :: (.ireturn, 0, 0, 0) :: kk_98_76
def kk_98_31 : List qm_I := (.aload 0, 0, 0, 0) :: (.iload 1, 0, 0, 0) :: (.invokevirtual 122, 2, 8, 0) :: (.astore 5, 0, 0, 0) :: (.aload 5, 0, 0, 0) :: (.ifnonnull 49, 0, 0, 0) :: (.aload 0, 0, 0, 0) :: (.iconst 0, 0, 0, 1) :: (.invokevirtual 123, 2, 8, 0) :: (.ireturn, 0, 0, 0) :: kk_98_49
def kk_98_29 : List qm_I := (.iconst 0, 0, 0, -1) :: (.ireturn, 0, 0, 0) :: kk_98_31
def kk_98_0 : List qm_I := (.iload 1, 0, 0, 0) :: (.invokestatic 120, 1, 0, 0) :: (.ifCond .eq 29, 0, 0, 0) :: (.iload 2, 0, 0, 0) :: (.iconst 0, 0, 0, 0) :: (.iconst 0, 0, 0, 36) :: (.invokestatic 118, 3, 0, 0) :: (.ifCond .eq 29, 0, 0, 0) :: (.iload 3, 0, 0, 0) :: (.ifCond .lt 29, 0, 0, 0) :: (.iload 4, 0, 0, 0) :: (.invokestatic 119, 1, 0, 0) :: (.ifCond .ne 31, 0, 0, 0) :: kk_98_29
def kt_98 : qm_T := [(0, kk_98_0), (29, kk_98_29), (31, kk_98_31), (49, kk_98_49), (76, kk_98_76)]
theorem kc_98_76 : qm_chain 8 false (some .int) cX8_stand 76 kk_98_76 := qm_chain_of _ _ _ _ 11 _ 95 _ (by decide +kernel) trivial
theorem kc_98_49 : qm_chain 8 false (some .int) cX8_stand 49 kk_98_49 := qm_chain_of _ _ _ _ 14 _ 76 _ (by decide +kernel) kc_98_76
theorem kc_98_31 : qm_chain 8 false (some .int) cX8_stand 31 kk_98_31 := qm_chain_of _ _ _ _ 10 _ 49 _ (by decide +kernel) kc_98_49
theorem kc_98_29 : qm_chain 8 false (some .int) cX8_stand 29 kk_98_29 := qm_chain_of _ _ _ _ 2 _ 31 _ (by decide +kernel) kc_98_31
theorem kc_98_0 : qm_chain 8 false (some .int) cX8_stand 0 kk_98_0 := qm_chain_of _ _ _ _ 13 _ 29 _ (by decide +kernel) kc_98_29
theorem ka_98 : ∀ t : Int, 0 ≤ t → qm_chain 8 false (some .int) cX8_stand t.toNat (qm_lk kt_98 t) := qm_lk_ok (List.forall_mem_cons.mpr ⟨⟨by decide, kc_98_0⟩, List.forall_mem_cons.mpr ⟨⟨by decide, kc_98_29⟩, List.forall_mem_cons.mpr ⟨⟨by decide, kc_98_31⟩, List.forall_mem_cons.mpr ⟨⟨by decide, kc_98_49⟩, List.forall_mem_cons.mpr ⟨⟨by decide, kc_98_76⟩, fun _ h => absurd h List.not_mem_nil⟩⟩⟩⟩⟩)
theorem kg_98 : qm_G1 (yX8_stand, cX8_stand, 6, some .int, 8, 4) (6, kt_98) := ⟨rfl, false, (fun z => by cases z), ka_98⟩
-- 99: TowerBoards.rank
def kk_99_64 : List qm_I := (.aload 0, 0, 0, 0) :: (.getfield 8, 6, 0, 0) :: (.aload 3, 0, 0, 0) :: (.aload 4, 0, 0, 0) :: (.invokevirtual 68, 1, 7, 0) :: (.invokevirtual 53, 3, 6, 0) :: (.aload 0, 0, 0, 0) :: (.getfield 8, 6, 0, 0) :: (.aload 4, 0, 0, 0) :: (.aload 3, 0, 0, 0) :: (.invokevirtual 56, 3, 6, 0) :: (.ireturn, 0, 0, 0) :: []
def kk_99_44 : List qm_I := (.aload 3, 0, 0, 0) :: (.aload 4, 0, 0, 0) :: (.invokevirtual 24, 2, 1, 0) :: (.istore 5, 0, 0, 0) :: (.iload 5, 0, 0, 0) :: (.ifCond .eq 64, 0, 0, 0) :: (.aload 0, 0, 0, 0) :: (.iload 5, 0, 0, 0) :: (.invokevirtual 123, 2, 8, 0) :: (.ireturn, 0, 0, 0) :: kk_99_64
def kk_99_38 : List qm_I := (.aload 0, 0, 0, 0) :: (.iconst 0, 0, 0, 1) :: (.invokevirtual 123, 2, 8, 0) :: (.ireturn, 0, 0, 0) :: kk_99_44
def kk_99_16 : List qm_I := (.aload 0, 0, 0, 0) :: (.iload 1, 0, 0, 0) :: (.invokevirtual 122, 2, 8, 0) :: (.astore 3, 0, 0, 0) :: (.aload 0, 0, 0, 0) :: (.iload 2, 0, 0, 0) :: (.invokevirtual 121, 2, 8, 0) :: (.astore 4, 0, 0, 0) :: (.aload 3, 0, 0, 0) :: (.ifnull 38, 0, 0, 0) :: (.aload 4, 0, 0, 0) :: (.ifnonnull 44, 0, 0, 0) :: kk_99_38
def kk_99_14 : List qm_I := (.iconst 0, 0, 0, -1) :: (.ireturn, 0, 0, 0) :: kk_99_16
def kk_99_0 : List qm_I := (.iload 1, 0, 0, 0) :: (.invokestatic 120, 1, 0, 0) :: (.ifCond .eq 14, 0, 0, 0) :: (.iload 2, 0, 0, 0) :: (.invokestatic 119, 1, 0, 0) :: (.ifCond .ne 16, 0, 0, 0) :: kk_99_14
def kt_99 : qm_T := [(0, kk_99_0), (14, kk_99_14), (16, kk_99_16), (38, kk_99_38), (44, kk_99_44), (64, kk_99_64)]
theorem kc_99_64 : qm_chain 8 false (some .int) cX8_rank 64 kk_99_64 := qm_chain_of _ _ _ _ 12 _ 88 _ (by decide +kernel) trivial
theorem kc_99_44 : qm_chain 8 false (some .int) cX8_rank 44 kk_99_44 := qm_chain_of _ _ _ _ 10 _ 64 _ (by decide +kernel) kc_99_64
theorem kc_99_38 : qm_chain 8 false (some .int) cX8_rank 38 kk_99_38 := qm_chain_of _ _ _ _ 4 _ 44 _ (by decide +kernel) kc_99_44
theorem kc_99_16 : qm_chain 8 false (some .int) cX8_rank 16 kk_99_16 := qm_chain_of _ _ _ _ 12 _ 38 _ (by decide +kernel) kc_99_38
theorem kc_99_14 : qm_chain 8 false (some .int) cX8_rank 14 kk_99_14 := qm_chain_of _ _ _ _ 2 _ 16 _ (by decide +kernel) kc_99_16
theorem kc_99_0 : qm_chain 8 false (some .int) cX8_rank 0 kk_99_0 := qm_chain_of _ _ _ _ 6 _ 14 _ (by decide +kernel) kc_99_14
theorem ka_99 : ∀ t : Int, 0 ≤ t → qm_chain 8 false (some .int) cX8_rank t.toNat (qm_lk kt_99 t) := qm_lk_ok (List.forall_mem_cons.mpr ⟨⟨by decide, kc_99_0⟩, List.forall_mem_cons.mpr ⟨⟨by decide, kc_99_14⟩, List.forall_mem_cons.mpr ⟨⟨by decide, kc_99_16⟩, List.forall_mem_cons.mpr ⟨⟨by decide, kc_99_38⟩, List.forall_mem_cons.mpr ⟨⟨by decide, kc_99_44⟩, List.forall_mem_cons.mpr ⟨⟨by decide, kc_99_64⟩, fun _ h => absurd h List.not_mem_nil⟩⟩⟩⟩⟩⟩)
theorem kg_99 : qm_G1 (yX8_rank, cX8_rank, 6, some .int, 8, 2) (6, kt_99) := ⟨rfl, false, (fun z => by cases z), ka_99⟩
-- 100: TowerBoards.next
def kk_100_106 : List qm_I := (.aload 0, 0, 0, 0) :: (.getfield 8, 6, 0, 0) :: (.aload 4, 0, 0, 0) :: (.aload 3, 0, 0, 0) :: (.iload 6, 0, 0, 0) :: (.invokevirtual 57, 4, 6, 0) :: (.iconst 0, 0, 0, 1) :: (.ireturn, 0, 0, 0) :: []
def kk_100_64 : List qm_I := (.aload 0, 0, 0, 0) :: (.getfield 8, 6, 0, 0) :: (.aload 3, 0, 0, 0) :: (.aload 4, 0, 0, 0) :: (.invokevirtual 68, 1, 7, 0) :: (.invokevirtual 53, 3, 6, 0) :: (.aload 0, 0, 0, 0) :: (.getfield 8, 6, 0, 0) :: (.aload 4, 0, 0, 0) :: (.aload 3, 0, 0, 0) :: (.invokevirtual 56, 3, 6, 0) :: (.iconst 0, 0, 0, 1) :: (.iadd, 0, 0, 0) :: (.istore 6, 0, 0, 0) :: (.iload 6, 0, 0, 0) :: (.aload 0, 0, 0, 0) :: (.getfield 8, 6, 0, 0) :: (.invokevirtual 55, 1, 6, 0) :: (.if_icmp .lt 106, 0, 0, 0) :: (.iconst 0, 0, 0, -9) :: (.ireturn, 0, 0, 0) :: kk_100_106
def kk_100_44 : List qm_I := (.aload 3, 0, 0, 0) :: (.aload 4, 0, 0, 0) :: (.invokevirtual 24, 2, 1, 0) :: (.istore 5, 0, 0, 0) :: (.iload 5, 0, 0, 0) :: (.ifCond .eq 64, 0, 0, 0) :: (.aload 0, 0, 0, 0) :: (.iload 5, 0, 0, 0) :: (.invokevirtual 123, 2, 8, 0) :: (.ireturn, 0, 0, 0) :: kk_100_64
def kk_100_38 : List qm_I := (.aload 0, 0, 0, 0) :: (.iconst 0, 0, 0, 1) :: (.invokevirtual 123, 2, 8, 0) :: (.ireturn, 0, 0, 0) :: kk_100_44
def kk_100_16 : List qm_I := (.aload 0, 0, 0, 0) :: (.iload 1, 0, 0, 0) :: (.invokevirtual 122, 2, 8, 0) :: (.astore 3, 0, 0, 0) :: (.aload 0, 0, 0, 0) :: (.iload 2, 0, 0, 0) :: (.invokevirtual 121, 2, 8, 0) :: (.astore 4, 0, 0, 0) :: (.aload 3, 0, 0, 0) :: (.ifnull 38, 0, 0, 0) :: (.aload 4, 0, 0, 0) :: (.ifnonnull 44, 0, 0, 0) :: kk_100_38
def kk_100_14 : List qm_I := (.iconst 0, 0, 0, -1) :: (.ireturn, 0, 0, 0) :: kk_100_16
def kk_100_0 : List qm_I := (.iload 1, 0, 0, 0) :: (.invokestatic 120, 1, 0, 0) :: (.ifCond .eq 14, 0, 0, 0) :: (.iload 2, 0, 0, 0) :: (.invokestatic 119, 1, 0, 0) :: (.ifCond .ne 16, 0, 0, 0) :: kk_100_14
def kt_100 : qm_T := [(0, kk_100_0), (14, kk_100_14), (16, kk_100_16), (38, kk_100_38), (44, kk_100_44), (64, kk_100_64), (106, kk_100_106)]
theorem kc_100_106 : qm_chain 8 false (some .int) cX8_next 106 kk_100_106 := qm_chain_of _ _ _ _ 8 _ 120 _ (by decide +kernel) trivial
theorem kc_100_64 : qm_chain 8 false (some .int) cX8_next 64 kk_100_64 := qm_chain_of _ _ _ _ 21 _ 106 _ (by decide +kernel) kc_100_106
theorem kc_100_44 : qm_chain 8 false (some .int) cX8_next 44 kk_100_44 := qm_chain_of _ _ _ _ 10 _ 64 _ (by decide +kernel) kc_100_64
theorem kc_100_38 : qm_chain 8 false (some .int) cX8_next 38 kk_100_38 := qm_chain_of _ _ _ _ 4 _ 44 _ (by decide +kernel) kc_100_44
theorem kc_100_16 : qm_chain 8 false (some .int) cX8_next 16 kk_100_16 := qm_chain_of _ _ _ _ 12 _ 38 _ (by decide +kernel) kc_100_38
theorem kc_100_14 : qm_chain 8 false (some .int) cX8_next 14 kk_100_14 := qm_chain_of _ _ _ _ 2 _ 16 _ (by decide +kernel) kc_100_16
theorem kc_100_0 : qm_chain 8 false (some .int) cX8_next 0 kk_100_0 := qm_chain_of _ _ _ _ 6 _ 14 _ (by decide +kernel) kc_100_14
theorem ka_100 : ∀ t : Int, 0 ≤ t → qm_chain 8 false (some .int) cX8_next t.toNat (qm_lk kt_100 t) := qm_lk_ok (List.forall_mem_cons.mpr ⟨⟨by decide, kc_100_0⟩, List.forall_mem_cons.mpr ⟨⟨by decide, kc_100_14⟩, List.forall_mem_cons.mpr ⟨⟨by decide, kc_100_16⟩, List.forall_mem_cons.mpr ⟨⟨by decide, kc_100_38⟩, List.forall_mem_cons.mpr ⟨⟨by decide, kc_100_44⟩, List.forall_mem_cons.mpr ⟨⟨by decide, kc_100_64⟩, List.forall_mem_cons.mpr ⟨⟨by decide, kc_100_106⟩, fun _ h => absurd h List.not_mem_nil⟩⟩⟩⟩⟩⟩⟩)
theorem kg_100 : qm_G1 (yX8_next, cX8_next, 7, some .int, 8, 2) (7, kt_100) := ⟨rfl, false, (fun z => by cases z), ka_100⟩
-- 101: TowerBoards.most
def kk_101_25 : List qm_I := (.aload 0, 0, 0, 0) :: (.getfield 8, 4, 0, 0) :: (.aload 2, 0, 0, 0) :: (.invokevirtual 43, 2, 5, 0) :: (.aload 0, 0, 0, 0) :: (.getfield 8, 4, 0, 0) :: (.invokevirtual 47, 1, 5, 0) :: (.ireturn, 0, 0, 0) :: []
def kk_101_9 : List qm_I := (.aload 0, 0, 0, 0) :: (.iload 1, 0, 0, 0) :: (.invokevirtual 122, 2, 8, 0) :: (.astore 2, 0, 0, 0) :: (.aload 2, 0, 0, 0) :: (.ifnonnull 25, 0, 0, 0) :: (.aload 0, 0, 0, 0) :: (.iconst 0, 0, 0, 1) :: (.invokevirtual 123, 2, 8, 0) :: (.ireturn, 0, 0, 0) :: kk_101_25
def kk_101_0 : List qm_I := (.iload 1, 0, 0, 0) :: (.invokestatic 120, 1, 0, 0) :: (.ifCond .ne 9, 0, 0, 0) :: (.iconst 0, 0, 0, -1) :: (.ireturn, 0, 0, 0) :: kk_101_9
def kt_101 : qm_T := [(0, kk_101_0), (9, kk_101_9), (25, kk_101_25)]
theorem kc_101_25 : qm_chain 8 false (some .int) cX8_most 25 kk_101_25 := qm_chain_of _ _ _ _ 8 _ 41 _ (by decide +kernel) trivial
theorem kc_101_9 : qm_chain 8 false (some .int) cX8_most 9 kk_101_9 := qm_chain_of _ _ _ _ 10 _ 25 _ (by decide +kernel) kc_101_25
theorem kc_101_0 : qm_chain 8 false (some .int) cX8_most 0 kk_101_0 := qm_chain_of _ _ _ _ 5 _ 9 _ (by decide +kernel) kc_101_9
theorem ka_101 : ∀ t : Int, 0 ≤ t → qm_chain 8 false (some .int) cX8_most t.toNat (qm_lk kt_101 t) := qm_lk_ok (List.forall_mem_cons.mpr ⟨⟨by decide, kc_101_0⟩, List.forall_mem_cons.mpr ⟨⟨by decide, kc_101_9⟩, List.forall_mem_cons.mpr ⟨⟨by decide, kc_101_25⟩, fun _ h => absurd h List.not_mem_nil⟩⟩⟩)
theorem kg_101 : qm_G1 (yX8_most, cX8_most, 3, some .int, 8, 1) (3, kt_101) := ⟨rfl, false, (fun z => by cases z), ka_101⟩
-- 102: TowerBoards.cover
def kk_102_94 : List qm_I := (.iload 3, 0, 0, 0) :: (.ireturn, 0, 0, 0) :: []
def kk_102_88 : List qm_I := (.iinc 4 0, 0, 0, 1) :: (.goto 35, 0, 0, 0) :: kk_102_94
def kk_102_35 : List qm_I := (.iload 4, 0, 0, 0) :: (.iconst 0, 0, 0, 1) :: (.aload 2, 0, 0, 0) :: (.getfield 1, 1, 0, 0) :: (.ishl, 0, 0, 0) :: (.if_icmp .ge 94, 0, 0, 0) :: (.aload 2, 0, 0, 0) :: (.iload 4, 0, 0, 0) :: (.invokevirtual 23, 2, 1, 0) :: (.istore 5, 0, 0, 0) :: (.iload 4, 0, 0, 0) :: (.invokestatic 220, 1, 0, 0) :: (.iload 5, 0, 0, 0) :: (.invokestatic 220, 1, 0, 0) :: (.iadd, 0, 0, 0) :: (.istore 6, 0, 0, 0) :: (.iload 6, 0, 0, 0) :: (.iload 3, 0, 0, 0) :: (.if_icmp .ge 88, 0, 0, 0) :: (.iload 6, 0, 0, 0) :: (.istore 3, 0, 0, 0) :: (.aload 0, 0, 0, 0) :: (.iload 4, 0, 0, 0) :: (.iconst 0, 0, 0, 64) :: (.imul, 0, 0, 0) :: (.iload 5, 0, 0, 0) :: (.iadd, 0, 0, 0) :: (.putfield 8, 12, 0, 0) :: kk_102_88
def kk_102_25 : List qm_I := (.aload 2, 0, 0, 0) :: (.getfield 1, 1, 0, 0) :: (.iconst 0, 0, 0, 1) :: (.iadd, 0, 0, 0) :: (.istore 3, 0, 0, 0) :: (.iconst 0, 0, 0, 0) :: (.istore 4, 0, 0, 0) :: kk_102_35
def kk_102_9 : List qm_I := (.aload 0, 0, 0, 0) :: (.iload 1, 0, 0, 0) :: (.invokevirtual 122, 2, 8, 0) :: (.astore 2, 0, 0, 0) :: (.aload 2, 0, 0, 0) :: (.ifnonnull 25, 0, 0, 0) :: (.aload 0, 0, 0, 0) :: (.iconst 0, 0, 0, 1) :: (.invokevirtual 123, 2, 8, 0) :: (.ireturn, 0, 0, 0) :: kk_102_25
def kk_102_0 : List qm_I := (.iload 1, 0, 0, 0) :: (.invokestatic 120, 1, 0, 0) :: (.ifCond .ne 9, 0, 0, 0) :: (.iconst 0, 0, 0, -1) :: (.ireturn, 0, 0, 0) :: kk_102_9
def kt_102 : qm_T := [(0, kk_102_0), (9, kk_102_9), (25, kk_102_25), (35, kk_102_35), (88, kk_102_88), (94, kk_102_94)]
theorem kc_102_94 : qm_chain 8 false (some .int) cX8_cover 94 kk_102_94 := qm_chain_of _ _ _ _ 2 _ 96 _ (by decide +kernel) trivial
theorem kc_102_88 : qm_chain 8 false (some .int) cX8_cover 88 kk_102_88 := qm_chain_of _ _ _ _ 2 _ 94 _ (by decide +kernel) kc_102_94
theorem kc_102_35 : qm_chain 8 false (some .int) cX8_cover 35 kk_102_35 := qm_chain_of _ _ _ _ 28 _ 88 _ (by decide +kernel) kc_102_88
theorem kc_102_25 : qm_chain 8 false (some .int) cX8_cover 25 kk_102_25 := qm_chain_of _ _ _ _ 7 _ 35 _ (by decide +kernel) kc_102_35
theorem kc_102_9 : qm_chain 8 false (some .int) cX8_cover 9 kk_102_9 := qm_chain_of _ _ _ _ 10 _ 25 _ (by decide +kernel) kc_102_25
theorem kc_102_0 : qm_chain 8 false (some .int) cX8_cover 0 kk_102_0 := qm_chain_of _ _ _ _ 5 _ 9 _ (by decide +kernel) kc_102_9
theorem ka_102 : ∀ t : Int, 0 ≤ t → qm_chain 8 false (some .int) cX8_cover t.toNat (qm_lk kt_102 t) := qm_lk_ok (List.forall_mem_cons.mpr ⟨⟨by decide, kc_102_0⟩, List.forall_mem_cons.mpr ⟨⟨by decide, kc_102_9⟩, List.forall_mem_cons.mpr ⟨⟨by decide, kc_102_25⟩, List.forall_mem_cons.mpr ⟨⟨by decide, kc_102_35⟩, List.forall_mem_cons.mpr ⟨⟨by decide, kc_102_88⟩, List.forall_mem_cons.mpr ⟨⟨by decide, kc_102_94⟩, fun _ h => absurd h List.not_mem_nil⟩⟩⟩⟩⟩⟩)
theorem kg_102 : qm_G1 (yX8_cover, cX8_cover, 7, some .int, 8, 1) (7, kt_102) := ⟨rfl, false, (fun z => by cases z), ka_102⟩
-- 103: TowerBoards.need
def kk_103_126 : List qm_I := (.ireturn, 0, 0, 0) :: []
def kk_103_125 : List qm_I := (.iconst 0, 0, 0, 1) :: kk_103_126
def kk_103_114 : List qm_I := (.iload 7, 0, 0, 0) :: (.iload 6, 0, 0, 0) :: (.if_icmp .ne 125, 0, 0, 0) :: (.iconst 0, 0, 0, 2) :: (.goto 126, 0, 0, 0) :: kk_103_125
def kk_103_43 : List qm_I := (.aload 0, 0, 0, 0) :: (.getfield 8, 4, 0, 0) :: (.aload 4, 0, 0, 0) :: (.invokevirtual 43, 2, 5, 0) :: (.aload 0, 0, 0, 0) :: (.getfield 8, 4, 0, 0) :: (.invokevirtual 47, 1, 5, 0) :: (.istore 5, 0, 0, 0) :: (.aload 0, 0, 0, 0) :: (.getfield 8, 4, 0, 0) :: (.iload 5, 0, 0, 0) :: (.invokevirtual 46, 2, 5, 0) :: (.istore 6, 0, 0, 0) :: (.aload 0, 0, 0, 0) :: (.getfield 8, 3, 0, 0) :: (.aload 4, 0, 0, 0) :: (.iload 2, 0, 0, 0) :: (.iload 3, 0, 0, 0) :: (.invokevirtual 12, 4, 1, 0) :: (.aload 0, 0, 0, 0) :: (.getfield 8, 5, 0, 0) :: (.aload 0, 0, 0, 0) :: (.getfield 8, 3, 0, 0) :: (.invokevirtual 43, 2, 5, 0) :: (.aload 0, 0, 0, 0) :: (.getfield 8, 5, 0, 0) :: (.iload 5, 0, 0, 0) :: (.iconst 0, 0, 0, 1) :: (.isub, 0, 0, 0) :: (.invokevirtual 46, 2, 5, 0) :: (.istore 7, 0, 0, 0) :: (.iload 7, 0, 0, 0) :: (.ifCond .ne 114, 0, 0, 0) :: (.iconst 0, 0, 0, 0) :: (.ireturn, 0, 0, 0) :: kk_103_114
def kk_103_27 : List qm_I := (.aload 4, 0, 0, 0) :: (.iload 2, 0, 0, 0) :: (.iload 3, 0, 0, 0) :: (.invokevirtual 19, 3, 1, 0) :: (.ifCond .ne 43, 0, 0, 0) :: (.aload 0, 0, 0, 0) :: (.iconst 0, 0, 0, 2) :: (.invokevirtual 123, 2, 8, 0) :: (.ireturn, 0, 0, 0) :: kk_103_43
def kk_103_9 : List qm_I := (.aload 0, 0, 0, 0) :: (.iload 1, 0, 0, 0) :: (.invokevirtual 122, 2, 8, 0) :: (.astore 4, 0, 0, 0) :: (.aload 4, 0, 0, 0) :: (.ifnonnull 27, 0, 0, 0) :: (.aload 0, 0, 0, 0) :: (.iconst 0, 0, 0, 1) :: (.invokevirtual 123, 2, 8, 0) :: (.ireturn, 0, 0, 0) :: kk_103_27
def kk_103_0 : List qm_I := (.iload 1, 0, 0, 0) :: (.invokestatic 120, 1, 0, 0) :: (.ifCond .ne 9, 0, 0, 0) :: (.iconst 0, 0, 0, -1) :: (.ireturn, 0, 0, 0) :: kk_103_9
def kt_103 : qm_T := [(0, kk_103_0), (9, kk_103_9), (27, kk_103_27), (43, kk_103_43), (114, kk_103_114), (125, kk_103_125), (126, kk_103_126)]
theorem kc_103_126 : qm_chain 8 false (some .int) cX8_need 126 kk_103_126 := qm_chain_of _ _ _ _ 1 _ 127 _ (by decide +kernel) trivial
theorem kc_103_125 : qm_chain 8 false (some .int) cX8_need 125 kk_103_125 := qm_chain_of _ _ _ _ 1 _ 126 _ (by decide +kernel) kc_103_126
theorem kc_103_114 : qm_chain 8 false (some .int) cX8_need 114 kk_103_114 := qm_chain_of _ _ _ _ 5 _ 125 _ (by decide +kernel) kc_103_125
theorem kc_103_43 : qm_chain 8 false (some .int) cX8_need 43 kk_103_43 := qm_chain_of _ _ _ _ 35 _ 114 _ (by decide +kernel) kc_103_114
theorem kc_103_27 : qm_chain 8 false (some .int) cX8_need 27 kk_103_27 := qm_chain_of _ _ _ _ 9 _ 43 _ (by decide +kernel) kc_103_43
theorem kc_103_9 : qm_chain 8 false (some .int) cX8_need 9 kk_103_9 := qm_chain_of _ _ _ _ 10 _ 27 _ (by decide +kernel) kc_103_27
theorem kc_103_0 : qm_chain 8 false (some .int) cX8_need 0 kk_103_0 := qm_chain_of _ _ _ _ 5 _ 9 _ (by decide +kernel) kc_103_9
theorem ka_103 : ∀ t : Int, 0 ≤ t → qm_chain 8 false (some .int) cX8_need t.toNat (qm_lk kt_103 t) := qm_lk_ok (List.forall_mem_cons.mpr ⟨⟨by decide, kc_103_0⟩, List.forall_mem_cons.mpr ⟨⟨by decide, kc_103_9⟩, List.forall_mem_cons.mpr ⟨⟨by decide, kc_103_27⟩, List.forall_mem_cons.mpr ⟨⟨by decide, kc_103_43⟩, List.forall_mem_cons.mpr ⟨⟨by decide, kc_103_114⟩, List.forall_mem_cons.mpr ⟨⟨by decide, kc_103_125⟩, List.forall_mem_cons.mpr ⟨⟨by decide, kc_103_126⟩, fun _ h => absurd h List.not_mem_nil⟩⟩⟩⟩⟩⟩⟩)
theorem kg_103 : qm_G1 (yX8_need, cX8_need, 8, some .int, 8, 3) (8, kt_103) := ⟨rfl, false, (fun z => by cases z), ka_103⟩
-- 104: TowerBoards.least
def kk_104_64 : List qm_I := (.aload 0, 0, 0, 0) :: (.getfield 8, 4, 0, 0) :: (.aload 3, 0, 0, 0) :: (.invokevirtual 43, 2, 5, 0) :: (.aload 0, 0, 0, 0) :: (.getfield 8, 8, 0, 0) :: (.aload 3, 0, 0, 0) :: (.aload 4, 0, 0, 0) :: (.aload 0, 0, 0, 0) :: (.getfield 8, 4, 0, 0) :: (.invokevirtual 47, 1, 5, 0) :: (.invokevirtual 38, 4, 4, 0) :: (.aload 0, 0, 0, 0) :: (.aload 0, 0, 0, 0) :: (.getfield 8, 8, 0, 0) :: (.getfield 4, 2, 0, 0) :: (.putfield 8, 12, 0, 0) :: (.aload 0, 0, 0, 0) :: (.aload 0, 0, 0, 0) :: (.getfield 8, 8, 0, 0) :: (.getfield 4, 3, 0, 0) :: (.i2l, 0, 0, 0) :: (.putfield 8, 11, 1, 0) :: (.iconst 0, 0, 0, 1) :: (.ireturn, 0, 0, 0) :: []
def kk_104_44 : List qm_I := (.aload 3, 0, 0, 0) :: (.aload 4, 0, 0, 0) :: (.invokevirtual 25, 2, 1, 0) :: (.istore 5, 0, 0, 0) :: (.iload 5, 0, 0, 0) :: (.ifCond .eq 64, 0, 0, 0) :: (.aload 0, 0, 0, 0) :: (.iload 5, 0, 0, 0) :: (.invokevirtual 123, 2, 8, 0) :: (.ireturn, 0, 0, 0) :: kk_104_64
def kk_104_38 : List qm_I := (.aload 0, 0, 0, 0) :: (.iconst 0, 0, 0, 1) :: (.invokevirtual 123, 2, 8, 0) :: (.ireturn, 0, 0, 0) :: kk_104_44
def kk_104_16 : List qm_I := (.aload 0, 0, 0, 0) :: (.iload 1, 0, 0, 0) :: (.invokevirtual 122, 2, 8, 0) :: (.astore 3, 0, 0, 0) :: (.aload 0, 0, 0, 0) :: (.iload 2, 0, 0, 0) :: (.invokevirtual 121, 2, 8, 0) :: (.astore 4, 0, 0, 0) :: (.aload 3, 0, 0, 0) :: (.ifnull 38, 0, 0, 0) :: (.aload 4, 0, 0, 0) :: (.ifnonnull 44, 0, 0, 0) :: kk_104_38
def kk_104_14 : List qm_I := (.iconst 0, 0, 0, -1) :: (.ireturn, 0, 0, 0) :: kk_104_16
def kk_104_0 : List qm_I := (.iload 1, 0, 0, 0) :: (.invokestatic 120, 1, 0, 0) :: (.ifCond .eq 14, 0, 0, 0) :: (.iload 2, 0, 0, 0) :: (.invokestatic 119, 1, 0, 0) :: (.ifCond .ne 16, 0, 0, 0) :: kk_104_14
def kt_104 : qm_T := [(0, kk_104_0), (14, kk_104_14), (16, kk_104_16), (38, kk_104_38), (44, kk_104_44), (64, kk_104_64)]
theorem kc_104_64 : qm_chain 8 false (some .int) cX8_least 64 kk_104_64 := qm_chain_of _ _ _ _ 25 _ 114 _ (by decide +kernel) trivial
theorem kc_104_44 : qm_chain 8 false (some .int) cX8_least 44 kk_104_44 := qm_chain_of _ _ _ _ 10 _ 64 _ (by decide +kernel) kc_104_64
theorem kc_104_38 : qm_chain 8 false (some .int) cX8_least 38 kk_104_38 := qm_chain_of _ _ _ _ 4 _ 44 _ (by decide +kernel) kc_104_44
theorem kc_104_16 : qm_chain 8 false (some .int) cX8_least 16 kk_104_16 := qm_chain_of _ _ _ _ 12 _ 38 _ (by decide +kernel) kc_104_38
theorem kc_104_14 : qm_chain 8 false (some .int) cX8_least 14 kk_104_14 := qm_chain_of _ _ _ _ 2 _ 16 _ (by decide +kernel) kc_104_16
theorem kc_104_0 : qm_chain 8 false (some .int) cX8_least 0 kk_104_0 := qm_chain_of _ _ _ _ 6 _ 14 _ (by decide +kernel) kc_104_14
theorem ka_104 : ∀ t : Int, 0 ≤ t → qm_chain 8 false (some .int) cX8_least t.toNat (qm_lk kt_104 t) := qm_lk_ok (List.forall_mem_cons.mpr ⟨⟨by decide, kc_104_0⟩, List.forall_mem_cons.mpr ⟨⟨by decide, kc_104_14⟩, List.forall_mem_cons.mpr ⟨⟨by decide, kc_104_16⟩, List.forall_mem_cons.mpr ⟨⟨by decide, kc_104_38⟩, List.forall_mem_cons.mpr ⟨⟨by decide, kc_104_44⟩, List.forall_mem_cons.mpr ⟨⟨by decide, kc_104_64⟩, fun _ h => absurd h List.not_mem_nil⟩⟩⟩⟩⟩⟩)
theorem kg_104 : qm_G1 (yX8_least, cX8_least, 6, some .int, 8, 2) (6, kt_104) := ⟨rfl, false, (fun z => by cases z), ka_104⟩
-- 105: TowerBoards.lack
def kk_105_84 : List qm_I := (.aload 0, 0, 0, 0) :: (.aload 5, 0, 0, 0) :: (.aload 6, 0, 0, 0) :: (.iload 3, 0, 0, 0) :: (.iload 4, 0, 0, 0) :: (.invokevirtual 126, 5, 8, 0) :: (.ireturn, 0, 0, 0) :: []
def kk_105_67 : List qm_I := (.aload 5, 0, 0, 0) :: (.iload 3, 0, 0, 0) :: (.iload 4, 0, 0, 0) :: (.invokevirtual 19, 3, 1, 0) :: (.ifCond .ne 84, 0, 0, 0) :: (.aload 0, 0, 0, 0) :: (.iconst 0, 0, 0, 2) :: (.invokevirtual 123, 2, 8, 0) :: (.ireturn, 0, 0, 0) :: kk_105_84
def kk_105_46 : List qm_I := (.aload 5, 0, 0, 0) :: (.aload 6, 0, 0, 0) :: (.invokevirtual 25, 2, 1, 0) :: (.istore 7, 0, 0, 0) :: (.iload 7, 0, 0, 0) :: (.ifCond .eq 67, 0, 0, 0) :: (.aload 0, 0, 0, 0) :: (.iload 7, 0, 0, 0) :: (.invokevirtual 123, 2, 8, 0) :: (.ireturn, 0, 0, 0) :: kk_105_67
def kk_105_40 : List qm_I := (.aload 0, 0, 0, 0) :: (.iconst 0, 0, 0, 1) :: (.invokevirtual 123, 2, 8, 0) :: (.ireturn, 0, 0, 0) :: kk_105_46
def kk_105_16 : List qm_I := (.aload 0, 0, 0, 0) :: (.iload 1, 0, 0, 0) :: (.invokevirtual 122, 2, 8, 0) :: (.astore 5, 0, 0, 0) :: (.aload 0, 0, 0, 0) :: (.iload 2, 0, 0, 0) :: (.invokevirtual 121, 2, 8, 0) :: (.astore 6, 0, 0, 0) :: (.aload 5, 0, 0, 0) :: (.ifnull 40, 0, 0, 0) :: (.aload 6, 0, 0, 0) :: (.ifnonnull 46, 0, 0, 0) :: kk_105_40
def kk_105_14 : List qm_I := (.iconst 0, 0, 0, -1) :: (.ireturn, 0, 0, 0) :: kk_105_16
def kk_105_0 : List qm_I := (.iload 1, 0, 0, 0) :: (.invokestatic 120, 1, 0, 0) :: (.ifCond .eq 14, 0, 0, 0) :: (.iload 2, 0, 0, 0) :: (.invokestatic 119, 1, 0, 0) :: (.ifCond .ne 16, 0, 0, 0) :: kk_105_14
def kt_105 : qm_T := [(0, kk_105_0), (14, kk_105_14), (16, kk_105_16), (40, kk_105_40), (46, kk_105_46), (67, kk_105_67), (84, kk_105_84)]
theorem kc_105_84 : qm_chain 8 false (some .int) cX8_lack 84 kk_105_84 := qm_chain_of _ _ _ _ 7 _ 96 _ (by decide +kernel) trivial
theorem kc_105_67 : qm_chain 8 false (some .int) cX8_lack 67 kk_105_67 := qm_chain_of _ _ _ _ 9 _ 84 _ (by decide +kernel) kc_105_84
theorem kc_105_46 : qm_chain 8 false (some .int) cX8_lack 46 kk_105_46 := qm_chain_of _ _ _ _ 10 _ 67 _ (by decide +kernel) kc_105_67
theorem kc_105_40 : qm_chain 8 false (some .int) cX8_lack 40 kk_105_40 := qm_chain_of _ _ _ _ 4 _ 46 _ (by decide +kernel) kc_105_46
theorem kc_105_16 : qm_chain 8 false (some .int) cX8_lack 16 kk_105_16 := qm_chain_of _ _ _ _ 12 _ 40 _ (by decide +kernel) kc_105_40
theorem kc_105_14 : qm_chain 8 false (some .int) cX8_lack 14 kk_105_14 := qm_chain_of _ _ _ _ 2 _ 16 _ (by decide +kernel) kc_105_16
theorem kc_105_0 : qm_chain 8 false (some .int) cX8_lack 0 kk_105_0 := qm_chain_of _ _ _ _ 6 _ 14 _ (by decide +kernel) kc_105_14
theorem ka_105 : ∀ t : Int, 0 ≤ t → qm_chain 8 false (some .int) cX8_lack t.toNat (qm_lk kt_105 t) := qm_lk_ok (List.forall_mem_cons.mpr ⟨⟨by decide, kc_105_0⟩, List.forall_mem_cons.mpr ⟨⟨by decide, kc_105_14⟩, List.forall_mem_cons.mpr ⟨⟨by decide, kc_105_16⟩, List.forall_mem_cons.mpr ⟨⟨by decide, kc_105_40⟩, List.forall_mem_cons.mpr ⟨⟨by decide, kc_105_46⟩, List.forall_mem_cons.mpr ⟨⟨by decide, kc_105_67⟩, List.forall_mem_cons.mpr ⟨⟨by decide, kc_105_84⟩, fun _ h => absurd h List.not_mem_nil⟩⟩⟩⟩⟩⟩⟩)
theorem kg_105 : qm_G1 (yX8_lack, cX8_lack, 8, some .int, 8, 4) (8, kt_105) := ⟨rfl, false, (fun z => by cases z), ka_105⟩
-- 106: TowerBoards.rounds
def kk_106_61 : List qm_I := (.aload 0, 0, 0, 0) :: (.getfield 8, 10, 0, 0) :: (.aload 4, 0, 0, 0) :: (.iconst 0, 0, 0, 1) :: (.invokevirtual 1, 3, 0, 0) :: (.aload 0, 0, 0, 0) :: (.aload 0, 0, 0, 0) :: (.getfield 8, 10, 0, 0) :: (.aload 4, 0, 0, 0) :: (.getfield 1, 1, 0, 0) :: (.iload 2, 0, 0, 0) :: (.isub, 0, 0, 0) :: (.iload 3, 0, 0, 0) :: (.invokevirtual 7, 3, 0, 0) :: (.i2l, 0, 0, 0) :: (.putfield 8, 11, 1, 0) :: (.iconst 0, 0, 0, 1) :: (.ireturn, 0, 0, 0) :: []
def kk_106_47 : List qm_I := (.aload 4, 0, 0, 0) :: (.invokevirtual 15, 1, 1, 0) :: (.ifCond .ne 61, 0, 0, 0) :: (.aload 0, 0, 0, 0) :: (.iconst 0, 0, 0, 3) :: (.invokevirtual 123, 2, 8, 0) :: (.ireturn, 0, 0, 0) :: kk_106_61
def kk_106_29 : List qm_I := (.aload 0, 0, 0, 0) :: (.iload 1, 0, 0, 0) :: (.invokevirtual 122, 2, 8, 0) :: (.astore 4, 0, 0, 0) :: (.aload 4, 0, 0, 0) :: (.ifnonnull 47, 0, 0, 0) :: (.aload 0, 0, 0, 0) :: (.iconst 0, 0, 0, 1) :: (.invokevirtual 123, 2, 8, 0) :: (.ireturn, 0, 0, 0) :: kk_106_47
def kk_106_27 : List qm_I := (.iconst 0, 0, 0, -1) :: (.ireturn, 0, 0, 0) :: kk_106_29
def kk_106_0 : List qm_I := (.iload 1, 0, 0, 0) :: (.invokestatic 120, 1, 0, 0) :: (.ifCond .eq 27, 0, 0, 0) :: (.iload 2, 0, 0, 0) :: (.iconst 0, 0, 0, 0) :: (.iconst 0, 0, 0, 6) :: (.invokestatic 118, 3, 0, 0) :: (.ifCond .eq 27, 0, 0, 0) :: (.iload 3, 0, 0, 0) :: (.iconst 0, 0, 0, 0) :: (.iconst 0, 0, 0, 6) :: (.invokestatic 118, 3, 0, 0) :: (.ifCond .ne 29, 0, 0, 0) :: kk_106_27
def kt_106 : qm_T := [(0, kk_106_0), (27, kk_106_27), (29, kk_106_29), (47, kk_106_47), (61, kk_106_61)]
theorem kc_106_61 : qm_chain 8 false (some .int) cX8_rounds 61 kk_106_61 := qm_chain_of _ _ _ _ 18 _ 93 _ (by decide +kernel) trivial
theorem kc_106_47 : qm_chain 8 false (some .int) cX8_rounds 47 kk_106_47 := qm_chain_of _ _ _ _ 7 _ 61 _ (by decide +kernel) kc_106_61
theorem kc_106_29 : qm_chain 8 false (some .int) cX8_rounds 29 kk_106_29 := qm_chain_of _ _ _ _ 10 _ 47 _ (by decide +kernel) kc_106_47
theorem kc_106_27 : qm_chain 8 false (some .int) cX8_rounds 27 kk_106_27 := qm_chain_of _ _ _ _ 2 _ 29 _ (by decide +kernel) kc_106_29
theorem kc_106_0 : qm_chain 8 false (some .int) cX8_rounds 0 kk_106_0 := qm_chain_of _ _ _ _ 13 _ 27 _ (by decide +kernel) kc_106_27
theorem ka_106 : ∀ t : Int, 0 ≤ t → qm_chain 8 false (some .int) cX8_rounds t.toNat (qm_lk kt_106 t) := qm_lk_ok (List.forall_mem_cons.mpr ⟨⟨by decide, kc_106_0⟩, List.forall_mem_cons.mpr ⟨⟨by decide, kc_106_27⟩, List.forall_mem_cons.mpr ⟨⟨by decide, kc_106_29⟩, List.forall_mem_cons.mpr ⟨⟨by decide, kc_106_47⟩, List.forall_mem_cons.mpr ⟨⟨by decide, kc_106_61⟩, fun _ h => absurd h List.not_mem_nil⟩⟩⟩⟩⟩)
theorem kg_106 : qm_G1 (yX8_rounds, cX8_rounds, 5, some .int, 8, 3) (5, kt_106) := ⟨rfl, false, (fun z => by cases z), ka_106⟩
-- 107: TowerBoards.longRings
def kk_107_98 : List qm_I := (.iconst 0, 0, 0, 1) :: (.ireturn, 0, 0, 0) :: []
def kk_107_65 : List qm_I := (.iload 4, 0, 0, 0) :: (.iconst 0, 0, 0, 6) :: (.if_icmp .gt 98, 0, 0, 0) :: (.aload 0, 0, 0, 0) :: (.dup, 0, 0, 0) :: (.getfield 8, 11, 0, 0) :: (.aload 0, 0, 0, 0) :: (.getfield 8, 10, 0, 0) :: (.iconst 0, 0, 0, 0) :: (.iload 4, 0, 0, 0) :: (.invokevirtual 7, 3, 0, 0) :: (.i2l, 0, 0, 0) :: (.ladd, 0, 0, 0) :: (.putfield 8, 11, 1, 0) :: (.iinc 4 0, 0, 0, 1) :: (.goto 65, 0, 0, 0) :: kk_107_98
def kk_107_48 : List qm_I := (.aload 0, 0, 0, 0) :: (.getfield 8, 10, 0, 0) :: (.aload 3, 0, 0, 0) :: (.iload 2, 0, 0, 0) :: (.invokevirtual 1, 3, 0, 0) :: (.aload 0, 0, 0, 0) :: (.lconst 0, 0, 0, 0) :: (.putfield 8, 11, 1, 0) :: (.iconst 0, 0, 0, 0) :: (.istore 4, 0, 0, 0) :: kk_107_65
def kk_107_35 : List qm_I := (.aload 3, 0, 0, 0) :: (.invokevirtual 15, 1, 1, 0) :: (.ifCond .ne 48, 0, 0, 0) :: (.aload 0, 0, 0, 0) :: (.iconst 0, 0, 0, 3) :: (.invokevirtual 123, 2, 8, 0) :: (.ireturn, 0, 0, 0) :: kk_107_48
def kk_107_19 : List qm_I := (.aload 0, 0, 0, 0) :: (.iload 1, 0, 0, 0) :: (.invokevirtual 122, 2, 8, 0) :: (.astore 3, 0, 0, 0) :: (.aload 3, 0, 0, 0) :: (.ifnonnull 35, 0, 0, 0) :: (.aload 0, 0, 0, 0) :: (.iconst 0, 0, 0, 1) :: (.invokevirtual 123, 2, 8, 0) :: (.ireturn, 0, 0, 0) :: kk_107_35
def kk_107_17 : List qm_I := (.iconst 0, 0, 0, -1) :: (.ireturn, 0, 0, 0) :: kk_107_19
def kk_107_0 : List qm_I := (.iload 1, 0, 0, 0) :: (.invokestatic 120, 1, 0, 0) :: (.ifCond .eq 17, 0, 0, 0) :: (.iload 2, 0, 0, 0) :: (.iconst 0, 0, 0, 1) :: (.iconst 0, 0, 0, 6) :: (.invokestatic 118, 3, 0, 0) :: (.ifCond .ne 19, 0, 0, 0) :: kk_107_17
def kt_107 : qm_T := [(0, kk_107_0), (17, kk_107_17), (19, kk_107_19), (35, kk_107_35), (48, kk_107_48), (65, kk_107_65), (98, kk_107_98)]
theorem kc_107_98 : qm_chain 8 false (some .int) cX8_longRings 98 kk_107_98 := qm_chain_of _ _ _ _ 2 _ 100 _ (by decide +kernel) trivial
theorem kc_107_65 : qm_chain 8 false (some .int) cX8_longRings 65 kk_107_65 := qm_chain_of _ _ _ _ 16 _ 98 _ (by decide +kernel) kc_107_98
theorem kc_107_48 : qm_chain 8 false (some .int) cX8_longRings 48 kk_107_48 := qm_chain_of _ _ _ _ 10 _ 65 _ (by decide +kernel) kc_107_65
theorem kc_107_35 : qm_chain 8 false (some .int) cX8_longRings 35 kk_107_35 := qm_chain_of _ _ _ _ 7 _ 48 _ (by decide +kernel) kc_107_48
theorem kc_107_19 : qm_chain 8 false (some .int) cX8_longRings 19 kk_107_19 := qm_chain_of _ _ _ _ 10 _ 35 _ (by decide +kernel) kc_107_35
theorem kc_107_17 : qm_chain 8 false (some .int) cX8_longRings 17 kk_107_17 := qm_chain_of _ _ _ _ 2 _ 19 _ (by decide +kernel) kc_107_19
theorem kc_107_0 : qm_chain 8 false (some .int) cX8_longRings 0 kk_107_0 := qm_chain_of _ _ _ _ 8 _ 17 _ (by decide +kernel) kc_107_17
theorem ka_107 : ∀ t : Int, 0 ≤ t → qm_chain 8 false (some .int) cX8_longRings t.toNat (qm_lk kt_107 t) := qm_lk_ok (List.forall_mem_cons.mpr ⟨⟨by decide, kc_107_0⟩, List.forall_mem_cons.mpr ⟨⟨by decide, kc_107_17⟩, List.forall_mem_cons.mpr ⟨⟨by decide, kc_107_19⟩, List.forall_mem_cons.mpr ⟨⟨by decide, kc_107_35⟩, List.forall_mem_cons.mpr ⟨⟨by decide, kc_107_48⟩, List.forall_mem_cons.mpr ⟨⟨by decide, kc_107_65⟩, List.forall_mem_cons.mpr ⟨⟨by decide, kc_107_98⟩, fun _ h => absurd h List.not_mem_nil⟩⟩⟩⟩⟩⟩⟩)
theorem kg_107 : qm_G1 (yX8_longRings, cX8_longRings, 5, some .int, 8, 2) (5, kt_107) := ⟨rfl, false, (fun z => by cases z), ka_107⟩
-- 108: TowerBoards.ringOf
def kk_108_138 : List qm_I := (.iconst 0, 0, 0, -9) :: (.ireturn, 0, 0, 0) :: []
def kk_108_132 : List qm_I := (.iinc 8 0, 0, 0, 1) :: (.goto 87, 0, 0, 0) :: kk_108_138
def kk_108_129 : List qm_I := (.iinc 7 0, 0, 0, 1) :: kk_108_132
def kk_108_87 : List qm_I := (.iload 8, 0, 0, 0) :: (.aload 5, 0, 0, 0) :: (.getfield 7, 0, 0, 0) :: (.if_icmp .ge 138, 0, 0, 0) :: (.aload 5, 0, 0, 0) :: (.iload 8, 0, 0, 0) :: (.invokevirtual 69, 2, 7, 0) :: (.istore 9, 0, 0, 0) :: (.iload 9, 0, 0, 0) :: (.ifCond .eq 132, 0, 0, 0) :: (.iload 7, 0, 0, 0) :: (.iload 3, 0, 0, 0) :: (.if_icmp .ne 129, 0, 0, 0) :: (.aload 0, 0, 0, 0) :: (.iload 9, 0, 0, 0) :: (.putfield 8, 12, 0, 0) :: (.iload 9, 0, 0, 0) :: (.invokestatic 220, 1, 0, 0) :: (.ireturn, 0, 0, 0) :: kk_108_129
def kk_108_81 : List qm_I := (.iconst 0, 0, 0, 0) :: (.istore 7, 0, 0, 0) :: (.iconst 0, 0, 0, 0) :: (.istore 8, 0, 0, 0) :: kk_108_87
def kk_108_67 : List qm_I := (.aload 4, 0, 0, 0) :: (.invokevirtual 15, 1, 1, 0) :: (.ifCond .ne 81, 0, 0, 0) :: (.aload 0, 0, 0, 0) :: (.iconst 0, 0, 0, 3) :: (.invokevirtual 123, 2, 8, 0) :: (.ireturn, 0, 0, 0) :: kk_108_81
def kk_108_46 : List qm_I := (.aload 4, 0, 0, 0) :: (.aload 5, 0, 0, 0) :: (.invokevirtual 24, 2, 1, 0) :: (.istore 6, 0, 0, 0) :: (.iload 6, 0, 0, 0) :: (.ifCond .eq 67, 0, 0, 0) :: (.aload 0, 0, 0, 0) :: (.iload 6, 0, 0, 0) :: (.invokevirtual 123, 2, 8, 0) :: (.ireturn, 0, 0, 0) :: kk_108_67
def kk_108_40 : List qm_I := (.aload 0, 0, 0, 0) :: (.iconst 0, 0, 0, 1) :: (.invokevirtual 123, 2, 8, 0) :: (.ireturn, 0, 0, 0) :: kk_108_46
def kk_108_16 : List qm_I := (.aload 0, 0, 0, 0) :: (.iload 1, 0, 0, 0) :: (.invokevirtual 122, 2, 8, 0) :: (.astore 4, 0, 0, 0) :: (.aload 0, 0, 0, 0) :: (.iload 2, 0, 0, 0) :: (.invokevirtual 121, 2, 8, 0) :: (.astore 5, 0, 0, 0) :: (.aload 4, 0, 0, 0) :: (.ifnull 40, 0, 0, 0) :: (.aload 5, 0, 0, 0) :: (.ifnonnull 46, 0, 0, 0) :: kk_108_40
def kk_108_14 : List qm_I := (.iconst 0, 0, 0, -1) :: (.ireturn, 0, 0, 0) :: kk_108_16
def kk_108_0 : List qm_I := (.iload 1, 0, 0, 0) :: (.invokestatic 120, 1, 0, 0) :: (.ifCond .eq 14, 0, 0, 0) :: (.iload 2, 0, 0, 0) :: (.invokestatic 119, 1, 0, 0) :: (.ifCond .ne 16, 0, 0, 0) :: kk_108_14
def kt_108 : qm_T := [(0, kk_108_0), (14, kk_108_14), (16, kk_108_16), (40, kk_108_40), (46, kk_108_46), (67, kk_108_67), (81, kk_108_81), (87, kk_108_87), (129, kk_108_129), (132, kk_108_132), (138, kk_108_138)]
theorem kc_108_138 : qm_chain 8 false (some .int) cX8_ringOf 138 kk_108_138 := qm_chain_of _ _ _ _ 2 _ 141 _ (by decide +kernel) trivial
theorem kc_108_132 : qm_chain 8 false (some .int) cX8_ringOf 132 kk_108_132 := qm_chain_of _ _ _ _ 2 _ 138 _ (by decide +kernel) kc_108_138
theorem kc_108_129 : qm_chain 8 false (some .int) cX8_ringOf 129 kk_108_129 := qm_chain_of _ _ _ _ 1 _ 132 _ (by decide +kernel) kc_108_132
theorem kc_108_87 : qm_chain 8 false (some .int) cX8_ringOf 87 kk_108_87 := qm_chain_of _ _ _ _ 19 _ 129 _ (by decide +kernel) kc_108_129
theorem kc_108_81 : qm_chain 8 false (some .int) cX8_ringOf 81 kk_108_81 := qm_chain_of _ _ _ _ 4 _ 87 _ (by decide +kernel) kc_108_87
theorem kc_108_67 : qm_chain 8 false (some .int) cX8_ringOf 67 kk_108_67 := qm_chain_of _ _ _ _ 7 _ 81 _ (by decide +kernel) kc_108_81
theorem kc_108_46 : qm_chain 8 false (some .int) cX8_ringOf 46 kk_108_46 := qm_chain_of _ _ _ _ 10 _ 67 _ (by decide +kernel) kc_108_67
theorem kc_108_40 : qm_chain 8 false (some .int) cX8_ringOf 40 kk_108_40 := qm_chain_of _ _ _ _ 4 _ 46 _ (by decide +kernel) kc_108_46
theorem kc_108_16 : qm_chain 8 false (some .int) cX8_ringOf 16 kk_108_16 := qm_chain_of _ _ _ _ 12 _ 40 _ (by decide +kernel) kc_108_40
theorem kc_108_14 : qm_chain 8 false (some .int) cX8_ringOf 14 kk_108_14 := qm_chain_of _ _ _ _ 2 _ 16 _ (by decide +kernel) kc_108_16
theorem kc_108_0 : qm_chain 8 false (some .int) cX8_ringOf 0 kk_108_0 := qm_chain_of _ _ _ _ 6 _ 14 _ (by decide +kernel) kc_108_14
theorem ka_108 : ∀ t : Int, 0 ≤ t → qm_chain 8 false (some .int) cX8_ringOf t.toNat (qm_lk kt_108 t) := qm_lk_ok (List.forall_mem_cons.mpr ⟨⟨by decide, kc_108_0⟩, List.forall_mem_cons.mpr ⟨⟨by decide, kc_108_14⟩, List.forall_mem_cons.mpr ⟨⟨by decide, kc_108_16⟩, List.forall_mem_cons.mpr ⟨⟨by decide, kc_108_40⟩, List.forall_mem_cons.mpr ⟨⟨by decide, kc_108_46⟩, List.forall_mem_cons.mpr ⟨⟨by decide, kc_108_67⟩, List.forall_mem_cons.mpr ⟨⟨by decide, kc_108_81⟩, List.forall_mem_cons.mpr ⟨⟨by decide, kc_108_87⟩, List.forall_mem_cons.mpr ⟨⟨by decide, kc_108_129⟩, List.forall_mem_cons.mpr ⟨⟨by decide, kc_108_132⟩, List.forall_mem_cons.mpr ⟨⟨by decide, kc_108_138⟩, fun _ h => absurd h List.not_mem_nil⟩⟩⟩⟩⟩⟩⟩⟩⟩⟩⟩)
theorem kg_108 : qm_G1 (yX8_ringOf, cX8_ringOf, 10, some .int, 8, 3) (10, kt_108) := ⟨rfl, false, (fun z => by cases z), ka_108⟩
-- 109: TowerBoards.slants
def kk_109_127 : List qm_I := (.iconst 0, 0, 0, 1) :: (.ireturn, 0, 0, 0) :: []
def kk_109_83 : List qm_I := (.iload 4, 0, 0, 0) :: (.iload 2, 0, 0, 0) :: (.if_icmp .gt 127, 0, 0, 0) :: (.aload 0, 0, 0, 0) :: (.dup, 0, 0, 0) :: (.getfield 8, 11, 0, 0) :: (.aload 0, 0, 0, 0) :: (.getfield 8, 4, 0, 0) :: (.iload 4, 0, 0, 0) :: (.invokevirtual 46, 2, 5, 0) :: (.i2l, 0, 0, 0) :: (.aload 0, 0, 0, 0) :: (.getfield 8, 5, 0, 0) :: (.iload 2, 0, 0, 0) :: (.iload 4, 0, 0, 0) :: (.isub, 0, 0, 0) :: (.invokevirtual 46, 2, 5, 0) :: (.i2l, 0, 0, 0) :: (.lmul, 0, 0, 0) :: (.ladd, 0, 0, 0) :: (.putfield 8, 11, 1, 0) :: (.iinc 4 0, 0, 0, 1) :: (.goto 83, 0, 0, 0) :: kk_109_127
def kk_109_35 : List qm_I := (.aload 0, 0, 0, 0) :: (.getfield 8, 3, 0, 0) :: (.aload 3, 0, 0, 0) :: (.iconst 0, 0, 0, 0) :: (.invokevirtual 13, 3, 1, 0) :: (.aload 0, 0, 0, 0) :: (.getfield 8, 4, 0, 0) :: (.aload 0, 0, 0, 0) :: (.getfield 8, 3, 0, 0) :: (.invokevirtual 43, 2, 5, 0) :: (.aload 0, 0, 0, 0) :: (.getfield 8, 3, 0, 0) :: (.aload 3, 0, 0, 0) :: (.iconst 0, 0, 0, 1) :: (.invokevirtual 13, 3, 1, 0) :: (.aload 0, 0, 0, 0) :: (.getfield 8, 5, 0, 0) :: (.aload 0, 0, 0, 0) :: (.getfield 8, 3, 0, 0) :: (.invokevirtual 43, 2, 5, 0) :: (.aload 0, 0, 0, 0) :: (.lconst 0, 0, 0, 0) :: (.putfield 8, 11, 1, 0) :: (.iconst 0, 0, 0, 0) :: (.istore 4, 0, 0, 0) :: kk_109_83
def kk_109_19 : List qm_I := (.aload 0, 0, 0, 0) :: (.iload 1, 0, 0, 0) :: (.invokevirtual 122, 2, 8, 0) :: (.astore 3, 0, 0, 0) :: (.aload 3, 0, 0, 0) :: (.ifnonnull 35, 0, 0, 0) :: (.aload 0, 0, 0, 0) :: (.iconst 0, 0, 0, 1) :: (.invokevirtual 123, 2, 8, 0) :: (.ireturn, 0, 0, 0) :: kk_109_35
def kk_109_17 : List qm_I := (.iconst 0, 0, 0, -1) :: (.ireturn, 0, 0, 0) :: kk_109_19
def kk_109_0 : List qm_I := (.iload 1, 0, 0, 0) :: (.invokestatic 120, 1, 0, 0) :: (.ifCond .eq 17, 0, 0, 0) :: (.iload 2, 0, 0, 0) :: (.iconst 0, 0, 0, 0) :: (.iconst 0, 0, 0, 11) :: (.invokestatic 118, 3, 0, 0) :: (.ifCond .ne 19, 0, 0, 0) :: kk_109_17
def kt_109 : qm_T := [(0, kk_109_0), (17, kk_109_17), (19, kk_109_19), (35, kk_109_35), (83, kk_109_83), (127, kk_109_127)]
theorem kc_109_127 : qm_chain 8 false (some .int) cX8_slants 127 kk_109_127 := qm_chain_of _ _ _ _ 2 _ 129 _ (by decide +kernel) trivial
theorem kc_109_83 : qm_chain 8 false (some .int) cX8_slants 83 kk_109_83 := qm_chain_of _ _ _ _ 23 _ 127 _ (by decide +kernel) kc_109_127
theorem kc_109_35 : qm_chain 8 false (some .int) cX8_slants 35 kk_109_35 := qm_chain_of _ _ _ _ 25 _ 83 _ (by decide +kernel) kc_109_83
theorem kc_109_19 : qm_chain 8 false (some .int) cX8_slants 19 kk_109_19 := qm_chain_of _ _ _ _ 10 _ 35 _ (by decide +kernel) kc_109_35
theorem kc_109_17 : qm_chain 8 false (some .int) cX8_slants 17 kk_109_17 := qm_chain_of _ _ _ _ 2 _ 19 _ (by decide +kernel) kc_109_19
theorem kc_109_0 : qm_chain 8 false (some .int) cX8_slants 0 kk_109_0 := qm_chain_of _ _ _ _ 8 _ 17 _ (by decide +kernel) kc_109_17
theorem ka_109 : ∀ t : Int, 0 ≤ t → qm_chain 8 false (some .int) cX8_slants t.toNat (qm_lk kt_109 t) := qm_lk_ok (List.forall_mem_cons.mpr ⟨⟨by decide, kc_109_0⟩, List.forall_mem_cons.mpr ⟨⟨by decide, kc_109_17⟩, List.forall_mem_cons.mpr ⟨⟨by decide, kc_109_19⟩, List.forall_mem_cons.mpr ⟨⟨by decide, kc_109_35⟩, List.forall_mem_cons.mpr ⟨⟨by decide, kc_109_83⟩, List.forall_mem_cons.mpr ⟨⟨by decide, kc_109_127⟩, fun _ h => absurd h List.not_mem_nil⟩⟩⟩⟩⟩⟩)
theorem kg_109 : qm_G1 (yX8_slants, cX8_slants, 5, some .int, 8, 2) (5, kt_109) := ⟨rfl, false, (fun z => by cases z), ka_109⟩
-- 110: TowerBoards.ways
def kk_110_0 : List qm_I := (.aload 0, 0, 0, 0) :: (.getfield 8, 11, 0, 0) :: (.lreturn, 0, 0, 0) :: []
def kt_110 : qm_T := [(0, kk_110_0)]
theorem kc_110_0 : qm_chain 8 false (some .long) cX8_ways 0 kk_110_0 := qm_chain_of _ _ _ _ 3 _ 5 _ (by decide +kernel) trivial
theorem ka_110 : ∀ t : Int, 0 ≤ t → qm_chain 8 false (some .long) cX8_ways t.toNat (qm_lk kt_110 t) := qm_lk_ok (List.forall_mem_cons.mpr ⟨⟨by decide, kc_110_0⟩, fun _ h => absurd h List.not_mem_nil⟩)
theorem kg_110 : qm_G1 (yX8_ways, cX8_ways, 1, some .long, 8, 0) (1, kt_110) := ⟨rfl, false, (fun z => by cases z), ka_110⟩
-- 111: TowerBoards.asked
def kk_111_0 : List qm_I := (.aload 0, 0, 0, 0) :: (.getfield 8, 12, 0, 0) :: (.ireturn, 0, 0, 0) :: []
def kt_111 : qm_T := [(0, kk_111_0)]
theorem kc_111_0 : qm_chain 8 false (some .int) cX8_asked 0 kk_111_0 := qm_chain_of _ _ _ _ 3 _ 5 _ (by decide +kernel) trivial
theorem ka_111 : ∀ t : Int, 0 ≤ t → qm_chain 8 false (some .int) cX8_asked t.toNat (qm_lk kt_111 t) := qm_lk_ok (List.forall_mem_cons.mpr ⟨⟨by decide, kc_111_0⟩, fun _ h => absurd h List.not_mem_nil⟩)
theorem kg_111 : qm_G1 (yX8_asked, cX8_asked, 1, some .int, 8, 0) (1, kt_111) := ⟨rfl, false, (fun z => by cases z), ka_111⟩
-- 112: TowerBoards.upper
def kk_112_0 : List qm_I := (.aload 0, 0, 0, 0) :: (.getfield 8, 13, 0, 0) :: (.lreturn, 0, 0, 0) :: []
def kt_112 : qm_T := [(0, kk_112_0)]
theorem kc_112_0 : qm_chain 8 false (some .long) cX8_upper 0 kk_112_0 := qm_chain_of _ _ _ _ 3 _ 5 _ (by decide +kernel) trivial
theorem ka_112 : ∀ t : Int, 0 ≤ t → qm_chain 8 false (some .long) cX8_upper t.toNat (qm_lk kt_112 t) := qm_lk_ok (List.forall_mem_cons.mpr ⟨⟨by decide, kc_112_0⟩, fun _ h => absurd h List.not_mem_nil⟩)
theorem kg_112 : qm_G1 (yX8_upper, cX8_upper, 1, some .long, 8, 0) (1, kt_112) := ⟨rfl, false, (fun z => by cases z), ka_112⟩
-- 113: TowerBoards.lower
def kk_113_0 : List qm_I := (.aload 0, 0, 0, 0) :: (.getfield 8, 14, 0, 0) :: (.lreturn, 0, 0, 0) :: []
def kt_113 : qm_T := [(0, kk_113_0)]
theorem kc_113_0 : qm_chain 8 false (some .long) cX8_lower 0 kk_113_0 := qm_chain_of _ _ _ _ 3 _ 5 _ (by decide +kernel) trivial
theorem ka_113 : ∀ t : Int, 0 ≤ t → qm_chain 8 false (some .long) cX8_lower t.toNat (qm_lk kt_113 t) := qm_lk_ok (List.forall_mem_cons.mpr ⟨⟨by decide, kc_113_0⟩, fun _ h => absurd h List.not_mem_nil⟩)
theorem kg_113 : qm_G1 (yX8_lower, cX8_lower, 1, some .long, 8, 0) (1, kt_113) := ⟨rfl, false, (fun z => by cases z), ka_113⟩
-- 114: TowerBoards.count
def kk_114_64 : List qm_I := (.iconst 0, 0, 0, -1) :: (.ireturn, 0, 0, 0) :: []
def kk_114_59 : List qm_I := (.aload 0, 0, 0, 0) :: (.invokevirtual 129, 1, 8, 0) :: (.ireturn, 0, 0, 0) :: kk_114_64
def kk_114_53 : List qm_I := (.aload 0, 0, 0, 0) :: (.iconst 0, 0, 0, 2) :: (.invokevirtual 128, 2, 8, 0) :: (.ireturn, 0, 0, 0) :: kk_114_59
def kk_114_47 : List qm_I := (.aload 0, 0, 0, 0) :: (.iconst 0, 0, 0, 1) :: (.invokevirtual 128, 2, 8, 0) :: (.ireturn, 0, 0, 0) :: kk_114_53
def kk_114_41 : List qm_I := (.aload 0, 0, 0, 0) :: (.iconst 0, 0, 0, 0) :: (.invokevirtual 128, 2, 8, 0) :: (.ireturn, 0, 0, 0) :: kk_114_47
def kk_114_36 : List qm_I := (.aload 0, 0, 0, 0) :: (.invokevirtual 127, 1, 8, 0) :: (.ireturn, 0, 0, 0) :: kk_114_41
def kk_114_0 : List qm_I := (.iload 1, 0, 0, 0) :: (.lookupswitch 64 #[(0, 36), (1, 41), (2, 47), (3, 53), (4, 59)], 0, 0, 0) :: kk_114_36
def kt_114 : qm_T := [(0, kk_114_0), (36, kk_114_36), (41, kk_114_41), (47, kk_114_47), (53, kk_114_53), (59, kk_114_59), (64, kk_114_64)]
theorem kc_114_64 : qm_chain 8 false (some .int) cX8_count 64 kk_114_64 := qm_chain_of _ _ _ _ 2 _ 66 _ (by decide +kernel) trivial
theorem kc_114_59 : qm_chain 8 false (some .int) cX8_count 59 kk_114_59 := qm_chain_of _ _ _ _ 3 _ 64 _ (by decide +kernel) kc_114_64
theorem kc_114_53 : qm_chain 8 false (some .int) cX8_count 53 kk_114_53 := qm_chain_of _ _ _ _ 4 _ 59 _ (by decide +kernel) kc_114_59
theorem kc_114_47 : qm_chain 8 false (some .int) cX8_count 47 kk_114_47 := qm_chain_of _ _ _ _ 4 _ 53 _ (by decide +kernel) kc_114_53
theorem kc_114_41 : qm_chain 8 false (some .int) cX8_count 41 kk_114_41 := qm_chain_of _ _ _ _ 4 _ 47 _ (by decide +kernel) kc_114_47
theorem kc_114_36 : qm_chain 8 false (some .int) cX8_count 36 kk_114_36 := qm_chain_of _ _ _ _ 3 _ 41 _ (by decide +kernel) kc_114_41
theorem kc_114_0 : qm_chain 8 false (some .int) cX8_count 0 kk_114_0 := qm_chain_of _ _ _ _ 2 _ 36 _ (by decide +kernel) kc_114_36
theorem ka_114 : ∀ t : Int, 0 ≤ t → qm_chain 8 false (some .int) cX8_count t.toNat (qm_lk kt_114 t) := qm_lk_ok (List.forall_mem_cons.mpr ⟨⟨by decide, kc_114_0⟩, List.forall_mem_cons.mpr ⟨⟨by decide, kc_114_36⟩, List.forall_mem_cons.mpr ⟨⟨by decide, kc_114_41⟩, List.forall_mem_cons.mpr ⟨⟨by decide, kc_114_47⟩, List.forall_mem_cons.mpr ⟨⟨by decide, kc_114_53⟩, List.forall_mem_cons.mpr ⟨⟨by decide, kc_114_59⟩, List.forall_mem_cons.mpr ⟨⟨by decide, kc_114_64⟩, fun _ h => absurd h List.not_mem_nil⟩⟩⟩⟩⟩⟩⟩)
theorem kg_114 : qm_G1 (yX8_count, cX8_count, 2, some .int, 8, 1) (2, kt_114) := ⟨rfl, false, (fun z => by cases z), ka_114⟩
-- 115: TowerBoards.finding
def kk_115_0 : List qm_I := (.aload 0, 0, 0, 0) :: (.getfield 8, 15, 0, 0) :: (.ireturn, 0, 0, 0) :: []
def kt_115 : qm_T := [(0, kk_115_0)]
theorem kc_115_0 : qm_chain 8 false (some .int) cX8_finding 0 kk_115_0 := qm_chain_of _ _ _ _ 3 _ 5 _ (by decide +kernel) trivial
theorem ka_115 : ∀ t : Int, 0 ≤ t → qm_chain 8 false (some .int) cX8_finding t.toNat (qm_lk kt_115 t) := qm_lk_ok (List.forall_mem_cons.mpr ⟨⟨by decide, kc_115_0⟩, fun _ h => absurd h List.not_mem_nil⟩)
theorem kg_115 : qm_G1 (yX8_finding, cX8_finding, 1, some .int, 8, 0) (1, kt_115) := ⟨rfl, false, (fun z => by cases z), ka_115⟩
-- 116: TowerBoards.findings
def kk_116_19 : List qm_I := (.ireturn, 0, 0, 0) :: []
def kk_116_18 : List qm_I := (.iconst 0, 0, 0, -1) :: kk_116_19
def kk_116_0 : List qm_I := (.iload 1, 0, 0, 0) :: (.iconst 0, 0, 0, 1) :: (.iconst 0, 0, 0, 5) :: (.invokestatic 118, 3, 0, 0) :: (.ifCond .eq 18, 0, 0, 0) :: (.aload 0, 0, 0, 0) :: (.getfield 8, 2, 0, 0) :: (.iload 1, 0, 0, 0) :: (.iaload, 0, 0, 0) :: (.goto 19, 0, 0, 0) :: kk_116_18
def kt_116 : qm_T := [(0, kk_116_0), (18, kk_116_18), (19, kk_116_19)]
theorem kc_116_19 : qm_chain 8 false (some .int) cX8_findings 19 kk_116_19 := qm_chain_of _ _ _ _ 1 _ 20 _ (by decide +kernel) trivial
theorem kc_116_18 : qm_chain 8 false (some .int) cX8_findings 18 kk_116_18 := qm_chain_of _ _ _ _ 1 _ 19 _ (by decide +kernel) kc_116_19
theorem kc_116_0 : qm_chain 8 false (some .int) cX8_findings 0 kk_116_0 := qm_chain_of _ _ _ _ 10 _ 18 _ (by decide +kernel) kc_116_18
theorem ka_116 : ∀ t : Int, 0 ≤ t → qm_chain 8 false (some .int) cX8_findings t.toNat (qm_lk kt_116 t) := qm_lk_ok (List.forall_mem_cons.mpr ⟨⟨by decide, kc_116_0⟩, List.forall_mem_cons.mpr ⟨⟨by decide, kc_116_18⟩, List.forall_mem_cons.mpr ⟨⟨by decide, kc_116_19⟩, fun _ h => absurd h List.not_mem_nil⟩⟩⟩)
theorem kg_116 : qm_G1 (yX8_findings, cX8_findings, 2, some .int, 8, 1) (2, kt_116) := ⟨rfl, false, (fun z => by cases z), ka_116⟩
-- 117: TowerBoards.digest
def kk_117_54 : List qm_I := (.lload 1, 0, 0, 0) :: (.lreturn, 0, 0, 0) :: []
def kk_117_31 : List qm_I := (.iload 3, 0, 0, 0) :: (.iconst 0, 0, 0, 8) :: (.if_icmp .ge 54, 0, 0, 0) :: (.aload 0, 0, 0, 0) :: (.getfield 8, 0, 0, 0) :: (.iload 3, 0, 0, 0) :: (.aaload, 0, 0, 0) :: (.lload 1, 0, 0, 0) :: (.invokevirtual 70, 2, 7, 0) :: (.lstore 1, 0, 0, 0) :: (.iinc 3 0, 0, 0, 1) :: (.goto 31, 0, 0, 0) :: kk_117_54
def kk_117_29 : List qm_I := (.iconst 0, 0, 0, 0) :: (.istore 3, 0, 0, 0) :: kk_117_31
def kk_117_6 : List qm_I := (.iload 3, 0, 0, 0) :: (.iconst 0, 0, 0, 12) :: (.if_icmp .ge 29, 0, 0, 0) :: (.aload 0, 0, 0, 0) :: (.getfield 8, 1, 0, 0) :: (.iload 3, 0, 0, 0) :: (.aaload, 0, 0, 0) :: (.lload 1, 0, 0, 0) :: (.invokevirtual 26, 2, 1, 0) :: (.lstore 1, 0, 0, 0) :: (.iinc 3 0, 0, 0, 1) :: (.goto 6, 0, 0, 0) :: kk_117_29
def kk_117_0 : List qm_I := (.lconst 0, 0, 0, 17) :: (.lstore 1, 0, 0, 0) :: (.iconst 0, 0, 0, 0) :: (.istore 3, 0, 0, 0) :: kk_117_6
def kt_117 : qm_T := [(0, kk_117_0), (6, kk_117_6), (29, kk_117_29), (31, kk_117_31), (54, kk_117_54)]
theorem kc_117_54 : qm_chain 8 false (some .long) cX8_digest 54 kk_117_54 := qm_chain_of _ _ _ _ 2 _ 56 _ (by decide +kernel) trivial
theorem kc_117_31 : qm_chain 8 false (some .long) cX8_digest 31 kk_117_31 := qm_chain_of _ _ _ _ 12 _ 54 _ (by decide +kernel) kc_117_54
theorem kc_117_29 : qm_chain 8 false (some .long) cX8_digest 29 kk_117_29 := qm_chain_of _ _ _ _ 2 _ 31 _ (by decide +kernel) kc_117_31
theorem kc_117_6 : qm_chain 8 false (some .long) cX8_digest 6 kk_117_6 := qm_chain_of _ _ _ _ 12 _ 29 _ (by decide +kernel) kc_117_29
theorem kc_117_0 : qm_chain 8 false (some .long) cX8_digest 0 kk_117_0 := qm_chain_of _ _ _ _ 4 _ 6 _ (by decide +kernel) kc_117_6
theorem ka_117 : ∀ t : Int, 0 ≤ t → qm_chain 8 false (some .long) cX8_digest t.toNat (qm_lk kt_117 t) := qm_lk_ok (List.forall_mem_cons.mpr ⟨⟨by decide, kc_117_0⟩, List.forall_mem_cons.mpr ⟨⟨by decide, kc_117_6⟩, List.forall_mem_cons.mpr ⟨⟨by decide, kc_117_29⟩, List.forall_mem_cons.mpr ⟨⟨by decide, kc_117_31⟩, List.forall_mem_cons.mpr ⟨⟨by decide, kc_117_54⟩, fun _ h => absurd h List.not_mem_nil⟩⟩⟩⟩⟩)
theorem kg_117 : qm_G1 (yX8_digest, cX8_digest, 4, some .long, 8, 0) (4, kt_117) := ⟨rfl, false, (fun z => by cases z), ka_117⟩
-- 118: TowerBoards.isWithin
def kk_118_15 : List qm_I := (.ireturn, 1, 0, 0) :: []
def kk_118_14 : List qm_I := (.iconst 0, 0, 0, 0) :: kk_118_15
def kk_118_0 : List qm_I := (.iload 0, 0, 0, 0) :: (.iload 1, 0, 0, 0) :: (.if_icmp .lt 14, 0, 0, 0) :: (.iload 0, 0, 0, 0) :: (.iload 2, 0, 0, 0) :: (.if_icmp .gt 14, 0, 0, 0) :: (.iconst 0, 0, 0, 1) :: (.goto 15, 0, 0, 0) :: kk_118_14
def kt_118 : qm_T := [(0, kk_118_0), (14, kk_118_14), (15, kk_118_15)]
theorem kc_118_15 : qm_chain 8 false (some .boolean) cX8_isWithin 15 kk_118_15 := qm_chain_of _ _ _ _ 1 _ 16 _ (by decide +kernel) trivial
theorem kc_118_14 : qm_chain 8 false (some .boolean) cX8_isWithin 14 kk_118_14 := qm_chain_of _ _ _ _ 1 _ 15 _ (by decide +kernel) kc_118_15
theorem kc_118_0 : qm_chain 8 false (some .boolean) cX8_isWithin 0 kk_118_0 := qm_chain_of _ _ _ _ 8 _ 14 _ (by decide +kernel) kc_118_14
theorem ka_118 : ∀ t : Int, 0 ≤ t → qm_chain 8 false (some .boolean) cX8_isWithin t.toNat (qm_lk kt_118 t) := qm_lk_ok (List.forall_mem_cons.mpr ⟨⟨by decide, kc_118_0⟩, List.forall_mem_cons.mpr ⟨⟨by decide, kc_118_14⟩, List.forall_mem_cons.mpr ⟨⟨by decide, kc_118_15⟩, fun _ h => absurd h List.not_mem_nil⟩⟩⟩)
theorem kg_118 : qm_G1 (yX8_isWithin, cX8_isWithin, 3, some .boolean, 8, 3) (3, kt_118) := ⟨rfl, false, (fun z => by cases z), ka_118⟩
-- 119: TowerBoards.isRowNumber
def kk_119_0 : List qm_I := (.iload 0, 0, 0, 0) :: (.iconst 0, 0, 0, 0) :: (.iconst 0, 0, 0, 7) :: (.invokestatic 118, 3, 0, 0) :: (.ireturn, 1, 0, 0) :: []
def kt_119 : qm_T := [(0, kk_119_0)]
theorem kc_119_0 : qm_chain 8 false (some .boolean) cX8_isRowNumber 0 kk_119_0 := qm_chain_of _ _ _ _ 5 _ 8 _ (by decide +kernel) trivial
theorem ka_119 : ∀ t : Int, 0 ≤ t → qm_chain 8 false (some .boolean) cX8_isRowNumber t.toNat (qm_lk kt_119 t) := qm_lk_ok (List.forall_mem_cons.mpr ⟨⟨by decide, kc_119_0⟩, fun _ h => absurd h List.not_mem_nil⟩)
theorem kg_119 : qm_G1 (yX8_isRowNumber, cX8_isRowNumber, 1, some .boolean, 8, 1) (1, kt_119) := ⟨rfl, false, (fun z => by cases z), ka_119⟩
-- 120: TowerBoards.isBoardNumber
def kk_120_0 : List qm_I := (.iload 0, 0, 0, 0) :: (.iconst 0, 0, 0, 0) :: (.iconst 0, 0, 0, 11) :: (.invokestatic 118, 3, 0, 0) :: (.ireturn, 1, 0, 0) :: []
def kt_120 : qm_T := [(0, kk_120_0)]
theorem kc_120_0 : qm_chain 8 false (some .boolean) cX8_isBoardNumber 0 kk_120_0 := qm_chain_of _ _ _ _ 5 _ 8 _ (by decide +kernel) trivial
theorem ka_120 : ∀ t : Int, 0 ≤ t → qm_chain 8 false (some .boolean) cX8_isBoardNumber t.toNat (qm_lk kt_120 t) := qm_lk_ok (List.forall_mem_cons.mpr ⟨⟨by decide, kc_120_0⟩, fun _ h => absurd h List.not_mem_nil⟩)
theorem kg_120 : qm_G1 (yX8_isBoardNumber, cX8_isBoardNumber, 1, some .boolean, 8, 1) (1, kt_120) := ⟨rfl, false, (fun z => by cases z), ka_120⟩
-- 121: TowerBoards.rowAt
def kk_121_34 : List qm_I := (.areturn, 0, 0, 0) :: []
def kk_121_33 : List qm_I := (.aconst_null, 0, 0, 0) :: kk_121_34
def kk_121_17 : List qm_I := (.astore 2, 0, 0, 0) :: (.aload 2, 0, 0, 0) :: (.ifnull 33, 0, 0, 0) :: (.aload 2, 0, 0, 0) :: (.invokevirtual 60, 1, 7, 0) :: (.ifCond .eq 33, 0, 0, 0) :: (.aload 2, 0, 0, 0) :: (.goto 34, 0, 0, 0) :: kk_121_33
def kk_121_16 : List qm_I := (.aconst_null, 0, 0, 0) :: kk_121_17
def kk_121_0 : List qm_I := (.iload 1, 0, 0, 0) :: (.invokestatic 119, 1, 0, 0) :: (.ifCond .eq 16, 0, 0, 0) :: (.aload 0, 0, 0, 0) :: (.getfield 8, 0, 0, 0) :: (.iload 1, 0, 0, 0) :: (.aaload, 0, 0, 0) :: (.goto 17, 0, 0, 0) :: kk_121_16
def kt_121 : qm_T := [(0, kk_121_0), (16, kk_121_16), (17, kk_121_17), (33, kk_121_33), (34, kk_121_34)]
theorem kc_121_34 : qm_chain 8 false (some (.object "TowerBoards$Row")) cX8_rowAt 34 kk_121_34 := qm_chain_of _ _ _ _ 1 _ 35 _ (by decide +kernel) trivial
theorem kc_121_33 : qm_chain 8 false (some (.object "TowerBoards$Row")) cX8_rowAt 33 kk_121_33 := qm_chain_of _ _ _ _ 1 _ 34 _ (by decide +kernel) kc_121_34
theorem kc_121_17 : qm_chain 8 false (some (.object "TowerBoards$Row")) cX8_rowAt 17 kk_121_17 := qm_chain_of _ _ _ _ 8 _ 33 _ (by decide +kernel) kc_121_33
theorem kc_121_16 : qm_chain 8 false (some (.object "TowerBoards$Row")) cX8_rowAt 16 kk_121_16 := qm_chain_of _ _ _ _ 1 _ 17 _ (by decide +kernel) kc_121_17
theorem kc_121_0 : qm_chain 8 false (some (.object "TowerBoards$Row")) cX8_rowAt 0 kk_121_0 := qm_chain_of _ _ _ _ 8 _ 16 _ (by decide +kernel) kc_121_16
theorem ka_121 : ∀ t : Int, 0 ≤ t → qm_chain 8 false (some (.object "TowerBoards$Row")) cX8_rowAt t.toNat (qm_lk kt_121 t) := qm_lk_ok (List.forall_mem_cons.mpr ⟨⟨by decide, kc_121_0⟩, List.forall_mem_cons.mpr ⟨⟨by decide, kc_121_16⟩, List.forall_mem_cons.mpr ⟨⟨by decide, kc_121_17⟩, List.forall_mem_cons.mpr ⟨⟨by decide, kc_121_33⟩, List.forall_mem_cons.mpr ⟨⟨by decide, kc_121_34⟩, fun _ h => absurd h List.not_mem_nil⟩⟩⟩⟩⟩)
theorem kg_121 : qm_G1 (yX8_rowAt, cX8_rowAt, 3, some (.object "TowerBoards$Row"), 8, 1) (3, kt_121) := ⟨rfl, false, (fun z => by cases z), ka_121⟩
-- 122: TowerBoards.boardAt
def kk_122_34 : List qm_I := (.areturn, 0, 0, 0) :: []
def kk_122_33 : List qm_I := (.aconst_null, 0, 0, 0) :: kk_122_34
def kk_122_17 : List qm_I := (.astore 2, 0, 0, 0) :: (.aload 2, 0, 0, 0) :: (.ifnull 33, 0, 0, 0) :: (.aload 2, 0, 0, 0) :: (.invokevirtual 9, 1, 1, 0) :: (.ifCond .eq 33, 0, 0, 0) :: (.aload 2, 0, 0, 0) :: (.goto 34, 0, 0, 0) :: kk_122_33
def kk_122_16 : List qm_I := (.aconst_null, 0, 0, 0) :: kk_122_17
def kk_122_0 : List qm_I := (.iload 1, 0, 0, 0) :: (.invokestatic 120, 1, 0, 0) :: (.ifCond .eq 16, 0, 0, 0) :: (.aload 0, 0, 0, 0) :: (.getfield 8, 1, 0, 0) :: (.iload 1, 0, 0, 0) :: (.aaload, 0, 0, 0) :: (.goto 17, 0, 0, 0) :: kk_122_16
def kt_122 : qm_T := [(0, kk_122_0), (16, kk_122_16), (17, kk_122_17), (33, kk_122_33), (34, kk_122_34)]
theorem kc_122_34 : qm_chain 8 false (some (.object "TowerBoards$Board")) cX8_boardAt 34 kk_122_34 := qm_chain_of _ _ _ _ 1 _ 35 _ (by decide +kernel) trivial
theorem kc_122_33 : qm_chain 8 false (some (.object "TowerBoards$Board")) cX8_boardAt 33 kk_122_33 := qm_chain_of _ _ _ _ 1 _ 34 _ (by decide +kernel) kc_122_34
theorem kc_122_17 : qm_chain 8 false (some (.object "TowerBoards$Board")) cX8_boardAt 17 kk_122_17 := qm_chain_of _ _ _ _ 8 _ 33 _ (by decide +kernel) kc_122_33
theorem kc_122_16 : qm_chain 8 false (some (.object "TowerBoards$Board")) cX8_boardAt 16 kk_122_16 := qm_chain_of _ _ _ _ 1 _ 17 _ (by decide +kernel) kc_122_17
theorem kc_122_0 : qm_chain 8 false (some (.object "TowerBoards$Board")) cX8_boardAt 0 kk_122_0 := qm_chain_of _ _ _ _ 8 _ 16 _ (by decide +kernel) kc_122_16
theorem ka_122 : ∀ t : Int, 0 ≤ t → qm_chain 8 false (some (.object "TowerBoards$Board")) cX8_boardAt t.toNat (qm_lk kt_122 t) := qm_lk_ok (List.forall_mem_cons.mpr ⟨⟨by decide, kc_122_0⟩, List.forall_mem_cons.mpr ⟨⟨by decide, kc_122_16⟩, List.forall_mem_cons.mpr ⟨⟨by decide, kc_122_17⟩, List.forall_mem_cons.mpr ⟨⟨by decide, kc_122_33⟩, List.forall_mem_cons.mpr ⟨⟨by decide, kc_122_34⟩, fun _ h => absurd h List.not_mem_nil⟩⟩⟩⟩⟩)
theorem kg_122 : qm_G1 (yX8_boardAt, cX8_boardAt, 3, some (.object "TowerBoards$Board"), 8, 1) (3, kt_122) := ⟨rfl, false, (fun z => by cases z), ka_122⟩
-- 123: TowerBoards.refused
def kk_123_0 : List qm_I := (.aload 0, 0, 0, 0) :: (.iload 1, 0, 0, 0) :: (.putfield 8, 15, 0, 0) :: (.aload 0, 0, 0, 0) :: (.getfield 8, 2, 0, 0) :: (.iload 1, 0, 0, 0) :: (.dup2, 0, 0, 0) :: (.iaload, 0, 0, 0) :: (.iconst 0, 0, 0, 1) :: (.iadd, 0, 0, 0) :: (.iastore, 0, 0, 0) :: (.iconst 0, 0, 0, -3) :: (.ireturn, 0, 0, 0) :: []
def kt_123 : qm_T := [(0, kk_123_0)]
theorem kc_123_0 : qm_chain 8 false (some .int) cX8_refused 0 kk_123_0 := qm_chain_of _ _ _ _ 13 _ 18 _ (by decide +kernel) trivial
theorem ka_123 : ∀ t : Int, 0 ≤ t → qm_chain 8 false (some .int) cX8_refused t.toNat (qm_lk kt_123 t) := qm_lk_ok (List.forall_mem_cons.mpr ⟨⟨by decide, kc_123_0⟩, fun _ h => absurd h List.not_mem_nil⟩)
theorem kg_123 : qm_G1 (yX8_refused, cX8_refused, 2, some .int, 8, 1) (2, kt_123) := ⟨rfl, false, (fun z => by cases z), ka_123⟩
-- 124: TowerBoards.keepDraft
def kk_124_0 : List qm_I := (.aload 0, 0, 0, 0) :: (.getfield 8, 1, 0, 0) :: (.iload 1, 0, 0, 0) :: (.aaload, 0, 0, 0) :: (.aload 0, 0, 0, 0) :: (.getfield 8, 3, 0, 0) :: (.invokevirtual 11, 2, 1, 0) :: (.aload 0, 0, 0, 0) :: (.getfield 8, 3, 0, 0) :: (.invokevirtual 21, 1, 1, 0) :: (.ireturn, 0, 0, 0) :: []
def kt_124 : qm_T := [(0, kk_124_0)]
theorem kc_124_0 : qm_chain 8 false (some .int) cX8_keepDraft 0 kk_124_0 := qm_chain_of _ _ _ _ 11 _ 21 _ (by decide +kernel) trivial
theorem ka_124 : ∀ t : Int, 0 ≤ t → qm_chain 8 false (some .int) cX8_keepDraft t.toNat (qm_lk kt_124 t) := qm_lk_ok (List.forall_mem_cons.mpr ⟨⟨by decide, kc_124_0⟩, fun _ h => absurd h List.not_mem_nil⟩)
theorem kg_124 : qm_G1 (yX8_keepDraft, cX8_keepDraft, 2, some .int, 8, 1) (2, kt_124) := ⟨rfl, false, (fun z => by cases z), ka_124⟩
-- 125: TowerBoards.tellFraction
def kk_125_34 : List qm_I := (.aload 0, 0, 0, 0) :: (.iload 1, 0, 0, 0) :: (.iload 3, 0, 0, 0) :: (.idiv, 0, 0, 0) :: (.i2l, 0, 0, 0) :: (.putfield 8, 13, 1, 0) :: (.aload 0, 0, 0, 0) :: (.iload 2, 0, 0, 0) :: (.iload 3, 0, 0, 0) :: (.idiv, 0, 0, 0) :: (.i2l, 0, 0, 0) :: (.putfield 8, 14, 1, 0) :: (.return_, 0, 0, 0) :: []
def kk_125_28 : List qm_I := (.iinc 4 0, 0, 0, 1) :: (.goto 5, 0, 0, 0) :: kk_125_34
def kk_125_5 : List qm_I := (.iload 4, 0, 0, 0) :: (.iload 2, 0, 0, 0) :: (.if_icmp .gt 34, 0, 0, 0) :: (.iload 1, 0, 0, 0) :: (.iload 4, 0, 0, 0) :: (.irem, 0, 0, 0) :: (.ifCond .ne 28, 0, 0, 0) :: (.iload 2, 0, 0, 0) :: (.iload 4, 0, 0, 0) :: (.irem, 0, 0, 0) :: (.ifCond .ne 28, 0, 0, 0) :: (.iload 4, 0, 0, 0) :: (.istore 3, 0, 0, 0) :: kk_125_28
def kk_125_0 : List qm_I := (.iconst 0, 0, 0, 1) :: (.istore 3, 0, 0, 0) :: (.iconst 0, 0, 0, 2) :: (.istore 4, 0, 0, 0) :: kk_125_5
def kt_125 : qm_T := [(0, kk_125_0), (5, kk_125_5), (28, kk_125_28), (34, kk_125_34)]
theorem kc_125_34 : qm_chain 8 false (none) cX8_tellFraction 34 kk_125_34 := qm_chain_of _ _ _ _ 13 _ 51 _ (by decide +kernel) trivial
theorem kc_125_28 : qm_chain 8 false (none) cX8_tellFraction 28 kk_125_28 := qm_chain_of _ _ _ _ 2 _ 34 _ (by decide +kernel) kc_125_34
theorem kc_125_5 : qm_chain 8 false (none) cX8_tellFraction 5 kk_125_5 := qm_chain_of _ _ _ _ 13 _ 28 _ (by decide +kernel) kc_125_28
theorem kc_125_0 : qm_chain 8 false (none) cX8_tellFraction 0 kk_125_0 := qm_chain_of _ _ _ _ 4 _ 5 _ (by decide +kernel) kc_125_5
theorem ka_125 : ∀ t : Int, 0 ≤ t → qm_chain 8 false (none) cX8_tellFraction t.toNat (qm_lk kt_125 t) := qm_lk_ok (List.forall_mem_cons.mpr ⟨⟨by decide, kc_125_0⟩, List.forall_mem_cons.mpr ⟨⟨by decide, kc_125_5⟩, List.forall_mem_cons.mpr ⟨⟨by decide, kc_125_28⟩, List.forall_mem_cons.mpr ⟨⟨by decide, kc_125_34⟩, fun _ h => absurd h List.not_mem_nil⟩⟩⟩⟩)
theorem kg_125 : qm_G1 (yX8_tellFraction, cX8_tellFraction, 5, none, 8, 2) (5, kt_125) := ⟨rfl, false, (fun z => by cases z), ka_125⟩
-- 126: TowerBoards.lackOf
def kk_126_77 : List qm_I := (.aload 0, 0, 0, 0) :: (.getfield 8, 8, 0, 0) :: (.getfield 4, 2, 0, 0) :: (.aload 2, 0, 0, 0) :: (.iload 3, 0, 0, 0) :: (.aload 1, 0, 0, 0) :: (.getfield 1, 2, 0, 0) :: (.imul, 0, 0, 0) :: (.iload 4, 0, 0, 0) :: (.iadd, 0, 0, 0) :: (.invokevirtual 64, 2, 7, 0) :: (.iadd, 0, 0, 0) :: (.iload 6, 0, 0, 0) :: (.isub, 0, 0, 0) :: (.ireturn, 0, 0, 0) :: []
def kk_126_0 : List qm_I := (.aload 0, 0, 0, 0) :: (.getfield 8, 4, 0, 0) :: (.aload 1, 0, 0, 0) :: (.invokevirtual 43, 2, 5, 0) :: (.aload 0, 0, 0, 0) :: (.getfield 8, 4, 0, 0) :: (.invokevirtual 47, 1, 5, 0) :: (.istore 5, 0, 0, 0) :: (.aload 0, 0, 0, 0) :: (.getfield 8, 8, 0, 0) :: (.aload 1, 0, 0, 0) :: (.aload 2, 0, 0, 0) :: (.iload 5, 0, 0, 0) :: (.invokevirtual 38, 4, 4, 0) :: (.aload 0, 0, 0, 0) :: (.getfield 8, 8, 0, 0) :: (.getfield 4, 2, 0, 0) :: (.istore 6, 0, 0, 0) :: (.aload 0, 0, 0, 0) :: (.getfield 8, 3, 0, 0) :: (.aload 1, 0, 0, 0) :: (.iload 3, 0, 0, 0) :: (.iload 4, 0, 0, 0) :: (.invokevirtual 12, 4, 1, 0) :: (.aload 0, 0, 0, 0) :: (.getfield 8, 8, 0, 0) :: (.aload 0, 0, 0, 0) :: (.getfield 8, 3, 0, 0) :: (.aload 2, 0, 0, 0) :: (.iload 5, 0, 0, 0) :: (.iconst 0, 0, 0, 1) :: (.isub, 0, 0, 0) :: (.invokevirtual 38, 4, 4, 0) :: (.aload 0, 0, 0, 0) :: (.getfield 8, 8, 0, 0) :: (.getfield 4, 3, 0, 0) :: (.ifCond .ne 77, 0, 0, 0) :: (.iconst 0, 0, 0, -9) :: (.ireturn, 0, 0, 0) :: kk_126_77
def kt_126 : qm_T := [(0, kk_126_0), (77, kk_126_77)]
theorem kc_126_77 : qm_chain 8 false (some .int) cX8_lackOf 77 kk_126_77 := qm_chain_of _ _ _ _ 15 _ 102 _ (by decide +kernel) trivial
theorem kc_126_0 : qm_chain 8 false (some .int) cX8_lackOf 0 kk_126_0 := qm_chain_of _ _ _ _ 39 _ 77 _ (by decide +kernel) kc_126_77
theorem ka_126 : ∀ t : Int, 0 ≤ t → qm_chain 8 false (some .int) cX8_lackOf t.toNat (qm_lk kt_126 t) := qm_lk_ok (List.forall_mem_cons.mpr ⟨⟨by decide, kc_126_0⟩, List.forall_mem_cons.mpr ⟨⟨by decide, kc_126_77⟩, fun _ h => absurd h List.not_mem_nil⟩⟩)
theorem kg_126 : qm_G1 (yX8_lackOf, cX8_lackOf, 7, some .int, 8, 4) (7, kt_126) := ⟨rfl, false, (fun z => by cases z), ka_126⟩
-- 127: TowerBoards.rowCount
def kk_127_31 : List qm_I := (.iload 1, 0, 0, 0) :: (.ireturn, 0, 0, 0) :: []
def kk_127_25 : List qm_I := (.iinc 2 0, 0, 0, 1) :: (.goto 4, 0, 0, 0) :: kk_127_31
def kk_127_4 : List qm_I := (.iload 2, 0, 0, 0) :: (.iconst 0, 0, 0, 8) :: (.if_icmp .ge 31, 0, 0, 0) :: (.aload 0, 0, 0, 0) :: (.getfield 8, 0, 0, 0) :: (.iload 2, 0, 0, 0) :: (.aaload, 0, 0, 0) :: (.invokevirtual 60, 1, 7, 0) :: (.ifCond .eq 25, 0, 0, 0) :: (.iinc 1 0, 0, 0, 1) :: kk_127_25
def kk_127_0 : List qm_I := (.iconst 0, 0, 0, 0) :: (.istore 1, 0, 0, 0) :: (.iconst 0, 0, 0, 0) :: (.istore 2, 0, 0, 0) :: kk_127_4
def kt_127 : qm_T := [(0, kk_127_0), (4, kk_127_4), (25, kk_127_25), (31, kk_127_31)]
theorem kc_127_31 : qm_chain 8 false (some .int) cX8_rowCount 31 kk_127_31 := qm_chain_of _ _ _ _ 2 _ 33 _ (by decide +kernel) trivial
theorem kc_127_25 : qm_chain 8 false (some .int) cX8_rowCount 25 kk_127_25 := qm_chain_of _ _ _ _ 2 _ 31 _ (by decide +kernel) kc_127_31
theorem kc_127_4 : qm_chain 8 false (some .int) cX8_rowCount 4 kk_127_4 := qm_chain_of _ _ _ _ 10 _ 25 _ (by decide +kernel) kc_127_25
theorem kc_127_0 : qm_chain 8 false (some .int) cX8_rowCount 0 kk_127_0 := qm_chain_of _ _ _ _ 4 _ 4 _ (by decide +kernel) kc_127_4
theorem ka_127 : ∀ t : Int, 0 ≤ t → qm_chain 8 false (some .int) cX8_rowCount t.toNat (qm_lk kt_127 t) := qm_lk_ok (List.forall_mem_cons.mpr ⟨⟨by decide, kc_127_0⟩, List.forall_mem_cons.mpr ⟨⟨by decide, kc_127_4⟩, List.forall_mem_cons.mpr ⟨⟨by decide, kc_127_25⟩, List.forall_mem_cons.mpr ⟨⟨by decide, kc_127_31⟩, fun _ h => absurd h List.not_mem_nil⟩⟩⟩⟩)
theorem kg_127 : qm_G1 (yX8_rowCount, cX8_rowCount, 3, some .int, 8, 0) (3, kt_127) := ⟨rfl, false, (fun z => by cases z), ka_127⟩
-- 128: TowerBoards.boardCount
def kk_128_44 : List qm_I := (.iload 2, 0, 0, 0) :: (.ireturn, 0, 0, 0) :: []
def kk_128_38 : List qm_I := (.iinc 3 0, 0, 0, 1) :: (.goto 4, 0, 0, 0) :: kk_128_44
def kk_128_4 : List qm_I := (.iload 3, 0, 0, 0) :: (.iconst 0, 0, 0, 12) :: (.if_icmp .ge 44, 0, 0, 0) :: (.aload 0, 0, 0, 0) :: (.getfield 8, 1, 0, 0) :: (.iload 3, 0, 0, 0) :: (.aaload, 0, 0, 0) :: (.invokevirtual 9, 1, 1, 0) :: (.ifCond .eq 38, 0, 0, 0) :: (.aload 0, 0, 0, 0) :: (.getfield 8, 1, 0, 0) :: (.iload 3, 0, 0, 0) :: (.aaload, 0, 0, 0) :: (.iload 1, 0, 0, 0) :: (.invokevirtual 14, 2, 1, 0) :: (.ifCond .eq 38, 0, 0, 0) :: (.iinc 2 0, 0, 0, 1) :: kk_128_38
def kk_128_0 : List qm_I := (.iconst 0, 0, 0, 0) :: (.istore 2, 0, 0, 0) :: (.iconst 0, 0, 0, 0) :: (.istore 3, 0, 0, 0) :: kk_128_4
def kt_128 : qm_T := [(0, kk_128_0), (4, kk_128_4), (38, kk_128_38), (44, kk_128_44)]
theorem kc_128_44 : qm_chain 8 false (some .int) cX8_boardCount 44 kk_128_44 := qm_chain_of _ _ _ _ 2 _ 46 _ (by decide +kernel) trivial
theorem kc_128_38 : qm_chain 8 false (some .int) cX8_boardCount 38 kk_128_38 := qm_chain_of _ _ _ _ 2 _ 44 _ (by decide +kernel) kc_128_44
theorem kc_128_4 : qm_chain 8 false (some .int) cX8_boardCount 4 kk_128_4 := qm_chain_of _ _ _ _ 17 _ 38 _ (by decide +kernel) kc_128_38
theorem kc_128_0 : qm_chain 8 false (some .int) cX8_boardCount 0 kk_128_0 := qm_chain_of _ _ _ _ 4 _ 4 _ (by decide +kernel) kc_128_4
theorem ka_128 : ∀ t : Int, 0 ≤ t → qm_chain 8 false (some .int) cX8_boardCount t.toNat (qm_lk kt_128 t) := qm_lk_ok (List.forall_mem_cons.mpr ⟨⟨by decide, kc_128_0⟩, List.forall_mem_cons.mpr ⟨⟨by decide, kc_128_4⟩, List.forall_mem_cons.mpr ⟨⟨by decide, kc_128_38⟩, List.forall_mem_cons.mpr ⟨⟨by decide, kc_128_44⟩, fun _ h => absurd h List.not_mem_nil⟩⟩⟩⟩)
theorem kg_128 : qm_G1 (yX8_boardCount, cX8_boardCount, 4, some .int, 8, 1) (4, kt_128) := ⟨rfl, false, (fun z => by cases z), ka_128⟩
-- 129: TowerBoards.allCellCount
def kk_129_40 : List qm_I := (.iload 1, 0, 0, 0) :: (.ireturn, 0, 0, 0) :: []
def kk_129_34 : List qm_I := (.iinc 2 0, 0, 0, 1) :: (.goto 4, 0, 0, 0) :: kk_129_40
def kk_129_4 : List qm_I := (.iload 2, 0, 0, 0) :: (.iconst 0, 0, 0, 12) :: (.if_icmp .ge 40, 0, 0, 0) :: (.aload 0, 0, 0, 0) :: (.getfield 8, 1, 0, 0) :: (.iload 2, 0, 0, 0) :: (.aaload, 0, 0, 0) :: (.invokevirtual 9, 1, 1, 0) :: (.ifCond .eq 34, 0, 0, 0) :: (.iload 1, 0, 0, 0) :: (.aload 0, 0, 0, 0) :: (.getfield 8, 1, 0, 0) :: (.iload 2, 0, 0, 0) :: (.aaload, 0, 0, 0) :: (.invokevirtual 21, 1, 1, 0) :: (.iadd, 0, 0, 0) :: (.istore 1, 0, 0, 0) :: kk_129_34
def kk_129_0 : List qm_I := (.iconst 0, 0, 0, 0) :: (.istore 1, 0, 0, 0) :: (.iconst 0, 0, 0, 0) :: (.istore 2, 0, 0, 0) :: kk_129_4
def kt_129 : qm_T := [(0, kk_129_0), (4, kk_129_4), (34, kk_129_34), (40, kk_129_40)]
theorem kc_129_40 : qm_chain 8 false (some .int) cX8_allCellCount 40 kk_129_40 := qm_chain_of _ _ _ _ 2 _ 42 _ (by decide +kernel) trivial
theorem kc_129_34 : qm_chain 8 false (some .int) cX8_allCellCount 34 kk_129_34 := qm_chain_of _ _ _ _ 2 _ 40 _ (by decide +kernel) kc_129_40
theorem kc_129_4 : qm_chain 8 false (some .int) cX8_allCellCount 4 kk_129_4 := qm_chain_of _ _ _ _ 17 _ 34 _ (by decide +kernel) kc_129_34
theorem kc_129_0 : qm_chain 8 false (some .int) cX8_allCellCount 0 kk_129_0 := qm_chain_of _ _ _ _ 4 _ 4 _ (by decide +kernel) kc_129_4
theorem ka_129 : ∀ t : Int, 0 ≤ t → qm_chain 8 false (some .int) cX8_allCellCount t.toNat (qm_lk kt_129 t) := qm_lk_ok (List.forall_mem_cons.mpr ⟨⟨by decide, kc_129_0⟩, List.forall_mem_cons.mpr ⟨⟨by decide, kc_129_4⟩, List.forall_mem_cons.mpr ⟨⟨by decide, kc_129_34⟩, List.forall_mem_cons.mpr ⟨⟨by decide, kc_129_40⟩, fun _ h => absurd h List.not_mem_nil⟩⟩⟩⟩)
theorem kg_129 : qm_G1 (yX8_allCellCount, cX8_allCellCount, 3, some .int, 8, 0) (3, kt_129) := ⟨rfl, false, (fun z => by cases z), ka_129⟩
