-- 130: TowerBoardsModel.<init>
def kk_130_197 : List qm_I := (.return_, 0, 0, 0) :: []
def kk_130_178 : List qm_I := (.iload 1, 0, 0, 0) :: (.iconst 0, 0, 0, 8) :: (.if_icmp .ge 197, 0, 0, 0) :: (.aload 0, 0, 0, 0) :: (.getfield 9, 6, 0, 0) :: (.iload 1, 0, 0, 0) :: (.iconst 0, 0, 0, -1) :: (.iastore, 0, 0, 0) :: (.iinc 1 0, 0, 0, 1) :: (.goto 178, 0, 0, 0) :: kk_130_197
def kk_130_176 : List qm_I := (.iconst 0, 0, 0, 0) :: (.istore 1, 0, 0, 0) :: kk_130_178
def kk_130_157 : List qm_I := (.iload 1, 0, 0, 0) :: (.iconst 0, 0, 0, 12) :: (.if_icmp .ge 176, 0, 0, 0) :: (.aload 0, 0, 0, 0) :: (.getfield 9, 9, 0, 0) :: (.iload 1, 0, 0, 0) :: (.iconst 0, 0, 0, -1) :: (.iastore, 0, 0, 0) :: (.iinc 1 0, 0, 0, 1) :: (.goto 157, 0, 0, 0) :: kk_130_176
def kk_130_0 : List qm_I := (.aload 0, 0, 0, 0) :: (.invokespecial 0, 0, 0, 0) :: (.aload 0, 0, 0, 0) :: (.iconst 0, 0, 0, 6) :: (.newarray .int, 0, 0, 0) :: (.putfield 9, 1, 2, 0) :: (.aload 0, 0, 0, 0) :: (.iconst 0, 0, 0, 8) :: (.newarray .int, 0, 0, 0) :: (.putfield 9, 6, 2, 0) :: (.aload 0, 0, 0, 0) :: (.iconst 0, 0, 0, 288) :: (.newarray .int, 0, 0, 0) :: (.putfield 9, 7, 2, 0) :: (.aload 0, 0, 0, 0) :: (.iconst 0, 0, 0, 36) :: (.newarray .int, 0, 0, 0) :: (.putfield 9, 8, 2, 0) :: (.aload 0, 0, 0, 0) :: (.iconst 0, 0, 0, 12) :: (.newarray .int, 0, 0, 0) :: (.putfield 9, 9, 2, 0) :: (.aload 0, 0, 0, 0) :: (.iconst 0, 0, 0, 12) :: (.newarray .int, 0, 0, 0) :: (.putfield 9, 10, 2, 0) :: (.aload 0, 0, 0, 0) :: (.iconst 0, 0, 0, 12) :: (.newarray .int, 0, 0, 0) :: (.putfield 9, 11, 2, 0) :: (.aload 0, 0, 0, 0) :: (.iconst 0, 0, 0, 72) :: (.newarray .int, 0, 0, 0) :: (.putfield 9, 12, 2, 0) :: (.aload 0, 0, 0, 0) :: (.iconst 0, 0, 0, 12) :: (.newarray .int, 0, 0, 0) :: (.putfield 9, 13, 2, 0) :: (.aload 0, 0, 0, 0) :: (.iconst 0, 0, 0, 6) :: (.newarray .int, 0, 0, 0) :: (.putfield 9, 14, 2, 0) :: (.aload 0, 0, 0, 0) :: (.iconst 0, 0, 0, 64) :: (.newarray .long, 0, 0, 0) :: (.putfield 9, 15, 2, 0) :: (.aload 0, 0, 0, 0) :: (.iconst 0, 0, 0, 7) :: (.newarray .long, 0, 0, 0) :: (.putfield 9, 16, 2, 0) :: (.aload 0, 0, 0, 0) :: (.iconst 0, 0, 0, 7) :: (.newarray .long, 0, 0, 0) :: (.putfield 9, 17, 2, 0) :: (.aload 0, 0, 0, 0) :: (.iconst 0, 0, 0, 6) :: (.newarray .int, 0, 0, 0) :: (.putfield 9, 18, 2, 0) :: (.aload 0, 0, 0, 0) :: (.iconst 0, 0, 0, 6) :: (.newarray .int, 0, 0, 0) :: (.putfield 9, 19, 2, 0) :: (.aload 0, 0, 0, 0) :: (.iconst 0, 0, 0, 6) :: (.newarray .int, 0, 0, 0) :: (.putfield 9, 20, 2, 0) :: (.aload 0, 0, 0, 0) :: (.iconst 0, 0, 0, 6) :: (.newarray .int, 0, 0, 0) :: (.putfield 9, 22, 2, 0) :: (.aload 0, 0, 0, 0) :: (.iconst 0, 0, 0, 2048) :: (.newarray .long, 0, 0, 0) :: (.putfield 9, 33, 2, 0) :: (.aload 0, 0, 0, 0) :: (.lconst 0, 0, 0, 1) :: (.putfield 9, 5, 1, 0) :: (.iconst 0, 0, 0, 0) :: (.istore 1, 0, 0, 0) :: kk_130_157
def kt_130 : qm_T := [(0, kk_130_0), (157, kk_130_157), (176, kk_130_176), (178, kk_130_178), (197, kk_130_197)]
theorem kc_130_197 : qm_chain 9 true (none) cX9_init 197 kk_130_197 := qm_chain_of _ _ _ _ 1 _ 198 _ (by decide +kernel) trivial
theorem kc_130_178 : qm_chain 9 true (none) cX9_init 178 kk_130_178 := qm_chain_of _ _ _ _ 10 _ 197 _ (by decide +kernel) kc_130_197
theorem kc_130_176 : qm_chain 9 true (none) cX9_init 176 kk_130_176 := qm_chain_of _ _ _ _ 2 _ 178 _ (by decide +kernel) kc_130_178
theorem kc_130_157 : qm_chain 9 true (none) cX9_init 157 kk_130_157 := qm_chain_of _ _ _ _ 10 _ 176 _ (by decide +kernel) kc_130_176
theorem kc_130_0 : qm_chain 9 true (none) cX9_init 0 kk_130_0 := qm_chain_of _ _ _ _ 79 _ 157 _ (by decide +kernel) kc_130_157
theorem ka_130 : ∀ t : Int, 0 ≤ t → qm_chain 9 true (none) cX9_init t.toNat (qm_lk kt_130 t) := qm_lk_ok (List.forall_mem_cons.mpr ⟨⟨by decide, kc_130_0⟩, List.forall_mem_cons.mpr ⟨⟨by decide, kc_130_157⟩, List.forall_mem_cons.mpr ⟨⟨by decide, kc_130_176⟩, List.forall_mem_cons.mpr ⟨⟨by decide, kc_130_178⟩, List.forall_mem_cons.mpr ⟨⟨by decide, kc_130_197⟩, fun _ h => absurd h List.not_mem_nil⟩⟩⟩⟩⟩)
theorem kg_130 : qm_G1 (yX9_init, cX9_init, 2, none, 9, 0) (2, kt_130) := ⟨rfl, true, (fun _ => rfl), ka_130⟩
-- 131: TowerBoardsModel.in
def kk_131_15 : List qm_I := (.ireturn, 1, 0, 0) :: []
def kk_131_14 : List qm_I := (.iconst 0, 0, 0, 0) :: kk_131_15
def kk_131_0 : List qm_I := (.iload 0, 0, 0, 0) :: (.iload 1, 0, 0, 0) :: (.if_icmp .lt 14, 0, 0, 0) :: (.iload 0, 0, 0, 0) :: (.iload 2, 0, 0, 0) :: (.if_icmp .gt 14, 0, 0, 0) :: (.iconst 0, 0, 0, 1) :: (.goto 15, 0, 0, 0) :: kk_131_14
def kt_131 : qm_T := [(0, kk_131_0), (14, kk_131_14), (15, kk_131_15)]
theorem kc_131_15 : qm_chain 9 false (some .boolean) cX9_in 15 kk_131_15 := qm_chain_of _ _ _ _ 1 _ 16 _ (by decide +kernel) trivial
theorem kc_131_14 : qm_chain 9 false (some .boolean) cX9_in 14 kk_131_14 := qm_chain_of _ _ _ _ 1 _ 15 _ (by decide +kernel) kc_131_15
theorem kc_131_0 : qm_chain 9 false (some .boolean) cX9_in 0 kk_131_0 := qm_chain_of _ _ _ _ 8 _ 14 _ (by decide +kernel) kc_131_14
theorem ka_131 : ∀ t : Int, 0 ≤ t → qm_chain 9 false (some .boolean) cX9_in t.toNat (qm_lk kt_131 t) := qm_lk_ok (List.forall_mem_cons.mpr ⟨⟨by decide, kc_131_0⟩, List.forall_mem_cons.mpr ⟨⟨by decide, kc_131_14⟩, List.forall_mem_cons.mpr ⟨⟨by decide, kc_131_15⟩, fun _ h => absurd h List.not_mem_nil⟩⟩⟩)
theorem kg_131 : qm_G1 (yX9_in, cX9_in, 3, some .boolean, 9, 3) (3, kt_131) := ⟨rfl, false, (fun z => by cases z), ka_131⟩
-- 132: TowerBoardsModel.has
def kk_132_14 : List qm_I := (.ireturn, 1, 0, 0) :: []
def kk_132_13 : List qm_I := (.iconst 0, 0, 0, 0) :: kk_132_14
def kk_132_0 : List qm_I := (.iload 0, 0, 0, 0) :: (.iload 1, 0, 0, 0) :: (.ishr, 0, 0, 0) :: (.iconst 0, 0, 0, 1) :: (.iand, 0, 0, 0) :: (.iconst 0, 0, 0, 1) :: (.if_icmp .ne 13, 0, 0, 0) :: (.iconst 0, 0, 0, 1) :: (.goto 14, 0, 0, 0) :: kk_132_13
def kt_132 : qm_T := [(0, kk_132_0), (13, kk_132_13), (14, kk_132_14)]
theorem kc_132_14 : qm_chain 9 false (some .boolean) cX9_has 14 kk_132_14 := qm_chain_of _ _ _ _ 1 _ 15 _ (by decide +kernel) trivial
theorem kc_132_13 : qm_chain 9 false (some .boolean) cX9_has 13 kk_132_13 := qm_chain_of _ _ _ _ 1 _ 14 _ (by decide +kernel) kc_132_14
theorem kc_132_0 : qm_chain 9 false (some .boolean) cX9_has 0 kk_132_0 := qm_chain_of _ _ _ _ 9 _ 13 _ (by decide +kernel) kc_132_13
theorem ka_132 : ∀ t : Int, 0 ≤ t → qm_chain 9 false (some .boolean) cX9_has t.toNat (qm_lk kt_132 t) := qm_lk_ok (List.forall_mem_cons.mpr ⟨⟨by decide, kc_132_0⟩, List.forall_mem_cons.mpr ⟨⟨by decide, kc_132_13⟩, List.forall_mem_cons.mpr ⟨⟨by decide, kc_132_14⟩, fun _ h => absurd h List.not_mem_nil⟩⟩⟩)
theorem kg_132 : qm_G1 (yX9_has, cX9_has, 2, some .boolean, 9, 2) (2, kt_132) := ⟨rfl, false, (fun z => by cases z), ka_132⟩
-- 133: TowerBoardsModel.bitsOf
def kk_133_24 : List qm_I := (.iload 1, 0, 0, 0) :: (.ireturn, 0, 0, 0) :: []
def kk_133_4 : List qm_I := (.iload 2, 0, 0, 0) :: (.iconst 0, 0, 0, 12) :: (.if_icmp .ge 24, 0, 0, 0) :: (.iload 1, 0, 0, 0) :: (.iload 0, 0, 0, 0) :: (.iload 2, 0, 0, 0) :: (.ishr, 0, 0, 0) :: (.iconst 0, 0, 0, 1) :: (.iand, 0, 0, 0) :: (.iadd, 0, 0, 0) :: (.istore 1, 0, 0, 0) :: (.iinc 2 0, 0, 0, 1) :: (.goto 4, 0, 0, 0) :: kk_133_24
def kk_133_0 : List qm_I := (.iconst 0, 0, 0, 0) :: (.istore 1, 0, 0, 0) :: (.iconst 0, 0, 0, 0) :: (.istore 2, 0, 0, 0) :: kk_133_4
def kt_133 : qm_T := [(0, kk_133_0), (4, kk_133_4), (24, kk_133_24)]
theorem kc_133_24 : qm_chain 9 false (some .int) cX9_bitsOf 24 kk_133_24 := qm_chain_of _ _ _ _ 2 _ 26 _ (by decide +kernel) trivial
theorem kc_133_4 : qm_chain 9 false (some .int) cX9_bitsOf 4 kk_133_4 := qm_chain_of _ _ _ _ 13 _ 24 _ (by decide +kernel) kc_133_24
theorem kc_133_0 : qm_chain 9 false (some .int) cX9_bitsOf 0 kk_133_0 := qm_chain_of _ _ _ _ 4 _ 4 _ (by decide +kernel) kc_133_4
theorem ka_133 : ∀ t : Int, 0 ≤ t → qm_chain 9 false (some .int) cX9_bitsOf t.toNat (qm_lk kt_133 t) := qm_lk_ok (List.forall_mem_cons.mpr ⟨⟨by decide, kc_133_0⟩, List.forall_mem_cons.mpr ⟨⟨by decide, kc_133_4⟩, List.forall_mem_cons.mpr ⟨⟨by decide, kc_133_24⟩, fun _ h => absurd h List.not_mem_nil⟩⟩⟩)
theorem kg_133 : qm_G1 (yX9_bitsOf, cX9_bitsOf, 3, some .int, 9, 1) (3, kt_133) := ⟨rfl, false, (fun z => by cases z), ka_133⟩
-- 134: TowerBoardsModel.meets
def kk_134_0 : List qm_I := (.aload 0, 0, 0, 0) :: (.iload 1, 0, 0, 0) :: (.putfield 9, 0, 0, 0) :: (.aload 0, 0, 0, 0) :: (.getfield 9, 1, 0, 0) :: (.iload 1, 0, 0, 0) :: (.dup2, 0, 0, 0) :: (.iaload, 0, 0, 0) :: (.iconst 0, 0, 0, 1) :: (.iadd, 0, 0, 0) :: (.iastore, 0, 0, 0) :: (.iconst 0, 0, 0, -3) :: (.ireturn, 0, 0, 0) :: []
def kt_134 : qm_T := [(0, kk_134_0)]
theorem kc_134_0 : qm_chain 9 false (some .int) cX9_meets 0 kk_134_0 := qm_chain_of _ _ _ _ 13 _ 18 _ (by decide +kernel) trivial
theorem ka_134 : ∀ t : Int, 0 ≤ t → qm_chain 9 false (some .int) cX9_meets t.toNat (qm_lk kt_134 t) := qm_lk_ok (List.forall_mem_cons.mpr ⟨⟨by decide, kc_134_0⟩, fun _ h => absurd h List.not_mem_nil⟩)
theorem kg_134 : qm_G1 (yX9_meets, cX9_meets, 2, some .int, 9, 1) (2, kt_134) := ⟨rfl, false, (fun z => by cases z), ka_134⟩
-- 135: TowerBoardsModel.finding
def kk_135_0 : List qm_I := (.aload 0, 0, 0, 0) :: (.getfield 9, 0, 0, 0) :: (.ireturn, 0, 0, 0) :: []
def kt_135 : qm_T := [(0, kk_135_0)]
theorem kc_135_0 : qm_chain 9 false (some .int) cX9_finding 0 kk_135_0 := qm_chain_of _ _ _ _ 3 _ 5 _ (by decide +kernel) trivial
theorem ka_135 : ∀ t : Int, 0 ≤ t → qm_chain 9 false (some .int) cX9_finding t.toNat (qm_lk kt_135 t) := qm_lk_ok (List.forall_mem_cons.mpr ⟨⟨by decide, kc_135_0⟩, fun _ h => absurd h List.not_mem_nil⟩)
theorem kg_135 : qm_G1 (yX9_finding, cX9_finding, 1, some .int, 9, 0) (1, kt_135) := ⟨rfl, false, (fun z => by cases z), ka_135⟩
-- 136: TowerBoardsModel.findings
def kk_136_19 : List qm_I := (.ireturn, 0, 0, 0) :: []
def kk_136_18 : List qm_I := (.iconst 0, 0, 0, -1) :: kk_136_19
def kk_136_0 : List qm_I := (.iload 1, 0, 0, 0) :: (.iconst 0, 0, 0, 1) :: (.iconst 0, 0, 0, 5) :: (.invokestatic 131, 3, 0, 0) :: (.ifCond .eq 18, 0, 0, 0) :: (.aload 0, 0, 0, 0) :: (.getfield 9, 1, 0, 0) :: (.iload 1, 0, 0, 0) :: (.iaload, 0, 0, 0) :: (.goto 19, 0, 0, 0) :: kk_136_18
def kt_136 : qm_T := [(0, kk_136_0), (18, kk_136_18), (19, kk_136_19)]
theorem kc_136_19 : qm_chain 9 false (some .int) cX9_findings 19 kk_136_19 := qm_chain_of _ _ _ _ 1 _ 20 _ (by decide +kernel) trivial
theorem kc_136_18 : qm_chain 9 false (some .int) cX9_findings 18 kk_136_18 := qm_chain_of _ _ _ _ 1 _ 19 _ (by decide +kernel) kc_136_19
theorem kc_136_0 : qm_chain 9 false (some .int) cX9_findings 0 kk_136_0 := qm_chain_of _ _ _ _ 10 _ 18 _ (by decide +kernel) kc_136_18
theorem ka_136 : ∀ t : Int, 0 ≤ t → qm_chain 9 false (some .int) cX9_findings t.toNat (qm_lk kt_136 t) := qm_lk_ok (List.forall_mem_cons.mpr ⟨⟨by decide, kc_136_0⟩, List.forall_mem_cons.mpr ⟨⟨by decide, kc_136_18⟩, List.forall_mem_cons.mpr ⟨⟨by decide, kc_136_19⟩, fun _ h => absurd h List.not_mem_nil⟩⟩⟩)
theorem kg_136 : qm_G1 (yX9_findings, cX9_findings, 2, some .int, 9, 1) (2, kt_136) := ⟨rfl, false, (fun z => by cases z), ka_136⟩
-- 137: TowerBoardsModel.tells
def kk_137_0 : List qm_I := (.aload 0, 0, 0, 0) :: (.iload 1, 0, 0, 0) :: (.putfield 9, 2, 0, 0) :: (.iload 2, 0, 0, 0) :: (.ireturn, 0, 0, 0) :: []
def kt_137 : qm_T := [(0, kk_137_0)]
theorem kc_137_0 : qm_chain 9 false (some .int) cX9_tells 0 kk_137_0 := qm_chain_of _ _ _ _ 5 _ 7 _ (by decide +kernel) trivial
theorem ka_137 : ∀ t : Int, 0 ≤ t → qm_chain 9 false (some .int) cX9_tells t.toNat (qm_lk kt_137 t) := qm_lk_ok (List.forall_mem_cons.mpr ⟨⟨by decide, kc_137_0⟩, fun _ h => absurd h List.not_mem_nil⟩)
theorem kg_137 : qm_G1 (yX9_tells, cX9_tells, 3, some .int, 9, 2) (3, kt_137) := ⟨rfl, false, (fun z => by cases z), ka_137⟩
-- 138: TowerBoardsModel.tellsWays
def kk_138_0 : List qm_I := (.aload 0, 0, 0, 0) :: (.lload 1, 0, 0, 0) :: (.putfield 9, 3, 1, 0) :: (.iconst 0, 0, 0, 1) :: (.ireturn, 0, 0, 0) :: []
def kt_138 : qm_T := [(0, kk_138_0)]
theorem kc_138_0 : qm_chain 9 false (some .int) cX9_tellsWays 0 kk_138_0 := qm_chain_of _ _ _ _ 5 _ 7 _ (by decide +kernel) trivial
theorem ka_138 : ∀ t : Int, 0 ≤ t → qm_chain 9 false (some .int) cX9_tellsWays t.toNat (qm_lk kt_138 t) := qm_lk_ok (List.forall_mem_cons.mpr ⟨⟨by decide, kc_138_0⟩, fun _ h => absurd h List.not_mem_nil⟩)
theorem kg_138 : qm_G1 (yX9_tellsWays, cX9_tellsWays, 3, some .int, 9, 1) (3, kt_138) := ⟨rfl, false, (fun z => by cases z), ka_138⟩
-- 139: TowerBoardsModel.asked
def kk_139_0 : List qm_I := (.aload 0, 0, 0, 0) :: (.getfield 9, 2, 0, 0) :: (.ireturn, 0, 0, 0) :: []
def kt_139 : qm_T := [(0, kk_139_0)]
theorem kc_139_0 : qm_chain 9 false (some .int) cX9_asked 0 kk_139_0 := qm_chain_of _ _ _ _ 3 _ 5 _ (by decide +kernel) trivial
theorem ka_139 : ∀ t : Int, 0 ≤ t → qm_chain 9 false (some .int) cX9_asked t.toNat (qm_lk kt_139 t) := qm_lk_ok (List.forall_mem_cons.mpr ⟨⟨by decide, kc_139_0⟩, fun _ h => absurd h List.not_mem_nil⟩)
theorem kg_139 : qm_G1 (yX9_asked, cX9_asked, 1, some .int, 9, 0) (1, kt_139) := ⟨rfl, false, (fun z => by cases z), ka_139⟩
-- 140: TowerBoardsModel.ways
def kk_140_0 : List qm_I := (.aload 0, 0, 0, 0) :: (.getfield 9, 3, 0, 0) :: (.lreturn, 0, 0, 0) :: []
def kt_140 : qm_T := [(0, kk_140_0)]
theorem kc_140_0 : qm_chain 9 false (some .long) cX9_ways 0 kk_140_0 := qm_chain_of _ _ _ _ 3 _ 5 _ (by decide +kernel) trivial
theorem ka_140 : ∀ t : Int, 0 ≤ t → qm_chain 9 false (some .long) cX9_ways t.toNat (qm_lk kt_140 t) := qm_lk_ok (List.forall_mem_cons.mpr ⟨⟨by decide, kc_140_0⟩, fun _ h => absurd h List.not_mem_nil⟩)
theorem kg_140 : qm_G1 (yX9_ways, cX9_ways, 1, some .long, 9, 0) (1, kt_140) := ⟨rfl, false, (fun z => by cases z), ka_140⟩
-- 141: TowerBoardsModel.upper
def kk_141_0 : List qm_I := (.aload 0, 0, 0, 0) :: (.getfield 9, 4, 0, 0) :: (.lreturn, 0, 0, 0) :: []
def kt_141 : qm_T := [(0, kk_141_0)]
theorem kc_141_0 : qm_chain 9 false (some .long) cX9_upper 0 kk_141_0 := qm_chain_of _ _ _ _ 3 _ 5 _ (by decide +kernel) trivial
theorem ka_141 : ∀ t : Int, 0 ≤ t → qm_chain 9 false (some .long) cX9_upper t.toNat (qm_lk kt_141 t) := qm_lk_ok (List.forall_mem_cons.mpr ⟨⟨by decide, kc_141_0⟩, fun _ h => absurd h List.not_mem_nil⟩)
theorem kg_141 : qm_G1 (yX9_upper, cX9_upper, 1, some .long, 9, 0) (1, kt_141) := ⟨rfl, false, (fun z => by cases z), ka_141⟩
-- 142: TowerBoardsModel.lower
def kk_142_0 : List qm_I := (.aload 0, 0, 0, 0) :: (.getfield 9, 5, 0, 0) :: (.lreturn, 0, 0, 0) :: []
def kt_142 : qm_T := [(0, kk_142_0)]
theorem kc_142_0 : qm_chain 9 false (some .long) cX9_lower 0 kk_142_0 := qm_chain_of _ _ _ _ 3 _ 5 _ (by decide +kernel) trivial
theorem ka_142 : ∀ t : Int, 0 ≤ t → qm_chain 9 false (some .long) cX9_lower t.toNat (qm_lk kt_142 t) := qm_lk_ok (List.forall_mem_cons.mpr ⟨⟨by decide, kc_142_0⟩, fun _ h => absurd h List.not_mem_nil⟩)
theorem kg_142 : qm_G1 (yX9_lower, cX9_lower, 1, some .long, 9, 0) (1, kt_142) := ⟨rfl, false, (fun z => by cases z), ka_142⟩
-- 143: TowerBoardsModel.isRow
def kk_143_0 : List qm_I := (.iload 0, 0, 0, 0) :: (.iconst 0, 0, 0, 0) :: (.iconst 0, 0, 0, 7) :: (.invokestatic 131, 3, 0, 0) :: (.ireturn, 1, 0, 0) :: []
def kt_143 : qm_T := [(0, kk_143_0)]
theorem kc_143_0 : qm_chain 9 false (some .boolean) cX9_isRow 0 kk_143_0 := qm_chain_of _ _ _ _ 5 _ 8 _ (by decide +kernel) trivial
theorem ka_143 : ∀ t : Int, 0 ≤ t → qm_chain 9 false (some .boolean) cX9_isRow t.toNat (qm_lk kt_143 t) := qm_lk_ok (List.forall_mem_cons.mpr ⟨⟨by decide, kc_143_0⟩, fun _ h => absurd h List.not_mem_nil⟩)
theorem kg_143 : qm_G1 (yX9_isRow, cX9_isRow, 1, some .boolean, 9, 1) (1, kt_143) := ⟨rfl, false, (fun z => by cases z), ka_143⟩
-- 144: TowerBoardsModel.rowAt
def kk_144_0 : List qm_I := (.aload 0, 0, 0, 0) :: (.getfield 9, 7, 0, 0) :: (.iconst 0, 0, 0, 36) :: (.iload 1, 0, 0, 0) :: (.imul, 0, 0, 0) :: (.iload 2, 0, 0, 0) :: (.iadd, 0, 0, 0) :: (.iaload, 0, 0, 0) :: (.ireturn, 0, 0, 0) :: []
def kt_144 : qm_T := [(0, kk_144_0)]
theorem kc_144_0 : qm_chain 9 false (some .int) cX9_rowAt 0 kk_144_0 := qm_chain_of _ _ _ _ 9 _ 12 _ (by decide +kernel) trivial
theorem ka_144 : ∀ t : Int, 0 ≤ t → qm_chain 9 false (some .int) cX9_rowAt t.toNat (qm_lk kt_144 t) := qm_lk_ok (List.forall_mem_cons.mpr ⟨⟨by decide, kc_144_0⟩, fun _ h => absurd h List.not_mem_nil⟩)
theorem kg_144 : qm_G1 (yX9_rowAt, cX9_rowAt, 3, some .int, 9, 2) (3, kt_144) := ⟨rfl, false, (fun z => by cases z), ka_144⟩
-- 145: TowerBoardsModel.begin
def kk_145_33 : List qm_I := (.return_, 0, 0, 0) :: []
def kk_145_9 : List qm_I := (.iload 3, 0, 0, 0) :: (.iconst 0, 0, 0, 36) :: (.if_icmp .ge 33, 0, 0, 0) :: (.aload 0, 0, 0, 0) :: (.getfield 9, 7, 0, 0) :: (.iconst 0, 0, 0, 36) :: (.iload 1, 0, 0, 0) :: (.imul, 0, 0, 0) :: (.iload 3, 0, 0, 0) :: (.iadd, 0, 0, 0) :: (.iconst 0, 0, 0, 0) :: (.iastore, 0, 0, 0) :: (.iinc 3 0, 0, 0, 1) :: (.goto 9, 0, 0, 0) :: kk_145_33
def kk_145_0 : List qm_I := (.aload 0, 0, 0, 0) :: (.getfield 9, 6, 0, 0) :: (.iload 1, 0, 0, 0) :: (.iload 2, 0, 0, 0) :: (.iastore, 0, 0, 0) :: (.iconst 0, 0, 0, 0) :: (.istore 3, 0, 0, 0) :: kk_145_9
def kt_145 : qm_T := [(0, kk_145_0), (9, kk_145_9), (33, kk_145_33)]
theorem kc_145_33 : qm_chain 9 false (none) cX9_begin 33 kk_145_33 := qm_chain_of _ _ _ _ 1 _ 34 _ (by decide +kernel) trivial
theorem kc_145_9 : qm_chain 9 false (none) cX9_begin 9 kk_145_9 := qm_chain_of _ _ _ _ 14 _ 33 _ (by decide +kernel) kc_145_33
theorem kc_145_0 : qm_chain 9 false (none) cX9_begin 0 kk_145_0 := qm_chain_of _ _ _ _ 7 _ 9 _ (by decide +kernel) kc_145_9
theorem ka_145 : ∀ t : Int, 0 ≤ t → qm_chain 9 false (none) cX9_begin t.toNat (qm_lk kt_145 t) := qm_lk_ok (List.forall_mem_cons.mpr ⟨⟨by decide, kc_145_0⟩, List.forall_mem_cons.mpr ⟨⟨by decide, kc_145_9⟩, List.forall_mem_cons.mpr ⟨⟨by decide, kc_145_33⟩, fun _ h => absurd h List.not_mem_nil⟩⟩⟩)
theorem kg_145 : qm_G1 (yX9_begin, cX9_begin, 4, none, 9, 2) (4, kt_145) := ⟨rfl, false, (fun z => by cases z), ka_145⟩
-- 146: TowerBoardsModel.row
def kk_146_25 : List qm_I := (.aload 0, 0, 0, 0) :: (.iload 1, 0, 0, 0) :: (.iload 2, 0, 0, 0) :: (.invokevirtual 145, 3, 9, 0) :: (.iload 2, 0, 0, 0) :: (.ireturn, 0, 0, 0) :: []
def kk_146_15 : List qm_I := (.iload 2, 0, 0, 0) :: (.ifCond .ge 25, 0, 0, 0) :: (.aload 0, 0, 0, 0) :: (.iconst 0, 0, 0, 5) :: (.invokevirtual 134, 2, 9, 0) :: (.ireturn, 0, 0, 0) :: kk_146_25
def kk_146_13 : List qm_I := (.iconst 0, 0, 0, -1) :: (.ireturn, 0, 0, 0) :: kk_146_15
def kk_146_0 : List qm_I := (.iload 1, 0, 0, 0) :: (.invokestatic 143, 1, 0, 0) :: (.ifCond .eq 13, 0, 0, 0) :: (.iload 2, 0, 0, 0) :: (.iconst 0, 0, 0, 36) :: (.if_icmp .le 15, 0, 0, 0) :: kk_146_13
def kt_146 : qm_T := [(0, kk_146_0), (13, kk_146_13), (15, kk_146_15), (25, kk_146_25)]
theorem kc_146_25 : qm_chain 9 false (some .int) cX9_row 25 kk_146_25 := qm_chain_of _ _ _ _ 6 _ 33 _ (by decide +kernel) trivial
theorem kc_146_15 : qm_chain 9 false (some .int) cX9_row 15 kk_146_15 := qm_chain_of _ _ _ _ 6 _ 25 _ (by decide +kernel) kc_146_25
theorem kc_146_13 : qm_chain 9 false (some .int) cX9_row 13 kk_146_13 := qm_chain_of _ _ _ _ 2 _ 15 _ (by decide +kernel) kc_146_15
theorem kc_146_0 : qm_chain 9 false (some .int) cX9_row 0 kk_146_0 := qm_chain_of _ _ _ _ 6 _ 13 _ (by decide +kernel) kc_146_13
theorem ka_146 : ∀ t : Int, 0 ≤ t → qm_chain 9 false (some .int) cX9_row t.toNat (qm_lk kt_146 t) := qm_lk_ok (List.forall_mem_cons.mpr ⟨⟨by decide, kc_146_0⟩, List.forall_mem_cons.mpr ⟨⟨by decide, kc_146_13⟩, List.forall_mem_cons.mpr ⟨⟨by decide, kc_146_15⟩, List.forall_mem_cons.mpr ⟨⟨by decide, kc_146_25⟩, fun _ h => absurd h List.not_mem_nil⟩⟩⟩⟩)
theorem kg_146 : qm_G1 (yX9_row, cX9_row, 3, some .int, 9, 2) (3, kt_146) := ⟨rfl, false, (fun z => by cases z), ka_146⟩
-- 147: TowerBoardsModel.lay
def kk_147_46 : List qm_I := (.aload 0, 0, 0, 0) :: (.iload 1, 0, 0, 0) :: (.iload 2, 0, 0, 0) :: (.invokevirtual 144, 3, 9, 0) :: (.istore 4, 0, 0, 0) :: (.aload 0, 0, 0, 0) :: (.getfield 9, 7, 0, 0) :: (.iconst 0, 0, 0, 36) :: (.iload 1, 0, 0, 0) :: (.imul, 0, 0, 0) :: (.iload 2, 0, 0, 0) :: (.iadd, 0, 0, 0) :: (.iload 3, 0, 0, 0) :: (.iastore, 0, 0, 0) :: (.aload 0, 0, 0, 0) :: (.iload 4, 0, 0, 0) :: (.iconst 0, 0, 0, 1) :: (.invokevirtual 137, 3, 9, 0) :: (.ireturn, 0, 0, 0) :: []
def kk_147_24 : List qm_I := (.iload 2, 0, 0, 0) :: (.iconst 0, 0, 0, 0) :: (.aload 0, 0, 0, 0) :: (.getfield 9, 6, 0, 0) :: (.iload 1, 0, 0, 0) :: (.iaload, 0, 0, 0) :: (.iconst 0, 0, 0, 1) :: (.isub, 0, 0, 0) :: (.invokestatic 131, 3, 0, 0) :: (.ifCond .ne 46, 0, 0, 0) :: (.aload 0, 0, 0, 0) :: (.iconst 0, 0, 0, 2) :: (.invokevirtual 134, 2, 9, 0) :: (.ireturn, 0, 0, 0) :: kk_147_46
def kk_147_9 : List qm_I := (.aload 0, 0, 0, 0) :: (.getfield 9, 6, 0, 0) :: (.iload 1, 0, 0, 0) :: (.iaload, 0, 0, 0) :: (.ifCond .ge 24, 0, 0, 0) :: (.aload 0, 0, 0, 0) :: (.iconst 0, 0, 0, 1) :: (.invokevirtual 134, 2, 9, 0) :: (.ireturn, 0, 0, 0) :: kk_147_24
def kk_147_0 : List qm_I := (.iload 1, 0, 0, 0) :: (.invokestatic 143, 1, 0, 0) :: (.ifCond .ne 9, 0, 0, 0) :: (.iconst 0, 0, 0, -1) :: (.ireturn, 0, 0, 0) :: kk_147_9
def kt_147 : qm_T := [(0, kk_147_0), (9, kk_147_9), (24, kk_147_24), (46, kk_147_46)]
theorem kc_147_46 : qm_chain 9 false (some .int) cX9_lay 46 kk_147_46 := qm_chain_of _ _ _ _ 19 _ 74 _ (by decide +kernel) trivial
theorem kc_147_24 : qm_chain 9 false (some .int) cX9_lay 24 kk_147_24 := qm_chain_of _ _ _ _ 14 _ 46 _ (by decide +kernel) kc_147_46
theorem kc_147_9 : qm_chain 9 false (some .int) cX9_lay 9 kk_147_9 := qm_chain_of _ _ _ _ 9 _ 24 _ (by decide +kernel) kc_147_24
theorem kc_147_0 : qm_chain 9 false (some .int) cX9_lay 0 kk_147_0 := qm_chain_of _ _ _ _ 5 _ 9 _ (by decide +kernel) kc_147_9
theorem ka_147 : ∀ t : Int, 0 ≤ t → qm_chain 9 false (some .int) cX9_lay t.toNat (qm_lk kt_147 t) := qm_lk_ok (List.forall_mem_cons.mpr ⟨⟨by decide, kc_147_0⟩, List.forall_mem_cons.mpr ⟨⟨by decide, kc_147_9⟩, List.forall_mem_cons.mpr ⟨⟨by decide, kc_147_24⟩, List.forall_mem_cons.mpr ⟨⟨by decide, kc_147_46⟩, fun _ h => absurd h List.not_mem_nil⟩⟩⟩⟩)
theorem kg_147 : qm_G1 (yX9_lay, cX9_lay, 5, some .int, 9, 3) (5, kt_147) := ⟨rfl, false, (fun z => by cases z), ka_147⟩
-- 148: TowerBoardsModel.tear
def kk_148_24 : List qm_I := (.aload 0, 0, 0, 0) :: (.getfield 9, 6, 0, 0) :: (.iload 1, 0, 0, 0) :: (.iconst 0, 0, 0, -1) :: (.iastore, 0, 0, 0) :: (.iconst 0, 0, 0, 1) :: (.ireturn, 0, 0, 0) :: []
def kk_148_9 : List qm_I := (.aload 0, 0, 0, 0) :: (.getfield 9, 6, 0, 0) :: (.iload 1, 0, 0, 0) :: (.iaload, 0, 0, 0) :: (.ifCond .ge 24, 0, 0, 0) :: (.aload 0, 0, 0, 0) :: (.iconst 0, 0, 0, 1) :: (.invokevirtual 134, 2, 9, 0) :: (.ireturn, 0, 0, 0) :: kk_148_24
def kk_148_0 : List qm_I := (.iload 1, 0, 0, 0) :: (.invokestatic 143, 1, 0, 0) :: (.ifCond .ne 9, 0, 0, 0) :: (.iconst 0, 0, 0, -1) :: (.ireturn, 0, 0, 0) :: kk_148_9
def kt_148 : qm_T := [(0, kk_148_0), (9, kk_148_9), (24, kk_148_24)]
theorem kc_148_24 : qm_chain 9 false (some .int) cX9_tear 24 kk_148_24 := qm_chain_of _ _ _ _ 7 _ 33 _ (by decide +kernel) trivial
theorem kc_148_9 : qm_chain 9 false (some .int) cX9_tear 9 kk_148_9 := qm_chain_of _ _ _ _ 9 _ 24 _ (by decide +kernel) kc_148_24
theorem kc_148_0 : qm_chain 9 false (some .int) cX9_tear 0 kk_148_0 := qm_chain_of _ _ _ _ 5 _ 9 _ (by decide +kernel) kc_148_9
theorem ka_148 : ∀ t : Int, 0 ≤ t → qm_chain 9 false (some .int) cX9_tear t.toNat (qm_lk kt_148 t) := qm_lk_ok (List.forall_mem_cons.mpr ⟨⟨by decide, kc_148_0⟩, List.forall_mem_cons.mpr ⟨⟨by decide, kc_148_9⟩, List.forall_mem_cons.mpr ⟨⟨by decide, kc_148_24⟩, fun _ h => absurd h List.not_mem_nil⟩⟩⟩)
theorem kg_148 : qm_G1 (yX9_tear, cX9_tear, 2, some .int, 9, 1) (2, kt_148) := ⟨rfl, false, (fun z => by cases z), ka_148⟩
-- 149: TowerBoardsModel.copy
def kk_149_171 : List qm_I := (.iconst 0, 0, 0, 1) :: (.ireturn, 0, 0, 0) :: []
def kk_149_136 : List qm_I := (.iload 6, 0, 0, 0) :: (.iload 5, 0, 0, 0) :: (.if_icmp .ge 171, 0, 0, 0) :: (.aload 0, 0, 0, 0) :: (.getfield 9, 7, 0, 0) :: (.iconst 0, 0, 0, 36) :: (.iload 3, 0, 0, 0) :: (.imul, 0, 0, 0) :: (.iload 4, 0, 0, 0) :: (.iadd, 0, 0, 0) :: (.iload 6, 0, 0, 0) :: (.iadd, 0, 0, 0) :: (.aload 0, 0, 0, 0) :: (.getfield 9, 8, 0, 0) :: (.iload 6, 0, 0, 0) :: (.iaload, 0, 0, 0) :: (.iastore, 0, 0, 0) :: (.iinc 6 0, 0, 0, 1) :: (.goto 136, 0, 0, 0) :: kk_149_171
def kk_149_133 : List qm_I := (.iconst 0, 0, 0, 0) :: (.istore 6, 0, 0, 0) :: kk_149_136
def kk_149_104 : List qm_I := (.iload 6, 0, 0, 0) :: (.iload 5, 0, 0, 0) :: (.if_icmp .ge 133, 0, 0, 0) :: (.aload 0, 0, 0, 0) :: (.getfield 9, 8, 0, 0) :: (.iload 6, 0, 0, 0) :: (.aload 0, 0, 0, 0) :: (.iload 1, 0, 0, 0) :: (.iload 2, 0, 0, 0) :: (.iload 6, 0, 0, 0) :: (.iadd, 0, 0, 0) :: (.invokevirtual 144, 3, 9, 0) :: (.iastore, 0, 0, 0) :: (.iinc 6 0, 0, 0, 1) :: (.goto 104, 0, 0, 0) :: kk_149_133
def kk_149_101 : List qm_I := (.iconst 0, 0, 0, 0) :: (.istore 6, 0, 0, 0) :: kk_149_104
def kk_149_95 : List qm_I := (.aload 0, 0, 0, 0) :: (.iconst 0, 0, 0, 2) :: (.invokevirtual 134, 2, 9, 0) :: (.ireturn, 0, 0, 0) :: kk_149_101
def kk_149_51 : List qm_I := (.iload 2, 0, 0, 0) :: (.ifCond .lt 95, 0, 0, 0) :: (.iload 4, 0, 0, 0) :: (.ifCond .lt 95, 0, 0, 0) :: (.iload 2, 0, 0, 0) :: (.i2l, 0, 0, 0) :: (.iload 5, 0, 0, 0) :: (.i2l, 0, 0, 0) :: (.ladd, 0, 0, 0) :: (.aload 0, 0, 0, 0) :: (.getfield 9, 6, 0, 0) :: (.iload 1, 0, 0, 0) :: (.iaload, 0, 0, 0) :: (.i2l, 0, 0, 0) :: (.lcmp, 0, 0, 0) :: (.ifCond .gt 95, 0, 0, 0) :: (.iload 4, 0, 0, 0) :: (.i2l, 0, 0, 0) :: (.iload 5, 0, 0, 0) :: (.i2l, 0, 0, 0) :: (.ladd, 0, 0, 0) :: (.aload 0, 0, 0, 0) :: (.getfield 9, 6, 0, 0) :: (.iload 3, 0, 0, 0) :: (.iaload, 0, 0, 0) :: (.i2l, 0, 0, 0) :: (.lcmp, 0, 0, 0) :: (.ifCond .le 101, 0, 0, 0) :: kk_149_95
def kk_149_45 : List qm_I := (.aload 0, 0, 0, 0) :: (.iconst 0, 0, 0, 1) :: (.invokevirtual 134, 2, 9, 0) :: (.ireturn, 0, 0, 0) :: kk_149_51
def kk_149_27 : List qm_I := (.aload 0, 0, 0, 0) :: (.getfield 9, 6, 0, 0) :: (.iload 1, 0, 0, 0) :: (.iaload, 0, 0, 0) :: (.ifCond .lt 45, 0, 0, 0) :: (.aload 0, 0, 0, 0) :: (.getfield 9, 6, 0, 0) :: (.iload 3, 0, 0, 0) :: (.iaload, 0, 0, 0) :: (.ifCond .ge 51, 0, 0, 0) :: kk_149_45
def kk_149_16 : List qm_I := (.iload 5, 0, 0, 0) :: (.ifCond .ge 27, 0, 0, 0) :: (.aload 0, 0, 0, 0) :: (.iconst 0, 0, 0, 5) :: (.invokevirtual 134, 2, 9, 0) :: (.ireturn, 0, 0, 0) :: kk_149_27
def kk_149_14 : List qm_I := (.iconst 0, 0, 0, -1) :: (.ireturn, 0, 0, 0) :: kk_149_16
def kk_149_0 : List qm_I := (.iload 1, 0, 0, 0) :: (.invokestatic 143, 1, 0, 0) :: (.ifCond .eq 14, 0, 0, 0) :: (.iload 3, 0, 0, 0) :: (.invokestatic 143, 1, 0, 0) :: (.ifCond .ne 16, 0, 0, 0) :: kk_149_14
def kt_149 : qm_T := [(0, kk_149_0), (14, kk_149_14), (16, kk_149_16), (27, kk_149_27), (45, kk_149_45), (51, kk_149_51), (95, kk_149_95), (101, kk_149_101), (104, kk_149_104), (133, kk_149_133), (136, kk_149_136), (171, kk_149_171)]
theorem kc_149_171 : qm_chain 9 false (some .int) cX9_copy 171 kk_149_171 := qm_chain_of _ _ _ _ 2 _ 173 _ (by decide +kernel) trivial
theorem kc_149_136 : qm_chain 9 false (some .int) cX9_copy 136 kk_149_136 := qm_chain_of _ _ _ _ 19 _ 171 _ (by decide +kernel) kc_149_171
theorem kc_149_133 : qm_chain 9 false (some .int) cX9_copy 133 kk_149_133 := qm_chain_of _ _ _ _ 2 _ 136 _ (by decide +kernel) kc_149_136
theorem kc_149_104 : qm_chain 9 false (some .int) cX9_copy 104 kk_149_104 := qm_chain_of _ _ _ _ 15 _ 133 _ (by decide +kernel) kc_149_133
theorem kc_149_101 : qm_chain 9 false (some .int) cX9_copy 101 kk_149_101 := qm_chain_of _ _ _ _ 2 _ 104 _ (by decide +kernel) kc_149_104
theorem kc_149_95 : qm_chain 9 false (some .int) cX9_copy 95 kk_149_95 := qm_chain_of _ _ _ _ 4 _ 101 _ (by decide +kernel) kc_149_101
theorem kc_149_51 : qm_chain 9 false (some .int) cX9_copy 51 kk_149_51 := qm_chain_of _ _ _ _ 28 _ 95 _ (by decide +kernel) kc_149_95
theorem kc_149_45 : qm_chain 9 false (some .int) cX9_copy 45 kk_149_45 := qm_chain_of _ _ _ _ 4 _ 51 _ (by decide +kernel) kc_149_51
theorem kc_149_27 : qm_chain 9 false (some .int) cX9_copy 27 kk_149_27 := qm_chain_of _ _ _ _ 10 _ 45 _ (by decide +kernel) kc_149_45
theorem kc_149_16 : qm_chain 9 false (some .int) cX9_copy 16 kk_149_16 := qm_chain_of _ _ _ _ 6 _ 27 _ (by decide +kernel) kc_149_27
theorem kc_149_14 : qm_chain 9 false (some .int) cX9_copy 14 kk_149_14 := qm_chain_of _ _ _ _ 2 _ 16 _ (by decide +kernel) kc_149_16
theorem kc_149_0 : qm_chain 9 false (some .int) cX9_copy 0 kk_149_0 := qm_chain_of _ _ _ _ 6 _ 14 _ (by decide +kernel) kc_149_14
theorem ka_149 : ∀ t : Int, 0 ≤ t → qm_chain 9 false (some .int) cX9_copy t.toNat (qm_lk kt_149 t) := qm_lk_ok (List.forall_mem_cons.mpr ⟨⟨by decide, kc_149_0⟩, List.forall_mem_cons.mpr ⟨⟨by decide, kc_149_14⟩, List.forall_mem_cons.mpr ⟨⟨by decide, kc_149_16⟩, List.forall_mem_cons.mpr ⟨⟨by decide, kc_149_27⟩, List.forall_mem_cons.mpr ⟨⟨by decide, kc_149_45⟩, List.forall_mem_cons.mpr ⟨⟨by decide, kc_149_51⟩, List.forall_mem_cons.mpr ⟨⟨by decide, kc_149_95⟩, List.forall_mem_cons.mpr ⟨⟨by decide, kc_149_101⟩, List.forall_mem_cons.mpr ⟨⟨by decide, kc_149_104⟩, List.forall_mem_cons.mpr ⟨⟨by decide, kc_149_133⟩, List.forall_mem_cons.mpr ⟨⟨by decide, kc_149_136⟩, List.forall_mem_cons.mpr ⟨⟨by decide, kc_149_171⟩, fun _ h => absurd h List.not_mem_nil⟩⟩⟩⟩⟩⟩⟩⟩⟩⟩⟩⟩)
theorem kg_149 : qm_G1 (yX9_copy, cX9_copy, 7, some .int, 9, 5) (7, kt_149) := ⟨rfl, false, (fun z => by cases z), ka_149⟩
-- 150: TowerBoardsModel.mean
def kk_150_72 : List qm_I := (.aload 0, 0, 0, 0) :: (.lload 2, 0, 0, 0) :: (.aload 0, 0, 0, 0) :: (.getfield 9, 6, 0, 0) :: (.iload 1, 0, 0, 0) :: (.iaload, 0, 0, 0) :: (.i2l, 0, 0, 0) :: (.ldiv, 0, 0, 0) :: (.l2i, 0, 0, 0) :: (.iconst 0, 0, 0, 1) :: (.invokevirtual 137, 3, 9, 0) :: (.ireturn, 0, 0, 0) :: []
def kk_150_44 : List qm_I := (.iload 4, 0, 0, 0) :: (.aload 0, 0, 0, 0) :: (.getfield 9, 6, 0, 0) :: (.iload 1, 0, 0, 0) :: (.iaload, 0, 0, 0) :: (.if_icmp .ge 72, 0, 0, 0) :: (.lload 2, 0, 0, 0) :: (.aload 0, 0, 0, 0) :: (.iload 1, 0, 0, 0) :: (.iload 4, 0, 0, 0) :: (.invokevirtual 144, 3, 9, 0) :: (.i2l, 0, 0, 0) :: (.ladd, 0, 0, 0) :: (.lstore 2, 0, 0, 0) :: (.iinc 4 0, 0, 0, 1) :: (.goto 44, 0, 0, 0) :: kk_150_72
def kk_150_39 : List qm_I := (.lconst 0, 0, 0, 0) :: (.lstore 2, 0, 0, 0) :: (.iconst 0, 0, 0, 0) :: (.istore 4, 0, 0, 0) :: kk_150_44
def kk_150_24 : List qm_I := (.aload 0, 0, 0, 0) :: (.getfield 9, 6, 0, 0) :: (.iload 1, 0, 0, 0) :: (.iaload, 0, 0, 0) :: (.ifCond .ne 39, 0, 0, 0) :: (.aload 0, 0, 0, 0) :: (.iconst 0, 0, 0, 4) :: (.invokevirtual 134, 2, 9, 0) :: (.ireturn, 0, 0, 0) :: kk_150_39
def kk_150_9 : List qm_I := (.aload 0, 0, 0, 0) :: (.getfield 9, 6, 0, 0) :: (.iload 1, 0, 0, 0) :: (.iaload, 0, 0, 0) :: (.ifCond .ge 24, 0, 0, 0) :: (.aload 0, 0, 0, 0) :: (.iconst 0, 0, 0, 1) :: (.invokevirtual 134, 2, 9, 0) :: (.ireturn, 0, 0, 0) :: kk_150_24
def kk_150_0 : List qm_I := (.iload 1, 0, 0, 0) :: (.invokestatic 143, 1, 0, 0) :: (.ifCond .ne 9, 0, 0, 0) :: (.iconst 0, 0, 0, -1) :: (.ireturn, 0, 0, 0) :: kk_150_9
def kt_150 : qm_T := [(0, kk_150_0), (9, kk_150_9), (24, kk_150_24), (39, kk_150_39), (44, kk_150_44), (72, kk_150_72)]
theorem kc_150_72 : qm_chain 9 false (some .int) cX9_mean 72 kk_150_72 := qm_chain_of _ _ _ _ 12 _ 88 _ (by decide +kernel) trivial
theorem kc_150_44 : qm_chain 9 false (some .int) cX9_mean 44 kk_150_44 := qm_chain_of _ _ _ _ 16 _ 72 _ (by decide +kernel) kc_150_72
theorem kc_150_39 : qm_chain 9 false (some .int) cX9_mean 39 kk_150_39 := qm_chain_of _ _ _ _ 4 _ 44 _ (by decide +kernel) kc_150_44
theorem kc_150_24 : qm_chain 9 false (some .int) cX9_mean 24 kk_150_24 := qm_chain_of _ _ _ _ 9 _ 39 _ (by decide +kernel) kc_150_39
theorem kc_150_9 : qm_chain 9 false (some .int) cX9_mean 9 kk_150_9 := qm_chain_of _ _ _ _ 9 _ 24 _ (by decide +kernel) kc_150_24
theorem kc_150_0 : qm_chain 9 false (some .int) cX9_mean 0 kk_150_0 := qm_chain_of _ _ _ _ 5 _ 9 _ (by decide +kernel) kc_150_9
theorem ka_150 : ∀ t : Int, 0 ≤ t → qm_chain 9 false (some .int) cX9_mean t.toNat (qm_lk kt_150 t) := qm_lk_ok (List.forall_mem_cons.mpr ⟨⟨by decide, kc_150_0⟩, List.forall_mem_cons.mpr ⟨⟨by decide, kc_150_9⟩, List.forall_mem_cons.mpr ⟨⟨by decide, kc_150_24⟩, List.forall_mem_cons.mpr ⟨⟨by decide, kc_150_39⟩, List.forall_mem_cons.mpr ⟨⟨by decide, kc_150_44⟩, List.forall_mem_cons.mpr ⟨⟨by decide, kc_150_72⟩, fun _ h => absurd h List.not_mem_nil⟩⟩⟩⟩⟩⟩)
theorem kg_150 : qm_G1 (yX9_mean, cX9_mean, 5, some .int, 9, 1) (5, kt_150) := ⟨rfl, false, (fun z => by cases z), ka_150⟩
-- 151: TowerBoardsModel.isBoard
def kk_151_0 : List qm_I := (.iload 0, 0, 0, 0) :: (.iconst 0, 0, 0, 0) :: (.iconst 0, 0, 0, 11) :: (.invokestatic 131, 3, 0, 0) :: (.ireturn, 1, 0, 0) :: []
def kt_151 : qm_T := [(0, kk_151_0)]
theorem kc_151_0 : qm_chain 9 false (some .boolean) cX9_isBoard 0 kk_151_0 := qm_chain_of _ _ _ _ 5 _ 8 _ (by decide +kernel) trivial
theorem ka_151 : ∀ t : Int, 0 ≤ t → qm_chain 9 false (some .boolean) cX9_isBoard t.toNat (qm_lk kt_151 t) := qm_lk_ok (List.forall_mem_cons.mpr ⟨⟨by decide, kc_151_0⟩, fun _ h => absurd h List.not_mem_nil⟩)
theorem kg_151 : qm_G1 (yX9_isBoard, cX9_isBoard, 1, some .boolean, 9, 1) (1, kt_151) := ⟨rfl, false, (fun z => by cases z), ka_151⟩
-- 152: TowerBoardsModel.of
def kk_152_0 : List qm_I := (.aload 0, 0, 0, 0) :: (.getfield 9, 12, 0, 0) :: (.iconst 0, 0, 0, 6) :: (.iload 1, 0, 0, 0) :: (.imul, 0, 0, 0) :: (.iload 2, 0, 0, 0) :: (.iadd, 0, 0, 0) :: (.iaload, 0, 0, 0) :: (.ireturn, 0, 0, 0) :: []
def kt_152 : qm_T := [(0, kk_152_0)]
theorem kc_152_0 : qm_chain 9 false (some .int) cX9_of 0 kk_152_0 := qm_chain_of _ _ _ _ 9 _ 12 _ (by decide +kernel) trivial
theorem ka_152 : ∀ t : Int, 0 ≤ t → qm_chain 9 false (some .int) cX9_of t.toNat (qm_lk kt_152 t) := qm_lk_ok (List.forall_mem_cons.mpr ⟨⟨by decide, kc_152_0⟩, fun _ h => absurd h List.not_mem_nil⟩)
theorem kg_152 : qm_G1 (yX9_of, cX9_of, 3, some .int, 9, 2) (3, kt_152) := ⟨rfl, false, (fun z => by cases z), ka_152⟩
-- 153: TowerBoardsModel.manyOf
def kk_153_32 : List qm_I := (.iload 2, 0, 0, 0) :: (.ireturn, 0, 0, 0) :: []
def kk_153_4 : List qm_I := (.iload 3, 0, 0, 0) :: (.aload 0, 0, 0, 0) :: (.getfield 9, 10, 0, 0) :: (.iload 1, 0, 0, 0) :: (.iaload, 0, 0, 0) :: (.if_icmp .ge 32, 0, 0, 0) :: (.iload 2, 0, 0, 0) :: (.aload 0, 0, 0, 0) :: (.iload 1, 0, 0, 0) :: (.iload 3, 0, 0, 0) :: (.invokevirtual 152, 3, 9, 0) :: (.invokestatic 133, 1, 0, 0) :: (.iadd, 0, 0, 0) :: (.istore 2, 0, 0, 0) :: (.iinc 3 0, 0, 0, 1) :: (.goto 4, 0, 0, 0) :: kk_153_32
def kk_153_0 : List qm_I := (.iconst 0, 0, 0, 0) :: (.istore 2, 0, 0, 0) :: (.iconst 0, 0, 0, 0) :: (.istore 3, 0, 0, 0) :: kk_153_4
def kt_153 : qm_T := [(0, kk_153_0), (4, kk_153_4), (32, kk_153_32)]
theorem kc_153_32 : qm_chain 9 false (some .int) cX9_manyOf 32 kk_153_32 := qm_chain_of _ _ _ _ 2 _ 34 _ (by decide +kernel) trivial
theorem kc_153_4 : qm_chain 9 false (some .int) cX9_manyOf 4 kk_153_4 := qm_chain_of _ _ _ _ 16 _ 32 _ (by decide +kernel) kc_153_32
theorem kc_153_0 : qm_chain 9 false (some .int) cX9_manyOf 0 kk_153_0 := qm_chain_of _ _ _ _ 4 _ 4 _ (by decide +kernel) kc_153_4
theorem ka_153 : ∀ t : Int, 0 ≤ t → qm_chain 9 false (some .int) cX9_manyOf t.toNat (qm_lk kt_153 t) := qm_lk_ok (List.forall_mem_cons.mpr ⟨⟨by decide, kc_153_0⟩, List.forall_mem_cons.mpr ⟨⟨by decide, kc_153_4⟩, List.forall_mem_cons.mpr ⟨⟨by decide, kc_153_32⟩, fun _ h => absurd h List.not_mem_nil⟩⟩⟩)
theorem kg_153 : qm_G1 (yX9_manyOf, cX9_manyOf, 4, some .int, 9, 1) (4, kt_153) := ⟨rfl, false, (fun z => by cases z), ka_153⟩
-- 154: TowerBoardsModel.come
def kk_154_67 : List qm_I := (.aload 0, 0, 0, 0) :: (.iload 1, 0, 0, 0) :: (.invokevirtual 153, 2, 9, 0) :: (.ireturn, 0, 0, 0) :: []
def kk_154_60 : List qm_I := (.iastore, 0, 0, 0) :: (.iinc 5 0, 0, 0, 1) :: (.goto 25, 0, 0, 0) :: kk_154_67
def kk_154_59 : List qm_I := (.iconst 0, 0, 0, 0) :: kk_154_60
def kk_154_25 : List qm_I := (.iload 5, 0, 0, 0) :: (.iconst 0, 0, 0, 6) :: (.if_icmp .ge 67, 0, 0, 0) :: (.aload 0, 0, 0, 0) :: (.getfield 9, 12, 0, 0) :: (.iconst 0, 0, 0, 6) :: (.iload 1, 0, 0, 0) :: (.imul, 0, 0, 0) :: (.iload 5, 0, 0, 0) :: (.iadd, 0, 0, 0) :: (.iload 5, 0, 0, 0) :: (.iload 3, 0, 0, 0) :: (.if_icmp .ge 59, 0, 0, 0) :: (.aload 0, 0, 0, 0) :: (.getfield 9, 14, 0, 0) :: (.iload 5, 0, 0, 0) :: (.iaload, 0, 0, 0) :: (.goto 60, 0, 0, 0) :: kk_154_59
def kk_154_0 : List qm_I := (.aload 0, 0, 0, 0) :: (.getfield 9, 9, 0, 0) :: (.iload 1, 0, 0, 0) :: (.iload 2, 0, 0, 0) :: (.iastore, 0, 0, 0) :: (.aload 0, 0, 0, 0) :: (.getfield 9, 10, 0, 0) :: (.iload 1, 0, 0, 0) :: (.iload 3, 0, 0, 0) :: (.iastore, 0, 0, 0) :: (.aload 0, 0, 0, 0) :: (.getfield 9, 11, 0, 0) :: (.iload 1, 0, 0, 0) :: (.iload 4, 0, 0, 0) :: (.iastore, 0, 0, 0) :: (.iconst 0, 0, 0, 0) :: (.istore 5, 0, 0, 0) :: kk_154_25
def kt_154 : qm_T := [(0, kk_154_0), (25, kk_154_25), (59, kk_154_59), (60, kk_154_60), (67, kk_154_67)]
theorem kc_154_67 : qm_chain 9 false (some .int) cX9_come 67 kk_154_67 := qm_chain_of _ _ _ _ 4 _ 73 _ (by decide +kernel) trivial
theorem kc_154_60 : qm_chain 9 false (some .int) cX9_come 60 kk_154_60 := qm_chain_of _ _ _ _ 3 _ 67 _ (by decide +kernel) kc_154_67
theorem kc_154_59 : qm_chain 9 false (some .int) cX9_come 59 kk_154_59 := qm_chain_of _ _ _ _ 1 _ 60 _ (by decide +kernel) kc_154_60
theorem kc_154_25 : qm_chain 9 false (some .int) cX9_come 25 kk_154_25 := qm_chain_of _ _ _ _ 18 _ 59 _ (by decide +kernel) kc_154_59
theorem kc_154_0 : qm_chain 9 false (some .int) cX9_come 0 kk_154_0 := qm_chain_of _ _ _ _ 17 _ 25 _ (by decide +kernel) kc_154_25
theorem ka_154 : ∀ t : Int, 0 ≤ t → qm_chain 9 false (some .int) cX9_come t.toNat (qm_lk kt_154 t) := qm_lk_ok (List.forall_mem_cons.mpr ⟨⟨by decide, kc_154_0⟩, List.forall_mem_cons.mpr ⟨⟨by decide, kc_154_25⟩, List.forall_mem_cons.mpr ⟨⟨by decide, kc_154_59⟩, List.forall_mem_cons.mpr ⟨⟨by decide, kc_154_60⟩, List.forall_mem_cons.mpr ⟨⟨by decide, kc_154_67⟩, fun _ h => absurd h List.not_mem_nil⟩⟩⟩⟩⟩)
theorem kg_154 : qm_G1 (yX9_come, cX9_come, 6, some .int, 9, 4) (6, kt_154) := ⟨rfl, false, (fun z => by cases z), ka_154⟩
-- 155: TowerBoardsModel.needSix
def kk_155_67 : List qm_I := (.ireturn, 0, 0, 0) :: []
def kk_155_62 : List qm_I := (.aload 0, 0, 0, 0) :: (.iconst 0, 0, 0, 5) :: (.invokevirtual 134, 2, 9, 0) :: kk_155_67
def kk_155_43 : List qm_I := (.aload 0, 0, 0, 0) :: (.getfield 9, 6, 0, 0) :: (.iload 3, 0, 0, 0) :: (.iaload, 0, 0, 0) :: (.iconst 0, 0, 0, 1) :: (.iconst 0, 0, 0, 6) :: (.invokestatic 131, 3, 0, 0) :: (.ifCond .eq 62, 0, 0, 0) :: (.iconst 0, 0, 0, 0) :: (.goto 67, 0, 0, 0) :: kk_155_62
def kk_155_26 : List qm_I := (.aload 0, 0, 0, 0) :: (.getfield 9, 6, 0, 0) :: (.iload 3, 0, 0, 0) :: (.iaload, 0, 0, 0) :: (.ifCond .ge 43, 0, 0, 0) :: (.aload 0, 0, 0, 0) :: (.iconst 0, 0, 0, 1) :: (.invokevirtual 134, 2, 9, 0) :: (.goto 67, 0, 0, 0) :: kk_155_43
def kk_155_24 : List qm_I := (.iconst 0, 0, 0, -1) :: (.ireturn, 0, 0, 0) :: kk_155_26
def kk_155_0 : List qm_I := (.iload 1, 0, 0, 0) :: (.invokestatic 151, 1, 0, 0) :: (.ifCond .eq 24, 0, 0, 0) :: (.iload 2, 0, 0, 0) :: (.iconst 0, 0, 0, 1) :: (.iconst 0, 0, 0, 6) :: (.invokestatic 131, 3, 0, 0) :: (.ifCond .eq 24, 0, 0, 0) :: (.iload 3, 0, 0, 0) :: (.invokestatic 143, 1, 0, 0) :: (.ifCond .ne 26, 0, 0, 0) :: kk_155_24
def kt_155 : qm_T := [(0, kk_155_0), (24, kk_155_24), (26, kk_155_26), (43, kk_155_43), (62, kk_155_62), (67, kk_155_67)]
theorem kc_155_67 : qm_chain 9 false (some .int) cX9_needSix 67 kk_155_67 := qm_chain_of _ _ _ _ 1 _ 68 _ (by decide +kernel) trivial
theorem kc_155_62 : qm_chain 9 false (some .int) cX9_needSix 62 kk_155_62 := qm_chain_of _ _ _ _ 3 _ 67 _ (by decide +kernel) kc_155_67
theorem kc_155_43 : qm_chain 9 false (some .int) cX9_needSix 43 kk_155_43 := qm_chain_of _ _ _ _ 10 _ 62 _ (by decide +kernel) kc_155_62
theorem kc_155_26 : qm_chain 9 false (some .int) cX9_needSix 26 kk_155_26 := qm_chain_of _ _ _ _ 9 _ 43 _ (by decide +kernel) kc_155_43
theorem kc_155_24 : qm_chain 9 false (some .int) cX9_needSix 24 kk_155_24 := qm_chain_of _ _ _ _ 2 _ 26 _ (by decide +kernel) kc_155_26
theorem kc_155_0 : qm_chain 9 false (some .int) cX9_needSix 0 kk_155_0 := qm_chain_of _ _ _ _ 11 _ 24 _ (by decide +kernel) kc_155_24
theorem ka_155 : ∀ t : Int, 0 ≤ t → qm_chain 9 false (some .int) cX9_needSix t.toNat (qm_lk kt_155 t) := qm_lk_ok (List.forall_mem_cons.mpr ⟨⟨by decide, kc_155_0⟩, List.forall_mem_cons.mpr ⟨⟨by decide, kc_155_24⟩, List.forall_mem_cons.mpr ⟨⟨by decide, kc_155_26⟩, List.forall_mem_cons.mpr ⟨⟨by decide, kc_155_43⟩, List.forall_mem_cons.mpr ⟨⟨by decide, kc_155_62⟩, List.forall_mem_cons.mpr ⟨⟨by decide, kc_155_67⟩, fun _ h => absurd h List.not_mem_nil⟩⟩⟩⟩⟩⟩)
theorem kg_155 : qm_G1 (yX9_needSix, cX9_needSix, 4, some .int, 9, 3) (4, kt_155) := ⟨rfl, false, (fun z => by cases z), ka_155⟩
-- 156: TowerBoardsModel.board
def kk_156_111 : List qm_I := (.ireturn, 0, 0, 0) :: []
def kk_156_106 : List qm_I := (.aload 0, 0, 0, 0) :: (.iconst 0, 0, 0, 3) :: (.invokevirtual 134, 2, 9, 0) :: kk_156_111
def kk_156_85 : List qm_I := (.iload 5, 0, 0, 0) :: (.ifCond .eq 106, 0, 0, 0) :: (.aload 0, 0, 0, 0) :: (.iload 1, 0, 0, 0) :: (.iconst 0, 0, 0, 0) :: (.aload 0, 0, 0, 0) :: (.getfield 9, 6, 0, 0) :: (.iload 3, 0, 0, 0) :: (.iaload, 0, 0, 0) :: (.iload 2, 0, 0, 0) :: (.invokevirtual 154, 5, 9, 0) :: (.goto 111, 0, 0, 0) :: kk_156_106
def kk_156_77 : List qm_I := (.istore 5, 0, 0, 0) :: (.iinc 6 0, 0, 0, 1) :: (.goto 23, 0, 0, 0) :: kk_156_85
def kk_156_76 : List qm_I := (.iconst 0, 0, 0, 0) :: kk_156_77
def kk_156_23 : List qm_I := (.iload 6, 0, 0, 0) :: (.aload 0, 0, 0, 0) :: (.getfield 9, 6, 0, 0) :: (.iload 3, 0, 0, 0) :: (.iaload, 0, 0, 0) :: (.if_icmp .ge 85, 0, 0, 0) :: (.aload 0, 0, 0, 0) :: (.getfield 9, 14, 0, 0) :: (.iload 6, 0, 0, 0) :: (.aload 0, 0, 0, 0) :: (.iload 3, 0, 0, 0) :: (.iload 6, 0, 0, 0) :: (.invokevirtual 144, 3, 9, 0) :: (.iastore, 0, 0, 0) :: (.iload 5, 0, 0, 0) :: (.ifCond .eq 76, 0, 0, 0) :: (.aload 0, 0, 0, 0) :: (.getfield 9, 14, 0, 0) :: (.iload 6, 0, 0, 0) :: (.iaload, 0, 0, 0) :: (.iconst 0, 0, 0, 0) :: (.iconst 0, 0, 0, 1) :: (.iload 2, 0, 0, 0) :: (.ishl, 0, 0, 0) :: (.iconst 0, 0, 0, 1) :: (.isub, 0, 0, 0) :: (.invokestatic 131, 3, 0, 0) :: (.ifCond .eq 76, 0, 0, 0) :: (.iconst 0, 0, 0, 1) :: (.goto 77, 0, 0, 0) :: kk_156_76
def kk_156_17 : List qm_I := (.iconst 0, 0, 0, 1) :: (.istore 5, 0, 0, 0) :: (.iconst 0, 0, 0, 0) :: (.istore 6, 0, 0, 0) :: kk_156_23
def kk_156_0 : List qm_I := (.aload 0, 0, 0, 0) :: (.iload 1, 0, 0, 0) :: (.iload 2, 0, 0, 0) :: (.iload 3, 0, 0, 0) :: (.invokevirtual 155, 4, 9, 0) :: (.istore 4, 0, 0, 0) :: (.iload 4, 0, 0, 0) :: (.ifCond .ge 17, 0, 0, 0) :: (.iload 4, 0, 0, 0) :: (.ireturn, 0, 0, 0) :: kk_156_17
def kt_156 : qm_T := [(0, kk_156_0), (17, kk_156_17), (23, kk_156_23), (76, kk_156_76), (77, kk_156_77), (85, kk_156_85), (106, kk_156_106), (111, kk_156_111)]
theorem kc_156_111 : qm_chain 9 false (some .int) cX9_board 111 kk_156_111 := qm_chain_of _ _ _ _ 1 _ 112 _ (by decide +kernel) trivial
theorem kc_156_106 : qm_chain 9 false (some .int) cX9_board 106 kk_156_106 := qm_chain_of _ _ _ _ 3 _ 111 _ (by decide +kernel) kc_156_111
theorem kc_156_85 : qm_chain 9 false (some .int) cX9_board 85 kk_156_85 := qm_chain_of _ _ _ _ 12 _ 106 _ (by decide +kernel) kc_156_106
theorem kc_156_77 : qm_chain 9 false (some .int) cX9_board 77 kk_156_77 := qm_chain_of _ _ _ _ 3 _ 85 _ (by decide +kernel) kc_156_85
theorem kc_156_76 : qm_chain 9 false (some .int) cX9_board 76 kk_156_76 := qm_chain_of _ _ _ _ 1 _ 77 _ (by decide +kernel) kc_156_77
theorem kc_156_23 : qm_chain 9 false (some .int) cX9_board 23 kk_156_23 := qm_chain_of _ _ _ _ 30 _ 76 _ (by decide +kernel) kc_156_76
theorem kc_156_17 : qm_chain 9 false (some .int) cX9_board 17 kk_156_17 := qm_chain_of _ _ _ _ 4 _ 23 _ (by decide +kernel) kc_156_23
theorem kc_156_0 : qm_chain 9 false (some .int) cX9_board 0 kk_156_0 := qm_chain_of _ _ _ _ 10 _ 17 _ (by decide +kernel) kc_156_17
theorem ka_156 : ∀ t : Int, 0 ≤ t → qm_chain 9 false (some .int) cX9_board t.toNat (qm_lk kt_156 t) := qm_lk_ok (List.forall_mem_cons.mpr ⟨⟨by decide, kc_156_0⟩, List.forall_mem_cons.mpr ⟨⟨by decide, kc_156_17⟩, List.forall_mem_cons.mpr ⟨⟨by decide, kc_156_23⟩, List.forall_mem_cons.mpr ⟨⟨by decide, kc_156_76⟩, List.forall_mem_cons.mpr ⟨⟨by decide, kc_156_77⟩, List.forall_mem_cons.mpr ⟨⟨by decide, kc_156_85⟩, List.forall_mem_cons.mpr ⟨⟨by decide, kc_156_106⟩, List.forall_mem_cons.mpr ⟨⟨by decide, kc_156_111⟩, fun _ h => absurd h List.not_mem_nil⟩⟩⟩⟩⟩⟩⟩⟩)
theorem kg_156 : qm_G1 (yX9_board, cX9_board, 7, some .int, 9, 3) (7, kt_156) := ⟨rfl, false, (fun z => by cases z), ka_156⟩
-- 157: TowerBoardsModel.stairs
def kk_157_136 : List qm_I := (.ireturn, 0, 0, 0) :: []
def kk_157_131 : List qm_I := (.aload 0, 0, 0, 0) :: (.iconst 0, 0, 0, 3) :: (.invokevirtual 134, 2, 9, 0) :: kk_157_136
def kk_157_110 : List qm_I := (.iload 5, 0, 0, 0) :: (.ifCond .eq 131, 0, 0, 0) :: (.aload 0, 0, 0, 0) :: (.iload 1, 0, 0, 0) :: (.iconst 0, 0, 0, 1) :: (.aload 0, 0, 0, 0) :: (.getfield 9, 6, 0, 0) :: (.iload 3, 0, 0, 0) :: (.iaload, 0, 0, 0) :: (.iload 2, 0, 0, 0) :: (.invokevirtual 154, 5, 9, 0) :: (.goto 136, 0, 0, 0) :: kk_157_131
def kk_157_103 : List qm_I := (.iastore, 0, 0, 0) :: (.iinc 6 0, 0, 0, 1) :: (.goto 23, 0, 0, 0) :: kk_157_110
def kk_157_102 : List qm_I := (.iconst 0, 0, 0, 0) :: kk_157_103
def kk_157_80 : List qm_I := (.istore 5, 0, 0, 0) :: (.aload 0, 0, 0, 0) :: (.getfield 9, 14, 0, 0) :: (.iload 6, 0, 0, 0) :: (.iload 5, 0, 0, 0) :: (.ifCond .eq 102, 0, 0, 0) :: (.iconst 0, 0, 0, 1) :: (.iload 7, 0, 0, 0) :: (.ishl, 0, 0, 0) :: (.iconst 0, 0, 0, 1) :: (.isub, 0, 0, 0) :: (.goto 103, 0, 0, 0) :: kk_157_102
def kk_157_79 : List qm_I := (.iconst 0, 0, 0, 0) :: kk_157_80
def kk_157_68 : List qm_I := (.iload 2, 0, 0, 0) :: (.invokestatic 131, 3, 0, 0) :: (.ifCond .eq 79, 0, 0, 0) :: (.iconst 0, 0, 0, 1) :: (.goto 80, 0, 0, 0) :: kk_157_79
def kk_157_59 : List qm_I := (.aload 0, 0, 0, 0) :: (.iload 3, 0, 0, 0) :: (.iload 6, 0, 0, 0) :: (.iconst 0, 0, 0, 1) :: (.isub, 0, 0, 0) :: (.invokevirtual 144, 3, 9, 0) :: kk_157_68
def kk_157_23 : List qm_I := (.iload 6, 0, 0, 0) :: (.aload 0, 0, 0, 0) :: (.getfield 9, 6, 0, 0) :: (.iload 3, 0, 0, 0) :: (.iaload, 0, 0, 0) :: (.if_icmp .ge 110, 0, 0, 0) :: (.aload 0, 0, 0, 0) :: (.iload 3, 0, 0, 0) :: (.iload 6, 0, 0, 0) :: (.invokevirtual 144, 3, 9, 0) :: (.istore 7, 0, 0, 0) :: (.iload 5, 0, 0, 0) :: (.ifCond .eq 79, 0, 0, 0) :: (.iload 7, 0, 0, 0) :: (.iload 6, 0, 0, 0) :: (.ifCond .ne 59, 0, 0, 0) :: (.iconst 0, 0, 0, 0) :: (.goto 68, 0, 0, 0) :: kk_157_59
def kk_157_17 : List qm_I := (.iconst 0, 0, 0, 1) :: (.istore 5, 0, 0, 0) :: (.iconst 0, 0, 0, 0) :: (.istore 6, 0, 0, 0) :: kk_157_23
def kk_157_0 : List qm_I := (.aload 0, 0, 0, 0) :: (.iload 1, 0, 0, 0) :: (.iload 2, 0, 0, 0) :: (.iload 3, 0, 0, 0) :: (.invokevirtual 155, 4, 9, 0) :: (.istore 4, 0, 0, 0) :: (.iload 4, 0, 0, 0) :: (.ifCond .ge 17, 0, 0, 0) :: (.iload 4, 0, 0, 0) :: (.ireturn, 0, 0, 0) :: kk_157_17
def kt_157 : qm_T := [(0, kk_157_0), (17, kk_157_17), (23, kk_157_23), (59, kk_157_59), (68, kk_157_68), (79, kk_157_79), (80, kk_157_80), (102, kk_157_102), (103, kk_157_103), (110, kk_157_110), (131, kk_157_131), (136, kk_157_136)]
theorem kc_157_136 : qm_chain 9 false (some .int) cX9_stairs 136 kk_157_136 := qm_chain_of _ _ _ _ 1 _ 137 _ (by decide +kernel) trivial
theorem kc_157_131 : qm_chain 9 false (some .int) cX9_stairs 131 kk_157_131 := qm_chain_of _ _ _ _ 3 _ 136 _ (by decide +kernel) kc_157_136
theorem kc_157_110 : qm_chain 9 false (some .int) cX9_stairs 110 kk_157_110 := qm_chain_of _ _ _ _ 12 _ 131 _ (by decide +kernel) kc_157_131
theorem kc_157_103 : qm_chain 9 false (some .int) cX9_stairs 103 kk_157_103 := qm_chain_of _ _ _ _ 3 _ 110 _ (by decide +kernel) kc_157_110
theorem kc_157_102 : qm_chain 9 false (some .int) cX9_stairs 102 kk_157_102 := qm_chain_of _ _ _ _ 1 _ 103 _ (by decide +kernel) kc_157_103
theorem kc_157_80 : qm_chain 9 false (some .int) cX9_stairs 80 kk_157_80 := qm_chain_of _ _ _ _ 12 _ 102 _ (by decide +kernel) kc_157_102
theorem kc_157_79 : qm_chain 9 false (some .int) cX9_stairs 79 kk_157_79 := qm_chain_of _ _ _ _ 1 _ 80 _ (by decide +kernel) kc_157_80
theorem kc_157_68 : qm_chain 9 false (some .int) cX9_stairs 68 kk_157_68 := qm_chain_of _ _ _ _ 5 _ 79 _ (by decide +kernel) kc_157_79
theorem kc_157_59 : qm_chain 9 false (some .int) cX9_stairs 59 kk_157_59 := qm_chain_of _ _ _ _ 6 _ 68 _ (by decide +kernel) kc_157_68
theorem kc_157_23 : qm_chain 9 false (some .int) cX9_stairs 23 kk_157_23 := qm_chain_of _ _ _ _ 18 _ 59 _ (by decide +kernel) kc_157_59
theorem kc_157_17 : qm_chain 9 false (some .int) cX9_stairs 17 kk_157_17 := qm_chain_of _ _ _ _ 4 _ 23 _ (by decide +kernel) kc_157_23
theorem kc_157_0 : qm_chain 9 false (some .int) cX9_stairs 0 kk_157_0 := qm_chain_of _ _ _ _ 10 _ 17 _ (by decide +kernel) kc_157_17
theorem ka_157 : ∀ t : Int, 0 ≤ t → qm_chain 9 false (some .int) cX9_stairs t.toNat (qm_lk kt_157 t) := qm_lk_ok (List.forall_mem_cons.mpr ⟨⟨by decide, kc_157_0⟩, List.forall_mem_cons.mpr ⟨⟨by decide, kc_157_17⟩, List.forall_mem_cons.mpr ⟨⟨by decide, kc_157_23⟩, List.forall_mem_cons.mpr ⟨⟨by decide, kc_157_59⟩, List.forall_mem_cons.mpr ⟨⟨by decide, kc_157_68⟩, List.forall_mem_cons.mpr ⟨⟨by decide, kc_157_79⟩, List.forall_mem_cons.mpr ⟨⟨by decide, kc_157_80⟩, List.forall_mem_cons.mpr ⟨⟨by decide, kc_157_102⟩, List.forall_mem_cons.mpr ⟨⟨by decide, kc_157_103⟩, List.forall_mem_cons.mpr ⟨⟨by decide, kc_157_110⟩, List.forall_mem_cons.mpr ⟨⟨by decide, kc_157_131⟩, List.forall_mem_cons.mpr ⟨⟨by decide, kc_157_136⟩, fun _ h => absurd h List.not_mem_nil⟩⟩⟩⟩⟩⟩⟩⟩⟩⟩⟩⟩)
theorem kg_157 : qm_G1 (yX9_stairs, cX9_stairs, 8, some .int, 9, 3) (8, kt_157) := ⟨rfl, false, (fun z => by cases z), ka_157⟩
-- 158: TowerBoardsModel.ring
def kk_158_119 : List qm_I := (.istore 4, 0, 0, 0) :: (.aload 0, 0, 0, 0) :: (.iload 1, 0, 0, 0) :: (.iload 4, 0, 0, 0) :: (.iload 2, 0, 0, 0) :: (.iload 2, 0, 0, 0) :: (.invokevirtual 154, 5, 9, 0) :: (.pop, 0, 0, 0) :: (.aload 0, 0, 0, 0) :: (.getfield 9, 13, 0, 0) :: (.iload 1, 0, 0, 0) :: (.iload 3, 0, 0, 0) :: (.iastore, 0, 0, 0) :: (.iload 4, 0, 0, 0) :: (.ireturn, 0, 0, 0) :: []
def kk_158_118 : List qm_I := (.iconst 0, 0, 0, 2) :: kk_158_119
def kk_158_104 : List qm_I := (.iload 3, 0, 0, 0) :: (.iconst 0, 0, 0, 3) :: (.if_icmp .ne 118, 0, 0, 0) :: (.iload 2, 0, 0, 0) :: (.iconst 0, 0, 0, 1) :: (.if_icmp .le 118, 0, 0, 0) :: (.iconst 0, 0, 0, 3) :: (.goto 119, 0, 0, 0) :: kk_158_118
def kk_158_98 : List qm_I := (.iinc 4 0, 0, 0, 1) :: (.goto 35, 0, 0, 0) :: kk_158_104
def kk_158_90 : List qm_I := (.ior, 0, 0, 0) :: (.iastore, 0, 0, 0) :: (.iinc 5 0, 0, 0, 1) :: (.goto 52, 0, 0, 0) :: kk_158_98
def kk_158_89 : List qm_I := (.iconst 0, 0, 0, 0) :: kk_158_90
def kk_158_52 : List qm_I := (.iload 5, 0, 0, 0) :: (.iload 2, 0, 0, 0) :: (.if_icmp .ge 98, 0, 0, 0) :: (.aload 0, 0, 0, 0) :: (.getfield 9, 14, 0, 0) :: (.iload 4, 0, 0, 0) :: (.dup2, 0, 0, 0) :: (.iaload, 0, 0, 0) :: (.iload 3, 0, 0, 0) :: (.iload 5, 0, 0, 0) :: (.iload 4, 0, 0, 0) :: (.isub, 0, 0, 0) :: (.iload 2, 0, 0, 0) :: (.iadd, 0, 0, 0) :: (.iload 2, 0, 0, 0) :: (.irem, 0, 0, 0) :: (.invokestatic 132, 2, 0, 0) :: (.ifCond .eq 89, 0, 0, 0) :: (.iconst 0, 0, 0, 1) :: (.iload 5, 0, 0, 0) :: (.ishl, 0, 0, 0) :: (.goto 90, 0, 0, 0) :: kk_158_89
def kk_158_35 : List qm_I := (.iload 4, 0, 0, 0) :: (.iload 2, 0, 0, 0) :: (.if_icmp .ge 104, 0, 0, 0) :: (.aload 0, 0, 0, 0) :: (.getfield 9, 14, 0, 0) :: (.iload 4, 0, 0, 0) :: (.iconst 0, 0, 0, 0) :: (.iastore, 0, 0, 0) :: (.iconst 0, 0, 0, 0) :: (.istore 5, 0, 0, 0) :: kk_158_52
def kk_158_32 : List qm_I := (.iconst 0, 0, 0, 0) :: (.istore 4, 0, 0, 0) :: kk_158_35
def kk_158_30 : List qm_I := (.iconst 0, 0, 0, -1) :: (.ireturn, 0, 0, 0) :: kk_158_32
def kk_158_0 : List qm_I := (.iload 1, 0, 0, 0) :: (.invokestatic 151, 1, 0, 0) :: (.ifCond .eq 30, 0, 0, 0) :: (.iload 2, 0, 0, 0) :: (.iconst 0, 0, 0, 1) :: (.iconst 0, 0, 0, 6) :: (.invokestatic 131, 3, 0, 0) :: (.ifCond .eq 30, 0, 0, 0) :: (.iload 3, 0, 0, 0) :: (.iconst 0, 0, 0, 0) :: (.iconst 0, 0, 0, 1) :: (.iload 2, 0, 0, 0) :: (.ishl, 0, 0, 0) :: (.iconst 0, 0, 0, 1) :: (.isub, 0, 0, 0) :: (.invokestatic 131, 3, 0, 0) :: (.ifCond .ne 32, 0, 0, 0) :: kk_158_30
def kt_158 : qm_T := [(0, kk_158_0), (30, kk_158_30), (32, kk_158_32), (35, kk_158_35), (52, kk_158_52), (89, kk_158_89), (90, kk_158_90), (98, kk_158_98), (104, kk_158_104), (118, kk_158_118), (119, kk_158_119)]
theorem kc_158_119 : qm_chain 9 false (some .int) cX9_ring 119 kk_158_119 := qm_chain_of _ _ _ _ 15 _ 141 _ (by decide +kernel) trivial
theorem kc_158_118 : qm_chain 9 false (some .int) cX9_ring 118 kk_158_118 := qm_chain_of _ _ _ _ 1 _ 119 _ (by decide +kernel) kc_158_119
theorem kc_158_104 : qm_chain 9 false (some .int) cX9_ring 104 kk_158_104 := qm_chain_of _ _ _ _ 8 _ 118 _ (by decide +kernel) kc_158_118
theorem kc_158_98 : qm_chain 9 false (some .int) cX9_ring 98 kk_158_98 := qm_chain_of _ _ _ _ 2 _ 104 _ (by decide +kernel) kc_158_104
theorem kc_158_90 : qm_chain 9 false (some .int) cX9_ring 90 kk_158_90 := qm_chain_of _ _ _ _ 4 _ 98 _ (by decide +kernel) kc_158_98
theorem kc_158_89 : qm_chain 9 false (some .int) cX9_ring 89 kk_158_89 := qm_chain_of _ _ _ _ 1 _ 90 _ (by decide +kernel) kc_158_90
theorem kc_158_52 : qm_chain 9 false (some .int) cX9_ring 52 kk_158_52 := qm_chain_of _ _ _ _ 22 _ 89 _ (by decide +kernel) kc_158_89
theorem kc_158_35 : qm_chain 9 false (some .int) cX9_ring 35 kk_158_35 := qm_chain_of _ _ _ _ 10 _ 52 _ (by decide +kernel) kc_158_52
theorem kc_158_32 : qm_chain 9 false (some .int) cX9_ring 32 kk_158_32 := qm_chain_of _ _ _ _ 2 _ 35 _ (by decide +kernel) kc_158_35
theorem kc_158_30 : qm_chain 9 false (some .int) cX9_ring 30 kk_158_30 := qm_chain_of _ _ _ _ 2 _ 32 _ (by decide +kernel) kc_158_32
theorem kc_158_0 : qm_chain 9 false (some .int) cX9_ring 0 kk_158_0 := qm_chain_of _ _ _ _ 17 _ 30 _ (by decide +kernel) kc_158_30
theorem ka_158 : ∀ t : Int, 0 ≤ t → qm_chain 9 false (some .int) cX9_ring t.toNat (qm_lk kt_158 t) := qm_lk_ok (List.forall_mem_cons.mpr ⟨⟨by decide, kc_158_0⟩, List.forall_mem_cons.mpr ⟨⟨by decide, kc_158_30⟩, List.forall_mem_cons.mpr ⟨⟨by decide, kc_158_32⟩, List.forall_mem_cons.mpr ⟨⟨by decide, kc_158_35⟩, List.forall_mem_cons.mpr ⟨⟨by decide, kc_158_52⟩, List.forall_mem_cons.mpr ⟨⟨by decide, kc_158_89⟩, List.forall_mem_cons.mpr ⟨⟨by decide, kc_158_90⟩, List.forall_mem_cons.mpr ⟨⟨by decide, kc_158_98⟩, List.forall_mem_cons.mpr ⟨⟨by decide, kc_158_104⟩, List.forall_mem_cons.mpr ⟨⟨by decide, kc_158_118⟩, List.forall_mem_cons.mpr ⟨⟨by decide, kc_158_119⟩, fun _ h => absurd h List.not_mem_nil⟩⟩⟩⟩⟩⟩⟩⟩⟩⟩⟩)
theorem kg_158 : qm_G1 (yX9_ring, cX9_ring, 6, some .int, 9, 3) (6, kt_158) := ⟨rfl, false, (fun z => by cases z), ka_158⟩
-- 159: TowerBoardsModel.need
def kk_159_33 : List qm_I := (.ireturn, 0, 0, 0) :: []
def kk_159_28 : List qm_I := (.aload 0, 0, 0, 0) :: (.iconst 0, 0, 0, 1) :: (.invokevirtual 134, 2, 9, 0) :: kk_159_33
def kk_159_15 : List qm_I := (.aload 0, 0, 0, 0) :: (.getfield 9, 9, 0, 0) :: (.iload 2, 0, 0, 0) :: (.iaload, 0, 0, 0) :: (.ifCond .lt 28, 0, 0, 0) :: (.iconst 0, 0, 0, 0) :: (.goto 33, 0, 0, 0) :: kk_159_28
def kk_159_11 : List qm_I := (.iconst 0, 0, 0, -1) :: (.goto 33, 0, 0, 0) :: kk_159_15
def kk_159_0 : List qm_I := (.iload 2, 0, 0, 0) :: (.invokestatic 151, 1, 0, 0) :: (.ifCond .eq 11, 0, 0, 0) :: (.iload 1, 0, 0, 0) :: (.ifCond .ne 15, 0, 0, 0) :: kk_159_11
def kt_159 : qm_T := [(0, kk_159_0), (11, kk_159_11), (15, kk_159_15), (28, kk_159_28), (33, kk_159_33)]
theorem kc_159_33 : qm_chain 9 false (some .int) cX9_need 33 kk_159_33 := qm_chain_of _ _ _ _ 1 _ 34 _ (by decide +kernel) trivial
theorem kc_159_28 : qm_chain 9 false (some .int) cX9_need 28 kk_159_28 := qm_chain_of _ _ _ _ 3 _ 33 _ (by decide +kernel) kc_159_33
theorem kc_159_15 : qm_chain 9 false (some .int) cX9_need 15 kk_159_15 := qm_chain_of _ _ _ _ 7 _ 28 _ (by decide +kernel) kc_159_28
theorem kc_159_11 : qm_chain 9 false (some .int) cX9_need 11 kk_159_11 := qm_chain_of _ _ _ _ 2 _ 15 _ (by decide +kernel) kc_159_15
theorem kc_159_0 : qm_chain 9 false (some .int) cX9_need 0 kk_159_0 := qm_chain_of _ _ _ _ 5 _ 11 _ (by decide +kernel) kc_159_11
theorem ka_159 : ∀ t : Int, 0 ≤ t → qm_chain 9 false (some .int) cX9_need t.toNat (qm_lk kt_159 t) := qm_lk_ok (List.forall_mem_cons.mpr ⟨⟨by decide, kc_159_0⟩, List.forall_mem_cons.mpr ⟨⟨by decide, kc_159_11⟩, List.forall_mem_cons.mpr ⟨⟨by decide, kc_159_15⟩, List.forall_mem_cons.mpr ⟨⟨by decide, kc_159_28⟩, List.forall_mem_cons.mpr ⟨⟨by decide, kc_159_33⟩, fun _ h => absurd h List.not_mem_nil⟩⟩⟩⟩⟩)
theorem kg_159 : qm_G1 (yX9_need, cX9_need, 3, some .int, 9, 2) (3, kt_159) := ⟨rfl, false, (fun z => by cases z), ka_159⟩
-- 160: TowerBoardsModel.drop
def kk_160_13 : List qm_I := (.aload 0, 0, 0, 0) :: (.getfield 9, 9, 0, 0) :: (.iload 1, 0, 0, 0) :: (.iconst 0, 0, 0, -1) :: (.iastore, 0, 0, 0) :: (.iconst 0, 0, 0, 1) :: (.ireturn, 0, 0, 0) :: []
def kk_160_0 : List qm_I := (.aload 0, 0, 0, 0) :: (.iconst 0, 0, 0, 1) :: (.iload 1, 0, 0, 0) :: (.invokevirtual 159, 3, 9, 0) :: (.istore 2, 0, 0, 0) :: (.iload 2, 0, 0, 0) :: (.ifCond .ge 13, 0, 0, 0) :: (.iload 2, 0, 0, 0) :: (.ireturn, 0, 0, 0) :: kk_160_13
def kt_160 : qm_T := [(0, kk_160_0), (13, kk_160_13)]
theorem kc_160_13 : qm_chain 9 false (some .int) cX9_drop 13 kk_160_13 := qm_chain_of _ _ _ _ 7 _ 22 _ (by decide +kernel) trivial
theorem kc_160_0 : qm_chain 9 false (some .int) cX9_drop 0 kk_160_0 := qm_chain_of _ _ _ _ 9 _ 13 _ (by decide +kernel) kc_160_13
theorem ka_160 : ∀ t : Int, 0 ≤ t → qm_chain 9 false (some .int) cX9_drop t.toNat (qm_lk kt_160 t) := qm_lk_ok (List.forall_mem_cons.mpr ⟨⟨by decide, kc_160_0⟩, List.forall_mem_cons.mpr ⟨⟨by decide, kc_160_13⟩, fun _ h => absurd h List.not_mem_nil⟩⟩)
theorem kg_160 : qm_G1 (yX9_drop, cX9_drop, 3, some .int, 9, 1) (3, kt_160) := ⟨rfl, false, (fun z => by cases z), ka_160⟩
-- 161: TowerBoardsModel.told
def kk_161_71 : List qm_I := (.ireturn, 0, 0, 0) :: []
def kk_161_67 : List qm_I := (.iconst 0, 0, 0, 1) :: (.invokevirtual 137, 3, 9, 0) :: kk_161_71
def kk_161_62 : List qm_I := (.aload 0, 0, 0, 0) :: (.iload 1, 0, 0, 0) :: (.invokevirtual 153, 2, 9, 0) :: kk_161_67
def kk_161_48 : List qm_I := (.iload 2, 0, 0, 0) :: (.iconst 0, 0, 0, 2) :: (.if_icmp .ne 62, 0, 0, 0) :: (.aload 0, 0, 0, 0) :: (.getfield 9, 11, 0, 0) :: (.iload 1, 0, 0, 0) :: (.iaload, 0, 0, 0) :: (.goto 67, 0, 0, 0) :: kk_161_62
def kk_161_34 : List qm_I := (.iload 2, 0, 0, 0) :: (.iconst 0, 0, 0, 1) :: (.if_icmp .ne 48, 0, 0, 0) :: (.aload 0, 0, 0, 0) :: (.getfield 9, 10, 0, 0) :: (.iload 1, 0, 0, 0) :: (.iaload, 0, 0, 0) :: (.goto 67, 0, 0, 0) :: kk_161_48
def kk_161_20 : List qm_I := (.aload 0, 0, 0, 0) :: (.iload 2, 0, 0, 0) :: (.ifCond .ne 34, 0, 0, 0) :: (.aload 0, 0, 0, 0) :: (.getfield 9, 9, 0, 0) :: (.iload 1, 0, 0, 0) :: (.iaload, 0, 0, 0) :: (.goto 67, 0, 0, 0) :: kk_161_34
def kk_161_0 : List qm_I := (.aload 0, 0, 0, 0) :: (.iload 2, 0, 0, 0) :: (.iconst 0, 0, 0, 0) :: (.iconst 0, 0, 0, 3) :: (.invokestatic 131, 3, 0, 0) :: (.iload 1, 0, 0, 0) :: (.invokevirtual 159, 3, 9, 0) :: (.istore 3, 0, 0, 0) :: (.iload 3, 0, 0, 0) :: (.ifCond .ge 20, 0, 0, 0) :: (.iload 3, 0, 0, 0) :: (.goto 71, 0, 0, 0) :: kk_161_20
def kt_161 : qm_T := [(0, kk_161_0), (20, kk_161_20), (34, kk_161_34), (48, kk_161_48), (62, kk_161_62), (67, kk_161_67), (71, kk_161_71)]
theorem kc_161_71 : qm_chain 9 false (some .int) cX9_told 71 kk_161_71 := qm_chain_of _ _ _ _ 1 _ 72 _ (by decide +kernel) trivial
theorem kc_161_67 : qm_chain 9 false (some .int) cX9_told 67 kk_161_67 := qm_chain_of _ _ _ _ 2 _ 71 _ (by decide +kernel) kc_161_71
theorem kc_161_62 : qm_chain 9 false (some .int) cX9_told 62 kk_161_62 := qm_chain_of _ _ _ _ 3 _ 67 _ (by decide +kernel) kc_161_67
theorem kc_161_48 : qm_chain 9 false (some .int) cX9_told 48 kk_161_48 := qm_chain_of _ _ _ _ 8 _ 62 _ (by decide +kernel) kc_161_62
theorem kc_161_34 : qm_chain 9 false (some .int) cX9_told 34 kk_161_34 := qm_chain_of _ _ _ _ 8 _ 48 _ (by decide +kernel) kc_161_48
theorem kc_161_20 : qm_chain 9 false (some .int) cX9_told 20 kk_161_20 := qm_chain_of _ _ _ _ 8 _ 34 _ (by decide +kernel) kc_161_34
theorem kc_161_0 : qm_chain 9 false (some .int) cX9_told 0 kk_161_0 := qm_chain_of _ _ _ _ 12 _ 20 _ (by decide +kernel) kc_161_20
theorem ka_161 : ∀ t : Int, 0 ≤ t → qm_chain 9 false (some .int) cX9_told t.toNat (qm_lk kt_161 t) := qm_lk_ok (List.forall_mem_cons.mpr ⟨⟨by decide, kc_161_0⟩, List.forall_mem_cons.mpr ⟨⟨by decide, kc_161_20⟩, List.forall_mem_cons.mpr ⟨⟨by decide, kc_161_34⟩, List.forall_mem_cons.mpr ⟨⟨by decide, kc_161_48⟩, List.forall_mem_cons.mpr ⟨⟨by decide, kc_161_62⟩, List.forall_mem_cons.mpr ⟨⟨by decide, kc_161_67⟩, List.forall_mem_cons.mpr ⟨⟨by decide, kc_161_71⟩, fun _ h => absurd h List.not_mem_nil⟩⟩⟩⟩⟩⟩⟩)
theorem kg_161 : qm_G1 (yX9_told, cX9_told, 4, some .int, 9, 2) (4, kt_161) := ⟨rfl, false, (fun z => by cases z), ka_161⟩
-- 162: TowerBoardsModel.isKind
def kk_162_34 : List qm_I := (.ireturn, 1, 0, 0) :: []
def kk_162_33 : List qm_I := (.iconst 0, 0, 0, 0) :: kk_162_34
def kk_162_29 : List qm_I := (.iconst 0, 0, 0, 1) :: (.goto 34, 0, 0, 0) :: kk_162_33
def kk_162_0 : List qm_I := (.iload 2, 0, 0, 0) :: (.ifCond .eq 29, 0, 0, 0) :: (.aload 0, 0, 0, 0) :: (.getfield 9, 9, 0, 0) :: (.iload 1, 0, 0, 0) :: (.iaload, 0, 0, 0) :: (.iload 2, 0, 0, 0) :: (.if_icmp .eq 29, 0, 0, 0) :: (.iload 2, 0, 0, 0) :: (.iconst 0, 0, 0, 2) :: (.if_icmp .ne 33, 0, 0, 0) :: (.aload 0, 0, 0, 0) :: (.getfield 9, 9, 0, 0) :: (.iload 1, 0, 0, 0) :: (.iaload, 0, 0, 0) :: (.iconst 0, 0, 0, 3) :: (.if_icmp .ne 33, 0, 0, 0) :: kk_162_29
def kt_162 : qm_T := [(0, kk_162_0), (29, kk_162_29), (33, kk_162_33), (34, kk_162_34)]
theorem kc_162_34 : qm_chain 9 false (some .boolean) cX9_isKind 34 kk_162_34 := qm_chain_of _ _ _ _ 1 _ 35 _ (by decide +kernel) trivial
theorem kc_162_33 : qm_chain 9 false (some .boolean) cX9_isKind 33 kk_162_33 := qm_chain_of _ _ _ _ 1 _ 34 _ (by decide +kernel) kc_162_34
theorem kc_162_29 : qm_chain 9 false (some .boolean) cX9_isKind 29 kk_162_29 := qm_chain_of _ _ _ _ 2 _ 33 _ (by decide +kernel) kc_162_33
theorem kc_162_0 : qm_chain 9 false (some .boolean) cX9_isKind 0 kk_162_0 := qm_chain_of _ _ _ _ 17 _ 29 _ (by decide +kernel) kc_162_29
theorem ka_162 : ∀ t : Int, 0 ≤ t → qm_chain 9 false (some .boolean) cX9_isKind t.toNat (qm_lk kt_162 t) := qm_lk_ok (List.forall_mem_cons.mpr ⟨⟨by decide, kc_162_0⟩, List.forall_mem_cons.mpr ⟨⟨by decide, kc_162_29⟩, List.forall_mem_cons.mpr ⟨⟨by decide, kc_162_33⟩, List.forall_mem_cons.mpr ⟨⟨by decide, kc_162_34⟩, fun _ h => absurd h List.not_mem_nil⟩⟩⟩⟩)
theorem kg_162 : qm_G1 (yX9_isKind, cX9_isKind, 3, some .boolean, 9, 2) (3, kt_162) := ⟨rfl, false, (fun z => by cases z), ka_162⟩
-- 163: TowerBoardsModel.is
def kk_163_34 : List qm_I := (.ireturn, 0, 0, 0) :: []
def kk_163_33 : List qm_I := (.iconst 0, 0, 0, 0) :: kk_163_34
def kk_163_20 : List qm_I := (.aload 0, 0, 0, 0) :: (.iload 1, 0, 0, 0) :: (.iload 2, 0, 0, 0) :: (.invokevirtual 162, 3, 9, 0) :: (.ifCond .eq 33, 0, 0, 0) :: (.iconst 0, 0, 0, 1) :: (.goto 34, 0, 0, 0) :: kk_163_33
def kk_163_0 : List qm_I := (.aload 0, 0, 0, 0) :: (.iload 2, 0, 0, 0) :: (.iconst 0, 0, 0, 0) :: (.iconst 0, 0, 0, 3) :: (.invokestatic 131, 3, 0, 0) :: (.iload 1, 0, 0, 0) :: (.invokevirtual 159, 3, 9, 0) :: (.istore 3, 0, 0, 0) :: (.iload 3, 0, 0, 0) :: (.ifCond .ge 20, 0, 0, 0) :: (.iload 3, 0, 0, 0) :: (.goto 34, 0, 0, 0) :: kk_163_20
def kt_163 : qm_T := [(0, kk_163_0), (20, kk_163_20), (33, kk_163_33), (34, kk_163_34)]
theorem kc_163_34 : qm_chain 9 false (some .int) cX9_is 34 kk_163_34 := qm_chain_of _ _ _ _ 1 _ 35 _ (by decide +kernel) trivial
theorem kc_163_33 : qm_chain 9 false (some .int) cX9_is 33 kk_163_33 := qm_chain_of _ _ _ _ 1 _ 34 _ (by decide +kernel) kc_163_34
theorem kc_163_20 : qm_chain 9 false (some .int) cX9_is 20 kk_163_20 := qm_chain_of _ _ _ _ 7 _ 33 _ (by decide +kernel) kc_163_33
theorem kc_163_0 : qm_chain 9 false (some .int) cX9_is 0 kk_163_0 := qm_chain_of _ _ _ _ 12 _ 20 _ (by decide +kernel) kc_163_20
theorem ka_163 : ∀ t : Int, 0 ≤ t → qm_chain 9 false (some .int) cX9_is t.toNat (qm_lk kt_163 t) := qm_lk_ok (List.forall_mem_cons.mpr ⟨⟨by decide, kc_163_0⟩, List.forall_mem_cons.mpr ⟨⟨by decide, kc_163_20⟩, List.forall_mem_cons.mpr ⟨⟨by decide, kc_163_33⟩, List.forall_mem_cons.mpr ⟨⟨by decide, kc_163_34⟩, fun _ h => absurd h List.not_mem_nil⟩⟩⟩⟩)
theorem kg_163 : qm_G1 (yX9_is, cX9_is, 4, some .int, 9, 2) (4, kt_163) := ⟨rfl, false, (fun z => by cases z), ka_163⟩
-- 164: TowerBoardsModel.mark
def kk_164_120 : List qm_I := (.iload 4, 0, 0, 0) :: (.ireturn, 0, 0, 0) :: []
def kk_164_111 : List qm_I := (.iadd, 0, 0, 0) :: (.istore 4, 0, 0, 0) :: (.iinc 5 0, 0, 0, 1) :: (.goto 65, 0, 0, 0) :: kk_164_120
def kk_164_110 : List qm_I := (.iconst 0, 0, 0, 0) :: kk_164_111
def kk_164_103 : List qm_I := (.if_icmp .eq 110, 0, 0, 0) :: (.iconst 0, 0, 0, 1) :: (.goto 111, 0, 0, 0) :: kk_164_110
def kk_164_94 : List qm_I := (.aload 0, 0, 0, 0) :: (.iload 1, 0, 0, 0) :: (.iload 5, 0, 0, 0) :: (.iconst 0, 0, 0, 1) :: (.isub, 0, 0, 0) :: (.invokevirtual 152, 3, 9, 0) :: kk_164_103
def kk_164_65 : List qm_I := (.iload 5, 0, 0, 0) :: (.aload 0, 0, 0, 0) :: (.getfield 9, 10, 0, 0) :: (.iload 1, 0, 0, 0) :: (.iaload, 0, 0, 0) :: (.if_icmp .ge 120, 0, 0, 0) :: (.iload 4, 0, 0, 0) :: (.aload 0, 0, 0, 0) :: (.iload 1, 0, 0, 0) :: (.iload 5, 0, 0, 0) :: (.invokevirtual 152, 3, 9, 0) :: (.iload 5, 0, 0, 0) :: (.ifCond .ne 94, 0, 0, 0) :: (.iconst 0, 0, 0, 0) :: (.goto 103, 0, 0, 0) :: kk_164_94
def kk_164_59 : List qm_I := (.iconst 0, 0, 0, 0) :: (.istore 4, 0, 0, 0) :: (.iconst 0, 0, 0, 0) :: (.istore 5, 0, 0, 0) :: kk_164_65
def kk_164_58 : List qm_I := (.ireturn, 0, 0, 0) :: kk_164_59
def kk_164_52 : List qm_I := (.aload 0, 0, 0, 0) :: (.getfield 9, 10, 0, 0) :: (.iload 1, 0, 0, 0) :: (.iaload, 0, 0, 0) :: kk_164_58
def kk_164_33 : List qm_I := (.iload 2, 0, 0, 0) :: (.iconst 0, 0, 0, 1) :: (.if_icmp .le 59, 0, 0, 0) :: (.iload 2, 0, 0, 0) :: (.iconst 0, 0, 0, 2) :: (.if_icmp .ne 52, 0, 0, 0) :: (.aload 0, 0, 0, 0) :: (.getfield 9, 13, 0, 0) :: (.iload 1, 0, 0, 0) :: (.iaload, 0, 0, 0) :: (.goto 58, 0, 0, 0) :: kk_164_52
def kk_164_18 : List qm_I := (.aload 0, 0, 0, 0) :: (.iload 1, 0, 0, 0) :: (.iload 2, 0, 0, 0) :: (.invokevirtual 162, 3, 9, 0) :: (.ifCond .ne 33, 0, 0, 0) :: (.aload 0, 0, 0, 0) :: (.iconst 0, 0, 0, 3) :: (.invokevirtual 134, 2, 9, 0) :: (.ireturn, 0, 0, 0) :: kk_164_33
def kk_164_0 : List qm_I := (.aload 0, 0, 0, 0) :: (.iload 2, 0, 0, 0) :: (.iconst 0, 0, 0, 1) :: (.iconst 0, 0, 0, 3) :: (.invokestatic 131, 3, 0, 0) :: (.iload 1, 0, 0, 0) :: (.invokevirtual 159, 3, 9, 0) :: (.istore 3, 0, 0, 0) :: (.iload 3, 0, 0, 0) :: (.ifCond .ge 18, 0, 0, 0) :: (.iload 3, 0, 0, 0) :: (.ireturn, 0, 0, 0) :: kk_164_18
def kt_164 : qm_T := [(0, kk_164_0), (18, kk_164_18), (33, kk_164_33), (52, kk_164_52), (58, kk_164_58), (59, kk_164_59), (65, kk_164_65), (94, kk_164_94), (103, kk_164_103), (110, kk_164_110), (111, kk_164_111), (120, kk_164_120)]
theorem kc_164_120 : qm_chain 9 false (some .int) cX9_mark 120 kk_164_120 := qm_chain_of _ _ _ _ 2 _ 123 _ (by decide +kernel) trivial
theorem kc_164_111 : qm_chain 9 false (some .int) cX9_mark 111 kk_164_111 := qm_chain_of _ _ _ _ 4 _ 120 _ (by decide +kernel) kc_164_120
theorem kc_164_110 : qm_chain 9 false (some .int) cX9_mark 110 kk_164_110 := qm_chain_of _ _ _ _ 1 _ 111 _ (by decide +kernel) kc_164_111
theorem kc_164_103 : qm_chain 9 false (some .int) cX9_mark 103 kk_164_103 := qm_chain_of _ _ _ _ 3 _ 110 _ (by decide +kernel) kc_164_110
theorem kc_164_94 : qm_chain 9 false (some .int) cX9_mark 94 kk_164_94 := qm_chain_of _ _ _ _ 6 _ 103 _ (by decide +kernel) kc_164_103
theorem kc_164_65 : qm_chain 9 false (some .int) cX9_mark 65 kk_164_65 := qm_chain_of _ _ _ _ 15 _ 94 _ (by decide +kernel) kc_164_94
theorem kc_164_59 : qm_chain 9 false (some .int) cX9_mark 59 kk_164_59 := qm_chain_of _ _ _ _ 4 _ 65 _ (by decide +kernel) kc_164_65
theorem kc_164_58 : qm_chain 9 false (some .int) cX9_mark 58 kk_164_58 := qm_chain_of _ _ _ _ 1 _ 59 _ (by decide +kernel) kc_164_59
theorem kc_164_52 : qm_chain 9 false (some .int) cX9_mark 52 kk_164_52 := qm_chain_of _ _ _ _ 4 _ 58 _ (by decide +kernel) kc_164_58
theorem kc_164_33 : qm_chain 9 false (some .int) cX9_mark 33 kk_164_33 := qm_chain_of _ _ _ _ 11 _ 52 _ (by decide +kernel) kc_164_52
theorem kc_164_18 : qm_chain 9 false (some .int) cX9_mark 18 kk_164_18 := qm_chain_of _ _ _ _ 9 _ 33 _ (by decide +kernel) kc_164_33
theorem kc_164_0 : qm_chain 9 false (some .int) cX9_mark 0 kk_164_0 := qm_chain_of _ _ _ _ 12 _ 18 _ (by decide +kernel) kc_164_18
theorem ka_164 : ∀ t : Int, 0 ≤ t → qm_chain 9 false (some .int) cX9_mark t.toNat (qm_lk kt_164 t) := qm_lk_ok (List.forall_mem_cons.mpr ⟨⟨by decide, kc_164_0⟩, List.forall_mem_cons.mpr ⟨⟨by decide, kc_164_18⟩, List.forall_mem_cons.mpr ⟨⟨by decide, kc_164_33⟩, List.forall_mem_cons.mpr ⟨⟨by decide, kc_164_52⟩, List.forall_mem_cons.mpr ⟨⟨by decide, kc_164_58⟩, List.forall_mem_cons.mpr ⟨⟨by decide, kc_164_59⟩, List.forall_mem_cons.mpr ⟨⟨by decide, kc_164_65⟩, List.forall_mem_cons.mpr ⟨⟨by decide, kc_164_94⟩, List.forall_mem_cons.mpr ⟨⟨by decide, kc_164_103⟩, List.forall_mem_cons.mpr ⟨⟨by decide, kc_164_110⟩, List.forall_mem_cons.mpr ⟨⟨by decide, kc_164_111⟩, List.forall_mem_cons.mpr ⟨⟨by decide, kc_164_120⟩, fun _ h => absurd h List.not_mem_nil⟩⟩⟩⟩⟩⟩⟩⟩⟩⟩⟩⟩)
theorem kg_164 : qm_G1 (yX9_mark, cX9_mark, 6, some .int, 9, 2) (6, kt_164) := ⟨rfl, false, (fun z => by cases z), ka_164⟩
-- 165: TowerBoardsModel.isPlace
def kk_165_37 : List qm_I := (.ireturn, 1, 0, 0) :: []
def kk_165_36 : List qm_I := (.iconst 0, 0, 0, 0) :: kk_165_37
def kk_165_0 : List qm_I := (.iload 2, 0, 0, 0) :: (.iconst 0, 0, 0, 0) :: (.aload 0, 0, 0, 0) :: (.getfield 9, 10, 0, 0) :: (.iload 1, 0, 0, 0) :: (.iaload, 0, 0, 0) :: (.iconst 0, 0, 0, 1) :: (.isub, 0, 0, 0) :: (.invokestatic 131, 3, 0, 0) :: (.ifCond .eq 36, 0, 0, 0) :: (.iload 3, 0, 0, 0) :: (.iconst 0, 0, 0, 0) :: (.aload 0, 0, 0, 0) :: (.getfield 9, 11, 0, 0) :: (.iload 1, 0, 0, 0) :: (.iaload, 0, 0, 0) :: (.iconst 0, 0, 0, 1) :: (.isub, 0, 0, 0) :: (.invokestatic 131, 3, 0, 0) :: (.ifCond .eq 36, 0, 0, 0) :: (.iconst 0, 0, 0, 1) :: (.goto 37, 0, 0, 0) :: kk_165_36
def kt_165 : qm_T := [(0, kk_165_0), (36, kk_165_36), (37, kk_165_37)]
theorem kc_165_37 : qm_chain 9 false (some .boolean) cX9_isPlace 37 kk_165_37 := qm_chain_of _ _ _ _ 1 _ 38 _ (by decide +kernel) trivial
theorem kc_165_36 : qm_chain 9 false (some .boolean) cX9_isPlace 36 kk_165_36 := qm_chain_of _ _ _ _ 1 _ 37 _ (by decide +kernel) kc_165_37
theorem kc_165_0 : qm_chain 9 false (some .boolean) cX9_isPlace 0 kk_165_0 := qm_chain_of _ _ _ _ 22 _ 36 _ (by decide +kernel) kc_165_36
theorem ka_165 : ∀ t : Int, 0 ≤ t → qm_chain 9 false (some .boolean) cX9_isPlace t.toNat (qm_lk kt_165 t) := qm_lk_ok (List.forall_mem_cons.mpr ⟨⟨by decide, kc_165_0⟩, List.forall_mem_cons.mpr ⟨⟨by decide, kc_165_36⟩, List.forall_mem_cons.mpr ⟨⟨by decide, kc_165_37⟩, fun _ h => absurd h List.not_mem_nil⟩⟩⟩)
theorem kg_165 : qm_G1 (yX9_isPlace, cX9_isPlace, 4, some .boolean, 9, 3) (4, kt_165) := ⟨rfl, false, (fun z => by cases z), ka_165⟩
-- 166: TowerBoardsModel.isCell
def kk_166_28 : List qm_I := (.ireturn, 1, 0, 0) :: []
def kk_166_27 : List qm_I := (.iconst 0, 0, 0, 0) :: kk_166_28
def kk_166_0 : List qm_I := (.aload 0, 0, 0, 0) :: (.iload 1, 0, 0, 0) :: (.iload 2, 0, 0, 0) :: (.iload 3, 0, 0, 0) :: (.invokevirtual 165, 4, 9, 0) :: (.ifCond .eq 27, 0, 0, 0) :: (.aload 0, 0, 0, 0) :: (.iload 1, 0, 0, 0) :: (.iload 2, 0, 0, 0) :: (.invokevirtual 152, 3, 9, 0) :: (.iload 3, 0, 0, 0) :: (.invokestatic 132, 2, 0, 0) :: (.ifCond .eq 27, 0, 0, 0) :: (.iconst 0, 0, 0, 1) :: (.goto 28, 0, 0, 0) :: kk_166_27
def kt_166 : qm_T := [(0, kk_166_0), (27, kk_166_27), (28, kk_166_28)]
theorem kc_166_28 : qm_chain 9 false (some .boolean) cX9_isCell 28 kk_166_28 := qm_chain_of _ _ _ _ 1 _ 29 _ (by decide +kernel) trivial
theorem kc_166_27 : qm_chain 9 false (some .boolean) cX9_isCell 27 kk_166_27 := qm_chain_of _ _ _ _ 1 _ 28 _ (by decide +kernel) kc_166_28
theorem kc_166_0 : qm_chain 9 false (some .boolean) cX9_isCell 0 kk_166_0 := qm_chain_of _ _ _ _ 15 _ 27 _ (by decide +kernel) kc_166_27
theorem ka_166 : ∀ t : Int, 0 ≤ t → qm_chain 9 false (some .boolean) cX9_isCell t.toNat (qm_lk kt_166 t) := qm_lk_ok (List.forall_mem_cons.mpr ⟨⟨by decide, kc_166_0⟩, List.forall_mem_cons.mpr ⟨⟨by decide, kc_166_27⟩, List.forall_mem_cons.mpr ⟨⟨by decide, kc_166_28⟩, fun _ h => absurd h List.not_mem_nil⟩⟩⟩)
theorem kg_166 : qm_G1 (yX9_isCell, cX9_isCell, 4, some .boolean, 9, 3) (4, kt_166) := ⟨rfl, false, (fun z => by cases z), ka_166⟩
-- 167: TowerBoardsModel.cell
def kk_167_49 : List qm_I := (.ireturn, 0, 0, 0) :: []
def kk_167_48 : List qm_I := (.iconst 0, 0, 0, 0) :: kk_167_49
def kk_167_34 : List qm_I := (.aload 0, 0, 0, 0) :: (.iload 1, 0, 0, 0) :: (.iload 2, 0, 0, 0) :: (.iload 3, 0, 0, 0) :: (.invokevirtual 166, 4, 9, 0) :: (.ifCond .eq 48, 0, 0, 0) :: (.iconst 0, 0, 0, 1) :: (.goto 49, 0, 0, 0) :: kk_167_48
def kk_167_16 : List qm_I := (.aload 0, 0, 0, 0) :: (.iload 1, 0, 0, 0) :: (.iload 2, 0, 0, 0) :: (.iload 3, 0, 0, 0) :: (.invokevirtual 165, 4, 9, 0) :: (.ifCond .ne 34, 0, 0, 0) :: (.aload 0, 0, 0, 0) :: (.iconst 0, 0, 0, 2) :: (.invokevirtual 134, 2, 9, 0) :: (.goto 49, 0, 0, 0) :: kk_167_34
def kk_167_0 : List qm_I := (.aload 0, 0, 0, 0) :: (.iconst 0, 0, 0, 1) :: (.iload 1, 0, 0, 0) :: (.invokevirtual 159, 3, 9, 0) :: (.istore 4, 0, 0, 0) :: (.iload 4, 0, 0, 0) :: (.ifCond .ge 16, 0, 0, 0) :: (.iload 4, 0, 0, 0) :: (.ireturn, 0, 0, 0) :: kk_167_16
def kt_167 : qm_T := [(0, kk_167_0), (16, kk_167_16), (34, kk_167_34), (48, kk_167_48), (49, kk_167_49)]
theorem kc_167_49 : qm_chain 9 false (some .int) cX9_cell 49 kk_167_49 := qm_chain_of _ _ _ _ 1 _ 50 _ (by decide +kernel) trivial
theorem kc_167_48 : qm_chain 9 false (some .int) cX9_cell 48 kk_167_48 := qm_chain_of _ _ _ _ 1 _ 49 _ (by decide +kernel) kc_167_49
theorem kc_167_34 : qm_chain 9 false (some .int) cX9_cell 34 kk_167_34 := qm_chain_of _ _ _ _ 8 _ 48 _ (by decide +kernel) kc_167_48
theorem kc_167_16 : qm_chain 9 false (some .int) cX9_cell 16 kk_167_16 := qm_chain_of _ _ _ _ 10 _ 34 _ (by decide +kernel) kc_167_34
theorem kc_167_0 : qm_chain 9 false (some .int) cX9_cell 0 kk_167_0 := qm_chain_of _ _ _ _ 9 _ 16 _ (by decide +kernel) kc_167_16
theorem ka_167 : ∀ t : Int, 0 ≤ t → qm_chain 9 false (some .int) cX9_cell t.toNat (qm_lk kt_167 t) := qm_lk_ok (List.forall_mem_cons.mpr ⟨⟨by decide, kc_167_0⟩, List.forall_mem_cons.mpr ⟨⟨by decide, kc_167_16⟩, List.forall_mem_cons.mpr ⟨⟨by decide, kc_167_34⟩, List.forall_mem_cons.mpr ⟨⟨by decide, kc_167_48⟩, List.forall_mem_cons.mpr ⟨⟨by decide, kc_167_49⟩, fun _ h => absurd h List.not_mem_nil⟩⟩⟩⟩⟩)
theorem kg_167 : qm_G1 (yX9_cell, cX9_cell, 5, some .int, 9, 3) (5, kt_167) := ⟨rfl, false, (fun z => by cases z), ka_167⟩
-- 168: TowerBoardsModel.set
def kk_168_104 : List qm_I := (.iastore, 0, 0, 0) :: (.iload 6, 0, 0, 0) :: (.ireturn, 0, 0, 0) :: []
def kk_168_92 : List qm_I := (.aload 0, 0, 0, 0) :: (.iload 1, 0, 0, 0) :: (.iload 2, 0, 0, 0) :: (.invokevirtual 152, 3, 9, 0) :: (.iconst 0, 0, 0, 1) :: (.iload 3, 0, 0, 0) :: (.ishl, 0, 0, 0) :: (.iconst 0, 0, 0, -1) :: (.ixor, 0, 0, 0) :: (.iand, 0, 0, 0) :: kk_168_104
def kk_168_62 : List qm_I := (.istore 6, 0, 0, 0) :: (.aload 0, 0, 0, 0) :: (.getfield 9, 12, 0, 0) :: (.iconst 0, 0, 0, 6) :: (.iload 1, 0, 0, 0) :: (.imul, 0, 0, 0) :: (.iload 2, 0, 0, 0) :: (.iadd, 0, 0, 0) :: (.iload 4, 0, 0, 0) :: (.ifCond .eq 92, 0, 0, 0) :: (.aload 0, 0, 0, 0) :: (.iload 1, 0, 0, 0) :: (.iload 2, 0, 0, 0) :: (.invokevirtual 152, 3, 9, 0) :: (.iconst 0, 0, 0, 1) :: (.iload 3, 0, 0, 0) :: (.ishl, 0, 0, 0) :: (.ior, 0, 0, 0) :: (.goto 104, 0, 0, 0) :: kk_168_92
def kk_168_61 : List qm_I := (.iconst 0, 0, 0, 0) :: kk_168_62
def kk_168_47 : List qm_I := (.aload 0, 0, 0, 0) :: (.iload 1, 0, 0, 0) :: (.iload 2, 0, 0, 0) :: (.iload 3, 0, 0, 0) :: (.invokevirtual 166, 4, 9, 0) :: (.ifCond .eq 61, 0, 0, 0) :: (.iconst 0, 0, 0, 1) :: (.goto 62, 0, 0, 0) :: kk_168_61
def kk_168_31 : List qm_I := (.aload 0, 0, 0, 0) :: (.iload 1, 0, 0, 0) :: (.iload 2, 0, 0, 0) :: (.iload 3, 0, 0, 0) :: (.invokevirtual 165, 4, 9, 0) :: (.ifCond .ne 47, 0, 0, 0) :: (.aload 0, 0, 0, 0) :: (.iconst 0, 0, 0, 2) :: (.invokevirtual 134, 2, 9, 0) :: (.ireturn, 0, 0, 0) :: kk_168_47
def kk_168_16 : List qm_I := (.aload 0, 0, 0, 0) :: (.getfield 9, 9, 0, 0) :: (.iload 1, 0, 0, 0) :: (.iaload, 0, 0, 0) :: (.ifCond .eq 31, 0, 0, 0) :: (.aload 0, 0, 0, 0) :: (.iconst 0, 0, 0, 3) :: (.invokevirtual 134, 2, 9, 0) :: (.ireturn, 0, 0, 0) :: kk_168_31
def kk_168_0 : List qm_I := (.aload 0, 0, 0, 0) :: (.iconst 0, 0, 0, 1) :: (.iload 1, 0, 0, 0) :: (.invokevirtual 159, 3, 9, 0) :: (.istore 5, 0, 0, 0) :: (.iload 5, 0, 0, 0) :: (.ifCond .ge 16, 0, 0, 0) :: (.iload 5, 0, 0, 0) :: (.ireturn, 0, 0, 0) :: kk_168_16
def kt_168 : qm_T := [(0, kk_168_0), (16, kk_168_16), (31, kk_168_31), (47, kk_168_47), (61, kk_168_61), (62, kk_168_62), (92, kk_168_92), (104, kk_168_104)]
theorem kc_168_104 : qm_chain 9 false (some .int) cX9_set 104 kk_168_104 := qm_chain_of _ _ _ _ 3 _ 108 _ (by decide +kernel) trivial
theorem kc_168_92 : qm_chain 9 false (some .int) cX9_set 92 kk_168_92 := qm_chain_of _ _ _ _ 10 _ 104 _ (by decide +kernel) kc_168_104
theorem kc_168_62 : qm_chain 9 false (some .int) cX9_set 62 kk_168_62 := qm_chain_of _ _ _ _ 19 _ 92 _ (by decide +kernel) kc_168_92
theorem kc_168_61 : qm_chain 9 false (some .int) cX9_set 61 kk_168_61 := qm_chain_of _ _ _ _ 1 _ 62 _ (by decide +kernel) kc_168_62
theorem kc_168_47 : qm_chain 9 false (some .int) cX9_set 47 kk_168_47 := qm_chain_of _ _ _ _ 8 _ 61 _ (by decide +kernel) kc_168_61
theorem kc_168_31 : qm_chain 9 false (some .int) cX9_set 31 kk_168_31 := qm_chain_of _ _ _ _ 10 _ 47 _ (by decide +kernel) kc_168_47
theorem kc_168_16 : qm_chain 9 false (some .int) cX9_set 16 kk_168_16 := qm_chain_of _ _ _ _ 9 _ 31 _ (by decide +kernel) kc_168_31
theorem kc_168_0 : qm_chain 9 false (some .int) cX9_set 0 kk_168_0 := qm_chain_of _ _ _ _ 9 _ 16 _ (by decide +kernel) kc_168_16
theorem ka_168 : ∀ t : Int, 0 ≤ t → qm_chain 9 false (some .int) cX9_set t.toNat (qm_lk kt_168 t) := qm_lk_ok (List.forall_mem_cons.mpr ⟨⟨by decide, kc_168_0⟩, List.forall_mem_cons.mpr ⟨⟨by decide, kc_168_16⟩, List.forall_mem_cons.mpr ⟨⟨by decide, kc_168_31⟩, List.forall_mem_cons.mpr ⟨⟨by decide, kc_168_47⟩, List.forall_mem_cons.mpr ⟨⟨by decide, kc_168_61⟩, List.forall_mem_cons.mpr ⟨⟨by decide, kc_168_62⟩, List.forall_mem_cons.mpr ⟨⟨by decide, kc_168_92⟩, List.forall_mem_cons.mpr ⟨⟨by decide, kc_168_104⟩, fun _ h => absurd h List.not_mem_nil⟩⟩⟩⟩⟩⟩⟩⟩)
theorem kg_168 : qm_G1 (yX9_set, cX9_set, 7, some .int, 9, 4) (7, kt_168) := ⟨rfl, false, (fun z => by cases z), ka_168⟩
-- 169: TowerBoardsModel.other
def kk_169_63 : List qm_I := (.aload 0, 0, 0, 0) :: (.iload 2, 0, 0, 0) :: (.iconst 0, 0, 0, 0) :: (.aload 0, 0, 0, 0) :: (.getfield 9, 10, 0, 0) :: (.iload 1, 0, 0, 0) :: (.iaload, 0, 0, 0) :: (.aload 0, 0, 0, 0) :: (.getfield 9, 11, 0, 0) :: (.iload 1, 0, 0, 0) :: (.iaload, 0, 0, 0) :: (.invokevirtual 154, 5, 9, 0) :: (.ireturn, 0, 0, 0) :: []
def kk_169_19 : List qm_I := (.iload 4, 0, 0, 0) :: (.aload 0, 0, 0, 0) :: (.getfield 9, 10, 0, 0) :: (.iload 1, 0, 0, 0) :: (.iaload, 0, 0, 0) :: (.if_icmp .ge 63, 0, 0, 0) :: (.aload 0, 0, 0, 0) :: (.getfield 9, 14, 0, 0) :: (.iload 4, 0, 0, 0) :: (.iconst 0, 0, 0, 1) :: (.aload 0, 0, 0, 0) :: (.getfield 9, 11, 0, 0) :: (.iload 1, 0, 0, 0) :: (.iaload, 0, 0, 0) :: (.ishl, 0, 0, 0) :: (.iconst 0, 0, 0, 1) :: (.isub, 0, 0, 0) :: (.aload 0, 0, 0, 0) :: (.iload 1, 0, 0, 0) :: (.iload 4, 0, 0, 0) :: (.invokevirtual 152, 3, 9, 0) :: (.iconst 0, 0, 0, -1) :: (.ixor, 0, 0, 0) :: (.iand, 0, 0, 0) :: (.iastore, 0, 0, 0) :: (.iinc 4 0, 0, 0, 1) :: (.goto 19, 0, 0, 0) :: kk_169_63
def kk_169_16 : List qm_I := (.iconst 0, 0, 0, 0) :: (.istore 4, 0, 0, 0) :: kk_169_19
def kk_169_0 : List qm_I := (.aload 0, 0, 0, 0) :: (.iload 2, 0, 0, 0) :: (.invokestatic 151, 1, 0, 0) :: (.iload 1, 0, 0, 0) :: (.invokevirtual 159, 3, 9, 0) :: (.istore 3, 0, 0, 0) :: (.iload 3, 0, 0, 0) :: (.ifCond .ge 16, 0, 0, 0) :: (.iload 3, 0, 0, 0) :: (.ireturn, 0, 0, 0) :: kk_169_16
def kt_169 : qm_T := [(0, kk_169_0), (16, kk_169_16), (19, kk_169_19), (63, kk_169_63)]
theorem kc_169_63 : qm_chain 9 false (some .int) cX9_other 63 kk_169_63 := qm_chain_of _ _ _ _ 13 _ 82 _ (by decide +kernel) trivial
theorem kc_169_19 : qm_chain 9 false (some .int) cX9_other 19 kk_169_19 := qm_chain_of _ _ _ _ 27 _ 63 _ (by decide +kernel) kc_169_63
theorem kc_169_16 : qm_chain 9 false (some .int) cX9_other 16 kk_169_16 := qm_chain_of _ _ _ _ 2 _ 19 _ (by decide +kernel) kc_169_19
theorem kc_169_0 : qm_chain 9 false (some .int) cX9_other 0 kk_169_0 := qm_chain_of _ _ _ _ 10 _ 16 _ (by decide +kernel) kc_169_16
theorem ka_169 : ∀ t : Int, 0 ≤ t → qm_chain 9 false (some .int) cX9_other t.toNat (qm_lk kt_169 t) := qm_lk_ok (List.forall_mem_cons.mpr ⟨⟨by decide, kc_169_0⟩, List.forall_mem_cons.mpr ⟨⟨by decide, kc_169_16⟩, List.forall_mem_cons.mpr ⟨⟨by decide, kc_169_19⟩, List.forall_mem_cons.mpr ⟨⟨by decide, kc_169_63⟩, fun _ h => absurd h List.not_mem_nil⟩⟩⟩⟩)
theorem kg_169 : qm_G1 (yX9_other, cX9_other, 5, some .int, 9, 2) (5, kt_169) := ⟨rfl, false, (fun z => by cases z), ka_169⟩
-- 170: TowerBoardsModel.turn
def kk_170_94 : List qm_I := (.aload 0, 0, 0, 0) :: (.iload 2, 0, 0, 0) :: (.iconst 0, 0, 0, 0) :: (.aload 0, 0, 0, 0) :: (.getfield 9, 11, 0, 0) :: (.iload 1, 0, 0, 0) :: (.iaload, 0, 0, 0) :: (.aload 0, 0, 0, 0) :: (.getfield 9, 10, 0, 0) :: (.iload 1, 0, 0, 0) :: (.iaload, 0, 0, 0) :: (.invokevirtual 154, 5, 9, 0) :: (.ireturn, 0, 0, 0) :: []
def kk_170_88 : List qm_I := (.iinc 4 0, 0, 0, 1) :: (.goto 19, 0, 0, 0) :: kk_170_94
def kk_170_80 : List qm_I := (.ior, 0, 0, 0) :: (.iastore, 0, 0, 0) :: (.iinc 5 0, 0, 0, 1) :: (.goto 41, 0, 0, 0) :: kk_170_88
def kk_170_79 : List qm_I := (.iconst 0, 0, 0, 0) :: kk_170_80
def kk_170_41 : List qm_I := (.iload 5, 0, 0, 0) :: (.aload 0, 0, 0, 0) :: (.getfield 9, 10, 0, 0) :: (.iload 1, 0, 0, 0) :: (.iaload, 0, 0, 0) :: (.if_icmp .ge 88, 0, 0, 0) :: (.aload 0, 0, 0, 0) :: (.getfield 9, 14, 0, 0) :: (.iload 4, 0, 0, 0) :: (.dup2, 0, 0, 0) :: (.iaload, 0, 0, 0) :: (.aload 0, 0, 0, 0) :: (.iload 1, 0, 0, 0) :: (.iload 5, 0, 0, 0) :: (.iload 4, 0, 0, 0) :: (.invokevirtual 166, 4, 9, 0) :: (.ifCond .eq 79, 0, 0, 0) :: (.iconst 0, 0, 0, 1) :: (.iload 5, 0, 0, 0) :: (.ishl, 0, 0, 0) :: (.goto 80, 0, 0, 0) :: kk_170_79
def kk_170_19 : List qm_I := (.iload 4, 0, 0, 0) :: (.aload 0, 0, 0, 0) :: (.getfield 9, 11, 0, 0) :: (.iload 1, 0, 0, 0) :: (.iaload, 0, 0, 0) :: (.if_icmp .ge 94, 0, 0, 0) :: (.aload 0, 0, 0, 0) :: (.getfield 9, 14, 0, 0) :: (.iload 4, 0, 0, 0) :: (.iconst 0, 0, 0, 0) :: (.iastore, 0, 0, 0) :: (.iconst 0, 0, 0, 0) :: (.istore 5, 0, 0, 0) :: kk_170_41
def kk_170_16 : List qm_I := (.iconst 0, 0, 0, 0) :: (.istore 4, 0, 0, 0) :: kk_170_19
def kk_170_0 : List qm_I := (.aload 0, 0, 0, 0) :: (.iload 2, 0, 0, 0) :: (.invokestatic 151, 1, 0, 0) :: (.iload 1, 0, 0, 0) :: (.invokevirtual 159, 3, 9, 0) :: (.istore 3, 0, 0, 0) :: (.iload 3, 0, 0, 0) :: (.ifCond .ge 16, 0, 0, 0) :: (.iload 3, 0, 0, 0) :: (.ireturn, 0, 0, 0) :: kk_170_16
def kt_170 : qm_T := [(0, kk_170_0), (16, kk_170_16), (19, kk_170_19), (41, kk_170_41), (79, kk_170_79), (80, kk_170_80), (88, kk_170_88), (94, kk_170_94)]
theorem kc_170_94 : qm_chain 9 false (some .int) cX9_turn 94 kk_170_94 := qm_chain_of _ _ _ _ 13 _ 113 _ (by decide +kernel) trivial
theorem kc_170_88 : qm_chain 9 false (some .int) cX9_turn 88 kk_170_88 := qm_chain_of _ _ _ _ 2 _ 94 _ (by decide +kernel) kc_170_94
theorem kc_170_80 : qm_chain 9 false (some .int) cX9_turn 80 kk_170_80 := qm_chain_of _ _ _ _ 4 _ 88 _ (by decide +kernel) kc_170_88
theorem kc_170_79 : qm_chain 9 false (some .int) cX9_turn 79 kk_170_79 := qm_chain_of _ _ _ _ 1 _ 80 _ (by decide +kernel) kc_170_80
theorem kc_170_41 : qm_chain 9 false (some .int) cX9_turn 41 kk_170_41 := qm_chain_of _ _ _ _ 21 _ 79 _ (by decide +kernel) kc_170_79
theorem kc_170_19 : qm_chain 9 false (some .int) cX9_turn 19 kk_170_19 := qm_chain_of _ _ _ _ 13 _ 41 _ (by decide +kernel) kc_170_41
theorem kc_170_16 : qm_chain 9 false (some .int) cX9_turn 16 kk_170_16 := qm_chain_of _ _ _ _ 2 _ 19 _ (by decide +kernel) kc_170_19
theorem kc_170_0 : qm_chain 9 false (some .int) cX9_turn 0 kk_170_0 := qm_chain_of _ _ _ _ 10 _ 16 _ (by decide +kernel) kc_170_16
theorem ka_170 : ∀ t : Int, 0 ≤ t → qm_chain 9 false (some .int) cX9_turn t.toNat (qm_lk kt_170 t) := qm_lk_ok (List.forall_mem_cons.mpr ⟨⟨by decide, kc_170_0⟩, List.forall_mem_cons.mpr ⟨⟨by decide, kc_170_16⟩, List.forall_mem_cons.mpr ⟨⟨by decide, kc_170_19⟩, List.forall_mem_cons.mpr ⟨⟨by decide, kc_170_41⟩, List.forall_mem_cons.mpr ⟨⟨by decide, kc_170_79⟩, List.forall_mem_cons.mpr ⟨⟨by decide, kc_170_80⟩, List.forall_mem_cons.mpr ⟨⟨by decide, kc_170_88⟩, List.forall_mem_cons.mpr ⟨⟨by decide, kc_170_94⟩, fun _ h => absurd h List.not_mem_nil⟩⟩⟩⟩⟩⟩⟩⟩)
theorem kg_170 : qm_G1 (yX9_turn, cX9_turn, 6, some .int, 9, 2) (6, kt_170) := ⟨rfl, false, (fun z => by cases z), ka_170⟩
-- 171: TowerBoardsModel.without
def kk_171_130 : List qm_I := (.aload 0, 0, 0, 0) :: (.iload 4, 0, 0, 0) :: (.iconst 0, 0, 0, 0) :: (.aload 0, 0, 0, 0) :: (.getfield 9, 10, 0, 0) :: (.iload 1, 0, 0, 0) :: (.iaload, 0, 0, 0) :: (.iconst 0, 0, 0, 1) :: (.isub, 0, 0, 0) :: (.aload 0, 0, 0, 0) :: (.getfield 9, 11, 0, 0) :: (.iload 1, 0, 0, 0) :: (.iaload, 0, 0, 0) :: (.iconst 0, 0, 0, 1) :: (.isub, 0, 0, 0) :: (.invokevirtual 154, 5, 9, 0) :: (.ireturn, 0, 0, 0) :: []
def kk_171_95 : List qm_I := (.invokevirtual 152, 3, 9, 0) :: (.istore 7, 0, 0, 0) :: (.aload 0, 0, 0, 0) :: (.getfield 9, 14, 0, 0) :: (.iload 6, 0, 0, 0) :: (.iload 7, 0, 0, 0) :: (.iconst 0, 0, 0, 1) :: (.iload 3, 0, 0, 0) :: (.ishl, 0, 0, 0) :: (.iconst 0, 0, 0, 1) :: (.isub, 0, 0, 0) :: (.iand, 0, 0, 0) :: (.iload 7, 0, 0, 0) :: (.iload 3, 0, 0, 0) :: (.iconst 0, 0, 0, 1) :: (.iadd, 0, 0, 0) :: (.ishr, 0, 0, 0) :: (.iload 3, 0, 0, 0) :: (.ishl, 0, 0, 0) :: (.ior, 0, 0, 0) :: (.iastore, 0, 0, 0) :: (.iinc 6 0, 0, 0, 1) :: (.goto 65, 0, 0, 0) :: kk_171_130
def kk_171_91 : List qm_I := (.iload 6, 0, 0, 0) :: (.iconst 0, 0, 0, 1) :: (.iadd, 0, 0, 0) :: kk_171_95
def kk_171_65 : List qm_I := (.iload 6, 0, 0, 0) :: (.aload 0, 0, 0, 0) :: (.getfield 9, 10, 0, 0) :: (.iload 1, 0, 0, 0) :: (.iaload, 0, 0, 0) :: (.iconst 0, 0, 0, 1) :: (.isub, 0, 0, 0) :: (.if_icmp .ge 130, 0, 0, 0) :: (.aload 0, 0, 0, 0) :: (.iload 1, 0, 0, 0) :: (.iload 6, 0, 0, 0) :: (.iload 2, 0, 0, 0) :: (.if_icmp .ge 91, 0, 0, 0) :: (.iload 6, 0, 0, 0) :: (.goto 95, 0, 0, 0) :: kk_171_91
def kk_171_62 : List qm_I := (.iconst 0, 0, 0, 0) :: (.istore 6, 0, 0, 0) :: kk_171_65
def kk_171_56 : List qm_I := (.aload 0, 0, 0, 0) :: (.iconst 0, 0, 0, 5) :: (.invokevirtual 134, 2, 9, 0) :: (.ireturn, 0, 0, 0) :: kk_171_62
def kk_171_36 : List qm_I := (.aload 0, 0, 0, 0) :: (.getfield 9, 10, 0, 0) :: (.iload 1, 0, 0, 0) :: (.iaload, 0, 0, 0) :: (.iconst 0, 0, 0, 1) :: (.if_icmp .eq 56, 0, 0, 0) :: (.aload 0, 0, 0, 0) :: (.getfield 9, 11, 0, 0) :: (.iload 1, 0, 0, 0) :: (.iaload, 0, 0, 0) :: (.iconst 0, 0, 0, 1) :: (.if_icmp .ne 62, 0, 0, 0) :: kk_171_56
def kk_171_20 : List qm_I := (.aload 0, 0, 0, 0) :: (.iload 1, 0, 0, 0) :: (.iload 2, 0, 0, 0) :: (.iload 3, 0, 0, 0) :: (.invokevirtual 165, 4, 9, 0) :: (.ifCond .ne 36, 0, 0, 0) :: (.aload 0, 0, 0, 0) :: (.iconst 0, 0, 0, 2) :: (.invokevirtual 134, 2, 9, 0) :: (.ireturn, 0, 0, 0) :: kk_171_36
def kk_171_0 : List qm_I := (.aload 0, 0, 0, 0) :: (.iload 4, 0, 0, 0) :: (.invokestatic 151, 1, 0, 0) :: (.iload 1, 0, 0, 0) :: (.invokevirtual 159, 3, 9, 0) :: (.istore 5, 0, 0, 0) :: (.iload 5, 0, 0, 0) :: (.ifCond .ge 20, 0, 0, 0) :: (.iload 5, 0, 0, 0) :: (.ireturn, 0, 0, 0) :: kk_171_20
def kt_171 : qm_T := [(0, kk_171_0), (20, kk_171_20), (36, kk_171_36), (56, kk_171_56), (62, kk_171_62), (65, kk_171_65), (91, kk_171_91), (95, kk_171_95), (130, kk_171_130)]
theorem kc_171_130 : qm_chain 9 false (some .int) cX9_without 130 kk_171_130 := qm_chain_of _ _ _ _ 17 _ 154 _ (by decide +kernel) trivial
theorem kc_171_95 : qm_chain 9 false (some .int) cX9_without 95 kk_171_95 := qm_chain_of _ _ _ _ 23 _ 130 _ (by decide +kernel) kc_171_130
theorem kc_171_91 : qm_chain 9 false (some .int) cX9_without 91 kk_171_91 := qm_chain_of _ _ _ _ 3 _ 95 _ (by decide +kernel) kc_171_95
theorem kc_171_65 : qm_chain 9 false (some .int) cX9_without 65 kk_171_65 := qm_chain_of _ _ _ _ 15 _ 91 _ (by decide +kernel) kc_171_91
theorem kc_171_62 : qm_chain 9 false (some .int) cX9_without 62 kk_171_62 := qm_chain_of _ _ _ _ 2 _ 65 _ (by decide +kernel) kc_171_65
theorem kc_171_56 : qm_chain 9 false (some .int) cX9_without 56 kk_171_56 := qm_chain_of _ _ _ _ 4 _ 62 _ (by decide +kernel) kc_171_62
theorem kc_171_36 : qm_chain 9 false (some .int) cX9_without 36 kk_171_36 := qm_chain_of _ _ _ _ 12 _ 56 _ (by decide +kernel) kc_171_56
theorem kc_171_20 : qm_chain 9 false (some .int) cX9_without 20 kk_171_20 := qm_chain_of _ _ _ _ 10 _ 36 _ (by decide +kernel) kc_171_36
theorem kc_171_0 : qm_chain 9 false (some .int) cX9_without 0 kk_171_0 := qm_chain_of _ _ _ _ 10 _ 20 _ (by decide +kernel) kc_171_20
theorem ka_171 : ∀ t : Int, 0 ≤ t → qm_chain 9 false (some .int) cX9_without t.toNat (qm_lk kt_171 t) := qm_lk_ok (List.forall_mem_cons.mpr ⟨⟨by decide, kc_171_0⟩, List.forall_mem_cons.mpr ⟨⟨by decide, kc_171_20⟩, List.forall_mem_cons.mpr ⟨⟨by decide, kc_171_36⟩, List.forall_mem_cons.mpr ⟨⟨by decide, kc_171_56⟩, List.forall_mem_cons.mpr ⟨⟨by decide, kc_171_62⟩, List.forall_mem_cons.mpr ⟨⟨by decide, kc_171_65⟩, List.forall_mem_cons.mpr ⟨⟨by decide, kc_171_91⟩, List.forall_mem_cons.mpr ⟨⟨by decide, kc_171_95⟩, List.forall_mem_cons.mpr ⟨⟨by decide, kc_171_130⟩, fun _ h => absurd h List.not_mem_nil⟩⟩⟩⟩⟩⟩⟩⟩⟩)
theorem kg_171 : qm_G1 (yX9_without, cX9_without, 8, some .int, 9, 4) (8, kt_171) := ⟨rfl, false, (fun z => by cases z), ka_171⟩
-- 172: TowerBoardsModel.needTwo
def kk_172_49 : List qm_I := (.ireturn, 0, 0, 0) :: []
def kk_172_44 : List qm_I := (.aload 0, 0, 0, 0) :: (.iconst 0, 0, 0, 1) :: (.invokevirtual 134, 2, 9, 0) :: kk_172_49
def kk_172_22 : List qm_I := (.aload 0, 0, 0, 0) :: (.getfield 9, 9, 0, 0) :: (.iload 2, 0, 0, 0) :: (.iaload, 0, 0, 0) :: (.ifCond .lt 44, 0, 0, 0) :: (.aload 0, 0, 0, 0) :: (.getfield 9, 9, 0, 0) :: (.iload 3, 0, 0, 0) :: (.iaload, 0, 0, 0) :: (.ifCond .lt 44, 0, 0, 0) :: (.iconst 0, 0, 0, 0) :: (.goto 49, 0, 0, 0) :: kk_172_44
def kk_172_18 : List qm_I := (.iconst 0, 0, 0, -1) :: (.goto 49, 0, 0, 0) :: kk_172_22
def kk_172_0 : List qm_I := (.iload 2, 0, 0, 0) :: (.invokestatic 151, 1, 0, 0) :: (.ifCond .eq 18, 0, 0, 0) :: (.iload 3, 0, 0, 0) :: (.invokestatic 151, 1, 0, 0) :: (.ifCond .eq 18, 0, 0, 0) :: (.iload 1, 0, 0, 0) :: (.ifCond .ne 22, 0, 0, 0) :: kk_172_18
def kt_172 : qm_T := [(0, kk_172_0), (18, kk_172_18), (22, kk_172_22), (44, kk_172_44), (49, kk_172_49)]
theorem kc_172_49 : qm_chain 9 false (some .int) cX9_needTwo 49 kk_172_49 := qm_chain_of _ _ _ _ 1 _ 50 _ (by decide +kernel) trivial
theorem kc_172_44 : qm_chain 9 false (some .int) cX9_needTwo 44 kk_172_44 := qm_chain_of _ _ _ _ 3 _ 49 _ (by decide +kernel) kc_172_49
theorem kc_172_22 : qm_chain 9 false (some .int) cX9_needTwo 22 kk_172_22 := qm_chain_of _ _ _ _ 12 _ 44 _ (by decide +kernel) kc_172_44
theorem kc_172_18 : qm_chain 9 false (some .int) cX9_needTwo 18 kk_172_18 := qm_chain_of _ _ _ _ 2 _ 22 _ (by decide +kernel) kc_172_22
theorem kc_172_0 : qm_chain 9 false (some .int) cX9_needTwo 0 kk_172_0 := qm_chain_of _ _ _ _ 8 _ 18 _ (by decide +kernel) kc_172_18
theorem ka_172 : ∀ t : Int, 0 ≤ t → qm_chain 9 false (some .int) cX9_needTwo t.toNat (qm_lk kt_172 t) := qm_lk_ok (List.forall_mem_cons.mpr ⟨⟨by decide, kc_172_0⟩, List.forall_mem_cons.mpr ⟨⟨by decide, kc_172_18⟩, List.forall_mem_cons.mpr ⟨⟨by decide, kc_172_22⟩, List.forall_mem_cons.mpr ⟨⟨by decide, kc_172_44⟩, List.forall_mem_cons.mpr ⟨⟨by decide, kc_172_49⟩, fun _ h => absurd h List.not_mem_nil⟩⟩⟩⟩⟩)
theorem kg_172 : qm_G1 (yX9_needTwo, cX9_needTwo, 4, some .int, 9, 3) (4, kt_172) := ⟨rfl, false, (fun z => by cases z), ka_172⟩
-- 173: TowerBoardsModel.join
def kk_173_139 : List qm_I := (.aload 0, 0, 0, 0) :: (.iload 3, 0, 0, 0) :: (.iconst 0, 0, 0, 0) :: (.iload 5, 0, 0, 0) :: (.iload 6, 0, 0, 0) :: (.invokevirtual 154, 5, 9, 0) :: (.ireturn, 0, 0, 0) :: []
def kk_173_132 : List qm_I := (.iastore, 0, 0, 0) :: (.iinc 8 0, 0, 0, 1) :: (.goto 81, 0, 0, 0) :: kk_173_139
def kk_173_115 : List qm_I := (.aload 0, 0, 0, 0) :: (.iload 2, 0, 0, 0) :: (.iload 8, 0, 0, 0) :: (.aload 0, 0, 0, 0) :: (.getfield 9, 10, 0, 0) :: (.iload 1, 0, 0, 0) :: (.iaload, 0, 0, 0) :: (.isub, 0, 0, 0) :: (.invokevirtual 152, 3, 9, 0) :: (.iload 7, 0, 0, 0) :: (.ishl, 0, 0, 0) :: kk_173_132
def kk_173_81 : List qm_I := (.iload 8, 0, 0, 0) :: (.iload 5, 0, 0, 0) :: (.if_icmp .ge 139, 0, 0, 0) :: (.aload 0, 0, 0, 0) :: (.getfield 9, 14, 0, 0) :: (.iload 8, 0, 0, 0) :: (.iload 8, 0, 0, 0) :: (.aload 0, 0, 0, 0) :: (.getfield 9, 10, 0, 0) :: (.iload 1, 0, 0, 0) :: (.iaload, 0, 0, 0) :: (.if_icmp .ge 115, 0, 0, 0) :: (.aload 0, 0, 0, 0) :: (.iload 1, 0, 0, 0) :: (.iload 8, 0, 0, 0) :: (.invokevirtual 152, 3, 9, 0) :: (.goto 132, 0, 0, 0) :: kk_173_115
def kk_173_70 : List qm_I := (.aload 0, 0, 0, 0) :: (.getfield 9, 11, 0, 0) :: (.iload 1, 0, 0, 0) :: (.iaload, 0, 0, 0) :: (.istore 7, 0, 0, 0) :: (.iconst 0, 0, 0, 0) :: (.istore 8, 0, 0, 0) :: kk_173_81
def kk_173_64 : List qm_I := (.aload 0, 0, 0, 0) :: (.iconst 0, 0, 0, 5) :: (.invokevirtual 134, 2, 9, 0) :: (.ireturn, 0, 0, 0) :: kk_173_70
def kk_173_20 : List qm_I := (.aload 0, 0, 0, 0) :: (.getfield 9, 10, 0, 0) :: (.iload 1, 0, 0, 0) :: (.iaload, 0, 0, 0) :: (.aload 0, 0, 0, 0) :: (.getfield 9, 10, 0, 0) :: (.iload 2, 0, 0, 0) :: (.iaload, 0, 0, 0) :: (.iadd, 0, 0, 0) :: (.istore 5, 0, 0, 0) :: (.aload 0, 0, 0, 0) :: (.getfield 9, 11, 0, 0) :: (.iload 1, 0, 0, 0) :: (.iaload, 0, 0, 0) :: (.aload 0, 0, 0, 0) :: (.getfield 9, 11, 0, 0) :: (.iload 2, 0, 0, 0) :: (.iaload, 0, 0, 0) :: (.iadd, 0, 0, 0) :: (.istore 6, 0, 0, 0) :: (.iload 5, 0, 0, 0) :: (.iconst 0, 0, 0, 6) :: (.if_icmp .gt 64, 0, 0, 0) :: (.iload 6, 0, 0, 0) :: (.iconst 0, 0, 0, 6) :: (.if_icmp .le 70, 0, 0, 0) :: kk_173_64
def kk_173_0 : List qm_I := (.aload 0, 0, 0, 0) :: (.iload 3, 0, 0, 0) :: (.invokestatic 151, 1, 0, 0) :: (.iload 1, 0, 0, 0) :: (.iload 2, 0, 0, 0) :: (.invokevirtual 172, 4, 9, 0) :: (.istore 4, 0, 0, 0) :: (.iload 4, 0, 0, 0) :: (.ifCond .ge 20, 0, 0, 0) :: (.iload 4, 0, 0, 0) :: (.ireturn, 0, 0, 0) :: kk_173_20
def kt_173 : qm_T := [(0, kk_173_0), (20, kk_173_20), (64, kk_173_64), (70, kk_173_70), (81, kk_173_81), (115, kk_173_115), (132, kk_173_132), (139, kk_173_139)]
theorem kc_173_139 : qm_chain 9 false (some .int) cX9_join 139 kk_173_139 := qm_chain_of _ _ _ _ 7 _ 150 _ (by decide +kernel) trivial
theorem kc_173_132 : qm_chain 9 false (some .int) cX9_join 132 kk_173_132 := qm_chain_of _ _ _ _ 3 _ 139 _ (by decide +kernel) kc_173_139
theorem kc_173_115 : qm_chain 9 false (some .int) cX9_join 115 kk_173_115 := qm_chain_of _ _ _ _ 11 _ 132 _ (by decide +kernel) kc_173_132
theorem kc_173_81 : qm_chain 9 false (some .int) cX9_join 81 kk_173_81 := qm_chain_of _ _ _ _ 17 _ 115 _ (by decide +kernel) kc_173_115
theorem kc_173_70 : qm_chain 9 false (some .int) cX9_join 70 kk_173_70 := qm_chain_of _ _ _ _ 7 _ 81 _ (by decide +kernel) kc_173_81
theorem kc_173_64 : qm_chain 9 false (some .int) cX9_join 64 kk_173_64 := qm_chain_of _ _ _ _ 4 _ 70 _ (by decide +kernel) kc_173_70
theorem kc_173_20 : qm_chain 9 false (some .int) cX9_join 20 kk_173_20 := qm_chain_of _ _ _ _ 26 _ 64 _ (by decide +kernel) kc_173_64
theorem kc_173_0 : qm_chain 9 false (some .int) cX9_join 0 kk_173_0 := qm_chain_of _ _ _ _ 11 _ 20 _ (by decide +kernel) kc_173_20
theorem ka_173 : ∀ t : Int, 0 ≤ t → qm_chain 9 false (some .int) cX9_join t.toNat (qm_lk kt_173 t) := qm_lk_ok (List.forall_mem_cons.mpr ⟨⟨by decide, kc_173_0⟩, List.forall_mem_cons.mpr ⟨⟨by decide, kc_173_20⟩, List.forall_mem_cons.mpr ⟨⟨by decide, kc_173_64⟩, List.forall_mem_cons.mpr ⟨⟨by decide, kc_173_70⟩, List.forall_mem_cons.mpr ⟨⟨by decide, kc_173_81⟩, List.forall_mem_cons.mpr ⟨⟨by decide, kc_173_115⟩, List.forall_mem_cons.mpr ⟨⟨by decide, kc_173_132⟩, List.forall_mem_cons.mpr ⟨⟨by decide, kc_173_139⟩, fun _ h => absurd h List.not_mem_nil⟩⟩⟩⟩⟩⟩⟩⟩)
theorem kg_173 : qm_G1 (yX9_join, cX9_join, 9, some .int, 9, 3) (9, kt_173) := ⟨rfl, false, (fun z => by cases z), ka_173⟩
-- 174: TowerBoardsModel.layStands
def kk_174_191 : List qm_I := (.return_, 0, 0, 0) :: []
def kk_174_158 : List qm_I := (.iload 4, 0, 0, 0) :: (.iconst 0, 0, 0, 64) :: (.if_icmp .ge 191, 0, 0, 0) :: (.aload 0, 0, 0, 0) :: (.getfield 9, 16, 0, 0) :: (.iload 4, 0, 0, 0) :: (.invokestatic 133, 1, 0, 0) :: (.dup2, 0, 0, 0) :: (.laload, 0, 0, 0) :: (.aload 0, 0, 0, 0) :: (.getfield 9, 15, 0, 0) :: (.iload 4, 0, 0, 0) :: (.laload, 0, 0, 0) :: (.ladd, 0, 0, 0) :: (.lastore, 0, 0, 0) :: (.iinc 4 0, 0, 0, 1) :: (.goto 158, 0, 0, 0) :: kk_174_191
def kk_174_155 : List qm_I := (.iconst 0, 0, 0, 0) :: (.istore 4, 0, 0, 0) :: kk_174_158
def kk_174_134 : List qm_I := (.iload 4, 0, 0, 0) :: (.iconst 0, 0, 0, 6) :: (.if_icmp .gt 155, 0, 0, 0) :: (.aload 0, 0, 0, 0) :: (.getfield 9, 16, 0, 0) :: (.iload 4, 0, 0, 0) :: (.lconst 0, 0, 0, 0) :: (.lastore, 0, 0, 0) :: (.iinc 4 0, 0, 0, 1) :: (.goto 134, 0, 0, 0) :: kk_174_155
def kk_174_131 : List qm_I := (.iconst 0, 0, 0, 0) :: (.istore 4, 0, 0, 0) :: kk_174_134
def kk_174_125 : List qm_I := (.iinc 4 0, 0, 0, 1) :: (.goto 36, 0, 0, 0) :: kk_174_131
def kk_174_119 : List qm_I := (.iinc 5 0, 0, 0, -1) :: (.goto 46, 0, 0, 0) :: kk_174_125
def kk_174_111 : List qm_I := (.ladd, 0, 0, 0) :: (.lastore, 0, 0, 0) :: (.iinc 6 0, 0, 0, 1) :: (.goto 54, 0, 0, 0) :: kk_174_119
def kk_174_110 : List qm_I := (.lconst 0, 0, 0, 0) :: kk_174_111
def kk_174_54 : List qm_I := (.iload 6, 0, 0, 0) :: (.iconst 0, 0, 0, 6) :: (.if_icmp .ge 119, 0, 0, 0) :: (.aload 0, 0, 0, 0) :: (.getfield 9, 15, 0, 0) :: (.iload 5, 0, 0, 0) :: (.dup2, 0, 0, 0) :: (.laload, 0, 0, 0) :: (.iload 5, 0, 0, 0) :: (.iload 6, 0, 0, 0) :: (.invokestatic 132, 2, 0, 0) :: (.ifCond .eq 110, 0, 0, 0) :: (.aload 1, 0, 0, 0) :: (.iload 2, 0, 0, 0) :: (.iload 4, 0, 0, 0) :: (.iadd, 0, 0, 0) :: (.iaload, 0, 0, 0) :: (.iload 6, 0, 0, 0) :: (.invokestatic 132, 2, 0, 0) :: (.ifCond .eq 110, 0, 0, 0) :: (.aload 0, 0, 0, 0) :: (.getfield 9, 15, 0, 0) :: (.iload 5, 0, 0, 0) :: (.iconst 0, 0, 0, 1) :: (.iload 6, 0, 0, 0) :: (.ishl, 0, 0, 0) :: (.iconst 0, 0, 0, -1) :: (.ixor, 0, 0, 0) :: (.iand, 0, 0, 0) :: (.laload, 0, 0, 0) :: (.goto 111, 0, 0, 0) :: kk_174_110
def kk_174_46 : List qm_I := (.iload 5, 0, 0, 0) :: (.ifCond .lt 125, 0, 0, 0) :: (.iconst 0, 0, 0, 0) :: (.istore 6, 0, 0, 0) :: kk_174_54
def kk_174_36 : List qm_I := (.iload 4, 0, 0, 0) :: (.iload 3, 0, 0, 0) :: (.if_icmp .ge 131, 0, 0, 0) :: (.iconst 0, 0, 0, 63) :: (.istore 5, 0, 0, 0) :: kk_174_46
def kk_174_33 : List qm_I := (.iconst 0, 0, 0, 0) :: (.istore 4, 0, 0, 0) :: kk_174_36
def kk_174_26 : List qm_I := (.lastore, 0, 0, 0) :: (.iinc 4 0, 0, 0, 1) :: (.goto 3, 0, 0, 0) :: kk_174_33
def kk_174_25 : List qm_I := (.lconst 0, 0, 0, 0) :: kk_174_26
def kk_174_3 : List qm_I := (.iload 4, 0, 0, 0) :: (.iconst 0, 0, 0, 64) :: (.if_icmp .ge 33, 0, 0, 0) :: (.aload 0, 0, 0, 0) :: (.getfield 9, 15, 0, 0) :: (.iload 4, 0, 0, 0) :: (.iload 4, 0, 0, 0) :: (.ifCond .ne 25, 0, 0, 0) :: (.lconst 0, 0, 0, 1) :: (.goto 26, 0, 0, 0) :: kk_174_25
def kk_174_0 : List qm_I := (.iconst 0, 0, 0, 0) :: (.istore 4, 0, 0, 0) :: kk_174_3
def kt_174 : qm_T := [(0, kk_174_0), (3, kk_174_3), (25, kk_174_25), (26, kk_174_26), (33, kk_174_33), (36, kk_174_36), (46, kk_174_46), (54, kk_174_54), (110, kk_174_110), (111, kk_174_111), (119, kk_174_119), (125, kk_174_125), (131, kk_174_131), (134, kk_174_134), (155, kk_174_155), (158, kk_174_158), (191, kk_174_191)]
theorem kc_174_191 : qm_chain 9 false (none) cX9_layStands 191 kk_174_191 := qm_chain_of _ _ _ _ 1 _ 192 _ (by decide +kernel) trivial
theorem kc_174_158 : qm_chain 9 false (none) cX9_layStands 158 kk_174_158 := qm_chain_of _ _ _ _ 17 _ 191 _ (by decide +kernel) kc_174_191
theorem kc_174_155 : qm_chain 9 false (none) cX9_layStands 155 kk_174_155 := qm_chain_of _ _ _ _ 2 _ 158 _ (by decide +kernel) kc_174_158
theorem kc_174_134 : qm_chain 9 false (none) cX9_layStands 134 kk_174_134 := qm_chain_of _ _ _ _ 10 _ 155 _ (by decide +kernel) kc_174_155
theorem kc_174_131 : qm_chain 9 false (none) cX9_layStands 131 kk_174_131 := qm_chain_of _ _ _ _ 2 _ 134 _ (by decide +kernel) kc_174_134
theorem kc_174_125 : qm_chain 9 false (none) cX9_layStands 125 kk_174_125 := qm_chain_of _ _ _ _ 2 _ 131 _ (by decide +kernel) kc_174_131
theorem kc_174_119 : qm_chain 9 false (none) cX9_layStands 119 kk_174_119 := qm_chain_of _ _ _ _ 2 _ 125 _ (by decide +kernel) kc_174_125
theorem kc_174_111 : qm_chain 9 false (none) cX9_layStands 111 kk_174_111 := qm_chain_of _ _ _ _ 4 _ 119 _ (by decide +kernel) kc_174_119
theorem kc_174_110 : qm_chain 9 false (none) cX9_layStands 110 kk_174_110 := qm_chain_of _ _ _ _ 1 _ 111 _ (by decide +kernel) kc_174_111
theorem kc_174_54 : qm_chain 9 false (none) cX9_layStands 54 kk_174_54 := qm_chain_of _ _ _ _ 31 _ 110 _ (by decide +kernel) kc_174_110
theorem kc_174_46 : qm_chain 9 false (none) cX9_layStands 46 kk_174_46 := qm_chain_of _ _ _ _ 4 _ 54 _ (by decide +kernel) kc_174_54
theorem kc_174_36 : qm_chain 9 false (none) cX9_layStands 36 kk_174_36 := qm_chain_of _ _ _ _ 5 _ 46 _ (by decide +kernel) kc_174_46
theorem kc_174_33 : qm_chain 9 false (none) cX9_layStands 33 kk_174_33 := qm_chain_of _ _ _ _ 2 _ 36 _ (by decide +kernel) kc_174_36
theorem kc_174_26 : qm_chain 9 false (none) cX9_layStands 26 kk_174_26 := qm_chain_of _ _ _ _ 3 _ 33 _ (by decide +kernel) kc_174_33
theorem kc_174_25 : qm_chain 9 false (none) cX9_layStands 25 kk_174_25 := qm_chain_of _ _ _ _ 1 _ 26 _ (by decide +kernel) kc_174_26
theorem kc_174_3 : qm_chain 9 false (none) cX9_layStands 3 kk_174_3 := qm_chain_of _ _ _ _ 10 _ 25 _ (by decide +kernel) kc_174_25
theorem kc_174_0 : qm_chain 9 false (none) cX9_layStands 0 kk_174_0 := qm_chain_of _ _ _ _ 2 _ 3 _ (by decide +kernel) kc_174_3
theorem ka_174 : ∀ t : Int, 0 ≤ t → qm_chain 9 false (none) cX9_layStands t.toNat (qm_lk kt_174 t) := qm_lk_ok (List.forall_mem_cons.mpr ⟨⟨by decide, kc_174_0⟩, List.forall_mem_cons.mpr ⟨⟨by decide, kc_174_3⟩, List.forall_mem_cons.mpr ⟨⟨by decide, kc_174_25⟩, List.forall_mem_cons.mpr ⟨⟨by decide, kc_174_26⟩, List.forall_mem_cons.mpr ⟨⟨by decide, kc_174_33⟩, List.forall_mem_cons.mpr ⟨⟨by decide, kc_174_36⟩, List.forall_mem_cons.mpr ⟨⟨by decide, kc_174_46⟩, List.forall_mem_cons.mpr ⟨⟨by decide, kc_174_54⟩, List.forall_mem_cons.mpr ⟨⟨by decide, kc_174_110⟩, List.forall_mem_cons.mpr ⟨⟨by decide, kc_174_111⟩, List.forall_mem_cons.mpr ⟨⟨by decide, kc_174_119⟩, List.forall_mem_cons.mpr ⟨⟨by decide, kc_174_125⟩, List.forall_mem_cons.mpr ⟨⟨by decide, kc_174_131⟩, List.forall_mem_cons.mpr ⟨⟨by decide, kc_174_134⟩, List.forall_mem_cons.mpr ⟨⟨by decide, kc_174_155⟩, List.forall_mem_cons.mpr ⟨⟨by decide, kc_174_158⟩, List.forall_mem_cons.mpr ⟨⟨by decide, kc_174_191⟩, fun _ h => absurd h List.not_mem_nil⟩⟩⟩⟩⟩⟩⟩⟩⟩⟩⟩⟩⟩⟩⟩⟩⟩)
theorem kg_174 : qm_G1 (yX9_layStands, cX9_layStands, 7, none, 9, 3) (7, kt_174) := ⟨rfl, false, (fun z => by cases z), ka_174⟩
-- 175: TowerBoardsModel.layStands_
def kk_175_0 : List qm_I := (.aload 0, 0, 0, 0) :: (.aload 0, 0, 0, 0) :: (.getfield 9, 12, 0, 0) :: (.iconst 0, 0, 0, 6) :: (.iload 1, 0, 0, 0) :: (.imul, 0, 0, 0) :: (.aload 0, 0, 0, 0) :: (.getfield 9, 10, 0, 0) :: (.iload 1, 0, 0, 0) :: (.iaload, 0, 0, 0) :: (.invokevirtual 174, 4, 9, 0) :: (.return_, 0, 0, 0) :: []
def kt_175 : qm_T := [(0, kk_175_0)]
theorem kc_175_0 : qm_chain 9 false (none) cX9_layStands_ 0 kk_175_0 := qm_chain_of _ _ _ _ 12 _ 19 _ (by decide +kernel) trivial
theorem ka_175 : ∀ t : Int, 0 ≤ t → qm_chain 9 false (none) cX9_layStands_ t.toNat (qm_lk kt_175 t) := qm_lk_ok (List.forall_mem_cons.mpr ⟨⟨by decide, kc_175_0⟩, fun _ h => absurd h List.not_mem_nil⟩)
theorem kg_175 : qm_G1 (yX9_layStands_, cX9_layStands_, 2, none, 9, 1) (2, kt_175) := ⟨rfl, false, (fun z => by cases z), ka_175⟩
-- 176: TowerBoardsModel.towers
def kk_176_41 : List qm_I := (.invokevirtual 138, 2, 9, 0) :: (.ireturn, 0, 0, 0) :: []
def kk_176_35 : List qm_I := (.aload 0, 0, 0, 0) :: (.getfield 9, 16, 0, 0) :: (.iload 2, 0, 0, 0) :: (.laload, 0, 0, 0) :: kk_176_41
def kk_176_19 : List qm_I := (.aload 0, 0, 0, 0) :: (.iload 1, 0, 0, 0) :: (.invokevirtual 175, 2, 9, 0) :: (.aload 0, 0, 0, 0) :: (.iload 2, 0, 0, 0) :: (.iconst 0, 0, 0, 6) :: (.if_icmp .le 35, 0, 0, 0) :: (.lconst 0, 0, 0, 0) :: (.goto 41, 0, 0, 0) :: kk_176_35
def kk_176_0 : List qm_I := (.aload 0, 0, 0, 0) :: (.iload 2, 0, 0, 0) :: (.iconst 0, 0, 0, 0) :: (.iconst 0, 0, 0, 36) :: (.invokestatic 131, 3, 0, 0) :: (.iload 1, 0, 0, 0) :: (.invokevirtual 159, 3, 9, 0) :: (.istore 3, 0, 0, 0) :: (.iload 3, 0, 0, 0) :: (.ifCond .ge 19, 0, 0, 0) :: (.iload 3, 0, 0, 0) :: (.ireturn, 0, 0, 0) :: kk_176_19
def kt_176 : qm_T := [(0, kk_176_0), (19, kk_176_19), (35, kk_176_35), (41, kk_176_41)]
theorem kc_176_41 : qm_chain 9 false (some .int) cX9_towers 41 kk_176_41 := qm_chain_of _ _ _ _ 2 _ 45 _ (by decide +kernel) trivial
theorem kc_176_35 : qm_chain 9 false (some .int) cX9_towers 35 kk_176_35 := qm_chain_of _ _ _ _ 4 _ 41 _ (by decide +kernel) kc_176_41
theorem kc_176_19 : qm_chain 9 false (some .int) cX9_towers 19 kk_176_19 := qm_chain_of _ _ _ _ 9 _ 35 _ (by decide +kernel) kc_176_35
theorem kc_176_0 : qm_chain 9 false (some .int) cX9_towers 0 kk_176_0 := qm_chain_of _ _ _ _ 12 _ 19 _ (by decide +kernel) kc_176_19
theorem ka_176 : ∀ t : Int, 0 ≤ t → qm_chain 9 false (some .int) cX9_towers t.toNat (qm_lk kt_176 t) := qm_lk_ok (List.forall_mem_cons.mpr ⟨⟨by decide, kc_176_0⟩, List.forall_mem_cons.mpr ⟨⟨by decide, kc_176_19⟩, List.forall_mem_cons.mpr ⟨⟨by decide, kc_176_35⟩, List.forall_mem_cons.mpr ⟨⟨by decide, kc_176_41⟩, fun _ h => absurd h List.not_mem_nil⟩⟩⟩⟩)
theorem kg_176 : qm_G1 (yX9_towers, cX9_towers, 4, some .int, 9, 2) (4, kt_176) := ⟨rfl, false, (fun z => by cases z), ka_176⟩
-- 177: TowerBoardsModel.greater
def kk_177_30 : List qm_I := (.ireturn, 0, 0, 0) :: []
def kk_177_24 : List qm_I := (.aload 0, 0, 0, 0) :: (.getfield 9, 11, 0, 0) :: (.iload 1, 0, 0, 0) :: (.iaload, 0, 0, 0) :: kk_177_30
def kk_177_0 : List qm_I := (.aload 0, 0, 0, 0) :: (.getfield 9, 10, 0, 0) :: (.iload 1, 0, 0, 0) :: (.iaload, 0, 0, 0) :: (.aload 0, 0, 0, 0) :: (.getfield 9, 11, 0, 0) :: (.iload 1, 0, 0, 0) :: (.iaload, 0, 0, 0) :: (.if_icmp .le 24, 0, 0, 0) :: (.aload 0, 0, 0, 0) :: (.getfield 9, 10, 0, 0) :: (.iload 1, 0, 0, 0) :: (.iaload, 0, 0, 0) :: (.goto 30, 0, 0, 0) :: kk_177_24
def kt_177 : qm_T := [(0, kk_177_0), (24, kk_177_24), (30, kk_177_30)]
theorem kc_177_30 : qm_chain 9 false (some .int) cX9_greater 30 kk_177_30 := qm_chain_of _ _ _ _ 1 _ 31 _ (by decide +kernel) trivial
theorem kc_177_24 : qm_chain 9 false (some .int) cX9_greater 24 kk_177_24 := qm_chain_of _ _ _ _ 4 _ 30 _ (by decide +kernel) kc_177_30
theorem kc_177_0 : qm_chain 9 false (some .int) cX9_greater 0 kk_177_0 := qm_chain_of _ _ _ _ 14 _ 24 _ (by decide +kernel) kc_177_24
theorem ka_177 : ∀ t : Int, 0 ≤ t → qm_chain 9 false (some .int) cX9_greater t.toNat (qm_lk kt_177 t) := qm_lk_ok (List.forall_mem_cons.mpr ⟨⟨by decide, kc_177_0⟩, List.forall_mem_cons.mpr ⟨⟨by decide, kc_177_24⟩, List.forall_mem_cons.mpr ⟨⟨by decide, kc_177_30⟩, fun _ h => absurd h List.not_mem_nil⟩⟩⟩)
theorem kg_177 : qm_G1 (yX9_greater, cX9_greater, 2, some .int, 9, 1) (2, kt_177) := ⟨rfl, false, (fun z => by cases z), ka_177⟩
-- 178: TowerBoardsModel.ordersFrom
def kk_178_99 : List qm_I := (.lload 6, 0, 0, 0) :: (.lreturn, 0, 0, 0) :: []
def kk_178_93 : List qm_I := (.iinc 8 0, 0, 0, 1) :: (.goto 22, 0, 0, 0) :: kk_178_99
def kk_178_90 : List qm_I := (.ladd, 0, 0, 0) :: (.lstore 6, 0, 0, 0) :: kk_178_93
def kk_178_69 : List qm_I := (.aload 0, 0, 0, 0) :: (.iload 1, 0, 0, 0) :: (.iload 2, 0, 0, 0) :: (.iload 3, 0, 0, 0) :: (.iconst 0, 0, 0, 1) :: (.iadd, 0, 0, 0) :: (.iload 4, 0, 0, 0) :: (.iconst 0, 0, 0, 1) :: (.iload 8, 0, 0, 0) :: (.ishl, 0, 0, 0) :: (.ior, 0, 0, 0) :: (.iload 5, 0, 0, 0) :: (.iload 9, 0, 0, 0) :: (.isub, 0, 0, 0) :: (.invokevirtual 178, 6, 9, 0) :: kk_178_90
def kk_178_54 : List qm_I := (.istore 9, 0, 0, 0) :: (.lload 6, 0, 0, 0) :: (.iload 9, 0, 0, 0) :: (.iload 5, 0, 0, 0) :: (.if_icmp .le 69, 0, 0, 0) :: (.lconst 0, 0, 0, 0) :: (.goto 90, 0, 0, 0) :: kk_178_69
def kk_178_53 : List qm_I := (.iconst 0, 0, 0, 0) :: kk_178_54
def kk_178_22 : List qm_I := (.iload 8, 0, 0, 0) :: (.iload 2, 0, 0, 0) :: (.if_icmp .ge 99, 0, 0, 0) :: (.iload 4, 0, 0, 0) :: (.iload 8, 0, 0, 0) :: (.invokestatic 132, 2, 0, 0) :: (.ifCond .ne 93, 0, 0, 0) :: (.aload 0, 0, 0, 0) :: (.iload 1, 0, 0, 0) :: (.iload 3, 0, 0, 0) :: (.iload 8, 0, 0, 0) :: (.invokevirtual 166, 4, 9, 0) :: (.ifCond .eq 53, 0, 0, 0) :: (.iconst 0, 0, 0, 1) :: (.goto 54, 0, 0, 0) :: kk_178_53
def kk_178_16 : List qm_I := (.lconst 0, 0, 0, 0) :: (.lstore 6, 0, 0, 0) :: (.iconst 0, 0, 0, 0) :: (.istore 8, 0, 0, 0) :: kk_178_22
def kk_178_15 : List qm_I := (.lreturn, 0, 0, 0) :: kk_178_16
def kk_178_14 : List qm_I := (.lconst 0, 0, 0, 0) :: kk_178_15
def kk_178_0 : List qm_I := (.iload 3, 0, 0, 0) :: (.iload 2, 0, 0, 0) :: (.if_icmp .ne 16, 0, 0, 0) :: (.iload 5, 0, 0, 0) :: (.ifCond .ne 14, 0, 0, 0) :: (.lconst 0, 0, 0, 1) :: (.goto 15, 0, 0, 0) :: kk_178_14
def kt_178 : qm_T := [(0, kk_178_0), (14, kk_178_14), (15, kk_178_15), (16, kk_178_16), (22, kk_178_22), (53, kk_178_53), (54, kk_178_54), (69, kk_178_69), (90, kk_178_90), (93, kk_178_93), (99, kk_178_99)]
theorem kc_178_99 : qm_chain 9 false (some .long) cX9_ordersFrom 99 kk_178_99 := qm_chain_of _ _ _ _ 2 _ 102 _ (by decide +kernel) trivial
theorem kc_178_93 : qm_chain 9 false (some .long) cX9_ordersFrom 93 kk_178_93 := qm_chain_of _ _ _ _ 2 _ 99 _ (by decide +kernel) kc_178_99
theorem kc_178_90 : qm_chain 9 false (some .long) cX9_ordersFrom 90 kk_178_90 := qm_chain_of _ _ _ _ 2 _ 93 _ (by decide +kernel) kc_178_93
theorem kc_178_69 : qm_chain 9 false (some .long) cX9_ordersFrom 69 kk_178_69 := qm_chain_of _ _ _ _ 15 _ 90 _ (by decide +kernel) kc_178_90
theorem kc_178_54 : qm_chain 9 false (some .long) cX9_ordersFrom 54 kk_178_54 := qm_chain_of _ _ _ _ 7 _ 69 _ (by decide +kernel) kc_178_69
theorem kc_178_53 : qm_chain 9 false (some .long) cX9_ordersFrom 53 kk_178_53 := qm_chain_of _ _ _ _ 1 _ 54 _ (by decide +kernel) kc_178_54
theorem kc_178_22 : qm_chain 9 false (some .long) cX9_ordersFrom 22 kk_178_22 := qm_chain_of _ _ _ _ 15 _ 53 _ (by decide +kernel) kc_178_53
theorem kc_178_16 : qm_chain 9 false (some .long) cX9_ordersFrom 16 kk_178_16 := qm_chain_of _ _ _ _ 4 _ 22 _ (by decide +kernel) kc_178_22
theorem kc_178_15 : qm_chain 9 false (some .long) cX9_ordersFrom 15 kk_178_15 := qm_chain_of _ _ _ _ 1 _ 16 _ (by decide +kernel) kc_178_16
theorem kc_178_14 : qm_chain 9 false (some .long) cX9_ordersFrom 14 kk_178_14 := qm_chain_of _ _ _ _ 1 _ 15 _ (by decide +kernel) kc_178_15
theorem kc_178_0 : qm_chain 9 false (some .long) cX9_ordersFrom 0 kk_178_0 := qm_chain_of _ _ _ _ 7 _ 14 _ (by decide +kernel) kc_178_14
theorem ka_178 : ∀ t : Int, 0 ≤ t → qm_chain 9 false (some .long) cX9_ordersFrom t.toNat (qm_lk kt_178 t) := qm_lk_ok (List.forall_mem_cons.mpr ⟨⟨by decide, kc_178_0⟩, List.forall_mem_cons.mpr ⟨⟨by decide, kc_178_14⟩, List.forall_mem_cons.mpr ⟨⟨by decide, kc_178_15⟩, List.forall_mem_cons.mpr ⟨⟨by decide, kc_178_16⟩, List.forall_mem_cons.mpr ⟨⟨by decide, kc_178_22⟩, List.forall_mem_cons.mpr ⟨⟨by decide, kc_178_53⟩, List.forall_mem_cons.mpr ⟨⟨by decide, kc_178_54⟩, List.forall_mem_cons.mpr ⟨⟨by decide, kc_178_69⟩, List.forall_mem_cons.mpr ⟨⟨by decide, kc_178_90⟩, List.forall_mem_cons.mpr ⟨⟨by decide, kc_178_93⟩, List.forall_mem_cons.mpr ⟨⟨by decide, kc_178_99⟩, fun _ h => absurd h List.not_mem_nil⟩⟩⟩⟩⟩⟩⟩⟩⟩⟩⟩)
theorem kg_178 : qm_G1 (yX9_ordersFrom, cX9_ordersFrom, 10, some .long, 9, 5) (10, kt_178) := ⟨rfl, false, (fun z => by cases z), ka_178⟩
-- 179: TowerBoardsModel.hits
def kk_179_38 : List qm_I := (.ireturn, 0, 0, 0) :: []
def kk_179_21 : List qm_I := (.aload 0, 0, 0, 0) :: (.aload 0, 0, 0, 0) :: (.iload 1, 0, 0, 0) :: (.aload 0, 0, 0, 0) :: (.iload 1, 0, 0, 0) :: (.invokevirtual 177, 2, 9, 0) :: (.iconst 0, 0, 0, 0) :: (.iconst 0, 0, 0, 0) :: (.iload 2, 0, 0, 0) :: (.invokevirtual 178, 6, 9, 0) :: (.invokevirtual 138, 2, 9, 0) :: kk_179_38
def kk_179_0 : List qm_I := (.aload 0, 0, 0, 0) :: (.iload 2, 0, 0, 0) :: (.iconst 0, 0, 0, 0) :: (.iconst 0, 0, 0, 6) :: (.invokestatic 131, 3, 0, 0) :: (.iload 1, 0, 0, 0) :: (.invokevirtual 159, 3, 9, 0) :: (.istore 3, 0, 0, 0) :: (.iload 3, 0, 0, 0) :: (.ifCond .ge 21, 0, 0, 0) :: (.iload 3, 0, 0, 0) :: (.goto 38, 0, 0, 0) :: kk_179_21
def kt_179 : qm_T := [(0, kk_179_0), (21, kk_179_21), (38, kk_179_38)]
theorem kc_179_38 : qm_chain 9 false (some .int) cX9_hits 38 kk_179_38 := qm_chain_of _ _ _ _ 1 _ 39 _ (by decide +kernel) trivial
theorem kc_179_21 : qm_chain 9 false (some .int) cX9_hits 21 kk_179_21 := qm_chain_of _ _ _ _ 11 _ 38 _ (by decide +kernel) kc_179_38
theorem kc_179_0 : qm_chain 9 false (some .int) cX9_hits 0 kk_179_0 := qm_chain_of _ _ _ _ 12 _ 21 _ (by decide +kernel) kc_179_21
theorem ka_179 : ∀ t : Int, 0 ≤ t → qm_chain 9 false (some .int) cX9_hits t.toNat (qm_lk kt_179 t) := qm_lk_ok (List.forall_mem_cons.mpr ⟨⟨by decide, kc_179_0⟩, List.forall_mem_cons.mpr ⟨⟨by decide, kc_179_21⟩, List.forall_mem_cons.mpr ⟨⟨by decide, kc_179_38⟩, fun _ h => absurd h List.not_mem_nil⟩⟩⟩)
theorem kg_179 : qm_G1 (yX9_hits, cX9_hits, 4, some .int, 9, 2) (4, kt_179) := ⟨rfl, false, (fun z => by cases z), ka_179⟩
-- 180: TowerBoardsModel.meanHits
def kk_180_56 : List qm_I := (.aload 0, 0, 0, 0) :: (.iload 3, 0, 0, 0) :: (.iload 5, 0, 0, 0) :: (.idiv, 0, 0, 0) :: (.i2l, 0, 0, 0) :: (.putfield 9, 4, 1, 0) :: (.aload 0, 0, 0, 0) :: (.iload 4, 0, 0, 0) :: (.iload 5, 0, 0, 0) :: (.idiv, 0, 0, 0) :: (.i2l, 0, 0, 0) :: (.putfield 9, 5, 1, 0) :: (.iconst 0, 0, 0, 1) :: (.ireturn, 0, 0, 0) :: []
def kk_180_33 : List qm_I := (.iload 6, 0, 0, 0) :: (.ifCond .eq 56, 0, 0, 0) :: (.iload 5, 0, 0, 0) :: (.iload 6, 0, 0, 0) :: (.irem, 0, 0, 0) :: (.istore 7, 0, 0, 0) :: (.iload 6, 0, 0, 0) :: (.istore 5, 0, 0, 0) :: (.iload 7, 0, 0, 0) :: (.istore 6, 0, 0, 0) :: (.goto 33, 0, 0, 0) :: kk_180_56
def kk_180_13 : List qm_I := (.aload 0, 0, 0, 0) :: (.iload 1, 0, 0, 0) :: (.invokevirtual 153, 2, 9, 0) :: (.istore 3, 0, 0, 0) :: (.aload 0, 0, 0, 0) :: (.iload 1, 0, 0, 0) :: (.invokevirtual 177, 2, 9, 0) :: (.istore 4, 0, 0, 0) :: (.iload 3, 0, 0, 0) :: (.istore 5, 0, 0, 0) :: (.iload 4, 0, 0, 0) :: (.istore 6, 0, 0, 0) :: kk_180_33
def kk_180_0 : List qm_I := (.aload 0, 0, 0, 0) :: (.iconst 0, 0, 0, 1) :: (.iload 1, 0, 0, 0) :: (.invokevirtual 159, 3, 9, 0) :: (.istore 2, 0, 0, 0) :: (.iload 2, 0, 0, 0) :: (.ifCond .ge 13, 0, 0, 0) :: (.iload 2, 0, 0, 0) :: (.ireturn, 0, 0, 0) :: kk_180_13
def kt_180 : qm_T := [(0, kk_180_0), (13, kk_180_13), (33, kk_180_33), (56, kk_180_56)]
theorem kc_180_56 : qm_chain 9 false (some .int) cX9_meanHits 56 kk_180_56 := qm_chain_of _ _ _ _ 14 _ 77 _ (by decide +kernel) trivial
theorem kc_180_33 : qm_chain 9 false (some .int) cX9_meanHits 33 kk_180_33 := qm_chain_of _ _ _ _ 11 _ 56 _ (by decide +kernel) kc_180_56
theorem kc_180_13 : qm_chain 9 false (some .int) cX9_meanHits 13 kk_180_13 := qm_chain_of _ _ _ _ 12 _ 33 _ (by decide +kernel) kc_180_33
theorem kc_180_0 : qm_chain 9 false (some .int) cX9_meanHits 0 kk_180_0 := qm_chain_of _ _ _ _ 9 _ 13 _ (by decide +kernel) kc_180_13
theorem ka_180 : ∀ t : Int, 0 ≤ t → qm_chain 9 false (some .int) cX9_meanHits t.toNat (qm_lk kt_180 t) := qm_lk_ok (List.forall_mem_cons.mpr ⟨⟨by decide, kc_180_0⟩, List.forall_mem_cons.mpr ⟨⟨by decide, kc_180_13⟩, List.forall_mem_cons.mpr ⟨⟨by decide, kc_180_33⟩, List.forall_mem_cons.mpr ⟨⟨by decide, kc_180_56⟩, fun _ h => absurd h List.not_mem_nil⟩⟩⟩⟩)
theorem kg_180 : qm_G1 (yX9_meanHits, cX9_meanHits, 8, some .int, 9, 1) (8, kt_180) := ⟨rfl, false, (fun z => by cases z), ka_180⟩
-- 181: TowerBoardsModel.keepStands
def kk_181_26 : List qm_I := (.return_, 0, 0, 0) :: []
def kk_181_2 : List qm_I := (.iload 1, 0, 0, 0) :: (.iconst 0, 0, 0, 6) :: (.if_icmp .gt 26, 0, 0, 0) :: (.aload 0, 0, 0, 0) :: (.getfield 9, 17, 0, 0) :: (.iload 1, 0, 0, 0) :: (.aload 0, 0, 0, 0) :: (.getfield 9, 16, 0, 0) :: (.iload 1, 0, 0, 0) :: (.laload, 0, 0, 0) :: (.lastore, 0, 0, 0) :: (.iinc 1 0, 0, 0, 1) :: (.goto 2, 0, 0, 0) :: kk_181_26
def kk_181_0 : List qm_I := (.iconst 0, 0, 0, 0) :: (.istore 1, 0, 0, 0) :: kk_181_2
def kt_181 : qm_T := [(0, kk_181_0), (2, kk_181_2), (26, kk_181_26)]
theorem kc_181_26 : qm_chain 9 false (none) cX9_keepStands 26 kk_181_26 := qm_chain_of _ _ _ _ 1 _ 27 _ (by decide +kernel) trivial
theorem kc_181_2 : qm_chain 9 false (none) cX9_keepStands 2 kk_181_2 := qm_chain_of _ _ _ _ 13 _ 26 _ (by decide +kernel) kc_181_26
theorem kc_181_0 : qm_chain 9 false (none) cX9_keepStands 0 kk_181_0 := qm_chain_of _ _ _ _ 2 _ 2 _ (by decide +kernel) kc_181_2
theorem ka_181 : ∀ t : Int, 0 ≤ t → qm_chain 9 false (none) cX9_keepStands t.toNat (qm_lk kt_181 t) := qm_lk_ok (List.forall_mem_cons.mpr ⟨⟨by decide, kc_181_0⟩, List.forall_mem_cons.mpr ⟨⟨by decide, kc_181_2⟩, List.forall_mem_cons.mpr ⟨⟨by decide, kc_181_26⟩, fun _ h => absurd h List.not_mem_nil⟩⟩⟩)
theorem kg_181 : qm_G1 (yX9_keepStands, cX9_keepStands, 2, none, 9, 0) (2, kt_181) := ⟨rfl, false, (fun z => by cases z), ka_181⟩
-- 182: TowerBoardsModel.areSought
def kk_182_42 : List qm_I := (.iload 1, 0, 0, 0) :: (.ireturn, 1, 0, 0) :: []
def kk_182_35 : List qm_I := (.istore 1, 0, 0, 0) :: (.iinc 2 0, 0, 0, 1) :: (.goto 4, 0, 0, 0) :: kk_182_42
def kk_182_34 : List qm_I := (.iconst 0, 0, 0, 0) :: kk_182_35
def kk_182_4 : List qm_I := (.iload 2, 0, 0, 0) :: (.iconst 0, 0, 0, 6) :: (.if_icmp .gt 42, 0, 0, 0) :: (.iload 1, 0, 0, 0) :: (.ifCond .eq 34, 0, 0, 0) :: (.aload 0, 0, 0, 0) :: (.getfield 9, 16, 0, 0) :: (.iload 2, 0, 0, 0) :: (.laload, 0, 0, 0) :: (.aload 0, 0, 0, 0) :: (.getfield 9, 17, 0, 0) :: (.iload 2, 0, 0, 0) :: (.laload, 0, 0, 0) :: (.lcmp, 0, 0, 0) :: (.ifCond .ne 34, 0, 0, 0) :: (.iconst 0, 0, 0, 1) :: (.goto 35, 0, 0, 0) :: kk_182_34
def kk_182_0 : List qm_I := (.iconst 0, 0, 0, 1) :: (.istore 1, 0, 0, 0) :: (.iconst 0, 0, 0, 0) :: (.istore 2, 0, 0, 0) :: kk_182_4
def kt_182 : qm_T := [(0, kk_182_0), (4, kk_182_4), (34, kk_182_34), (35, kk_182_35), (42, kk_182_42)]
theorem kc_182_42 : qm_chain 9 false (some .boolean) cX9_areSought 42 kk_182_42 := qm_chain_of _ _ _ _ 2 _ 44 _ (by decide +kernel) trivial
theorem kc_182_35 : qm_chain 9 false (some .boolean) cX9_areSought 35 kk_182_35 := qm_chain_of _ _ _ _ 3 _ 42 _ (by decide +kernel) kc_182_42
theorem kc_182_34 : qm_chain 9 false (some .boolean) cX9_areSought 34 kk_182_34 := qm_chain_of _ _ _ _ 1 _ 35 _ (by decide +kernel) kc_182_35
theorem kc_182_4 : qm_chain 9 false (some .boolean) cX9_areSought 4 kk_182_4 := qm_chain_of _ _ _ _ 17 _ 34 _ (by decide +kernel) kc_182_34
theorem kc_182_0 : qm_chain 9 false (some .boolean) cX9_areSought 0 kk_182_0 := qm_chain_of _ _ _ _ 4 _ 4 _ (by decide +kernel) kc_182_4
theorem ka_182 : ∀ t : Int, 0 ≤ t → qm_chain 9 false (some .boolean) cX9_areSought t.toNat (qm_lk kt_182 t) := qm_lk_ok (List.forall_mem_cons.mpr ⟨⟨by decide, kc_182_0⟩, List.forall_mem_cons.mpr ⟨⟨by decide, kc_182_4⟩, List.forall_mem_cons.mpr ⟨⟨by decide, kc_182_34⟩, List.forall_mem_cons.mpr ⟨⟨by decide, kc_182_35⟩, List.forall_mem_cons.mpr ⟨⟨by decide, kc_182_42⟩, fun _ h => absurd h List.not_mem_nil⟩⟩⟩⟩⟩)
theorem kg_182 : qm_G1 (yX9_areSought, cX9_areSought, 3, some .boolean, 9, 0) (3, kt_182) := ⟨rfl, false, (fun z => by cases z), ka_182⟩
-- 183: TowerBoardsModel.alike
def kk_183_40 : List qm_I := (.ireturn, 0, 0, 0) :: []
def kk_183_39 : List qm_I := (.iconst 0, 0, 0, 0) :: kk_183_40
def kk_183_14 : List qm_I := (.aload 0, 0, 0, 0) :: (.iload 1, 0, 0, 0) :: (.invokevirtual 175, 2, 9, 0) :: (.aload 0, 0, 0, 0) :: (.invokevirtual 181, 1, 9, 0) :: (.aload 0, 0, 0, 0) :: (.iload 2, 0, 0, 0) :: (.invokevirtual 175, 2, 9, 0) :: (.aload 0, 0, 0, 0) :: (.invokevirtual 182, 1, 9, 0) :: (.ifCond .eq 39, 0, 0, 0) :: (.iconst 0, 0, 0, 1) :: (.goto 40, 0, 0, 0) :: kk_183_39
def kk_183_0 : List qm_I := (.aload 0, 0, 0, 0) :: (.iconst 0, 0, 0, 1) :: (.iload 1, 0, 0, 0) :: (.iload 2, 0, 0, 0) :: (.invokevirtual 172, 4, 9, 0) :: (.istore 3, 0, 0, 0) :: (.iload 3, 0, 0, 0) :: (.ifCond .ge 14, 0, 0, 0) :: (.iload 3, 0, 0, 0) :: (.ireturn, 0, 0, 0) :: kk_183_14
def kt_183 : qm_T := [(0, kk_183_0), (14, kk_183_14), (39, kk_183_39), (40, kk_183_40)]
theorem kc_183_40 : qm_chain 9 false (some .int) cX9_alike 40 kk_183_40 := qm_chain_of _ _ _ _ 1 _ 41 _ (by decide +kernel) trivial
theorem kc_183_39 : qm_chain 9 false (some .int) cX9_alike 39 kk_183_39 := qm_chain_of _ _ _ _ 1 _ 40 _ (by decide +kernel) kc_183_40
theorem kc_183_14 : qm_chain 9 false (some .int) cX9_alike 14 kk_183_14 := qm_chain_of _ _ _ _ 13 _ 39 _ (by decide +kernel) kc_183_39
theorem kc_183_0 : qm_chain 9 false (some .int) cX9_alike 0 kk_183_0 := qm_chain_of _ _ _ _ 10 _ 14 _ (by decide +kernel) kc_183_14
theorem ka_183 : ∀ t : Int, 0 ≤ t → qm_chain 9 false (some .int) cX9_alike t.toNat (qm_lk kt_183 t) := qm_lk_ok (List.forall_mem_cons.mpr ⟨⟨by decide, kc_183_0⟩, List.forall_mem_cons.mpr ⟨⟨by decide, kc_183_14⟩, List.forall_mem_cons.mpr ⟨⟨by decide, kc_183_39⟩, List.forall_mem_cons.mpr ⟨⟨by decide, kc_183_40⟩, fun _ h => absurd h List.not_mem_nil⟩⟩⟩⟩)
theorem kg_183 : qm_G1 (yX9_alike, cX9_alike, 4, some .int, 9, 2) (4, kt_183) := ⟨rfl, false, (fun z => by cases z), ka_183⟩
-- 184: TowerBoardsModel.goStairs
def kk_184_137 : List qm_I := (.return_, 0, 0, 0) :: []
def kk_184_111 : List qm_I := (.iload 3, 0, 0, 0) :: (.iload 2, 0, 0, 0) :: (.if_icmp .gt 137, 0, 0, 0) :: (.aload 0, 0, 0, 0) :: (.getfield 9, 18, 0, 0) :: (.iload 1, 0, 0, 0) :: (.iload 3, 0, 0, 0) :: (.iastore, 0, 0, 0) :: (.aload 0, 0, 0, 0) :: (.iload 1, 0, 0, 0) :: (.iconst 0, 0, 0, 1) :: (.iadd, 0, 0, 0) :: (.iload 2, 0, 0, 0) :: (.invokevirtual 184, 3, 9, 0) :: (.iinc 3 0, 0, 0, 1) :: (.goto 111, 0, 0, 0) :: kk_184_137
def kk_184_110 : List qm_I := (.istore 3, 0, 0, 0) :: kk_184_111
def kk_184_102 : List qm_I := (.aload 0, 0, 0, 0) :: (.getfield 9, 18, 0, 0) :: (.iload 1, 0, 0, 0) :: (.iconst 0, 0, 0, 1) :: (.isub, 0, 0, 0) :: (.iaload, 0, 0, 0) :: kk_184_110
def kk_184_94 : List qm_I := (.iload 1, 0, 0, 0) :: (.ifCond .ne 102, 0, 0, 0) :: (.iconst 0, 0, 0, 0) :: (.goto 110, 0, 0, 0) :: kk_184_102
def kk_184_93 : List qm_I := (.return_, 0, 0, 0) :: kk_184_94
def kk_184_83 : List qm_I := (.aload 0, 0, 0, 0) :: (.dup, 0, 0, 0) :: (.getfield 9, 21, 0, 0) :: (.iconst 0, 0, 0, 1) :: (.iadd, 0, 0, 0) :: (.putfield 9, 21, 0, 0) :: kk_184_93
def kk_184_53 : List qm_I := (.iload 3, 0, 0, 0) :: (.iload 2, 0, 0, 0) :: (.if_icmp .ge 83, 0, 0, 0) :: (.aload 0, 0, 0, 0) :: (.getfield 9, 21, 0, 0) :: (.ifCond .ne 83, 0, 0, 0) :: (.aload 0, 0, 0, 0) :: (.getfield 9, 19, 0, 0) :: (.iload 3, 0, 0, 0) :: (.aload 0, 0, 0, 0) :: (.getfield 9, 18, 0, 0) :: (.iload 3, 0, 0, 0) :: (.iaload, 0, 0, 0) :: (.iastore, 0, 0, 0) :: (.iinc 3 0, 0, 0, 1) :: (.goto 53, 0, 0, 0) :: kk_184_83
def kk_184_34 : List qm_I := (.aload 0, 0, 0, 0) :: (.aload 0, 0, 0, 0) :: (.getfield 9, 20, 0, 0) :: (.iconst 0, 0, 0, 0) :: (.iload 2, 0, 0, 0) :: (.invokevirtual 174, 4, 9, 0) :: (.aload 0, 0, 0, 0) :: (.invokevirtual 182, 1, 9, 0) :: (.ifCond .eq 93, 0, 0, 0) :: (.iconst 0, 0, 0, 0) :: (.istore 3, 0, 0, 0) :: kk_184_53
def kk_184_7 : List qm_I := (.iload 3, 0, 0, 0) :: (.iload 2, 0, 0, 0) :: (.if_icmp .ge 34, 0, 0, 0) :: (.aload 0, 0, 0, 0) :: (.getfield 9, 20, 0, 0) :: (.iload 3, 0, 0, 0) :: (.iconst 0, 0, 0, 1) :: (.aload 0, 0, 0, 0) :: (.getfield 9, 18, 0, 0) :: (.iload 3, 0, 0, 0) :: (.iaload, 0, 0, 0) :: (.ishl, 0, 0, 0) :: (.iconst 0, 0, 0, 1) :: (.isub, 0, 0, 0) :: (.iastore, 0, 0, 0) :: (.iinc 3 0, 0, 0, 1) :: (.goto 7, 0, 0, 0) :: kk_184_34
def kk_184_0 : List qm_I := (.iload 1, 0, 0, 0) :: (.iload 2, 0, 0, 0) :: (.if_icmp .ne 94, 0, 0, 0) :: (.iconst 0, 0, 0, 0) :: (.istore 3, 0, 0, 0) :: kk_184_7
def kt_184 : qm_T := [(0, kk_184_0), (7, kk_184_7), (34, kk_184_34), (53, kk_184_53), (83, kk_184_83), (93, kk_184_93), (94, kk_184_94), (102, kk_184_102), (110, kk_184_110), (111, kk_184_111), (137, kk_184_137)]
theorem kc_184_137 : qm_chain 9 false (none) cX9_goStairs 137 kk_184_137 := qm_chain_of _ _ _ _ 1 _ 138 _ (by decide +kernel) trivial
theorem kc_184_111 : qm_chain 9 false (none) cX9_goStairs 111 kk_184_111 := qm_chain_of _ _ _ _ 16 _ 137 _ (by decide +kernel) kc_184_137
theorem kc_184_110 : qm_chain 9 false (none) cX9_goStairs 110 kk_184_110 := qm_chain_of _ _ _ _ 1 _ 111 _ (by decide +kernel) kc_184_111
theorem kc_184_102 : qm_chain 9 false (none) cX9_goStairs 102 kk_184_102 := qm_chain_of _ _ _ _ 6 _ 110 _ (by decide +kernel) kc_184_110
theorem kc_184_94 : qm_chain 9 false (none) cX9_goStairs 94 kk_184_94 := qm_chain_of _ _ _ _ 4 _ 102 _ (by decide +kernel) kc_184_102
theorem kc_184_93 : qm_chain 9 false (none) cX9_goStairs 93 kk_184_93 := qm_chain_of _ _ _ _ 1 _ 94 _ (by decide +kernel) kc_184_94
theorem kc_184_83 : qm_chain 9 false (none) cX9_goStairs 83 kk_184_83 := qm_chain_of _ _ _ _ 6 _ 93 _ (by decide +kernel) kc_184_93
theorem kc_184_53 : qm_chain 9 false (none) cX9_goStairs 53 kk_184_53 := qm_chain_of _ _ _ _ 16 _ 83 _ (by decide +kernel) kc_184_83
theorem kc_184_34 : qm_chain 9 false (none) cX9_goStairs 34 kk_184_34 := qm_chain_of _ _ _ _ 11 _ 53 _ (by decide +kernel) kc_184_53
theorem kc_184_7 : qm_chain 9 false (none) cX9_goStairs 7 kk_184_7 := qm_chain_of _ _ _ _ 17 _ 34 _ (by decide +kernel) kc_184_34
theorem kc_184_0 : qm_chain 9 false (none) cX9_goStairs 0 kk_184_0 := qm_chain_of _ _ _ _ 5 _ 7 _ (by decide +kernel) kc_184_7
theorem ka_184 : ∀ t : Int, 0 ≤ t → qm_chain 9 false (none) cX9_goStairs t.toNat (qm_lk kt_184 t) := qm_lk_ok (List.forall_mem_cons.mpr ⟨⟨by decide, kc_184_0⟩, List.forall_mem_cons.mpr ⟨⟨by decide, kc_184_7⟩, List.forall_mem_cons.mpr ⟨⟨by decide, kc_184_34⟩, List.forall_mem_cons.mpr ⟨⟨by decide, kc_184_53⟩, List.forall_mem_cons.mpr ⟨⟨by decide, kc_184_83⟩, List.forall_mem_cons.mpr ⟨⟨by decide, kc_184_93⟩, List.forall_mem_cons.mpr ⟨⟨by decide, kc_184_94⟩, List.forall_mem_cons.mpr ⟨⟨by decide, kc_184_102⟩, List.forall_mem_cons.mpr ⟨⟨by decide, kc_184_110⟩, List.forall_mem_cons.mpr ⟨⟨by decide, kc_184_111⟩, List.forall_mem_cons.mpr ⟨⟨by decide, kc_184_137⟩, fun _ h => absurd h List.not_mem_nil⟩⟩⟩⟩⟩⟩⟩⟩⟩⟩⟩)
theorem kg_184 : qm_G1 (yX9_goStairs, cX9_goStairs, 4, none, 9, 2) (4, kt_184) := ⟨rfl, false, (fun z => by cases z), ka_184⟩
-- 185: TowerBoardsModel.stairsLike
def kk_185_93 : List qm_I := (.aload 0, 0, 0, 0) :: (.getfield 9, 21, 0, 0) :: (.ireturn, 0, 0, 0) :: []
def kk_185_61 : List qm_I := (.iload 5, 0, 0, 0) :: (.iload 4, 0, 0, 0) :: (.if_icmp .ge 93, 0, 0, 0) :: (.aload 0, 0, 0, 0) :: (.getfield 9, 7, 0, 0) :: (.iconst 0, 0, 0, 36) :: (.iload 2, 0, 0, 0) :: (.imul, 0, 0, 0) :: (.iload 5, 0, 0, 0) :: (.iadd, 0, 0, 0) :: (.aload 0, 0, 0, 0) :: (.getfield 9, 19, 0, 0) :: (.iload 5, 0, 0, 0) :: (.iaload, 0, 0, 0) :: (.iastore, 0, 0, 0) :: (.iinc 5 0, 0, 0, 1) :: (.goto 61, 0, 0, 0) :: kk_185_93
def kk_185_16 : List qm_I := (.aload 0, 0, 0, 0) :: (.iload 1, 0, 0, 0) :: (.invokevirtual 177, 2, 9, 0) :: (.istore 4, 0, 0, 0) :: (.aload 0, 0, 0, 0) :: (.iload 1, 0, 0, 0) :: (.invokevirtual 175, 2, 9, 0) :: (.aload 0, 0, 0, 0) :: (.invokevirtual 181, 1, 9, 0) :: (.aload 0, 0, 0, 0) :: (.iconst 0, 0, 0, 0) :: (.putfield 9, 21, 0, 0) :: (.aload 0, 0, 0, 0) :: (.iconst 0, 0, 0, 0) :: (.iload 4, 0, 0, 0) :: (.invokevirtual 184, 3, 9, 0) :: (.aload 0, 0, 0, 0) :: (.getfield 9, 21, 0, 0) :: (.ifCond .le 93, 0, 0, 0) :: (.aload 0, 0, 0, 0) :: (.iload 2, 0, 0, 0) :: (.iload 4, 0, 0, 0) :: (.invokevirtual 145, 3, 9, 0) :: (.iconst 0, 0, 0, 0) :: (.istore 5, 0, 0, 0) :: kk_185_61
def kk_185_0 : List qm_I := (.aload 0, 0, 0, 0) :: (.iload 2, 0, 0, 0) :: (.invokestatic 143, 1, 0, 0) :: (.iload 1, 0, 0, 0) :: (.invokevirtual 159, 3, 9, 0) :: (.istore 3, 0, 0, 0) :: (.iload 3, 0, 0, 0) :: (.ifCond .ge 16, 0, 0, 0) :: (.iload 3, 0, 0, 0) :: (.ireturn, 0, 0, 0) :: kk_185_16
def kt_185 : qm_T := [(0, kk_185_0), (16, kk_185_16), (61, kk_185_61), (93, kk_185_93)]
theorem kc_185_93 : qm_chain 9 false (some .int) cX9_stairsLike 93 kk_185_93 := qm_chain_of _ _ _ _ 3 _ 98 _ (by decide +kernel) trivial
theorem kc_185_61 : qm_chain 9 false (some .int) cX9_stairsLike 61 kk_185_61 := qm_chain_of _ _ _ _ 17 _ 93 _ (by decide +kernel) kc_185_93
theorem kc_185_16 : qm_chain 9 false (some .int) cX9_stairsLike 16 kk_185_16 := qm_chain_of _ _ _ _ 25 _ 61 _ (by decide +kernel) kc_185_61
theorem kc_185_0 : qm_chain 9 false (some .int) cX9_stairsLike 0 kk_185_0 := qm_chain_of _ _ _ _ 10 _ 16 _ (by decide +kernel) kc_185_16
theorem ka_185 : ∀ t : Int, 0 ≤ t → qm_chain 9 false (some .int) cX9_stairsLike t.toNat (qm_lk kt_185 t) := qm_lk_ok (List.forall_mem_cons.mpr ⟨⟨by decide, kc_185_0⟩, List.forall_mem_cons.mpr ⟨⟨by decide, kc_185_16⟩, List.forall_mem_cons.mpr ⟨⟨by decide, kc_185_61⟩, List.forall_mem_cons.mpr ⟨⟨by decide, kc_185_93⟩, fun _ h => absurd h List.not_mem_nil⟩⟩⟩⟩)
theorem kg_185 : qm_G1 (yX9_stairsLike, cX9_stairsLike, 6, some .int, 9, 2) (6, kt_185) := ⟨rfl, false, (fun z => by cases z), ka_185⟩
-- 186: TowerBoardsModel.sum
def kk_186_82 : List qm_I := (.aload 0, 0, 0, 0) :: (.lload 5, 0, 0, 0) :: (.invokevirtual 138, 2, 9, 0) :: (.ireturn, 0, 0, 0) :: []
def kk_186_41 : List qm_I := (.iload 9, 0, 0, 0) :: (.iload 4, 0, 0, 0) :: (.if_icmp .gt 82, 0, 0, 0) :: (.lload 5, 0, 0, 0) :: (.aload 0, 0, 0, 0) :: (.getfield 9, 16, 0, 0) :: (.iload 4, 0, 0, 0) :: (.iload 9, 0, 0, 0) :: (.isub, 0, 0, 0) :: (.laload, 0, 0, 0) :: (.lload 7, 0, 0, 0) :: (.lmul, 0, 0, 0) :: (.ladd, 0, 0, 0) :: (.lstore 5, 0, 0, 0) :: (.lload 7, 0, 0, 0) :: (.iload 2, 0, 0, 0) :: (.iload 9, 0, 0, 0) :: (.isub, 0, 0, 0) :: (.i2l, 0, 0, 0) :: (.lmul, 0, 0, 0) :: (.lstore 7, 0, 0, 0) :: (.iinc 9 0, 0, 0, 1) :: (.goto 41, 0, 0, 0) :: kk_186_82
def kk_186_20 : List qm_I := (.aload 0, 0, 0, 0) :: (.iload 1, 0, 0, 0) :: (.invokevirtual 177, 2, 9, 0) :: (.istore 4, 0, 0, 0) :: (.aload 0, 0, 0, 0) :: (.iload 1, 0, 0, 0) :: (.invokevirtual 175, 2, 9, 0) :: (.lconst 0, 0, 0, 0) :: (.lstore 5, 0, 0, 0) :: (.lconst 0, 0, 0, 1) :: (.lstore 7, 0, 0, 0) :: (.iconst 0, 0, 0, 0) :: (.istore 9, 0, 0, 0) :: kk_186_41
def kk_186_0 : List qm_I := (.aload 0, 0, 0, 0) :: (.iload 2, 0, 0, 0) :: (.iconst 0, 0, 0, -50) :: (.iconst 0, 0, 0, 50) :: (.invokestatic 131, 3, 0, 0) :: (.iload 1, 0, 0, 0) :: (.invokevirtual 159, 3, 9, 0) :: (.istore 3, 0, 0, 0) :: (.iload 3, 0, 0, 0) :: (.ifCond .ge 20, 0, 0, 0) :: (.iload 3, 0, 0, 0) :: (.ireturn, 0, 0, 0) :: kk_186_20
def kt_186 : qm_T := [(0, kk_186_0), (20, kk_186_20), (41, kk_186_41), (82, kk_186_82)]
theorem kc_186_82 : qm_chain 9 false (some .int) cX9_sum 82 kk_186_82 := qm_chain_of _ _ _ _ 4 _ 89 _ (by decide +kernel) trivial
theorem kc_186_41 : qm_chain 9 false (some .int) cX9_sum 41 kk_186_41 := qm_chain_of _ _ _ _ 23 _ 82 _ (by decide +kernel) kc_186_82
theorem kc_186_20 : qm_chain 9 false (some .int) cX9_sum 20 kk_186_20 := qm_chain_of _ _ _ _ 13 _ 41 _ (by decide +kernel) kc_186_41
theorem kc_186_0 : qm_chain 9 false (some .int) cX9_sum 0 kk_186_0 := qm_chain_of _ _ _ _ 12 _ 20 _ (by decide +kernel) kc_186_20
theorem ka_186 : ∀ t : Int, 0 ≤ t → qm_chain 9 false (some .int) cX9_sum t.toNat (qm_lk kt_186 t) := qm_lk_ok (List.forall_mem_cons.mpr ⟨⟨by decide, kc_186_0⟩, List.forall_mem_cons.mpr ⟨⟨by decide, kc_186_20⟩, List.forall_mem_cons.mpr ⟨⟨by decide, kc_186_41⟩, List.forall_mem_cons.mpr ⟨⟨by decide, kc_186_82⟩, fun _ h => absurd h List.not_mem_nil⟩⟩⟩⟩)
theorem kg_186 : qm_G1 (yX9_sum, cX9_sum, 10, some .int, 9, 2) (10, kt_186) := ⟨rfl, false, (fun z => by cases z), ka_186⟩
-- 187: TowerBoardsModel.root
def kk_187_84 : List qm_I := (.ireturn, 0, 0, 0) :: []
def kk_187_79 : List qm_I := (.aload 0, 0, 0, 0) :: (.iconst 0, 0, 0, 2) :: (.invokevirtual 134, 2, 9, 0) :: kk_187_84
def kk_187_44 : List qm_I := (.iload 2, 0, 0, 0) :: (.iconst 0, 0, 0, 0) :: (.aload 0, 0, 0, 0) :: (.getfield 9, 10, 0, 0) :: (.iload 1, 0, 0, 0) :: (.iaload, 0, 0, 0) :: (.iconst 0, 0, 0, 1) :: (.isub, 0, 0, 0) :: (.invokestatic 131, 3, 0, 0) :: (.ifCond .eq 79, 0, 0, 0) :: (.aload 0, 0, 0, 0) :: (.iload 2, 0, 0, 0) :: (.aload 0, 0, 0, 0) :: (.iload 1, 0, 0, 0) :: (.iload 2, 0, 0, 0) :: (.invokevirtual 152, 3, 9, 0) :: (.invokestatic 133, 1, 0, 0) :: (.isub, 0, 0, 0) :: (.iconst 0, 0, 0, 1) :: (.invokevirtual 137, 3, 9, 0) :: (.goto 84, 0, 0, 0) :: kk_187_79
def kk_187_38 : List qm_I := (.aload 0, 0, 0, 0) :: (.iconst 0, 0, 0, 3) :: (.invokevirtual 134, 2, 9, 0) :: (.ireturn, 0, 0, 0) :: kk_187_44
def kk_187_13 : List qm_I := (.aload 0, 0, 0, 0) :: (.getfield 9, 9, 0, 0) :: (.iload 1, 0, 0, 0) :: (.iaload, 0, 0, 0) :: (.iconst 0, 0, 0, 1) :: (.if_icmp .ne 38, 0, 0, 0) :: (.aload 0, 0, 0, 0) :: (.getfield 9, 11, 0, 0) :: (.iload 1, 0, 0, 0) :: (.iaload, 0, 0, 0) :: (.aload 0, 0, 0, 0) :: (.getfield 9, 10, 0, 0) :: (.iload 1, 0, 0, 0) :: (.iaload, 0, 0, 0) :: (.if_icmp .le 44, 0, 0, 0) :: kk_187_38
def kk_187_0 : List qm_I := (.aload 0, 0, 0, 0) :: (.iconst 0, 0, 0, 1) :: (.iload 1, 0, 0, 0) :: (.invokevirtual 159, 3, 9, 0) :: (.istore 3, 0, 0, 0) :: (.iload 3, 0, 0, 0) :: (.ifCond .ge 13, 0, 0, 0) :: (.iload 3, 0, 0, 0) :: (.ireturn, 0, 0, 0) :: kk_187_13
def kt_187 : qm_T := [(0, kk_187_0), (13, kk_187_13), (38, kk_187_38), (44, kk_187_44), (79, kk_187_79), (84, kk_187_84)]
theorem kc_187_84 : qm_chain 9 false (some .int) cX9_root 84 kk_187_84 := qm_chain_of _ _ _ _ 1 _ 85 _ (by decide +kernel) trivial
theorem kc_187_79 : qm_chain 9 false (some .int) cX9_root 79 kk_187_79 := qm_chain_of _ _ _ _ 3 _ 84 _ (by decide +kernel) kc_187_84
theorem kc_187_44 : qm_chain 9 false (some .int) cX9_root 44 kk_187_44 := qm_chain_of _ _ _ _ 21 _ 79 _ (by decide +kernel) kc_187_79
theorem kc_187_38 : qm_chain 9 false (some .int) cX9_root 38 kk_187_38 := qm_chain_of _ _ _ _ 4 _ 44 _ (by decide +kernel) kc_187_44
theorem kc_187_13 : qm_chain 9 false (some .int) cX9_root 13 kk_187_13 := qm_chain_of _ _ _ _ 15 _ 38 _ (by decide +kernel) kc_187_38
theorem kc_187_0 : qm_chain 9 false (some .int) cX9_root 0 kk_187_0 := qm_chain_of _ _ _ _ 9 _ 13 _ (by decide +kernel) kc_187_13
theorem ka_187 : ∀ t : Int, 0 ≤ t → qm_chain 9 false (some .int) cX9_root t.toNat (qm_lk kt_187 t) := qm_lk_ok (List.forall_mem_cons.mpr ⟨⟨by decide, kc_187_0⟩, List.forall_mem_cons.mpr ⟨⟨by decide, kc_187_13⟩, List.forall_mem_cons.mpr ⟨⟨by decide, kc_187_38⟩, List.forall_mem_cons.mpr ⟨⟨by decide, kc_187_44⟩, List.forall_mem_cons.mpr ⟨⟨by decide, kc_187_79⟩, List.forall_mem_cons.mpr ⟨⟨by decide, kc_187_84⟩, fun _ h => absurd h List.not_mem_nil⟩⟩⟩⟩⟩⟩)
theorem kg_187 : qm_G1 (yX9_root, cX9_root, 4, some .int, 9, 2) (4, kt_187) := ⟨rfl, false, (fun z => by cases z), ka_187⟩
-- 188: TowerBoardsModel.goStands
def kk_188_92 : List qm_I := (.aload 0, 0, 0, 0) :: (.getfield 9, 22, 0, 0) :: (.iload 2, 0, 0, 0) :: (.iconst 0, 0, 0, -9) :: (.iastore, 0, 0, 0) :: (.aload 0, 0, 0, 0) :: (.iload 1, 0, 0, 0) :: (.iload 2, 0, 0, 0) :: (.iconst 0, 0, 0, 1) :: (.iadd, 0, 0, 0) :: (.iload 3, 0, 0, 0) :: (.iload 4, 0, 0, 0) :: (.invokevirtual 188, 5, 9, 0) :: (.return_, 0, 0, 0) :: []
def kk_188_86 : List qm_I := (.iinc 5 0, 0, 0, 1) :: (.goto 24, 0, 0, 0) :: kk_188_92
def kk_188_24 : List qm_I := (.iload 5, 0, 0, 0) :: (.aload 0, 0, 0, 0) :: (.getfield 9, 11, 0, 0) :: (.iload 1, 0, 0, 0) :: (.iaload, 0, 0, 0) :: (.if_icmp .ge 92, 0, 0, 0) :: (.iload 4, 0, 0, 0) :: (.ifCond .le 92, 0, 0, 0) :: (.aload 0, 0, 0, 0) :: (.iload 1, 0, 0, 0) :: (.iload 2, 0, 0, 0) :: (.iload 5, 0, 0, 0) :: (.invokevirtual 166, 4, 9, 0) :: (.ifCond .eq 86, 0, 0, 0) :: (.iload 3, 0, 0, 0) :: (.iload 5, 0, 0, 0) :: (.invokestatic 132, 2, 0, 0) :: (.ifCond .ne 86, 0, 0, 0) :: (.aload 0, 0, 0, 0) :: (.getfield 9, 22, 0, 0) :: (.iload 2, 0, 0, 0) :: (.iload 5, 0, 0, 0) :: (.iastore, 0, 0, 0) :: (.aload 0, 0, 0, 0) :: (.iload 1, 0, 0, 0) :: (.iload 2, 0, 0, 0) :: (.iconst 0, 0, 0, 1) :: (.iadd, 0, 0, 0) :: (.iload 3, 0, 0, 0) :: (.iconst 0, 0, 0, 1) :: (.iload 5, 0, 0, 0) :: (.ishl, 0, 0, 0) :: (.ior, 0, 0, 0) :: (.iload 4, 0, 0, 0) :: (.iconst 0, 0, 0, 1) :: (.isub, 0, 0, 0) :: (.invokevirtual 188, 5, 9, 0) :: kk_188_86
def kk_188_21 : List qm_I := (.iconst 0, 0, 0, 0) :: (.istore 5, 0, 0, 0) :: kk_188_24
def kk_188_20 : List qm_I := (.return_, 0, 0, 0) :: kk_188_21
def kk_188_0 : List qm_I := (.iload 2, 0, 0, 0) :: (.aload 0, 0, 0, 0) :: (.getfield 9, 10, 0, 0) :: (.iload 1, 0, 0, 0) :: (.iaload, 0, 0, 0) :: (.if_icmp .ne 21, 0, 0, 0) :: (.iload 4, 0, 0, 0) :: (.ifCond .ne 20, 0, 0, 0) :: (.aload 0, 0, 0, 0) :: (.iload 1, 0, 0, 0) :: (.invokevirtual 193, 2, 9, 0) :: kk_188_20
def kt_188 : qm_T := [(0, kk_188_0), (20, kk_188_20), (21, kk_188_21), (24, kk_188_24), (86, kk_188_86), (92, kk_188_92)]
theorem kc_188_92 : qm_chain 9 false (none) cX9_goStands 92 kk_188_92 := qm_chain_of _ _ _ _ 14 _ 112 _ (by decide +kernel) trivial
theorem kc_188_86 : qm_chain 9 false (none) cX9_goStands 86 kk_188_86 := qm_chain_of _ _ _ _ 2 _ 92 _ (by decide +kernel) kc_188_92
theorem kc_188_24 : qm_chain 9 false (none) cX9_goStands 24 kk_188_24 := qm_chain_of _ _ _ _ 37 _ 86 _ (by decide +kernel) kc_188_86
theorem kc_188_21 : qm_chain 9 false (none) cX9_goStands 21 kk_188_21 := qm_chain_of _ _ _ _ 2 _ 24 _ (by decide +kernel) kc_188_24
theorem kc_188_20 : qm_chain 9 false (none) cX9_goStands 20 kk_188_20 := qm_chain_of _ _ _ _ 1 _ 21 _ (by decide +kernel) kc_188_21
theorem kc_188_0 : qm_chain 9 false (none) cX9_goStands 0 kk_188_0 := qm_chain_of _ _ _ _ 11 _ 20 _ (by decide +kernel) kc_188_20
theorem ka_188 : ∀ t : Int, 0 ≤ t → qm_chain 9 false (none) cX9_goStands t.toNat (qm_lk kt_188 t) := qm_lk_ok (List.forall_mem_cons.mpr ⟨⟨by decide, kc_188_0⟩, List.forall_mem_cons.mpr ⟨⟨by decide, kc_188_20⟩, List.forall_mem_cons.mpr ⟨⟨by decide, kc_188_21⟩, List.forall_mem_cons.mpr ⟨⟨by decide, kc_188_24⟩, List.forall_mem_cons.mpr ⟨⟨by decide, kc_188_86⟩, List.forall_mem_cons.mpr ⟨⟨by decide, kc_188_92⟩, fun _ h => absurd h List.not_mem_nil⟩⟩⟩⟩⟩⟩)
theorem kg_188 : qm_G1 (yX9_goStands, cX9_goStands, 6, none, 9, 4) (6, kt_188) := ⟨rfl, false, (fun z => by cases z), ka_188⟩
-- 189: TowerBoardsModel.freeNow
def kk_189_127 : List qm_I := (.iload 2, 0, 0, 0) :: (.ireturn, 0, 0, 0) :: []
def kk_189_121 : List qm_I := (.iinc 4 0, 0, 0, 1) :: (.goto 7, 0, 0, 0) :: kk_189_127
def kk_189_113 : List qm_I := (.iadd, 0, 0, 0) :: (.istore 2, 0, 0, 0) :: (.iinc 6 0, 0, 0, 1) :: (.goto 79, 0, 0, 0) :: kk_189_121
def kk_189_112 : List qm_I := (.iconst 0, 0, 0, 0) :: kk_189_113
def kk_189_79 : List qm_I := (.iload 6, 0, 0, 0) :: (.iload 5, 0, 0, 0) :: (.if_icmp .ge 121, 0, 0, 0) :: (.iload 2, 0, 0, 0) :: (.aload 0, 0, 0, 0) :: (.iload 1, 0, 0, 0) :: (.iload 4, 0, 0, 0) :: (.iload 6, 0, 0, 0) :: (.invokevirtual 166, 4, 9, 0) :: (.ifCond .eq 112, 0, 0, 0) :: (.iload 3, 0, 0, 0) :: (.iload 6, 0, 0, 0) :: (.invokestatic 132, 2, 0, 0) :: (.ifCond .ne 112, 0, 0, 0) :: (.iconst 0, 0, 0, 1) :: (.goto 113, 0, 0, 0) :: kk_189_112
def kk_189_74 : List qm_I := (.ior, 0, 0, 0) :: (.istore 3, 0, 0, 0) :: (.iconst 0, 0, 0, 0) :: (.istore 6, 0, 0, 0) :: kk_189_79
def kk_189_65 : List qm_I := (.iconst 0, 0, 0, 1) :: (.aload 0, 0, 0, 0) :: (.getfield 9, 22, 0, 0) :: (.iload 4, 0, 0, 0) :: (.iaload, 0, 0, 0) :: (.ishl, 0, 0, 0) :: kk_189_74
def kk_189_46 : List qm_I := (.istore 5, 0, 0, 0) :: (.iload 3, 0, 0, 0) :: (.aload 0, 0, 0, 0) :: (.getfield 9, 22, 0, 0) :: (.iload 4, 0, 0, 0) :: (.iaload, 0, 0, 0) :: (.iconst 0, 0, 0, -9) :: (.if_icmp .ne 65, 0, 0, 0) :: (.iconst 0, 0, 0, 0) :: (.goto 74, 0, 0, 0) :: kk_189_65
def kk_189_39 : List qm_I := (.aload 0, 0, 0, 0) :: (.getfield 9, 22, 0, 0) :: (.iload 4, 0, 0, 0) :: (.iaload, 0, 0, 0) :: kk_189_46
def kk_189_7 : List qm_I := (.iload 4, 0, 0, 0) :: (.aload 0, 0, 0, 0) :: (.getfield 9, 10, 0, 0) :: (.iload 1, 0, 0, 0) :: (.iaload, 0, 0, 0) :: (.if_icmp .ge 127, 0, 0, 0) :: (.aload 0, 0, 0, 0) :: (.getfield 9, 22, 0, 0) :: (.iload 4, 0, 0, 0) :: (.iaload, 0, 0, 0) :: (.iconst 0, 0, 0, -9) :: (.if_icmp .ne 39, 0, 0, 0) :: (.aload 0, 0, 0, 0) :: (.getfield 9, 11, 0, 0) :: (.iload 1, 0, 0, 0) :: (.iaload, 0, 0, 0) :: (.goto 46, 0, 0, 0) :: kk_189_39
def kk_189_0 : List qm_I := (.iconst 0, 0, 0, 0) :: (.istore 2, 0, 0, 0) :: (.iconst 0, 0, 0, 0) :: (.istore 3, 0, 0, 0) :: (.iconst 0, 0, 0, 0) :: (.istore 4, 0, 0, 0) :: kk_189_7
def kt_189 : qm_T := [(0, kk_189_0), (7, kk_189_7), (39, kk_189_39), (46, kk_189_46), (65, kk_189_65), (74, kk_189_74), (79, kk_189_79), (112, kk_189_112), (113, kk_189_113), (121, kk_189_121), (127, kk_189_127)]
theorem kc_189_127 : qm_chain 9 false (some .int) cX9_freeNow 127 kk_189_127 := qm_chain_of _ _ _ _ 2 _ 129 _ (by decide +kernel) trivial
theorem kc_189_121 : qm_chain 9 false (some .int) cX9_freeNow 121 kk_189_121 := qm_chain_of _ _ _ _ 2 _ 127 _ (by decide +kernel) kc_189_127
theorem kc_189_113 : qm_chain 9 false (some .int) cX9_freeNow 113 kk_189_113 := qm_chain_of _ _ _ _ 4 _ 121 _ (by decide +kernel) kc_189_121
theorem kc_189_112 : qm_chain 9 false (some .int) cX9_freeNow 112 kk_189_112 := qm_chain_of _ _ _ _ 1 _ 113 _ (by decide +kernel) kc_189_113
theorem kc_189_79 : qm_chain 9 false (some .int) cX9_freeNow 79 kk_189_79 := qm_chain_of _ _ _ _ 16 _ 112 _ (by decide +kernel) kc_189_112
theorem kc_189_74 : qm_chain 9 false (some .int) cX9_freeNow 74 kk_189_74 := qm_chain_of _ _ _ _ 4 _ 79 _ (by decide +kernel) kc_189_79
theorem kc_189_65 : qm_chain 9 false (some .int) cX9_freeNow 65 kk_189_65 := qm_chain_of _ _ _ _ 6 _ 74 _ (by decide +kernel) kc_189_74
theorem kc_189_46 : qm_chain 9 false (some .int) cX9_freeNow 46 kk_189_46 := qm_chain_of _ _ _ _ 10 _ 65 _ (by decide +kernel) kc_189_65
theorem kc_189_39 : qm_chain 9 false (some .int) cX9_freeNow 39 kk_189_39 := qm_chain_of _ _ _ _ 4 _ 46 _ (by decide +kernel) kc_189_46
theorem kc_189_7 : qm_chain 9 false (some .int) cX9_freeNow 7 kk_189_7 := qm_chain_of _ _ _ _ 17 _ 39 _ (by decide +kernel) kc_189_39
theorem kc_189_0 : qm_chain 9 false (some .int) cX9_freeNow 0 kk_189_0 := qm_chain_of _ _ _ _ 6 _ 7 _ (by decide +kernel) kc_189_7
theorem ka_189 : ∀ t : Int, 0 ≤ t → qm_chain 9 false (some .int) cX9_freeNow t.toNat (qm_lk kt_189 t) := qm_lk_ok (List.forall_mem_cons.mpr ⟨⟨by decide, kc_189_0⟩, List.forall_mem_cons.mpr ⟨⟨by decide, kc_189_7⟩, List.forall_mem_cons.mpr ⟨⟨by decide, kc_189_39⟩, List.forall_mem_cons.mpr ⟨⟨by decide, kc_189_46⟩, List.forall_mem_cons.mpr ⟨⟨by decide, kc_189_65⟩, List.forall_mem_cons.mpr ⟨⟨by decide, kc_189_74⟩, List.forall_mem_cons.mpr ⟨⟨by decide, kc_189_79⟩, List.forall_mem_cons.mpr ⟨⟨by decide, kc_189_112⟩, List.forall_mem_cons.mpr ⟨⟨by decide, kc_189_113⟩, List.forall_mem_cons.mpr ⟨⟨by decide, kc_189_121⟩, List.forall_mem_cons.mpr ⟨⟨by decide, kc_189_127⟩, fun _ h => absurd h List.not_mem_nil⟩⟩⟩⟩⟩⟩⟩⟩⟩⟩⟩)
theorem kg_189 : qm_G1 (yX9_freeNow, cX9_freeNow, 7, some .int, 9, 1) (7, kt_189) := ⟨rfl, false, (fun z => by cases z), ka_189⟩
-- 190: TowerBoardsModel.ringFrom
def kk_190_67 : List qm_I := (.ireturn, 0, 0, 0) :: []
def kk_190_66 : List qm_I := (.iconst 0, 0, 0, 0) :: kk_190_67
def kk_190_56 : List qm_I := (.iload 4, 0, 0, 0) :: (.iload 2, 0, 0, 0) :: (.if_icmp .ne 66, 0, 0, 0) :: (.iload 3, 0, 0, 0) :: (.goto 67, 0, 0, 0) :: kk_190_66
def kk_190_15 : List qm_I := (.iload 5, 0, 0, 0) :: (.iload 1, 0, 0, 0) :: (.if_icmp .ge 56, 0, 0, 0) :: (.iload 4, 0, 0, 0) :: (.iconst 0, 0, 0, -9) :: (.if_icmp .eq 56, 0, 0, 0) :: (.iload 4, 0, 0, 0) :: (.iload 2, 0, 0, 0) :: (.if_icmp .eq 56, 0, 0, 0) :: (.iload 3, 0, 0, 0) :: (.iconst 0, 0, 0, 1) :: (.iload 4, 0, 0, 0) :: (.ishl, 0, 0, 0) :: (.ior, 0, 0, 0) :: (.istore 3, 0, 0, 0) :: (.aload 0, 0, 0, 0) :: (.getfield 9, 22, 0, 0) :: (.iload 4, 0, 0, 0) :: (.iaload, 0, 0, 0) :: (.istore 4, 0, 0, 0) :: (.iinc 5 0, 0, 0, 1) :: (.goto 15, 0, 0, 0) :: kk_190_56
def kk_190_0 : List qm_I := (.iconst 0, 0, 0, 1) :: (.iload 2, 0, 0, 0) :: (.ishl, 0, 0, 0) :: (.istore 3, 0, 0, 0) :: (.aload 0, 0, 0, 0) :: (.getfield 9, 22, 0, 0) :: (.iload 2, 0, 0, 0) :: (.iaload, 0, 0, 0) :: (.istore 4, 0, 0, 0) :: (.iconst 0, 0, 0, 0) :: (.istore 5, 0, 0, 0) :: kk_190_15
def kt_190 : qm_T := [(0, kk_190_0), (15, kk_190_15), (56, kk_190_56), (66, kk_190_66), (67, kk_190_67)]
theorem kc_190_67 : qm_chain 9 false (some .int) cX9_ringFrom 67 kk_190_67 := qm_chain_of _ _ _ _ 1 _ 68 _ (by decide +kernel) trivial
theorem kc_190_66 : qm_chain 9 false (some .int) cX9_ringFrom 66 kk_190_66 := qm_chain_of _ _ _ _ 1 _ 67 _ (by decide +kernel) kc_190_67
theorem kc_190_56 : qm_chain 9 false (some .int) cX9_ringFrom 56 kk_190_56 := qm_chain_of _ _ _ _ 5 _ 66 _ (by decide +kernel) kc_190_66
theorem kc_190_15 : qm_chain 9 false (some .int) cX9_ringFrom 15 kk_190_15 := qm_chain_of _ _ _ _ 22 _ 56 _ (by decide +kernel) kc_190_56
theorem kc_190_0 : qm_chain 9 false (some .int) cX9_ringFrom 0 kk_190_0 := qm_chain_of _ _ _ _ 11 _ 15 _ (by decide +kernel) kc_190_15
theorem ka_190 : ∀ t : Int, 0 ≤ t → qm_chain 9 false (some .int) cX9_ringFrom t.toNat (qm_lk kt_190 t) := qm_lk_ok (List.forall_mem_cons.mpr ⟨⟨by decide, kc_190_0⟩, List.forall_mem_cons.mpr ⟨⟨by decide, kc_190_15⟩, List.forall_mem_cons.mpr ⟨⟨by decide, kc_190_56⟩, List.forall_mem_cons.mpr ⟨⟨by decide, kc_190_66⟩, List.forall_mem_cons.mpr ⟨⟨by decide, kc_190_67⟩, fun _ h => absurd h List.not_mem_nil⟩⟩⟩⟩⟩)
theorem kg_190 : qm_G1 (yX9_ringFrom, cX9_ringFrom, 6, some .int, 9, 2) (6, kt_190) := ⟨rfl, false, (fun z => by cases z), ka_190⟩
-- 191: TowerBoardsModel.ringsNow
def kk_191_72 : List qm_I := (.iload 3, 0, 0, 0) :: (.ireturn, 0, 0, 0) :: []
def kk_191_57 : List qm_I := (.iadd, 0, 0, 0) :: (.istore 3, 0, 0, 0) :: (.iload 4, 0, 0, 0) :: (.iload 6, 0, 0, 0) :: (.ior, 0, 0, 0) :: (.istore 4, 0, 0, 0) :: (.iinc 5 0, 0, 0, 1) :: (.goto 8, 0, 0, 0) :: kk_191_72
def kk_191_56 : List qm_I := (.iconst 0, 0, 0, 0) :: kk_191_57
def kk_191_35 : List qm_I := (.istore 6, 0, 0, 0) :: (.iload 3, 0, 0, 0) :: (.iload 6, 0, 0, 0) :: (.ifCond .eq 56, 0, 0, 0) :: (.iload 6, 0, 0, 0) :: (.invokestatic 133, 1, 0, 0) :: (.iload 2, 0, 0, 0) :: (.if_icmp .ge 56, 0, 0, 0) :: (.iconst 0, 0, 0, 1) :: (.goto 57, 0, 0, 0) :: kk_191_56
def kk_191_28 : List qm_I := (.aload 0, 0, 0, 0) :: (.iload 1, 0, 0, 0) :: (.iload 5, 0, 0, 0) :: (.invokevirtual 190, 3, 9, 0) :: kk_191_35
def kk_191_8 : List qm_I := (.iload 5, 0, 0, 0) :: (.iload 1, 0, 0, 0) :: (.if_icmp .ge 72, 0, 0, 0) :: (.iload 4, 0, 0, 0) :: (.iload 5, 0, 0, 0) :: (.invokestatic 132, 2, 0, 0) :: (.ifCond .eq 28, 0, 0, 0) :: (.iconst 0, 0, 0, 0) :: (.goto 35, 0, 0, 0) :: kk_191_28
def kk_191_0 : List qm_I := (.iconst 0, 0, 0, 0) :: (.istore 3, 0, 0, 0) :: (.iconst 0, 0, 0, 0) :: (.istore 4, 0, 0, 0) :: (.iconst 0, 0, 0, 0) :: (.istore 5, 0, 0, 0) :: kk_191_8
def kt_191 : qm_T := [(0, kk_191_0), (8, kk_191_8), (28, kk_191_28), (35, kk_191_35), (56, kk_191_56), (57, kk_191_57), (72, kk_191_72)]
theorem kc_191_72 : qm_chain 9 false (some .int) cX9_ringsNow 72 kk_191_72 := qm_chain_of _ _ _ _ 2 _ 74 _ (by decide +kernel) trivial
theorem kc_191_57 : qm_chain 9 false (some .int) cX9_ringsNow 57 kk_191_57 := qm_chain_of _ _ _ _ 8 _ 72 _ (by decide +kernel) kc_191_72
theorem kc_191_56 : qm_chain 9 false (some .int) cX9_ringsNow 56 kk_191_56 := qm_chain_of _ _ _ _ 1 _ 57 _ (by decide +kernel) kc_191_57
theorem kc_191_35 : qm_chain 9 false (some .int) cX9_ringsNow 35 kk_191_35 := qm_chain_of _ _ _ _ 10 _ 56 _ (by decide +kernel) kc_191_56
theorem kc_191_28 : qm_chain 9 false (some .int) cX9_ringsNow 28 kk_191_28 := qm_chain_of _ _ _ _ 4 _ 35 _ (by decide +kernel) kc_191_35
theorem kc_191_8 : qm_chain 9 false (some .int) cX9_ringsNow 8 kk_191_8 := qm_chain_of _ _ _ _ 9 _ 28 _ (by decide +kernel) kc_191_28
theorem kc_191_0 : qm_chain 9 false (some .int) cX9_ringsNow 0 kk_191_0 := qm_chain_of _ _ _ _ 6 _ 8 _ (by decide +kernel) kc_191_8
theorem ka_191 : ∀ t : Int, 0 ≤ t → qm_chain 9 false (some .int) cX9_ringsNow t.toNat (qm_lk kt_191 t) := qm_lk_ok (List.forall_mem_cons.mpr ⟨⟨by decide, kc_191_0⟩, List.forall_mem_cons.mpr ⟨⟨by decide, kc_191_8⟩, List.forall_mem_cons.mpr ⟨⟨by decide, kc_191_28⟩, List.forall_mem_cons.mpr ⟨⟨by decide, kc_191_35⟩, List.forall_mem_cons.mpr ⟨⟨by decide, kc_191_56⟩, List.forall_mem_cons.mpr ⟨⟨by decide, kc_191_57⟩, List.forall_mem_cons.mpr ⟨⟨by decide, kc_191_72⟩, fun _ h => absurd h List.not_mem_nil⟩⟩⟩⟩⟩⟩⟩)
theorem kg_191 : qm_G1 (yX9_ringsNow, cX9_ringsNow, 7, some .int, 9, 2) (7, kt_191) := ⟨rfl, false, (fun z => by cases z), ka_191⟩
-- 192: TowerBoardsModel.weightNow
def kk_192_61 : List qm_I := (.iload 2, 0, 0, 0) :: (.ireturn, 0, 0, 0) :: []
def kk_192_53 : List qm_I := (.iadd, 0, 0, 0) :: (.istore 2, 0, 0, 0) :: (.iinc 3 0, 0, 0, 1) :: (.goto 4, 0, 0, 0) :: kk_192_61
def kk_192_30 : List qm_I := (.aload 0, 0, 0, 0) :: (.aload 0, 0, 0, 0) :: (.getfield 9, 27, 0, 0) :: (.aload 0, 0, 0, 0) :: (.getfield 9, 11, 0, 0) :: (.iload 1, 0, 0, 0) :: (.iaload, 0, 0, 0) :: (.iload 3, 0, 0, 0) :: (.imul, 0, 0, 0) :: (.aload 0, 0, 0, 0) :: (.getfield 9, 22, 0, 0) :: (.iload 3, 0, 0, 0) :: (.iaload, 0, 0, 0) :: (.iadd, 0, 0, 0) :: (.invokevirtual 144, 3, 9, 0) :: kk_192_53
def kk_192_4 : List qm_I := (.iload 3, 0, 0, 0) :: (.aload 0, 0, 0, 0) :: (.getfield 9, 10, 0, 0) :: (.iload 1, 0, 0, 0) :: (.iaload, 0, 0, 0) :: (.if_icmp .ge 61, 0, 0, 0) :: (.iload 2, 0, 0, 0) :: (.aload 0, 0, 0, 0) :: (.getfield 9, 22, 0, 0) :: (.iload 3, 0, 0, 0) :: (.iaload, 0, 0, 0) :: (.iconst 0, 0, 0, -9) :: (.if_icmp .ne 30, 0, 0, 0) :: (.iconst 0, 0, 0, 0) :: (.goto 53, 0, 0, 0) :: kk_192_30
def kk_192_0 : List qm_I := (.iconst 0, 0, 0, 0) :: (.istore 2, 0, 0, 0) :: (.iconst 0, 0, 0, 0) :: (.istore 3, 0, 0, 0) :: kk_192_4
def kt_192 : qm_T := [(0, kk_192_0), (4, kk_192_4), (30, kk_192_30), (53, kk_192_53), (61, kk_192_61)]
theorem kc_192_61 : qm_chain 9 false (some .int) cX9_weightNow 61 kk_192_61 := qm_chain_of _ _ _ _ 2 _ 63 _ (by decide +kernel) trivial
theorem kc_192_53 : qm_chain 9 false (some .int) cX9_weightNow 53 kk_192_53 := qm_chain_of _ _ _ _ 4 _ 61 _ (by decide +kernel) kc_192_61
theorem kc_192_30 : qm_chain 9 false (some .int) cX9_weightNow 30 kk_192_30 := qm_chain_of _ _ _ _ 15 _ 53 _ (by decide +kernel) kc_192_53
theorem kc_192_4 : qm_chain 9 false (some .int) cX9_weightNow 4 kk_192_4 := qm_chain_of _ _ _ _ 15 _ 30 _ (by decide +kernel) kc_192_30
theorem kc_192_0 : qm_chain 9 false (some .int) cX9_weightNow 0 kk_192_0 := qm_chain_of _ _ _ _ 4 _ 4 _ (by decide +kernel) kc_192_4
theorem ka_192 : ∀ t : Int, 0 ≤ t → qm_chain 9 false (some .int) cX9_weightNow t.toNat (qm_lk kt_192 t) := qm_lk_ok (List.forall_mem_cons.mpr ⟨⟨by decide, kc_192_0⟩, List.forall_mem_cons.mpr ⟨⟨by decide, kc_192_4⟩, List.forall_mem_cons.mpr ⟨⟨by decide, kc_192_30⟩, List.forall_mem_cons.mpr ⟨⟨by decide, kc_192_53⟩, List.forall_mem_cons.mpr ⟨⟨by decide, kc_192_61⟩, fun _ h => absurd h List.not_mem_nil⟩⟩⟩⟩⟩)
theorem kg_192 : qm_G1 (yX9_weightNow, cX9_weightNow, 4, some .int, 9, 1) (4, kt_192) := ⟨rfl, false, (fun z => by cases z), ka_192⟩
-- 193: TowerBoardsModel.look
def kk_193_315 : List qm_I := (.return_, 0, 0, 0) :: []
def kk_193_311 : List qm_I := (.ladd, 0, 0, 0) :: (.putfield 9, 29, 1, 0) :: kk_193_315
def kk_193_310 : List qm_I := (.lconst 0, 0, 0, 0) :: kk_193_311
def kk_193_294 : List qm_I := (.putfield 9, 31, 0, 0) :: (.aload 0, 0, 0, 0) :: (.dup, 0, 0, 0) :: (.getfield 9, 29, 0, 0) :: (.iload 2, 0, 0, 0) :: (.ifCond .eq 310, 0, 0, 0) :: (.lconst 0, 0, 0, 1) :: (.goto 311, 0, 0, 0) :: kk_193_310
def kk_193_290 : List qm_I := (.aload 0, 0, 0, 0) :: (.getfield 9, 31, 0, 0) :: kk_193_294
def kk_193_286 : List qm_I := (.iload 3, 0, 0, 0) :: (.goto 294, 0, 0, 0) :: kk_193_290
def kk_193_261 : List qm_I := (.putfield 9, 30, 0, 0) :: (.aload 0, 0, 0, 0) :: (.iload 2, 0, 0, 0) :: (.ifCond .eq 290, 0, 0, 0) :: (.aload 0, 0, 0, 0) :: (.getfield 9, 29, 0, 0) :: (.lconst 0, 0, 0, 0) :: (.lcmp, 0, 0, 0) :: (.ifCond .eq 286, 0, 0, 0) :: (.iload 3, 0, 0, 0) :: (.aload 0, 0, 0, 0) :: (.getfield 9, 31, 0, 0) :: (.if_icmp .ge 290, 0, 0, 0) :: kk_193_286
def kk_193_257 : List qm_I := (.aload 0, 0, 0, 0) :: (.getfield 9, 30, 0, 0) :: kk_193_261
def kk_193_232 : List qm_I := (.putfield 9, 28, 1, 0) :: (.aload 0, 0, 0, 0) :: (.aload 0, 0, 0, 0) :: (.getfield 9, 28, 0, 0) :: (.lconst 0, 0, 0, 1) :: (.lcmp, 0, 0, 0) :: (.ifCond .ne 257, 0, 0, 0) :: (.iload 3, 0, 0, 0) :: (.aload 0, 0, 0, 0) :: (.getfield 9, 30, 0, 0) :: (.if_icmp .ge 257, 0, 0, 0) :: (.iload 3, 0, 0, 0) :: (.goto 261, 0, 0, 0) :: kk_193_257
def kk_193_228 : List qm_I := (.aload 0, 0, 0, 0) :: (.getfield 9, 28, 0, 0) :: kk_193_232
def kk_193_211 : List qm_I := (.iload 3, 0, 0, 0) :: (.aload 0, 0, 0, 0) :: (.getfield 9, 30, 0, 0) :: (.if_icmp .ne 228, 0, 0, 0) :: (.aload 0, 0, 0, 0) :: (.getfield 9, 28, 0, 0) :: (.lconst 0, 0, 0, 1) :: (.ladd, 0, 0, 0) :: (.goto 232, 0, 0, 0) :: kk_193_228
def kk_193_207 : List qm_I := (.lconst 0, 0, 0, 1) :: (.goto 232, 0, 0, 0) :: kk_193_211
def kk_193_183 : List qm_I := (.aload 0, 0, 0, 0) :: (.iload 1, 0, 0, 0) :: (.invokevirtual 192, 2, 9, 0) :: (.istore 3, 0, 0, 0) :: (.aload 0, 0, 0, 0) :: (.aload 0, 0, 0, 0) :: (.getfield 9, 28, 0, 0) :: (.lconst 0, 0, 0, 0) :: (.lcmp, 0, 0, 0) :: (.ifCond .eq 207, 0, 0, 0) :: (.iload 3, 0, 0, 0) :: (.aload 0, 0, 0, 0) :: (.getfield 9, 30, 0, 0) :: (.if_icmp .ge 211, 0, 0, 0) :: kk_193_207
def kk_193_176 : List qm_I := (.ladd, 0, 0, 0) :: (.putfield 9, 29, 1, 0) :: (.goto 315, 0, 0, 0) :: kk_193_183
def kk_193_175 : List qm_I := (.lconst 0, 0, 0, 0) :: kk_193_176
def kk_193_144 : List qm_I := (.aload 0, 0, 0, 0) :: (.getfield 9, 23, 0, 0) :: (.iconst 0, 0, 0, 3) :: (.if_icmp .ne 183, 0, 0, 0) :: (.aload 0, 0, 0, 0) :: (.dup, 0, 0, 0) :: (.getfield 9, 28, 0, 0) :: (.lconst 0, 0, 0, 1) :: (.ladd, 0, 0, 0) :: (.putfield 9, 28, 1, 0) :: (.aload 0, 0, 0, 0) :: (.dup, 0, 0, 0) :: (.getfield 9, 29, 0, 0) :: (.iload 2, 0, 0, 0) :: (.ifCond .eq 175, 0, 0, 0) :: (.lconst 0, 0, 0, 1) :: (.goto 176, 0, 0, 0) :: kk_193_175
def kk_193_137 : List qm_I := (.ladd, 0, 0, 0) :: (.putfield 9, 28, 1, 0) :: (.goto 315, 0, 0, 0) :: kk_193_144
def kk_193_136 : List qm_I := (.lconst 0, 0, 0, 0) :: kk_193_137
def kk_193_102 : List qm_I := (.aload 0, 0, 0, 0) :: (.getfield 9, 23, 0, 0) :: (.iconst 0, 0, 0, 2) :: (.if_icmp .ne 144, 0, 0, 0) :: (.aload 0, 0, 0, 0) :: (.dup, 0, 0, 0) :: (.getfield 9, 28, 0, 0) :: (.aload 0, 0, 0, 0) :: (.aload 0, 0, 0, 0) :: (.getfield 9, 10, 0, 0) :: (.iload 1, 0, 0, 0) :: (.iaload, 0, 0, 0) :: (.aload 0, 0, 0, 0) :: (.getfield 9, 24, 0, 0) :: (.invokevirtual 191, 3, 9, 0) :: (.ifCond .ne 136, 0, 0, 0) :: (.lconst 0, 0, 0, 1) :: (.goto 137, 0, 0, 0) :: kk_193_136
def kk_193_95 : List qm_I := (.ladd, 0, 0, 0) :: (.putfield 9, 28, 1, 0) :: (.goto 315, 0, 0, 0) :: kk_193_102
def kk_193_94 : List qm_I := (.lconst 0, 0, 0, 0) :: kk_193_95
def kk_193_58 : List qm_I := (.aload 0, 0, 0, 0) :: (.getfield 9, 23, 0, 0) :: (.iconst 0, 0, 0, 1) :: (.if_icmp .ne 102, 0, 0, 0) :: (.aload 0, 0, 0, 0) :: (.dup, 0, 0, 0) :: (.getfield 9, 28, 0, 0) :: (.aload 0, 0, 0, 0) :: (.aload 0, 0, 0, 0) :: (.getfield 9, 10, 0, 0) :: (.iload 1, 0, 0, 0) :: (.iaload, 0, 0, 0) :: (.iconst 0, 0, 0, 99) :: (.invokevirtual 191, 3, 9, 0) :: (.aload 0, 0, 0, 0) :: (.getfield 9, 24, 0, 0) :: (.if_icmp .ne 94, 0, 0, 0) :: (.lconst 0, 0, 0, 1) :: (.goto 95, 0, 0, 0) :: kk_193_94
def kk_193_51 : List qm_I := (.ladd, 0, 0, 0) :: (.putfield 9, 28, 1, 0) :: (.goto 315, 0, 0, 0) :: kk_193_58
def kk_193_50 : List qm_I := (.lconst 0, 0, 0, 0) :: kk_193_51
def kk_193_21 : List qm_I := (.istore 2, 0, 0, 0) :: (.aload 0, 0, 0, 0) :: (.getfield 9, 23, 0, 0) :: (.ifCond .ne 58, 0, 0, 0) :: (.aload 0, 0, 0, 0) :: (.dup, 0, 0, 0) :: (.getfield 9, 28, 0, 0) :: (.aload 0, 0, 0, 0) :: (.iload 1, 0, 0, 0) :: (.invokevirtual 189, 2, 9, 0) :: (.aload 0, 0, 0, 0) :: (.getfield 9, 24, 0, 0) :: (.if_icmp .ne 50, 0, 0, 0) :: (.lconst 0, 0, 0, 1) :: (.goto 51, 0, 0, 0) :: kk_193_50
def kk_193_20 : List qm_I := (.iconst 0, 0, 0, 0) :: kk_193_21
def kk_193_0 : List qm_I := (.aload 0, 0, 0, 0) :: (.getfield 9, 22, 0, 0) :: (.aload 0, 0, 0, 0) :: (.getfield 9, 25, 0, 0) :: (.iaload, 0, 0, 0) :: (.aload 0, 0, 0, 0) :: (.getfield 9, 26, 0, 0) :: (.if_icmp .ne 20, 0, 0, 0) :: (.iconst 0, 0, 0, 1) :: (.goto 21, 0, 0, 0) :: kk_193_20
def kt_193 : qm_T := [(0, kk_193_0), (20, kk_193_20), (21, kk_193_21), (50, kk_193_50), (51, kk_193_51), (58, kk_193_58), (94, kk_193_94), (95, kk_193_95), (102, kk_193_102), (136, kk_193_136), (137, kk_193_137), (144, kk_193_144), (175, kk_193_175), (176, kk_193_176), (183, kk_193_183), (207, kk_193_207), (211, kk_193_211), (228, kk_193_228), (232, kk_193_232), (257, kk_193_257), (261, kk_193_261), (286, kk_193_286), (290, kk_193_290), (294, kk_193_294), (310, kk_193_310), (311, kk_193_311), (315, kk_193_315)]
theorem kc_193_315 : qm_chain 9 false (none) cX9_look 315 kk_193_315 := qm_chain_of _ _ _ _ 1 _ 316 _ (by decide +kernel) trivial
theorem kc_193_311 : qm_chain 9 false (none) cX9_look 311 kk_193_311 := qm_chain_of _ _ _ _ 2 _ 315 _ (by decide +kernel) kc_193_315
theorem kc_193_310 : qm_chain 9 false (none) cX9_look 310 kk_193_310 := qm_chain_of _ _ _ _ 1 _ 311 _ (by decide +kernel) kc_193_311
theorem kc_193_294 : qm_chain 9 false (none) cX9_look 294 kk_193_294 := qm_chain_of _ _ _ _ 8 _ 310 _ (by decide +kernel) kc_193_310
theorem kc_193_290 : qm_chain 9 false (none) cX9_look 290 kk_193_290 := qm_chain_of _ _ _ _ 2 _ 294 _ (by decide +kernel) kc_193_294
theorem kc_193_286 : qm_chain 9 false (none) cX9_look 286 kk_193_286 := qm_chain_of _ _ _ _ 2 _ 290 _ (by decide +kernel) kc_193_290
theorem kc_193_261 : qm_chain 9 false (none) cX9_look 261 kk_193_261 := qm_chain_of _ _ _ _ 13 _ 286 _ (by decide +kernel) kc_193_286
theorem kc_193_257 : qm_chain 9 false (none) cX9_look 257 kk_193_257 := qm_chain_of _ _ _ _ 2 _ 261 _ (by decide +kernel) kc_193_261
theorem kc_193_232 : qm_chain 9 false (none) cX9_look 232 kk_193_232 := qm_chain_of _ _ _ _ 13 _ 257 _ (by decide +kernel) kc_193_257
theorem kc_193_228 : qm_chain 9 false (none) cX9_look 228 kk_193_228 := qm_chain_of _ _ _ _ 2 _ 232 _ (by decide +kernel) kc_193_232
theorem kc_193_211 : qm_chain 9 false (none) cX9_look 211 kk_193_211 := qm_chain_of _ _ _ _ 9 _ 228 _ (by decide +kernel) kc_193_228
theorem kc_193_207 : qm_chain 9 false (none) cX9_look 207 kk_193_207 := qm_chain_of _ _ _ _ 2 _ 211 _ (by decide +kernel) kc_193_211
theorem kc_193_183 : qm_chain 9 false (none) cX9_look 183 kk_193_183 := qm_chain_of _ _ _ _ 14 _ 207 _ (by decide +kernel) kc_193_207
theorem kc_193_176 : qm_chain 9 false (none) cX9_look 176 kk_193_176 := qm_chain_of _ _ _ _ 3 _ 183 _ (by decide +kernel) kc_193_183
theorem kc_193_175 : qm_chain 9 false (none) cX9_look 175 kk_193_175 := qm_chain_of _ _ _ _ 1 _ 176 _ (by decide +kernel) kc_193_176
theorem kc_193_144 : qm_chain 9 false (none) cX9_look 144 kk_193_144 := qm_chain_of _ _ _ _ 17 _ 175 _ (by decide +kernel) kc_193_175
theorem kc_193_137 : qm_chain 9 false (none) cX9_look 137 kk_193_137 := qm_chain_of _ _ _ _ 3 _ 144 _ (by decide +kernel) kc_193_144
theorem kc_193_136 : qm_chain 9 false (none) cX9_look 136 kk_193_136 := qm_chain_of _ _ _ _ 1 _ 137 _ (by decide +kernel) kc_193_137
theorem kc_193_102 : qm_chain 9 false (none) cX9_look 102 kk_193_102 := qm_chain_of _ _ _ _ 18 _ 136 _ (by decide +kernel) kc_193_136
theorem kc_193_95 : qm_chain 9 false (none) cX9_look 95 kk_193_95 := qm_chain_of _ _ _ _ 3 _ 102 _ (by decide +kernel) kc_193_102
theorem kc_193_94 : qm_chain 9 false (none) cX9_look 94 kk_193_94 := qm_chain_of _ _ _ _ 1 _ 95 _ (by decide +kernel) kc_193_95
theorem kc_193_58 : qm_chain 9 false (none) cX9_look 58 kk_193_58 := qm_chain_of _ _ _ _ 19 _ 94 _ (by decide +kernel) kc_193_94
theorem kc_193_51 : qm_chain 9 false (none) cX9_look 51 kk_193_51 := qm_chain_of _ _ _ _ 3 _ 58 _ (by decide +kernel) kc_193_58
theorem kc_193_50 : qm_chain 9 false (none) cX9_look 50 kk_193_50 := qm_chain_of _ _ _ _ 1 _ 51 _ (by decide +kernel) kc_193_51
theorem kc_193_21 : qm_chain 9 false (none) cX9_look 21 kk_193_21 := qm_chain_of _ _ _ _ 15 _ 50 _ (by decide +kernel) kc_193_50
theorem kc_193_20 : qm_chain 9 false (none) cX9_look 20 kk_193_20 := qm_chain_of _ _ _ _ 1 _ 21 _ (by decide +kernel) kc_193_21
theorem kc_193_0 : qm_chain 9 false (none) cX9_look 0 kk_193_0 := qm_chain_of _ _ _ _ 10 _ 20 _ (by decide +kernel) kc_193_20
theorem ka_193 : ∀ t : Int, 0 ≤ t → qm_chain 9 false (none) cX9_look t.toNat (qm_lk kt_193 t) := qm_lk_ok (List.forall_mem_cons.mpr ⟨⟨by decide, kc_193_0⟩, List.forall_mem_cons.mpr ⟨⟨by decide, kc_193_20⟩, List.forall_mem_cons.mpr ⟨⟨by decide, kc_193_21⟩, List.forall_mem_cons.mpr ⟨⟨by decide, kc_193_50⟩, List.forall_mem_cons.mpr ⟨⟨by decide, kc_193_51⟩, List.forall_mem_cons.mpr ⟨⟨by decide, kc_193_58⟩, List.forall_mem_cons.mpr ⟨⟨by decide, kc_193_94⟩, List.forall_mem_cons.mpr ⟨⟨by decide, kc_193_95⟩, List.forall_mem_cons.mpr ⟨⟨by decide, kc_193_102⟩, List.forall_mem_cons.mpr ⟨⟨by decide, kc_193_136⟩, List.forall_mem_cons.mpr ⟨⟨by decide, kc_193_137⟩, List.forall_mem_cons.mpr ⟨⟨by decide, kc_193_144⟩, List.forall_mem_cons.mpr ⟨⟨by decide, kc_193_175⟩, List.forall_mem_cons.mpr ⟨⟨by decide, kc_193_176⟩, List.forall_mem_cons.mpr ⟨⟨by decide, kc_193_183⟩, List.forall_mem_cons.mpr ⟨⟨by decide, kc_193_207⟩, List.forall_mem_cons.mpr ⟨⟨by decide, kc_193_211⟩, List.forall_mem_cons.mpr ⟨⟨by decide, kc_193_228⟩, List.forall_mem_cons.mpr ⟨⟨by decide, kc_193_232⟩, List.forall_mem_cons.mpr ⟨⟨by decide, kc_193_257⟩, List.forall_mem_cons.mpr ⟨⟨by decide, kc_193_261⟩, List.forall_mem_cons.mpr ⟨⟨by decide, kc_193_286⟩, List.forall_mem_cons.mpr ⟨⟨by decide, kc_193_290⟩, List.forall_mem_cons.mpr ⟨⟨by decide, kc_193_294⟩, List.forall_mem_cons.mpr ⟨⟨by decide, kc_193_310⟩, List.forall_mem_cons.mpr ⟨⟨by decide, kc_193_311⟩, List.forall_mem_cons.mpr ⟨⟨by decide, kc_193_315⟩, fun _ h => absurd h List.not_mem_nil⟩⟩⟩⟩⟩⟩⟩⟩⟩⟩⟩⟩⟩⟩⟩⟩⟩⟩⟩⟩⟩⟩⟩⟩⟩⟩⟩)
theorem kg_193 : qm_G1 (yX9_look, cX9_look, 4, none, 9, 1) (4, kt_193) := ⟨rfl, false, (fun z => by cases z), ka_193⟩
-- 194: TowerBoardsModel.goOver
def kk_194_0 : List qm_I := (.aload 0, 0, 0, 0) :: (.iload 3, 0, 0, 0) :: (.putfield 9, 23, 0, 0) :: (.aload 0, 0, 0, 0) :: (.iload 4, 0, 0, 0) :: (.putfield 9, 24, 0, 0) :: (.aload 0, 0, 0, 0) :: (.lconst 0, 0, 0, 0) :: (.putfield 9, 28, 1, 0) :: (.aload 0, 0, 0, 0) :: (.lconst 0, 0, 0, 0) :: (.putfield 9, 29, 1, 0) :: (.aload 0, 0, 0, 0) :: (.iconst 0, 0, 0, 1000000) :: (.putfield 9, 30, 0, 0) :: (.aload 0, 0, 0, 0) :: (.iconst 0, 0, 0, 0) :: (.putfield 9, 31, 0, 0) :: (.aload 0, 0, 0, 0) :: (.iload 1, 0, 0, 0) :: (.iconst 0, 0, 0, 0) :: (.iconst 0, 0, 0, 0) :: (.iload 2, 0, 0, 0) :: (.invokevirtual 188, 5, 9, 0) :: (.return_, 0, 0, 0) :: []
def kt_194 : qm_T := [(0, kk_194_0)]
theorem kc_194_0 : qm_chain 9 false (none) cX9_goOver 0 kk_194_0 := qm_chain_of _ _ _ _ 25 _ 41 _ (by decide +kernel) trivial
theorem ka_194 : ∀ t : Int, 0 ≤ t → qm_chain 9 false (none) cX9_goOver t.toNat (qm_lk kt_194 t) := qm_lk_ok (List.forall_mem_cons.mpr ⟨⟨by decide, kc_194_0⟩, fun _ h => absurd h List.not_mem_nil⟩)
theorem kg_194 : qm_G1 (yX9_goOver, cX9_goOver, 5, none, 9, 4) (5, kt_194) := ⟨rfl, false, (fun z => by cases z), ka_194⟩
-- 195: TowerBoardsModel.spread
def kk_195_40 : List qm_I := (.aload 0, 0, 0, 0) :: (.iload 1, 0, 0, 0) :: (.iload 2, 0, 0, 0) :: (.iconst 0, 0, 0, 0) :: (.iload 3, 0, 0, 0) :: (.invokevirtual 194, 5, 9, 0) :: (.aload 0, 0, 0, 0) :: (.aload 0, 0, 0, 0) :: (.getfield 9, 28, 0, 0) :: (.invokevirtual 138, 2, 9, 0) :: (.ireturn, 0, 0, 0) :: []
def kk_195_26 : List qm_I := (.iload 1, 0, 0, 0) :: (.invokevirtual 159, 3, 9, 0) :: (.istore 4, 0, 0, 0) :: (.iload 4, 0, 0, 0) :: (.ifCond .ge 40, 0, 0, 0) :: (.iload 4, 0, 0, 0) :: (.ireturn, 0, 0, 0) :: kk_195_40
def kk_195_25 : List qm_I := (.iconst 0, 0, 0, 0) :: kk_195_26
def kk_195_0 : List qm_I := (.aload 0, 0, 0, 0) :: (.iload 2, 0, 0, 0) :: (.iconst 0, 0, 0, 0) :: (.iconst 0, 0, 0, 36) :: (.invokestatic 131, 3, 0, 0) :: (.ifCond .eq 25, 0, 0, 0) :: (.iload 3, 0, 0, 0) :: (.iconst 0, 0, 0, 0) :: (.iconst 0, 0, 0, 36) :: (.invokestatic 131, 3, 0, 0) :: (.ifCond .eq 25, 0, 0, 0) :: (.iconst 0, 0, 0, 1) :: (.goto 26, 0, 0, 0) :: kk_195_25
def kt_195 : qm_T := [(0, kk_195_0), (25, kk_195_25), (26, kk_195_26), (40, kk_195_40)]
theorem kc_195_40 : qm_chain 9 false (some .int) cX9_spread 40 kk_195_40 := qm_chain_of _ _ _ _ 11 _ 57 _ (by decide +kernel) trivial
theorem kc_195_26 : qm_chain 9 false (some .int) cX9_spread 26 kk_195_26 := qm_chain_of _ _ _ _ 7 _ 40 _ (by decide +kernel) kc_195_40
theorem kc_195_25 : qm_chain 9 false (some .int) cX9_spread 25 kk_195_25 := qm_chain_of _ _ _ _ 1 _ 26 _ (by decide +kernel) kc_195_26
theorem kc_195_0 : qm_chain 9 false (some .int) cX9_spread 0 kk_195_0 := qm_chain_of _ _ _ _ 13 _ 25 _ (by decide +kernel) kc_195_25
theorem ka_195 : ∀ t : Int, 0 ≤ t → qm_chain 9 false (some .int) cX9_spread t.toNat (qm_lk kt_195 t) := qm_lk_ok (List.forall_mem_cons.mpr ⟨⟨by decide, kc_195_0⟩, List.forall_mem_cons.mpr ⟨⟨by decide, kc_195_25⟩, List.forall_mem_cons.mpr ⟨⟨by decide, kc_195_26⟩, List.forall_mem_cons.mpr ⟨⟨by decide, kc_195_40⟩, fun _ h => absurd h List.not_mem_nil⟩⟩⟩⟩)
theorem kg_195 : qm_G1 (yX9_spread, cX9_spread, 5, some .int, 9, 3) (5, kt_195) := ⟨rfl, false, (fun z => by cases z), ka_195⟩
-- 196: TowerBoardsModel.onFrom
def kk_196_106 : List qm_I := (.lload 5, 0, 0, 0) :: (.lreturn, 0, 0, 0) :: []
def kk_196_97 : List qm_I := (.ladd, 0, 0, 0) :: (.lstore 5, 0, 0, 0) :: (.iinc 7 0, 0, 0, 1) :: (.goto 37, 0, 0, 0) :: kk_196_106
def kk_196_96 : List qm_I := (.lconst 0, 0, 0, 0) :: kk_196_97
def kk_196_37 : List qm_I := (.iload 7, 0, 0, 0) :: (.aload 0, 0, 0, 0) :: (.getfield 9, 11, 0, 0) :: (.iload 1, 0, 0, 0) :: (.iaload, 0, 0, 0) :: (.if_icmp .ge 106, 0, 0, 0) :: (.iload 4, 0, 0, 0) :: (.ifCond .le 106, 0, 0, 0) :: (.lload 5, 0, 0, 0) :: (.aload 0, 0, 0, 0) :: (.iload 1, 0, 0, 0) :: (.iload 2, 0, 0, 0) :: (.iload 7, 0, 0, 0) :: (.invokevirtual 166, 4, 9, 0) :: (.ifCond .eq 96, 0, 0, 0) :: (.iload 3, 0, 0, 0) :: (.iload 7, 0, 0, 0) :: (.invokestatic 132, 2, 0, 0) :: (.ifCond .ne 96, 0, 0, 0) :: (.aload 0, 0, 0, 0) :: (.iload 1, 0, 0, 0) :: (.iload 2, 0, 0, 0) :: (.iconst 0, 0, 0, 1) :: (.iadd, 0, 0, 0) :: (.iload 3, 0, 0, 0) :: (.iconst 0, 0, 0, 1) :: (.iload 7, 0, 0, 0) :: (.ishl, 0, 0, 0) :: (.ior, 0, 0, 0) :: (.iload 4, 0, 0, 0) :: (.iconst 0, 0, 0, 1) :: (.isub, 0, 0, 0) :: (.invokevirtual 196, 5, 9, 0) :: (.goto 97, 0, 0, 0) :: kk_196_96
def kk_196_21 : List qm_I := (.aload 0, 0, 0, 0) :: (.iload 1, 0, 0, 0) :: (.iload 2, 0, 0, 0) :: (.iconst 0, 0, 0, 1) :: (.iadd, 0, 0, 0) :: (.iload 3, 0, 0, 0) :: (.iload 4, 0, 0, 0) :: (.invokevirtual 196, 5, 9, 0) :: (.lstore 5, 0, 0, 0) :: (.iconst 0, 0, 0, 0) :: (.istore 7, 0, 0, 0) :: kk_196_37
def kk_196_20 : List qm_I := (.lreturn, 0, 0, 0) :: kk_196_21
def kk_196_19 : List qm_I := (.lconst 0, 0, 0, 0) :: kk_196_20
def kk_196_0 : List qm_I := (.iload 2, 0, 0, 0) :: (.aload 0, 0, 0, 0) :: (.getfield 9, 10, 0, 0) :: (.iload 1, 0, 0, 0) :: (.iaload, 0, 0, 0) :: (.if_icmp .ne 21, 0, 0, 0) :: (.iload 4, 0, 0, 0) :: (.ifCond .ne 19, 0, 0, 0) :: (.lconst 0, 0, 0, 1) :: (.goto 20, 0, 0, 0) :: kk_196_19
def kt_196 : qm_T := [(0, kk_196_0), (19, kk_196_19), (20, kk_196_20), (21, kk_196_21), (37, kk_196_37), (96, kk_196_96), (97, kk_196_97), (106, kk_196_106)]
theorem kc_196_106 : qm_chain 9 false (some .long) cX9_onFrom 106 kk_196_106 := qm_chain_of _ _ _ _ 2 _ 109 _ (by decide +kernel) trivial
theorem kc_196_97 : qm_chain 9 false (some .long) cX9_onFrom 97 kk_196_97 := qm_chain_of _ _ _ _ 4 _ 106 _ (by decide +kernel) kc_196_106
theorem kc_196_96 : qm_chain 9 false (some .long) cX9_onFrom 96 kk_196_96 := qm_chain_of _ _ _ _ 1 _ 97 _ (by decide +kernel) kc_196_97
theorem kc_196_37 : qm_chain 9 false (some .long) cX9_onFrom 37 kk_196_37 := qm_chain_of _ _ _ _ 34 _ 96 _ (by decide +kernel) kc_196_96
theorem kc_196_21 : qm_chain 9 false (some .long) cX9_onFrom 21 kk_196_21 := qm_chain_of _ _ _ _ 11 _ 37 _ (by decide +kernel) kc_196_37
theorem kc_196_20 : qm_chain 9 false (some .long) cX9_onFrom 20 kk_196_20 := qm_chain_of _ _ _ _ 1 _ 21 _ (by decide +kernel) kc_196_21
theorem kc_196_19 : qm_chain 9 false (some .long) cX9_onFrom 19 kk_196_19 := qm_chain_of _ _ _ _ 1 _ 20 _ (by decide +kernel) kc_196_20
theorem kc_196_0 : qm_chain 9 false (some .long) cX9_onFrom 0 kk_196_0 := qm_chain_of _ _ _ _ 10 _ 19 _ (by decide +kernel) kc_196_19
theorem ka_196 : ∀ t : Int, 0 ≤ t → qm_chain 9 false (some .long) cX9_onFrom t.toNat (qm_lk kt_196 t) := qm_lk_ok (List.forall_mem_cons.mpr ⟨⟨by decide, kc_196_0⟩, List.forall_mem_cons.mpr ⟨⟨by decide, kc_196_19⟩, List.forall_mem_cons.mpr ⟨⟨by decide, kc_196_20⟩, List.forall_mem_cons.mpr ⟨⟨by decide, kc_196_21⟩, List.forall_mem_cons.mpr ⟨⟨by decide, kc_196_37⟩, List.forall_mem_cons.mpr ⟨⟨by decide, kc_196_96⟩, List.forall_mem_cons.mpr ⟨⟨by decide, kc_196_97⟩, List.forall_mem_cons.mpr ⟨⟨by decide, kc_196_106⟩, fun _ h => absurd h List.not_mem_nil⟩⟩⟩⟩⟩⟩⟩⟩)
theorem kg_196 : qm_G1 (yX9_onFrom, cX9_onFrom, 8, some .long, 9, 4) (8, kt_196) := ⟨rfl, false, (fun z => by cases z), ka_196⟩
-- 197: TowerBoardsModel.layStand
def kk_197_223 : List qm_I := (.iconst 0, 0, 0, 1) :: (.ireturn, 1, 0, 0) :: []
def kk_197_214 : List qm_I := (.isub, 0, 0, 0) :: (.istore 8, 0, 0, 0) :: (.iinc 9 0, 0, 0, 1) :: (.goto 37, 0, 0, 0) :: kk_197_223
def kk_197_213 : List qm_I := (.iconst 0, 0, 0, 1) :: kk_197_214
def kk_197_192 : List qm_I := (.ior, 0, 0, 0) :: (.istore 7, 0, 0, 0) :: (.iload 8, 0, 0, 0) :: (.aload 0, 0, 0, 0) :: (.getfield 9, 22, 0, 0) :: (.iload 9, 0, 0, 0) :: (.iaload, 0, 0, 0) :: (.iconst 0, 0, 0, -9) :: (.if_icmp .ne 213, 0, 0, 0) :: (.iconst 0, 0, 0, 0) :: (.goto 214, 0, 0, 0) :: kk_197_213
def kk_197_183 : List qm_I := (.iconst 0, 0, 0, 1) :: (.aload 0, 0, 0, 0) :: (.getfield 9, 22, 0, 0) :: (.iload 9, 0, 0, 0) :: (.iaload, 0, 0, 0) :: (.ishl, 0, 0, 0) :: kk_197_192
def kk_197_165 : List qm_I := (.iload 7, 0, 0, 0) :: (.aload 0, 0, 0, 0) :: (.getfield 9, 22, 0, 0) :: (.iload 9, 0, 0, 0) :: (.iaload, 0, 0, 0) :: (.iconst 0, 0, 0, -9) :: (.if_icmp .ne 183, 0, 0, 0) :: (.iconst 0, 0, 0, 0) :: (.goto 192, 0, 0, 0) :: kk_197_183
def kk_197_159 : List qm_I := (.iinc 10 0, 0, 0, 1) :: (.goto 60, 0, 0, 0) :: kk_197_165
def kk_197_152 : List qm_I := (.lload 5, 0, 0, 0) :: (.lload 11, 0, 0, 0) :: (.lsub, 0, 0, 0) :: (.lstore 5, 0, 0, 0) :: kk_197_159
def kk_197_60 : List qm_I := (.iload 10, 0, 0, 0) :: (.aload 0, 0, 0, 0) :: (.getfield 9, 11, 0, 0) :: (.iload 1, 0, 0, 0) :: (.iaload, 0, 0, 0) :: (.if_icmp .ge 165, 0, 0, 0) :: (.iload 8, 0, 0, 0) :: (.ifCond .le 165, 0, 0, 0) :: (.aload 0, 0, 0, 0) :: (.getfield 9, 22, 0, 0) :: (.iload 9, 0, 0, 0) :: (.iaload, 0, 0, 0) :: (.iconst 0, 0, 0, -9) :: (.if_icmp .ne 165, 0, 0, 0) :: (.aload 0, 0, 0, 0) :: (.iload 1, 0, 0, 0) :: (.iload 9, 0, 0, 0) :: (.iload 10, 0, 0, 0) :: (.invokevirtual 166, 4, 9, 0) :: (.ifCond .eq 159, 0, 0, 0) :: (.iload 7, 0, 0, 0) :: (.iload 10, 0, 0, 0) :: (.invokestatic 132, 2, 0, 0) :: (.ifCond .ne 159, 0, 0, 0) :: (.aload 0, 0, 0, 0) :: (.iload 1, 0, 0, 0) :: (.iload 9, 0, 0, 0) :: (.iconst 0, 0, 0, 1) :: (.iadd, 0, 0, 0) :: (.iload 7, 0, 0, 0) :: (.iconst 0, 0, 0, 1) :: (.iload 10, 0, 0, 0) :: (.ishl, 0, 0, 0) :: (.ior, 0, 0, 0) :: (.iload 8, 0, 0, 0) :: (.iconst 0, 0, 0, 1) :: (.isub, 0, 0, 0) :: (.invokevirtual 196, 5, 9, 0) :: (.lstore 11, 0, 0, 0) :: (.lload 5, 0, 0, 0) :: (.lload 11, 0, 0, 0) :: (.lcmp, 0, 0, 0) :: (.ifCond .ge 152, 0, 0, 0) :: (.aload 0, 0, 0, 0) :: (.getfield 9, 22, 0, 0) :: (.iload 9, 0, 0, 0) :: (.iload 10, 0, 0, 0) :: (.iastore, 0, 0, 0) :: (.goto 159, 0, 0, 0) :: kk_197_152
def kk_197_37 : List qm_I := (.iload 9, 0, 0, 0) :: (.aload 0, 0, 0, 0) :: (.getfield 9, 10, 0, 0) :: (.iload 1, 0, 0, 0) :: (.iaload, 0, 0, 0) :: (.if_icmp .ge 223, 0, 0, 0) :: (.aload 0, 0, 0, 0) :: (.getfield 9, 22, 0, 0) :: (.iload 9, 0, 0, 0) :: (.iconst 0, 0, 0, -9) :: (.iastore, 0, 0, 0) :: (.iconst 0, 0, 0, 0) :: (.istore 10, 0, 0, 0) :: kk_197_60
def kk_197_25 : List qm_I := (.lload 3, 0, 0, 0) :: (.lstore 5, 0, 0, 0) :: (.iconst 0, 0, 0, 0) :: (.istore 7, 0, 0, 0) :: (.iload 2, 0, 0, 0) :: (.istore 8, 0, 0, 0) :: (.iconst 0, 0, 0, 0) :: (.istore 9, 0, 0, 0) :: kk_197_37
def kk_197_23 : List qm_I := (.iconst 0, 0, 0, 0) :: (.ireturn, 1, 0, 0) :: kk_197_25
def kk_197_0 : List qm_I := (.iload 2, 0, 0, 0) :: (.ifCond .lt 23, 0, 0, 0) :: (.lload 3, 0, 0, 0) :: (.lconst 0, 0, 0, 0) :: (.lcmp, 0, 0, 0) :: (.ifCond .lt 23, 0, 0, 0) :: (.lload 3, 0, 0, 0) :: (.aload 0, 0, 0, 0) :: (.iload 1, 0, 0, 0) :: (.iconst 0, 0, 0, 0) :: (.iconst 0, 0, 0, 0) :: (.iload 2, 0, 0, 0) :: (.invokevirtual 196, 5, 9, 0) :: (.lcmp, 0, 0, 0) :: (.ifCond .lt 25, 0, 0, 0) :: kk_197_23
def kt_197 : qm_T := [(0, kk_197_0), (23, kk_197_23), (25, kk_197_25), (37, kk_197_37), (60, kk_197_60), (152, kk_197_152), (159, kk_197_159), (165, kk_197_165), (183, kk_197_183), (192, kk_197_192), (213, kk_197_213), (214, kk_197_214), (223, kk_197_223)]
theorem kc_197_223 : qm_chain 9 false (some .boolean) cX9_layStand 223 kk_197_223 := qm_chain_of _ _ _ _ 2 _ 225 _ (by decide +kernel) trivial
theorem kc_197_214 : qm_chain 9 false (some .boolean) cX9_layStand 214 kk_197_214 := qm_chain_of _ _ _ _ 4 _ 223 _ (by decide +kernel) kc_197_223
theorem kc_197_213 : qm_chain 9 false (some .boolean) cX9_layStand 213 kk_197_213 := qm_chain_of _ _ _ _ 1 _ 214 _ (by decide +kernel) kc_197_214
theorem kc_197_192 : qm_chain 9 false (some .boolean) cX9_layStand 192 kk_197_192 := qm_chain_of _ _ _ _ 11 _ 213 _ (by decide +kernel) kc_197_213
theorem kc_197_183 : qm_chain 9 false (some .boolean) cX9_layStand 183 kk_197_183 := qm_chain_of _ _ _ _ 6 _ 192 _ (by decide +kernel) kc_197_192
theorem kc_197_165 : qm_chain 9 false (some .boolean) cX9_layStand 165 kk_197_165 := qm_chain_of _ _ _ _ 9 _ 183 _ (by decide +kernel) kc_197_183
theorem kc_197_159 : qm_chain 9 false (some .boolean) cX9_layStand 159 kk_197_159 := qm_chain_of _ _ _ _ 2 _ 165 _ (by decide +kernel) kc_197_165
theorem kc_197_152 : qm_chain 9 false (some .boolean) cX9_layStand 152 kk_197_152 := qm_chain_of _ _ _ _ 4 _ 159 _ (by decide +kernel) kc_197_159
theorem kc_197_60 : qm_chain 9 false (some .boolean) cX9_layStand 60 kk_197_60 := qm_chain_of _ _ _ _ 49 _ 152 _ (by decide +kernel) kc_197_152
theorem kc_197_37 : qm_chain 9 false (some .boolean) cX9_layStand 37 kk_197_37 := qm_chain_of _ _ _ _ 13 _ 60 _ (by decide +kernel) kc_197_60
theorem kc_197_25 : qm_chain 9 false (some .boolean) cX9_layStand 25 kk_197_25 := qm_chain_of _ _ _ _ 8 _ 37 _ (by decide +kernel) kc_197_37
theorem kc_197_23 : qm_chain 9 false (some .boolean) cX9_layStand 23 kk_197_23 := qm_chain_of _ _ _ _ 2 _ 25 _ (by decide +kernel) kc_197_25
theorem kc_197_0 : qm_chain 9 false (some .boolean) cX9_layStand 0 kk_197_0 := qm_chain_of _ _ _ _ 15 _ 23 _ (by decide +kernel) kc_197_23
theorem ka_197 : ∀ t : Int, 0 ≤ t → qm_chain 9 false (some .boolean) cX9_layStand t.toNat (qm_lk kt_197 t) := qm_lk_ok (List.forall_mem_cons.mpr ⟨⟨by decide, kc_197_0⟩, List.forall_mem_cons.mpr ⟨⟨by decide, kc_197_23⟩, List.forall_mem_cons.mpr ⟨⟨by decide, kc_197_25⟩, List.forall_mem_cons.mpr ⟨⟨by decide, kc_197_37⟩, List.forall_mem_cons.mpr ⟨⟨by decide, kc_197_60⟩, List.forall_mem_cons.mpr ⟨⟨by decide, kc_197_152⟩, List.forall_mem_cons.mpr ⟨⟨by decide, kc_197_159⟩, List.forall_mem_cons.mpr ⟨⟨by decide, kc_197_165⟩, List.forall_mem_cons.mpr ⟨⟨by decide, kc_197_183⟩, List.forall_mem_cons.mpr ⟨⟨by decide, kc_197_192⟩, List.forall_mem_cons.mpr ⟨⟨by decide, kc_197_213⟩, List.forall_mem_cons.mpr ⟨⟨by decide, kc_197_214⟩, List.forall_mem_cons.mpr ⟨⟨by decide, kc_197_223⟩, fun _ h => absurd h List.not_mem_nil⟩⟩⟩⟩⟩⟩⟩⟩⟩⟩⟩⟩⟩)
theorem kg_197 : qm_G1 (yX9_layStand, cX9_layStand, 13, some .boolean, 9, 3) (13, kt_197) := ⟨rfl, false, (fun z => by cases z), ka_197⟩
-- 198: TowerBoardsModel.putStand
def kk_198_46 : List qm_I := (.return_, 0, 0, 0) :: []
def kk_198_13 : List qm_I := (.iload 3, 0, 0, 0) :: (.aload 0, 0, 0, 0) :: (.getfield 9, 10, 0, 0) :: (.iload 1, 0, 0, 0) :: (.iaload, 0, 0, 0) :: (.if_icmp .ge 46, 0, 0, 0) :: (.aload 0, 0, 0, 0) :: (.getfield 9, 7, 0, 0) :: (.iconst 0, 0, 0, 36) :: (.iload 2, 0, 0, 0) :: (.imul, 0, 0, 0) :: (.iload 3, 0, 0, 0) :: (.iadd, 0, 0, 0) :: (.aload 0, 0, 0, 0) :: (.getfield 9, 22, 0, 0) :: (.iload 3, 0, 0, 0) :: (.iaload, 0, 0, 0) :: (.iastore, 0, 0, 0) :: (.iinc 3 0, 0, 0, 1) :: (.goto 13, 0, 0, 0) :: kk_198_46
def kk_198_0 : List qm_I := (.aload 0, 0, 0, 0) :: (.iload 2, 0, 0, 0) :: (.aload 0, 0, 0, 0) :: (.getfield 9, 10, 0, 0) :: (.iload 1, 0, 0, 0) :: (.iaload, 0, 0, 0) :: (.invokevirtual 145, 3, 9, 0) :: (.iconst 0, 0, 0, 0) :: (.istore 3, 0, 0, 0) :: kk_198_13
def kt_198 : qm_T := [(0, kk_198_0), (13, kk_198_13), (46, kk_198_46)]
theorem kc_198_46 : qm_chain 9 false (none) cX9_putStand 46 kk_198_46 := qm_chain_of _ _ _ _ 1 _ 47 _ (by decide +kernel) trivial
theorem kc_198_13 : qm_chain 9 false (none) cX9_putStand 13 kk_198_13 := qm_chain_of _ _ _ _ 20 _ 46 _ (by decide +kernel) kc_198_46
theorem kc_198_0 : qm_chain 9 false (none) cX9_putStand 0 kk_198_0 := qm_chain_of _ _ _ _ 9 _ 13 _ (by decide +kernel) kc_198_13
theorem ka_198 : ∀ t : Int, 0 ≤ t → qm_chain 9 false (none) cX9_putStand t.toNat (qm_lk kt_198 t) := qm_lk_ok (List.forall_mem_cons.mpr ⟨⟨by decide, kc_198_0⟩, List.forall_mem_cons.mpr ⟨⟨by decide, kc_198_13⟩, List.forall_mem_cons.mpr ⟨⟨by decide, kc_198_46⟩, fun _ h => absurd h List.not_mem_nil⟩⟩⟩)
theorem kg_198 : qm_G1 (yX9_putStand, cX9_putStand, 4, none, 9, 2) (4, kt_198) := ⟨rfl, false, (fun z => by cases z), ka_198⟩
-- 199: TowerBoardsModel.stand
def kk_199_59 : List qm_I := (.aload 0, 0, 0, 0) :: (.iload 1, 0, 0, 0) :: (.iload 4, 0, 0, 0) :: (.invokevirtual 198, 3, 9, 0) :: (.iconst 0, 0, 0, 1) :: (.ireturn, 0, 0, 0) :: []
def kk_199_42 : List qm_I := (.aload 0, 0, 0, 0) :: (.iload 1, 0, 0, 0) :: (.iload 2, 0, 0, 0) :: (.iload 3, 0, 0, 0) :: (.i2l, 0, 0, 0) :: (.invokevirtual 197, 4, 9, 0) :: (.ifCond .ne 59, 0, 0, 0) :: (.aload 0, 0, 0, 0) :: (.iconst 0, 0, 0, 2) :: (.invokevirtual 134, 2, 9, 0) :: (.ireturn, 0, 0, 0) :: kk_199_59
def kk_199_28 : List qm_I := (.iload 1, 0, 0, 0) :: (.invokevirtual 159, 3, 9, 0) :: (.istore 5, 0, 0, 0) :: (.iload 5, 0, 0, 0) :: (.ifCond .ge 42, 0, 0, 0) :: (.iload 5, 0, 0, 0) :: (.ireturn, 0, 0, 0) :: kk_199_42
def kk_199_27 : List qm_I := (.iconst 0, 0, 0, 0) :: kk_199_28
def kk_199_0 : List qm_I := (.aload 0, 0, 0, 0) :: (.iload 4, 0, 0, 0) :: (.invokestatic 143, 1, 0, 0) :: (.ifCond .eq 27, 0, 0, 0) :: (.iload 2, 0, 0, 0) :: (.iconst 0, 0, 0, 0) :: (.iconst 0, 0, 0, 36) :: (.invokestatic 131, 3, 0, 0) :: (.ifCond .eq 27, 0, 0, 0) :: (.iload 3, 0, 0, 0) :: (.ifCond .lt 27, 0, 0, 0) :: (.iconst 0, 0, 0, 1) :: (.goto 28, 0, 0, 0) :: kk_199_27
def kt_199 : qm_T := [(0, kk_199_0), (27, kk_199_27), (28, kk_199_28), (42, kk_199_42), (59, kk_199_59)]
theorem kc_199_59 : qm_chain 9 false (some .int) cX9_stand 59 kk_199_59 := qm_chain_of _ _ _ _ 6 _ 68 _ (by decide +kernel) trivial
theorem kc_199_42 : qm_chain 9 false (some .int) cX9_stand 42 kk_199_42 := qm_chain_of _ _ _ _ 11 _ 59 _ (by decide +kernel) kc_199_59
theorem kc_199_28 : qm_chain 9 false (some .int) cX9_stand 28 kk_199_28 := qm_chain_of _ _ _ _ 7 _ 42 _ (by decide +kernel) kc_199_42
theorem kc_199_27 : qm_chain 9 false (some .int) cX9_stand 27 kk_199_27 := qm_chain_of _ _ _ _ 1 _ 28 _ (by decide +kernel) kc_199_28
theorem kc_199_0 : qm_chain 9 false (some .int) cX9_stand 0 kk_199_0 := qm_chain_of _ _ _ _ 13 _ 27 _ (by decide +kernel) kc_199_27
theorem ka_199 : ∀ t : Int, 0 ≤ t → qm_chain 9 false (some .int) cX9_stand t.toNat (qm_lk kt_199 t) := qm_lk_ok (List.forall_mem_cons.mpr ⟨⟨by decide, kc_199_0⟩, List.forall_mem_cons.mpr ⟨⟨by decide, kc_199_27⟩, List.forall_mem_cons.mpr ⟨⟨by decide, kc_199_28⟩, List.forall_mem_cons.mpr ⟨⟨by decide, kc_199_42⟩, List.forall_mem_cons.mpr ⟨⟨by decide, kc_199_59⟩, fun _ h => absurd h List.not_mem_nil⟩⟩⟩⟩⟩)
theorem kg_199 : qm_G1 (yX9_stand, cX9_stand, 6, some .int, 9, 4) (6, kt_199) := ⟨rfl, false, (fun z => by cases z), ka_199⟩
-- 200: TowerBoardsModel.needStand
def kk_200_228 : List qm_I := (.ireturn, 0, 0, 0) :: []
def kk_200_223 : List qm_I := (.aload 0, 0, 0, 0) :: (.iconst 0, 0, 0, 3) :: (.invokevirtual 134, 2, 9, 0) :: kk_200_228
def kk_200_214 : List qm_I := (.iload 5, 0, 0, 0) :: (.ifCond .eq 223, 0, 0, 0) :: (.iconst 0, 0, 0, 0) :: (.goto 228, 0, 0, 0) :: kk_200_223
def kk_200_199 : List qm_I := (.aload 0, 0, 0, 0) :: (.getfield 9, 22, 0, 0) :: (.iload 6, 0, 0, 0) :: (.iload 7, 0, 0, 0) :: (.iastore, 0, 0, 0) :: (.iinc 6 0, 0, 0, 1) :: (.goto 98, 0, 0, 0) :: kk_200_214
def kk_200_187 : List qm_I := (.istore 5, 0, 0, 0) :: (.aload 0, 0, 0, 0) :: (.dup, 0, 0, 0) :: (.getfield 9, 32, 0, 0) :: (.iconst 0, 0, 0, 1) :: (.iadd, 0, 0, 0) :: (.putfield 9, 32, 0, 0) :: kk_200_199
def kk_200_186 : List qm_I := (.iconst 0, 0, 0, 0) :: kk_200_187
def kk_200_169 : List qm_I := (.ior, 0, 0, 0) :: (.istore 4, 0, 0, 0) :: (.iload 5, 0, 0, 0) :: (.ifCond .eq 186, 0, 0, 0) :: (.iload 8, 0, 0, 0) :: (.ifCond .eq 186, 0, 0, 0) :: (.iconst 0, 0, 0, 1) :: (.goto 187, 0, 0, 0) :: kk_200_186
def kk_200_168 : List qm_I := (.iconst 0, 0, 0, 0) :: kk_200_169
def kk_200_152 : List qm_I := (.istore 8, 0, 0, 0) :: (.iload 4, 0, 0, 0) :: (.iload 8, 0, 0, 0) :: (.ifCond .eq 168, 0, 0, 0) :: (.iconst 0, 0, 0, 1) :: (.iload 7, 0, 0, 0) :: (.ishl, 0, 0, 0) :: (.goto 169, 0, 0, 0) :: kk_200_168
def kk_200_151 : List qm_I := (.iconst 0, 0, 0, 0) :: kk_200_152
def kk_200_98 : List qm_I := (.iload 6, 0, 0, 0) :: (.aload 0, 0, 0, 0) :: (.getfield 9, 10, 0, 0) :: (.iload 1, 0, 0, 0) :: (.iaload, 0, 0, 0) :: (.if_icmp .ge 214, 0, 0, 0) :: (.aload 0, 0, 0, 0) :: (.iload 2, 0, 0, 0) :: (.iload 6, 0, 0, 0) :: (.invokevirtual 144, 3, 9, 0) :: (.istore 7, 0, 0, 0) :: (.iload 7, 0, 0, 0) :: (.iconst 0, 0, 0, -9) :: (.if_icmp .eq 199, 0, 0, 0) :: (.aload 0, 0, 0, 0) :: (.iload 1, 0, 0, 0) :: (.iload 6, 0, 0, 0) :: (.iload 7, 0, 0, 0) :: (.invokevirtual 166, 4, 9, 0) :: (.ifCond .eq 151, 0, 0, 0) :: (.iload 4, 0, 0, 0) :: (.iload 7, 0, 0, 0) :: (.invokestatic 132, 2, 0, 0) :: (.ifCond .ne 151, 0, 0, 0) :: (.iconst 0, 0, 0, 1) :: (.goto 152, 0, 0, 0) :: kk_200_151
def kk_200_88 : List qm_I := (.istore 5, 0, 0, 0) :: (.aload 0, 0, 0, 0) :: (.iconst 0, 0, 0, 0) :: (.putfield 9, 32, 0, 0) :: (.iconst 0, 0, 0, 0) :: (.istore 6, 0, 0, 0) :: kk_200_98
def kk_200_87 : List qm_I := (.iconst 0, 0, 0, 0) :: kk_200_88
def kk_200_83 : List qm_I := (.iconst 0, 0, 0, 1) :: (.goto 88, 0, 0, 0) :: kk_200_87
def kk_200_61 : List qm_I := (.iconst 0, 0, 0, 0) :: (.istore 4, 0, 0, 0) :: (.iload 3, 0, 0, 0) :: (.ifCond .eq 83, 0, 0, 0) :: (.aload 0, 0, 0, 0) :: (.getfield 9, 10, 0, 0) :: (.iload 1, 0, 0, 0) :: (.iaload, 0, 0, 0) :: (.aload 0, 0, 0, 0) :: (.getfield 9, 11, 0, 0) :: (.iload 1, 0, 0, 0) :: (.iaload, 0, 0, 0) :: (.if_icmp .ne 87, 0, 0, 0) :: kk_200_83
def kk_200_40 : List qm_I := (.aload 0, 0, 0, 0) :: (.getfield 9, 6, 0, 0) :: (.iload 2, 0, 0, 0) :: (.iaload, 0, 0, 0) :: (.aload 0, 0, 0, 0) :: (.getfield 9, 10, 0, 0) :: (.iload 1, 0, 0, 0) :: (.iaload, 0, 0, 0) :: (.if_icmp .eq 61, 0, 0, 0) :: (.aload 0, 0, 0, 0) :: (.iconst 0, 0, 0, 5) :: (.invokevirtual 134, 2, 9, 0) :: (.ireturn, 0, 0, 0) :: kk_200_61
def kk_200_34 : List qm_I := (.aload 0, 0, 0, 0) :: (.iconst 0, 0, 0, 1) :: (.invokevirtual 134, 2, 9, 0) :: (.ireturn, 0, 0, 0) :: kk_200_40
def kk_200_16 : List qm_I := (.aload 0, 0, 0, 0) :: (.getfield 9, 9, 0, 0) :: (.iload 1, 0, 0, 0) :: (.iaload, 0, 0, 0) :: (.ifCond .lt 34, 0, 0, 0) :: (.aload 0, 0, 0, 0) :: (.getfield 9, 6, 0, 0) :: (.iload 2, 0, 0, 0) :: (.iaload, 0, 0, 0) :: (.ifCond .ge 40, 0, 0, 0) :: kk_200_34
def kk_200_14 : List qm_I := (.iconst 0, 0, 0, -1) :: (.ireturn, 0, 0, 0) :: kk_200_16
def kk_200_0 : List qm_I := (.iload 1, 0, 0, 0) :: (.invokestatic 151, 1, 0, 0) :: (.ifCond .eq 14, 0, 0, 0) :: (.iload 2, 0, 0, 0) :: (.invokestatic 143, 1, 0, 0) :: (.ifCond .ne 16, 0, 0, 0) :: kk_200_14
def kt_200 : qm_T := [(0, kk_200_0), (14, kk_200_14), (16, kk_200_16), (34, kk_200_34), (40, kk_200_40), (61, kk_200_61), (83, kk_200_83), (87, kk_200_87), (88, kk_200_88), (98, kk_200_98), (151, kk_200_151), (152, kk_200_152), (168, kk_200_168), (169, kk_200_169), (186, kk_200_186), (187, kk_200_187), (199, kk_200_199), (214, kk_200_214), (223, kk_200_223), (228, kk_200_228)]
theorem kc_200_228 : qm_chain 9 false (some .int) cX9_needStand 228 kk_200_228 := qm_chain_of _ _ _ _ 1 _ 229 _ (by decide +kernel) trivial
theorem kc_200_223 : qm_chain 9 false (some .int) cX9_needStand 223 kk_200_223 := qm_chain_of _ _ _ _ 3 _ 228 _ (by decide +kernel) kc_200_228
theorem kc_200_214 : qm_chain 9 false (some .int) cX9_needStand 214 kk_200_214 := qm_chain_of _ _ _ _ 4 _ 223 _ (by decide +kernel) kc_200_223
theorem kc_200_199 : qm_chain 9 false (some .int) cX9_needStand 199 kk_200_199 := qm_chain_of _ _ _ _ 7 _ 214 _ (by decide +kernel) kc_200_214
theorem kc_200_187 : qm_chain 9 false (some .int) cX9_needStand 187 kk_200_187 := qm_chain_of _ _ _ _ 7 _ 199 _ (by decide +kernel) kc_200_199
theorem kc_200_186 : qm_chain 9 false (some .int) cX9_needStand 186 kk_200_186 := qm_chain_of _ _ _ _ 1 _ 187 _ (by decide +kernel) kc_200_187
theorem kc_200_169 : qm_chain 9 false (some .int) cX9_needStand 169 kk_200_169 := qm_chain_of _ _ _ _ 8 _ 186 _ (by decide +kernel) kc_200_186
theorem kc_200_168 : qm_chain 9 false (some .int) cX9_needStand 168 kk_200_168 := qm_chain_of _ _ _ _ 1 _ 169 _ (by decide +kernel) kc_200_169
theorem kc_200_152 : qm_chain 9 false (some .int) cX9_needStand 152 kk_200_152 := qm_chain_of _ _ _ _ 8 _ 168 _ (by decide +kernel) kc_200_168
theorem kc_200_151 : qm_chain 9 false (some .int) cX9_needStand 151 kk_200_151 := qm_chain_of _ _ _ _ 1 _ 152 _ (by decide +kernel) kc_200_152
theorem kc_200_98 : qm_chain 9 false (some .int) cX9_needStand 98 kk_200_98 := qm_chain_of _ _ _ _ 26 _ 151 _ (by decide +kernel) kc_200_151
theorem kc_200_88 : qm_chain 9 false (some .int) cX9_needStand 88 kk_200_88 := qm_chain_of _ _ _ _ 6 _ 98 _ (by decide +kernel) kc_200_98
theorem kc_200_87 : qm_chain 9 false (some .int) cX9_needStand 87 kk_200_87 := qm_chain_of _ _ _ _ 1 _ 88 _ (by decide +kernel) kc_200_88
theorem kc_200_83 : qm_chain 9 false (some .int) cX9_needStand 83 kk_200_83 := qm_chain_of _ _ _ _ 2 _ 87 _ (by decide +kernel) kc_200_87
theorem kc_200_61 : qm_chain 9 false (some .int) cX9_needStand 61 kk_200_61 := qm_chain_of _ _ _ _ 13 _ 83 _ (by decide +kernel) kc_200_83
theorem kc_200_40 : qm_chain 9 false (some .int) cX9_needStand 40 kk_200_40 := qm_chain_of _ _ _ _ 13 _ 61 _ (by decide +kernel) kc_200_61
theorem kc_200_34 : qm_chain 9 false (some .int) cX9_needStand 34 kk_200_34 := qm_chain_of _ _ _ _ 4 _ 40 _ (by decide +kernel) kc_200_40
theorem kc_200_16 : qm_chain 9 false (some .int) cX9_needStand 16 kk_200_16 := qm_chain_of _ _ _ _ 10 _ 34 _ (by decide +kernel) kc_200_34
theorem kc_200_14 : qm_chain 9 false (some .int) cX9_needStand 14 kk_200_14 := qm_chain_of _ _ _ _ 2 _ 16 _ (by decide +kernel) kc_200_16
theorem kc_200_0 : qm_chain 9 false (some .int) cX9_needStand 0 kk_200_0 := qm_chain_of _ _ _ _ 6 _ 14 _ (by decide +kernel) kc_200_14
theorem ka_200 : ∀ t : Int, 0 ≤ t → qm_chain 9 false (some .int) cX9_needStand t.toNat (qm_lk kt_200 t) := qm_lk_ok (List.forall_mem_cons.mpr ⟨⟨by decide, kc_200_0⟩, List.forall_mem_cons.mpr ⟨⟨by decide, kc_200_14⟩, List.forall_mem_cons.mpr ⟨⟨by decide, kc_200_16⟩, List.forall_mem_cons.mpr ⟨⟨by decide, kc_200_34⟩, List.forall_mem_cons.mpr ⟨⟨by decide, kc_200_40⟩, List.forall_mem_cons.mpr ⟨⟨by decide, kc_200_61⟩, List.forall_mem_cons.mpr ⟨⟨by decide, kc_200_83⟩, List.forall_mem_cons.mpr ⟨⟨by decide, kc_200_87⟩, List.forall_mem_cons.mpr ⟨⟨by decide, kc_200_88⟩, List.forall_mem_cons.mpr ⟨⟨by decide, kc_200_98⟩, List.forall_mem_cons.mpr ⟨⟨by decide, kc_200_151⟩, List.forall_mem_cons.mpr ⟨⟨by decide, kc_200_152⟩, List.forall_mem_cons.mpr ⟨⟨by decide, kc_200_168⟩, List.forall_mem_cons.mpr ⟨⟨by decide, kc_200_169⟩, List.forall_mem_cons.mpr ⟨⟨by decide, kc_200_186⟩, List.forall_mem_cons.mpr ⟨⟨by decide, kc_200_187⟩, List.forall_mem_cons.mpr ⟨⟨by decide, kc_200_199⟩, List.forall_mem_cons.mpr ⟨⟨by decide, kc_200_214⟩, List.forall_mem_cons.mpr ⟨⟨by decide, kc_200_223⟩, List.forall_mem_cons.mpr ⟨⟨by decide, kc_200_228⟩, fun _ h => absurd h List.not_mem_nil⟩⟩⟩⟩⟩⟩⟩⟩⟩⟩⟩⟩⟩⟩⟩⟩⟩⟩⟩⟩)
theorem kg_200 : qm_G1 (yX9_needStand, cX9_needStand, 9, some .int, 9, 3) (9, kt_200) := ⟨rfl, false, (fun z => by cases z), ka_200⟩
-- 201: TowerBoardsModel.rankNow
def kk_201_183 : List qm_I := (.lload 2, 0, 0, 0) :: (.lreturn, 0, 0, 0) :: []
def kk_201_174 : List qm_I := (.isub, 0, 0, 0) :: (.istore 5, 0, 0, 0) :: (.iinc 6 0, 0, 0, 1) :: (.goto 14, 0, 0, 0) :: kk_201_183
def kk_201_173 : List qm_I := (.iconst 0, 0, 0, 1) :: kk_201_174
def kk_201_152 : List qm_I := (.ior, 0, 0, 0) :: (.istore 4, 0, 0, 0) :: (.iload 5, 0, 0, 0) :: (.aload 0, 0, 0, 0) :: (.getfield 9, 22, 0, 0) :: (.iload 6, 0, 0, 0) :: (.iaload, 0, 0, 0) :: (.iconst 0, 0, 0, -9) :: (.if_icmp .ne 173, 0, 0, 0) :: (.iconst 0, 0, 0, 0) :: (.goto 174, 0, 0, 0) :: kk_201_173
def kk_201_143 : List qm_I := (.iconst 0, 0, 0, 1) :: (.aload 0, 0, 0, 0) :: (.getfield 9, 22, 0, 0) :: (.iload 6, 0, 0, 0) :: (.iaload, 0, 0, 0) :: (.ishl, 0, 0, 0) :: kk_201_152
def kk_201_125 : List qm_I := (.iload 4, 0, 0, 0) :: (.aload 0, 0, 0, 0) :: (.getfield 9, 22, 0, 0) :: (.iload 6, 0, 0, 0) :: (.iaload, 0, 0, 0) :: (.iconst 0, 0, 0, -9) :: (.if_icmp .ne 143, 0, 0, 0) :: (.iconst 0, 0, 0, 0) :: (.goto 152, 0, 0, 0) :: kk_201_143
def kk_201_117 : List qm_I := (.ladd, 0, 0, 0) :: (.lstore 2, 0, 0, 0) :: (.iinc 8 0, 0, 0, 1) :: (.goto 58, 0, 0, 0) :: kk_201_125
def kk_201_116 : List qm_I := (.lconst 0, 0, 0, 0) :: kk_201_117
def kk_201_58 : List qm_I := (.iload 8, 0, 0, 0) :: (.iload 7, 0, 0, 0) :: (.if_icmp .ge 125, 0, 0, 0) :: (.iload 5, 0, 0, 0) :: (.ifCond .le 125, 0, 0, 0) :: (.lload 2, 0, 0, 0) :: (.aload 0, 0, 0, 0) :: (.iload 1, 0, 0, 0) :: (.iload 6, 0, 0, 0) :: (.iload 8, 0, 0, 0) :: (.invokevirtual 166, 4, 9, 0) :: (.ifCond .eq 116, 0, 0, 0) :: (.iload 4, 0, 0, 0) :: (.iload 8, 0, 0, 0) :: (.invokestatic 132, 2, 0, 0) :: (.ifCond .ne 116, 0, 0, 0) :: (.aload 0, 0, 0, 0) :: (.iload 1, 0, 0, 0) :: (.iload 6, 0, 0, 0) :: (.iconst 0, 0, 0, 1) :: (.iadd, 0, 0, 0) :: (.iload 4, 0, 0, 0) :: (.iconst 0, 0, 0, 1) :: (.iload 8, 0, 0, 0) :: (.ishl, 0, 0, 0) :: (.ior, 0, 0, 0) :: (.iload 5, 0, 0, 0) :: (.iconst 0, 0, 0, 1) :: (.isub, 0, 0, 0) :: (.invokevirtual 196, 5, 9, 0) :: (.goto 117, 0, 0, 0) :: kk_201_116
def kk_201_53 : List qm_I := (.istore 7, 0, 0, 0) :: (.iconst 0, 0, 0, 0) :: (.istore 8, 0, 0, 0) :: kk_201_58
def kk_201_46 : List qm_I := (.aload 0, 0, 0, 0) :: (.getfield 9, 22, 0, 0) :: (.iload 6, 0, 0, 0) :: (.iaload, 0, 0, 0) :: kk_201_53
def kk_201_14 : List qm_I := (.iload 6, 0, 0, 0) :: (.aload 0, 0, 0, 0) :: (.getfield 9, 10, 0, 0) :: (.iload 1, 0, 0, 0) :: (.iaload, 0, 0, 0) :: (.if_icmp .ge 183, 0, 0, 0) :: (.aload 0, 0, 0, 0) :: (.getfield 9, 22, 0, 0) :: (.iload 6, 0, 0, 0) :: (.iaload, 0, 0, 0) :: (.iconst 0, 0, 0, -9) :: (.if_icmp .ne 46, 0, 0, 0) :: (.aload 0, 0, 0, 0) :: (.getfield 9, 11, 0, 0) :: (.iload 1, 0, 0, 0) :: (.iaload, 0, 0, 0) :: (.goto 53, 0, 0, 0) :: kk_201_46
def kk_201_0 : List qm_I := (.lconst 0, 0, 0, 0) :: (.lstore 2, 0, 0, 0) :: (.iconst 0, 0, 0, 0) :: (.istore 4, 0, 0, 0) :: (.aload 0, 0, 0, 0) :: (.getfield 9, 32, 0, 0) :: (.istore 5, 0, 0, 0) :: (.iconst 0, 0, 0, 0) :: (.istore 6, 0, 0, 0) :: kk_201_14
def kt_201 : qm_T := [(0, kk_201_0), (14, kk_201_14), (46, kk_201_46), (53, kk_201_53), (58, kk_201_58), (116, kk_201_116), (117, kk_201_117), (125, kk_201_125), (143, kk_201_143), (152, kk_201_152), (173, kk_201_173), (174, kk_201_174), (183, kk_201_183)]
theorem kc_201_183 : qm_chain 9 false (some .long) cX9_rankNow 183 kk_201_183 := qm_chain_of _ _ _ _ 2 _ 185 _ (by decide +kernel) trivial
theorem kc_201_174 : qm_chain 9 false (some .long) cX9_rankNow 174 kk_201_174 := qm_chain_of _ _ _ _ 4 _ 183 _ (by decide +kernel) kc_201_183
theorem kc_201_173 : qm_chain 9 false (some .long) cX9_rankNow 173 kk_201_173 := qm_chain_of _ _ _ _ 1 _ 174 _ (by decide +kernel) kc_201_174
theorem kc_201_152 : qm_chain 9 false (some .long) cX9_rankNow 152 kk_201_152 := qm_chain_of _ _ _ _ 11 _ 173 _ (by decide +kernel) kc_201_173
theorem kc_201_143 : qm_chain 9 false (some .long) cX9_rankNow 143 kk_201_143 := qm_chain_of _ _ _ _ 6 _ 152 _ (by decide +kernel) kc_201_152
theorem kc_201_125 : qm_chain 9 false (some .long) cX9_rankNow 125 kk_201_125 := qm_chain_of _ _ _ _ 9 _ 143 _ (by decide +kernel) kc_201_143
theorem kc_201_117 : qm_chain 9 false (some .long) cX9_rankNow 117 kk_201_117 := qm_chain_of _ _ _ _ 4 _ 125 _ (by decide +kernel) kc_201_125
theorem kc_201_116 : qm_chain 9 false (some .long) cX9_rankNow 116 kk_201_116 := qm_chain_of _ _ _ _ 1 _ 117 _ (by decide +kernel) kc_201_117
theorem kc_201_58 : qm_chain 9 false (some .long) cX9_rankNow 58 kk_201_58 := qm_chain_of _ _ _ _ 31 _ 116 _ (by decide +kernel) kc_201_116
theorem kc_201_53 : qm_chain 9 false (some .long) cX9_rankNow 53 kk_201_53 := qm_chain_of _ _ _ _ 3 _ 58 _ (by decide +kernel) kc_201_58
theorem kc_201_46 : qm_chain 9 false (some .long) cX9_rankNow 46 kk_201_46 := qm_chain_of _ _ _ _ 4 _ 53 _ (by decide +kernel) kc_201_53
theorem kc_201_14 : qm_chain 9 false (some .long) cX9_rankNow 14 kk_201_14 := qm_chain_of _ _ _ _ 17 _ 46 _ (by decide +kernel) kc_201_46
theorem kc_201_0 : qm_chain 9 false (some .long) cX9_rankNow 0 kk_201_0 := qm_chain_of _ _ _ _ 9 _ 14 _ (by decide +kernel) kc_201_14
theorem ka_201 : ∀ t : Int, 0 ≤ t → qm_chain 9 false (some .long) cX9_rankNow t.toNat (qm_lk kt_201 t) := qm_lk_ok (List.forall_mem_cons.mpr ⟨⟨by decide, kc_201_0⟩, List.forall_mem_cons.mpr ⟨⟨by decide, kc_201_14⟩, List.forall_mem_cons.mpr ⟨⟨by decide, kc_201_46⟩, List.forall_mem_cons.mpr ⟨⟨by decide, kc_201_53⟩, List.forall_mem_cons.mpr ⟨⟨by decide, kc_201_58⟩, List.forall_mem_cons.mpr ⟨⟨by decide, kc_201_116⟩, List.forall_mem_cons.mpr ⟨⟨by decide, kc_201_117⟩, List.forall_mem_cons.mpr ⟨⟨by decide, kc_201_125⟩, List.forall_mem_cons.mpr ⟨⟨by decide, kc_201_143⟩, List.forall_mem_cons.mpr ⟨⟨by decide, kc_201_152⟩, List.forall_mem_cons.mpr ⟨⟨by decide, kc_201_173⟩, List.forall_mem_cons.mpr ⟨⟨by decide, kc_201_174⟩, List.forall_mem_cons.mpr ⟨⟨by decide, kc_201_183⟩, fun _ h => absurd h List.not_mem_nil⟩⟩⟩⟩⟩⟩⟩⟩⟩⟩⟩⟩⟩)
theorem kg_201 : qm_G1 (yX9_rankNow, cX9_rankNow, 9, some .long, 9, 1) (9, kt_201) := ⟨rfl, false, (fun z => by cases z), ka_201⟩
-- 202: TowerBoardsModel.rank
def kk_202_22 : List qm_I := (.ireturn, 0, 0, 0) :: []
def kk_202_16 : List qm_I := (.aload 0, 0, 0, 0) :: (.iload 1, 0, 0, 0) :: (.invokevirtual 201, 2, 9, 0) :: (.l2i, 0, 0, 0) :: kk_202_22
def kk_202_0 : List qm_I := (.aload 0, 0, 0, 0) :: (.iload 1, 0, 0, 0) :: (.iload 2, 0, 0, 0) :: (.iconst 0, 0, 0, 0) :: (.invokevirtual 200, 4, 9, 0) :: (.istore 3, 0, 0, 0) :: (.iload 3, 0, 0, 0) :: (.ifCond .ge 16, 0, 0, 0) :: (.iload 3, 0, 0, 0) :: (.goto 22, 0, 0, 0) :: kk_202_16
def kt_202 : qm_T := [(0, kk_202_0), (16, kk_202_16), (22, kk_202_22)]
theorem kc_202_22 : qm_chain 9 false (some .int) cX9_rank 22 kk_202_22 := qm_chain_of _ _ _ _ 1 _ 23 _ (by decide +kernel) trivial
theorem kc_202_16 : qm_chain 9 false (some .int) cX9_rank 16 kk_202_16 := qm_chain_of _ _ _ _ 4 _ 22 _ (by decide +kernel) kc_202_22
theorem kc_202_0 : qm_chain 9 false (some .int) cX9_rank 0 kk_202_0 := qm_chain_of _ _ _ _ 10 _ 16 _ (by decide +kernel) kc_202_16
theorem ka_202 : ∀ t : Int, 0 ≤ t → qm_chain 9 false (some .int) cX9_rank t.toNat (qm_lk kt_202 t) := qm_lk_ok (List.forall_mem_cons.mpr ⟨⟨by decide, kc_202_0⟩, List.forall_mem_cons.mpr ⟨⟨by decide, kc_202_16⟩, List.forall_mem_cons.mpr ⟨⟨by decide, kc_202_22⟩, fun _ h => absurd h List.not_mem_nil⟩⟩⟩)
theorem kg_202 : qm_G1 (yX9_rank, cX9_rank, 4, some .int, 9, 2) (4, kt_202) := ⟨rfl, false, (fun z => by cases z), ka_202⟩
-- 203: TowerBoardsModel.next
def kk_203_36 : List qm_I := (.aload 0, 0, 0, 0) :: (.iload 1, 0, 0, 0) :: (.iload 2, 0, 0, 0) :: (.invokevirtual 198, 3, 9, 0) :: (.iconst 0, 0, 0, 1) :: (.ireturn, 0, 0, 0) :: []
def kk_203_14 : List qm_I := (.aload 0, 0, 0, 0) :: (.iload 1, 0, 0, 0) :: (.aload 0, 0, 0, 0) :: (.getfield 9, 32, 0, 0) :: (.aload 0, 0, 0, 0) :: (.iload 1, 0, 0, 0) :: (.invokevirtual 201, 2, 9, 0) :: (.lconst 0, 0, 0, 1) :: (.ladd, 0, 0, 0) :: (.invokevirtual 197, 4, 9, 0) :: (.ifCond .ne 36, 0, 0, 0) :: (.iconst 0, 0, 0, -9) :: (.ireturn, 0, 0, 0) :: kk_203_36
def kk_203_0 : List qm_I := (.aload 0, 0, 0, 0) :: (.iload 1, 0, 0, 0) :: (.iload 2, 0, 0, 0) :: (.iconst 0, 0, 0, 0) :: (.invokevirtual 200, 4, 9, 0) :: (.istore 3, 0, 0, 0) :: (.iload 3, 0, 0, 0) :: (.ifCond .ge 14, 0, 0, 0) :: (.iload 3, 0, 0, 0) :: (.ireturn, 0, 0, 0) :: kk_203_14
def kt_203 : qm_T := [(0, kk_203_0), (14, kk_203_14), (36, kk_203_36)]
theorem kc_203_36 : qm_chain 9 false (some .int) cX9_next 36 kk_203_36 := qm_chain_of _ _ _ _ 6 _ 44 _ (by decide +kernel) trivial
theorem kc_203_14 : qm_chain 9 false (some .int) cX9_next 14 kk_203_14 := qm_chain_of _ _ _ _ 13 _ 36 _ (by decide +kernel) kc_203_36
theorem kc_203_0 : qm_chain 9 false (some .int) cX9_next 0 kk_203_0 := qm_chain_of _ _ _ _ 10 _ 14 _ (by decide +kernel) kc_203_14
theorem ka_203 : ∀ t : Int, 0 ≤ t → qm_chain 9 false (some .int) cX9_next t.toNat (qm_lk kt_203 t) := qm_lk_ok (List.forall_mem_cons.mpr ⟨⟨by decide, kc_203_0⟩, List.forall_mem_cons.mpr ⟨⟨by decide, kc_203_14⟩, List.forall_mem_cons.mpr ⟨⟨by decide, kc_203_36⟩, fun _ h => absurd h List.not_mem_nil⟩⟩⟩)
theorem kg_203 : qm_G1 (yX9_next, cX9_next, 4, some .int, 9, 2) (4, kt_203) := ⟨rfl, false, (fun z => by cases z), ka_203⟩
-- 204: TowerBoardsModel.mostOf
def kk_204_25 : List qm_I := (.iload 2, 0, 0, 0) :: (.ireturn, 0, 0, 0) :: []
def kk_204_8 : List qm_I := (.aload 0, 0, 0, 0) :: (.getfield 9, 16, 0, 0) :: (.iload 2, 0, 0, 0) :: (.laload, 0, 0, 0) :: (.lconst 0, 0, 0, 0) :: (.lcmp, 0, 0, 0) :: (.ifCond .ne 25, 0, 0, 0) :: (.iinc 2 0, 0, 0, -1) :: (.goto 8, 0, 0, 0) :: kk_204_25
def kk_204_0 : List qm_I := (.aload 0, 0, 0, 0) :: (.iload 1, 0, 0, 0) :: (.invokevirtual 175, 2, 9, 0) :: (.iconst 0, 0, 0, 6) :: (.istore 2, 0, 0, 0) :: kk_204_8
def kt_204 : qm_T := [(0, kk_204_0), (8, kk_204_8), (25, kk_204_25)]
theorem kc_204_25 : qm_chain 9 false (some .int) cX9_mostOf 25 kk_204_25 := qm_chain_of _ _ _ _ 2 _ 27 _ (by decide +kernel) trivial
theorem kc_204_8 : qm_chain 9 false (some .int) cX9_mostOf 8 kk_204_8 := qm_chain_of _ _ _ _ 9 _ 25 _ (by decide +kernel) kc_204_25
theorem kc_204_0 : qm_chain 9 false (some .int) cX9_mostOf 0 kk_204_0 := qm_chain_of _ _ _ _ 5 _ 8 _ (by decide +kernel) kc_204_8
theorem ka_204 : ∀ t : Int, 0 ≤ t → qm_chain 9 false (some .int) cX9_mostOf t.toNat (qm_lk kt_204 t) := qm_lk_ok (List.forall_mem_cons.mpr ⟨⟨by decide, kc_204_0⟩, List.forall_mem_cons.mpr ⟨⟨by decide, kc_204_8⟩, List.forall_mem_cons.mpr ⟨⟨by decide, kc_204_25⟩, fun _ h => absurd h List.not_mem_nil⟩⟩⟩)
theorem kg_204 : qm_G1 (yX9_mostOf, cX9_mostOf, 3, some .int, 9, 1) (3, kt_204) := ⟨rfl, false, (fun z => by cases z), ka_204⟩
-- 205: TowerBoardsModel.most
def kk_205_20 : List qm_I := (.ireturn, 0, 0, 0) :: []
def kk_205_15 : List qm_I := (.aload 0, 0, 0, 0) :: (.iload 1, 0, 0, 0) :: (.invokevirtual 204, 2, 9, 0) :: kk_205_20
def kk_205_0 : List qm_I := (.aload 0, 0, 0, 0) :: (.iconst 0, 0, 0, 1) :: (.iload 1, 0, 0, 0) :: (.invokevirtual 159, 3, 9, 0) :: (.istore 2, 0, 0, 0) :: (.iload 2, 0, 0, 0) :: (.ifCond .ge 15, 0, 0, 0) :: (.iload 2, 0, 0, 0) :: (.goto 20, 0, 0, 0) :: kk_205_15
def kt_205 : qm_T := [(0, kk_205_0), (15, kk_205_15), (20, kk_205_20)]
theorem kc_205_20 : qm_chain 9 false (some .int) cX9_most 20 kk_205_20 := qm_chain_of _ _ _ _ 1 _ 21 _ (by decide +kernel) trivial
theorem kc_205_15 : qm_chain 9 false (some .int) cX9_most 15 kk_205_15 := qm_chain_of _ _ _ _ 3 _ 20 _ (by decide +kernel) kc_205_20
theorem kc_205_0 : qm_chain 9 false (some .int) cX9_most 0 kk_205_0 := qm_chain_of _ _ _ _ 9 _ 15 _ (by decide +kernel) kc_205_15
theorem ka_205 : ∀ t : Int, 0 ≤ t → qm_chain 9 false (some .int) cX9_most t.toNat (qm_lk kt_205 t) := qm_lk_ok (List.forall_mem_cons.mpr ⟨⟨by decide, kc_205_0⟩, List.forall_mem_cons.mpr ⟨⟨by decide, kc_205_15⟩, List.forall_mem_cons.mpr ⟨⟨by decide, kc_205_20⟩, fun _ h => absurd h List.not_mem_nil⟩⟩⟩)
theorem kg_205 : qm_G1 (yX9_most, cX9_most, 3, some .int, 9, 1) (3, kt_205) := ⟨rfl, false, (fun z => by cases z), ka_205⟩
-- 206: TowerBoardsModel.cover
def kk_206_137 : List qm_I := (.aload 0, 0, 0, 0) :: (.iload 4, 0, 0, 0) :: (.iload 3, 0, 0, 0) :: (.invokevirtual 137, 3, 9, 0) :: (.ireturn, 0, 0, 0) :: []
def kk_206_130 : List qm_I := (.istore 3, 0, 0, 0) :: (.iinc 5 0, 0, 0, 1) :: (.goto 22, 0, 0, 0) :: kk_206_137
def kk_206_129 : List qm_I := (.iload 3, 0, 0, 0) :: kk_206_130
def kk_206_116 : List qm_I := (.istore 4, 0, 0, 0) :: (.iload 7, 0, 0, 0) :: (.iload 3, 0, 0, 0) :: (.if_icmp .ge 129, 0, 0, 0) :: (.iload 7, 0, 0, 0) :: (.goto 130, 0, 0, 0) :: kk_206_129
def kk_206_114 : List qm_I := (.iload 4, 0, 0, 0) :: kk_206_116
def kk_206_84 : List qm_I := (.iload 5, 0, 0, 0) :: (.invokestatic 133, 1, 0, 0) :: (.iload 6, 0, 0, 0) :: (.invokestatic 133, 1, 0, 0) :: (.iadd, 0, 0, 0) :: (.istore 7, 0, 0, 0) :: (.iload 7, 0, 0, 0) :: (.iload 3, 0, 0, 0) :: (.if_icmp .ge 114, 0, 0, 0) :: (.iconst 0, 0, 0, 64) :: (.iload 5, 0, 0, 0) :: (.imul, 0, 0, 0) :: (.iload 6, 0, 0, 0) :: (.iadd, 0, 0, 0) :: (.goto 116, 0, 0, 0) :: kk_206_114
def kk_206_75 : List qm_I := (.ior, 0, 0, 0) :: (.istore 6, 0, 0, 0) :: (.iinc 7 0, 0, 0, 1) :: (.goto 41, 0, 0, 0) :: kk_206_84
def kk_206_68 : List qm_I := (.aload 0, 0, 0, 0) :: (.iload 1, 0, 0, 0) :: (.iload 7, 0, 0, 0) :: (.invokevirtual 152, 3, 9, 0) :: kk_206_75
def kk_206_41 : List qm_I := (.iload 7, 0, 0, 0) :: (.aload 0, 0, 0, 0) :: (.getfield 9, 10, 0, 0) :: (.iload 1, 0, 0, 0) :: (.iaload, 0, 0, 0) :: (.if_icmp .ge 84, 0, 0, 0) :: (.iload 6, 0, 0, 0) :: (.iload 5, 0, 0, 0) :: (.iload 7, 0, 0, 0) :: (.invokestatic 132, 2, 0, 0) :: (.ifCond .eq 68, 0, 0, 0) :: (.iconst 0, 0, 0, 0) :: (.goto 75, 0, 0, 0) :: kk_206_68
def kk_206_22 : List qm_I := (.iload 5, 0, 0, 0) :: (.iconst 0, 0, 0, 1) :: (.aload 0, 0, 0, 0) :: (.getfield 9, 10, 0, 0) :: (.iload 1, 0, 0, 0) :: (.iaload, 0, 0, 0) :: (.ishl, 0, 0, 0) :: (.if_icmp .ge 137, 0, 0, 0) :: (.iconst 0, 0, 0, 0) :: (.istore 6, 0, 0, 0) :: (.iconst 0, 0, 0, 0) :: (.istore 7, 0, 0, 0) :: kk_206_41
def kk_206_13 : List qm_I := (.iconst 0, 0, 0, 99) :: (.istore 3, 0, 0, 0) :: (.iconst 0, 0, 0, 0) :: (.istore 4, 0, 0, 0) :: (.iconst 0, 0, 0, 0) :: (.istore 5, 0, 0, 0) :: kk_206_22
def kk_206_0 : List qm_I := (.aload 0, 0, 0, 0) :: (.iconst 0, 0, 0, 1) :: (.iload 1, 0, 0, 0) :: (.invokevirtual 159, 3, 9, 0) :: (.istore 2, 0, 0, 0) :: (.iload 2, 0, 0, 0) :: (.ifCond .ge 13, 0, 0, 0) :: (.iload 2, 0, 0, 0) :: (.ireturn, 0, 0, 0) :: kk_206_13
def kt_206 : qm_T := [(0, kk_206_0), (13, kk_206_13), (22, kk_206_22), (41, kk_206_41), (68, kk_206_68), (75, kk_206_75), (84, kk_206_84), (114, kk_206_114), (116, kk_206_116), (129, kk_206_129), (130, kk_206_130), (137, kk_206_137)]
theorem kc_206_137 : qm_chain 9 false (some .int) cX9_cover 137 kk_206_137 := qm_chain_of _ _ _ _ 5 _ 145 _ (by decide +kernel) trivial
theorem kc_206_130 : qm_chain 9 false (some .int) cX9_cover 130 kk_206_130 := qm_chain_of _ _ _ _ 3 _ 137 _ (by decide +kernel) kc_206_137
theorem kc_206_129 : qm_chain 9 false (some .int) cX9_cover 129 kk_206_129 := qm_chain_of _ _ _ _ 1 _ 130 _ (by decide +kernel) kc_206_130
theorem kc_206_116 : qm_chain 9 false (some .int) cX9_cover 116 kk_206_116 := qm_chain_of _ _ _ _ 6 _ 129 _ (by decide +kernel) kc_206_129
theorem kc_206_114 : qm_chain 9 false (some .int) cX9_cover 114 kk_206_114 := qm_chain_of _ _ _ _ 1 _ 116 _ (by decide +kernel) kc_206_116
theorem kc_206_84 : qm_chain 9 false (some .int) cX9_cover 84 kk_206_84 := qm_chain_of _ _ _ _ 15 _ 114 _ (by decide +kernel) kc_206_114
theorem kc_206_75 : qm_chain 9 false (some .int) cX9_cover 75 kk_206_75 := qm_chain_of _ _ _ _ 4 _ 84 _ (by decide +kernel) kc_206_84
theorem kc_206_68 : qm_chain 9 false (some .int) cX9_cover 68 kk_206_68 := qm_chain_of _ _ _ _ 4 _ 75 _ (by decide +kernel) kc_206_75
theorem kc_206_41 : qm_chain 9 false (some .int) cX9_cover 41 kk_206_41 := qm_chain_of _ _ _ _ 13 _ 68 _ (by decide +kernel) kc_206_68
theorem kc_206_22 : qm_chain 9 false (some .int) cX9_cover 22 kk_206_22 := qm_chain_of _ _ _ _ 12 _ 41 _ (by decide +kernel) kc_206_41
theorem kc_206_13 : qm_chain 9 false (some .int) cX9_cover 13 kk_206_13 := qm_chain_of _ _ _ _ 6 _ 22 _ (by decide +kernel) kc_206_22
theorem kc_206_0 : qm_chain 9 false (some .int) cX9_cover 0 kk_206_0 := qm_chain_of _ _ _ _ 9 _ 13 _ (by decide +kernel) kc_206_13
theorem ka_206 : ∀ t : Int, 0 ≤ t → qm_chain 9 false (some .int) cX9_cover t.toNat (qm_lk kt_206 t) := qm_lk_ok (List.forall_mem_cons.mpr ⟨⟨by decide, kc_206_0⟩, List.forall_mem_cons.mpr ⟨⟨by decide, kc_206_13⟩, List.forall_mem_cons.mpr ⟨⟨by decide, kc_206_22⟩, List.forall_mem_cons.mpr ⟨⟨by decide, kc_206_41⟩, List.forall_mem_cons.mpr ⟨⟨by decide, kc_206_68⟩, List.forall_mem_cons.mpr ⟨⟨by decide, kc_206_75⟩, List.forall_mem_cons.mpr ⟨⟨by decide, kc_206_84⟩, List.forall_mem_cons.mpr ⟨⟨by decide, kc_206_114⟩, List.forall_mem_cons.mpr ⟨⟨by decide, kc_206_116⟩, List.forall_mem_cons.mpr ⟨⟨by decide, kc_206_129⟩, List.forall_mem_cons.mpr ⟨⟨by decide, kc_206_130⟩, List.forall_mem_cons.mpr ⟨⟨by decide, kc_206_137⟩, fun _ h => absurd h List.not_mem_nil⟩⟩⟩⟩⟩⟩⟩⟩⟩⟩⟩⟩)
theorem kg_206 : qm_G1 (yX9_cover, cX9_cover, 8, some .int, 9, 1) (8, kt_206) := ⟨rfl, false, (fun z => by cases z), ka_206⟩
-- 207: TowerBoardsModel.need_
def kk_207_84 : List qm_I := (.ireturn, 0, 0, 0) :: []
def kk_207_83 : List qm_I := (.iconst 0, 0, 0, 0) :: kk_207_84
def kk_207_70 : List qm_I := (.aload 0, 0, 0, 0) :: (.getfield 9, 29, 0, 0) :: (.lconst 0, 0, 0, 0) :: (.lcmp, 0, 0, 0) :: (.ifCond .le 83, 0, 0, 0) :: (.iconst 0, 0, 0, 1) :: (.goto 84, 0, 0, 0) :: kk_207_83
def kk_207_32 : List qm_I := (.aload 0, 0, 0, 0) :: (.iload 2, 0, 0, 0) :: (.putfield 9, 25, 0, 0) :: (.aload 0, 0, 0, 0) :: (.iload 3, 0, 0, 0) :: (.putfield 9, 26, 0, 0) :: (.aload 0, 0, 0, 0) :: (.iload 1, 0, 0, 0) :: (.aload 0, 0, 0, 0) :: (.iload 1, 0, 0, 0) :: (.invokevirtual 204, 2, 9, 0) :: (.iconst 0, 0, 0, 3) :: (.iconst 0, 0, 0, 0) :: (.invokevirtual 194, 5, 9, 0) :: (.aload 0, 0, 0, 0) :: (.getfield 9, 29, 0, 0) :: (.aload 0, 0, 0, 0) :: (.getfield 9, 28, 0, 0) :: (.lcmp, 0, 0, 0) :: (.ifCond .ne 70, 0, 0, 0) :: (.iconst 0, 0, 0, 2) :: (.goto 84, 0, 0, 0) :: kk_207_70
def kk_207_16 : List qm_I := (.aload 0, 0, 0, 0) :: (.iload 1, 0, 0, 0) :: (.iload 2, 0, 0, 0) :: (.iload 3, 0, 0, 0) :: (.invokevirtual 166, 4, 9, 0) :: (.ifCond .ne 32, 0, 0, 0) :: (.aload 0, 0, 0, 0) :: (.iconst 0, 0, 0, 2) :: (.invokevirtual 134, 2, 9, 0) :: (.ireturn, 0, 0, 0) :: kk_207_32
def kk_207_0 : List qm_I := (.aload 0, 0, 0, 0) :: (.iconst 0, 0, 0, 1) :: (.iload 1, 0, 0, 0) :: (.invokevirtual 159, 3, 9, 0) :: (.istore 4, 0, 0, 0) :: (.iload 4, 0, 0, 0) :: (.ifCond .ge 16, 0, 0, 0) :: (.iload 4, 0, 0, 0) :: (.ireturn, 0, 0, 0) :: kk_207_16
def kt_207 : qm_T := [(0, kk_207_0), (16, kk_207_16), (32, kk_207_32), (70, kk_207_70), (83, kk_207_83), (84, kk_207_84)]
theorem kc_207_84 : qm_chain 9 false (some .int) cX9_need_ 84 kk_207_84 := qm_chain_of _ _ _ _ 1 _ 85 _ (by decide +kernel) trivial
theorem kc_207_83 : qm_chain 9 false (some .int) cX9_need_ 83 kk_207_83 := qm_chain_of _ _ _ _ 1 _ 84 _ (by decide +kernel) kc_207_84
theorem kc_207_70 : qm_chain 9 false (some .int) cX9_need_ 70 kk_207_70 := qm_chain_of _ _ _ _ 7 _ 83 _ (by decide +kernel) kc_207_83
theorem kc_207_32 : qm_chain 9 false (some .int) cX9_need_ 32 kk_207_32 := qm_chain_of _ _ _ _ 22 _ 70 _ (by decide +kernel) kc_207_70
theorem kc_207_16 : qm_chain 9 false (some .int) cX9_need_ 16 kk_207_16 := qm_chain_of _ _ _ _ 10 _ 32 _ (by decide +kernel) kc_207_32
theorem kc_207_0 : qm_chain 9 false (some .int) cX9_need_ 0 kk_207_0 := qm_chain_of _ _ _ _ 9 _ 16 _ (by decide +kernel) kc_207_16
theorem ka_207 : ∀ t : Int, 0 ≤ t → qm_chain 9 false (some .int) cX9_need_ t.toNat (qm_lk kt_207 t) := qm_lk_ok (List.forall_mem_cons.mpr ⟨⟨by decide, kc_207_0⟩, List.forall_mem_cons.mpr ⟨⟨by decide, kc_207_16⟩, List.forall_mem_cons.mpr ⟨⟨by decide, kc_207_32⟩, List.forall_mem_cons.mpr ⟨⟨by decide, kc_207_70⟩, List.forall_mem_cons.mpr ⟨⟨by decide, kc_207_83⟩, List.forall_mem_cons.mpr ⟨⟨by decide, kc_207_84⟩, fun _ h => absurd h List.not_mem_nil⟩⟩⟩⟩⟩⟩)
theorem kg_207 : qm_G1 (yX9_need_, cX9_need_, 5, some .int, 9, 3) (5, kt_207) := ⟨rfl, false, (fun z => by cases z), ka_207⟩
-- 208: TowerBoardsModel.needWeights
def kk_208_137 : List qm_I := (.ireturn, 0, 0, 0) :: []
def kk_208_132 : List qm_I := (.aload 0, 0, 0, 0) :: (.iconst 0, 0, 0, 3) :: (.invokevirtual 134, 2, 9, 0) :: kk_208_137
def kk_208_119 : List qm_I := (.aload 0, 0, 0, 0) :: (.iload 2, 0, 0, 0) :: (.putfield 9, 27, 0, 0) :: (.iload 3, 0, 0, 0) :: (.ifCond .eq 132, 0, 0, 0) :: (.iconst 0, 0, 0, 0) :: (.goto 137, 0, 0, 0) :: kk_208_132
def kk_208_112 : List qm_I := (.istore 3, 0, 0, 0) :: (.iinc 4 0, 0, 0, 1) :: (.goto 73, 0, 0, 0) :: kk_208_119
def kk_208_111 : List qm_I := (.iconst 0, 0, 0, 0) :: kk_208_112
def kk_208_73 : List qm_I := (.iload 4, 0, 0, 0) :: (.aload 0, 0, 0, 0) :: (.getfield 9, 6, 0, 0) :: (.iload 2, 0, 0, 0) :: (.iaload, 0, 0, 0) :: (.if_icmp .ge 119, 0, 0, 0) :: (.iload 3, 0, 0, 0) :: (.ifCond .eq 111, 0, 0, 0) :: (.aload 0, 0, 0, 0) :: (.iload 2, 0, 0, 0) :: (.iload 4, 0, 0, 0) :: (.invokevirtual 144, 3, 9, 0) :: (.iconst 0, 0, 0, -1000) :: (.iconst 0, 0, 0, 1000) :: (.invokestatic 131, 3, 0, 0) :: (.ifCond .eq 111, 0, 0, 0) :: (.iconst 0, 0, 0, 1) :: (.goto 112, 0, 0, 0) :: kk_208_111
def kk_208_68 : List qm_I := (.iconst 0, 0, 0, 1) :: (.istore 3, 0, 0, 0) :: (.iconst 0, 0, 0, 0) :: (.istore 4, 0, 0, 0) :: kk_208_73
def kk_208_40 : List qm_I := (.aload 0, 0, 0, 0) :: (.getfield 9, 6, 0, 0) :: (.iload 2, 0, 0, 0) :: (.iaload, 0, 0, 0) :: (.aload 0, 0, 0, 0) :: (.getfield 9, 10, 0, 0) :: (.iload 1, 0, 0, 0) :: (.iaload, 0, 0, 0) :: (.aload 0, 0, 0, 0) :: (.getfield 9, 11, 0, 0) :: (.iload 1, 0, 0, 0) :: (.iaload, 0, 0, 0) :: (.imul, 0, 0, 0) :: (.if_icmp .eq 68, 0, 0, 0) :: (.aload 0, 0, 0, 0) :: (.iconst 0, 0, 0, 5) :: (.invokevirtual 134, 2, 9, 0) :: (.ireturn, 0, 0, 0) :: kk_208_68
def kk_208_34 : List qm_I := (.aload 0, 0, 0, 0) :: (.iconst 0, 0, 0, 1) :: (.invokevirtual 134, 2, 9, 0) :: (.ireturn, 0, 0, 0) :: kk_208_40
def kk_208_16 : List qm_I := (.aload 0, 0, 0, 0) :: (.getfield 9, 9, 0, 0) :: (.iload 1, 0, 0, 0) :: (.iaload, 0, 0, 0) :: (.ifCond .lt 34, 0, 0, 0) :: (.aload 0, 0, 0, 0) :: (.getfield 9, 6, 0, 0) :: (.iload 2, 0, 0, 0) :: (.iaload, 0, 0, 0) :: (.ifCond .ge 40, 0, 0, 0) :: kk_208_34
def kk_208_14 : List qm_I := (.iconst 0, 0, 0, -1) :: (.ireturn, 0, 0, 0) :: kk_208_16
def kk_208_0 : List qm_I := (.iload 1, 0, 0, 0) :: (.invokestatic 151, 1, 0, 0) :: (.ifCond .eq 14, 0, 0, 0) :: (.iload 2, 0, 0, 0) :: (.invokestatic 143, 1, 0, 0) :: (.ifCond .ne 16, 0, 0, 0) :: kk_208_14
def kt_208 : qm_T := [(0, kk_208_0), (14, kk_208_14), (16, kk_208_16), (34, kk_208_34), (40, kk_208_40), (68, kk_208_68), (73, kk_208_73), (111, kk_208_111), (112, kk_208_112), (119, kk_208_119), (132, kk_208_132), (137, kk_208_137)]
theorem kc_208_137 : qm_chain 9 false (some .int) cX9_needWeights 137 kk_208_137 := qm_chain_of _ _ _ _ 1 _ 138 _ (by decide +kernel) trivial
theorem kc_208_132 : qm_chain 9 false (some .int) cX9_needWeights 132 kk_208_132 := qm_chain_of _ _ _ _ 3 _ 137 _ (by decide +kernel) kc_208_137
theorem kc_208_119 : qm_chain 9 false (some .int) cX9_needWeights 119 kk_208_119 := qm_chain_of _ _ _ _ 7 _ 132 _ (by decide +kernel) kc_208_132
theorem kc_208_112 : qm_chain 9 false (some .int) cX9_needWeights 112 kk_208_112 := qm_chain_of _ _ _ _ 3 _ 119 _ (by decide +kernel) kc_208_119
theorem kc_208_111 : qm_chain 9 false (some .int) cX9_needWeights 111 kk_208_111 := qm_chain_of _ _ _ _ 1 _ 112 _ (by decide +kernel) kc_208_112
theorem kc_208_73 : qm_chain 9 false (some .int) cX9_needWeights 73 kk_208_73 := qm_chain_of _ _ _ _ 18 _ 111 _ (by decide +kernel) kc_208_111
theorem kc_208_68 : qm_chain 9 false (some .int) cX9_needWeights 68 kk_208_68 := qm_chain_of _ _ _ _ 4 _ 73 _ (by decide +kernel) kc_208_73
theorem kc_208_40 : qm_chain 9 false (some .int) cX9_needWeights 40 kk_208_40 := qm_chain_of _ _ _ _ 18 _ 68 _ (by decide +kernel) kc_208_68
theorem kc_208_34 : qm_chain 9 false (some .int) cX9_needWeights 34 kk_208_34 := qm_chain_of _ _ _ _ 4 _ 40 _ (by decide +kernel) kc_208_40
theorem kc_208_16 : qm_chain 9 false (some .int) cX9_needWeights 16 kk_208_16 := qm_chain_of _ _ _ _ 10 _ 34 _ (by decide +kernel) kc_208_34
theorem kc_208_14 : qm_chain 9 false (some .int) cX9_needWeights 14 kk_208_14 := qm_chain_of _ _ _ _ 2 _ 16 _ (by decide +kernel) kc_208_16
theorem kc_208_0 : qm_chain 9 false (some .int) cX9_needWeights 0 kk_208_0 := qm_chain_of _ _ _ _ 6 _ 14 _ (by decide +kernel) kc_208_14
theorem ka_208 : ∀ t : Int, 0 ≤ t → qm_chain 9 false (some .int) cX9_needWeights t.toNat (qm_lk kt_208 t) := qm_lk_ok (List.forall_mem_cons.mpr ⟨⟨by decide, kc_208_0⟩, List.forall_mem_cons.mpr ⟨⟨by decide, kc_208_14⟩, List.forall_mem_cons.mpr ⟨⟨by decide, kc_208_16⟩, List.forall_mem_cons.mpr ⟨⟨by decide, kc_208_34⟩, List.forall_mem_cons.mpr ⟨⟨by decide, kc_208_40⟩, List.forall_mem_cons.mpr ⟨⟨by decide, kc_208_68⟩, List.forall_mem_cons.mpr ⟨⟨by decide, kc_208_73⟩, List.forall_mem_cons.mpr ⟨⟨by decide, kc_208_111⟩, List.forall_mem_cons.mpr ⟨⟨by decide, kc_208_112⟩, List.forall_mem_cons.mpr ⟨⟨by decide, kc_208_119⟩, List.forall_mem_cons.mpr ⟨⟨by decide, kc_208_132⟩, List.forall_mem_cons.mpr ⟨⟨by decide, kc_208_137⟩, fun _ h => absurd h List.not_mem_nil⟩⟩⟩⟩⟩⟩⟩⟩⟩⟩⟩⟩)
theorem kg_208 : qm_G1 (yX9_needWeights, cX9_needWeights, 5, some .int, 9, 2) (5, kt_208) := ⟨rfl, false, (fun z => by cases z), ka_208⟩
-- 209: TowerBoardsModel.least
def kk_209_13 : List qm_I := (.aload 0, 0, 0, 0) :: (.iconst 0, 0, 0, 0) :: (.putfield 9, 25, 0, 0) :: (.aload 0, 0, 0, 0) :: (.iconst 0, 0, 0, 99) :: (.putfield 9, 26, 0, 0) :: (.aload 0, 0, 0, 0) :: (.iload 1, 0, 0, 0) :: (.aload 0, 0, 0, 0) :: (.iload 1, 0, 0, 0) :: (.invokevirtual 204, 2, 9, 0) :: (.iconst 0, 0, 0, 4) :: (.iconst 0, 0, 0, 0) :: (.invokevirtual 194, 5, 9, 0) :: (.aload 0, 0, 0, 0) :: (.aload 0, 0, 0, 0) :: (.getfield 9, 28, 0, 0) :: (.putfield 9, 3, 1, 0) :: (.aload 0, 0, 0, 0) :: (.aload 0, 0, 0, 0) :: (.getfield 9, 30, 0, 0) :: (.iconst 0, 0, 0, 1) :: (.invokevirtual 137, 3, 9, 0) :: (.ireturn, 0, 0, 0) :: []
def kk_209_0 : List qm_I := (.aload 0, 0, 0, 0) :: (.iload 1, 0, 0, 0) :: (.iload 2, 0, 0, 0) :: (.invokevirtual 208, 3, 9, 0) :: (.istore 3, 0, 0, 0) :: (.iload 3, 0, 0, 0) :: (.ifCond .ge 13, 0, 0, 0) :: (.iload 3, 0, 0, 0) :: (.ireturn, 0, 0, 0) :: kk_209_13
def kt_209 : qm_T := [(0, kk_209_0), (13, kk_209_13)]
theorem kc_209_13 : qm_chain 9 false (some .int) cX9_least 13 kk_209_13 := qm_chain_of _ _ _ _ 24 _ 54 _ (by decide +kernel) trivial
theorem kc_209_0 : qm_chain 9 false (some .int) cX9_least 0 kk_209_0 := qm_chain_of _ _ _ _ 9 _ 13 _ (by decide +kernel) kc_209_13
theorem ka_209 : ∀ t : Int, 0 ≤ t → qm_chain 9 false (some .int) cX9_least t.toNat (qm_lk kt_209 t) := qm_lk_ok (List.forall_mem_cons.mpr ⟨⟨by decide, kc_209_0⟩, List.forall_mem_cons.mpr ⟨⟨by decide, kc_209_13⟩, fun _ h => absurd h List.not_mem_nil⟩⟩)
theorem kg_209 : qm_G1 (yX9_least, cX9_least, 4, some .int, 9, 2) (4, kt_209) := ⟨rfl, false, (fun z => by cases z), ka_209⟩
-- 210: TowerBoardsModel.lack
def kk_210_79 : List qm_I := (.ireturn, 0, 0, 0) :: []
def kk_210_70 : List qm_I := (.aload 0, 0, 0, 0) :: (.getfield 9, 31, 0, 0) :: (.aload 0, 0, 0, 0) :: (.getfield 9, 30, 0, 0) :: (.isub, 0, 0, 0) :: kk_210_79
def kk_210_33 : List qm_I := (.aload 0, 0, 0, 0) :: (.iload 3, 0, 0, 0) :: (.putfield 9, 25, 0, 0) :: (.aload 0, 0, 0, 0) :: (.iload 4, 0, 0, 0) :: (.putfield 9, 26, 0, 0) :: (.aload 0, 0, 0, 0) :: (.iload 1, 0, 0, 0) :: (.aload 0, 0, 0, 0) :: (.iload 1, 0, 0, 0) :: (.invokevirtual 204, 2, 9, 0) :: (.iconst 0, 0, 0, 4) :: (.iconst 0, 0, 0, 0) :: (.invokevirtual 194, 5, 9, 0) :: (.aload 0, 0, 0, 0) :: (.getfield 9, 29, 0, 0) :: (.lconst 0, 0, 0, 0) :: (.lcmp, 0, 0, 0) :: (.ifCond .ne 70, 0, 0, 0) :: (.iconst 0, 0, 0, -9) :: (.goto 79, 0, 0, 0) :: kk_210_70
def kk_210_16 : List qm_I := (.aload 0, 0, 0, 0) :: (.iload 1, 0, 0, 0) :: (.iload 3, 0, 0, 0) :: (.iload 4, 0, 0, 0) :: (.invokevirtual 166, 4, 9, 0) :: (.ifCond .ne 33, 0, 0, 0) :: (.aload 0, 0, 0, 0) :: (.iconst 0, 0, 0, 2) :: (.invokevirtual 134, 2, 9, 0) :: (.ireturn, 0, 0, 0) :: kk_210_33
def kk_210_0 : List qm_I := (.aload 0, 0, 0, 0) :: (.iload 1, 0, 0, 0) :: (.iload 2, 0, 0, 0) :: (.invokevirtual 208, 3, 9, 0) :: (.istore 5, 0, 0, 0) :: (.iload 5, 0, 0, 0) :: (.ifCond .ge 16, 0, 0, 0) :: (.iload 5, 0, 0, 0) :: (.ireturn, 0, 0, 0) :: kk_210_16
def kt_210 : qm_T := [(0, kk_210_0), (16, kk_210_16), (33, kk_210_33), (70, kk_210_70), (79, kk_210_79)]
theorem kc_210_79 : qm_chain 9 false (some .int) cX9_lack 79 kk_210_79 := qm_chain_of _ _ _ _ 1 _ 80 _ (by decide +kernel) trivial
theorem kc_210_70 : qm_chain 9 false (some .int) cX9_lack 70 kk_210_70 := qm_chain_of _ _ _ _ 5 _ 79 _ (by decide +kernel) kc_210_79
theorem kc_210_33 : qm_chain 9 false (some .int) cX9_lack 33 kk_210_33 := qm_chain_of _ _ _ _ 21 _ 70 _ (by decide +kernel) kc_210_70
theorem kc_210_16 : qm_chain 9 false (some .int) cX9_lack 16 kk_210_16 := qm_chain_of _ _ _ _ 10 _ 33 _ (by decide +kernel) kc_210_33
theorem kc_210_0 : qm_chain 9 false (some .int) cX9_lack 0 kk_210_0 := qm_chain_of _ _ _ _ 9 _ 16 _ (by decide +kernel) kc_210_16
theorem ka_210 : ∀ t : Int, 0 ≤ t → qm_chain 9 false (some .int) cX9_lack t.toNat (qm_lk kt_210 t) := qm_lk_ok (List.forall_mem_cons.mpr ⟨⟨by decide, kc_210_0⟩, List.forall_mem_cons.mpr ⟨⟨by decide, kc_210_16⟩, List.forall_mem_cons.mpr ⟨⟨by decide, kc_210_33⟩, List.forall_mem_cons.mpr ⟨⟨by decide, kc_210_70⟩, List.forall_mem_cons.mpr ⟨⟨by decide, kc_210_79⟩, fun _ h => absurd h List.not_mem_nil⟩⟩⟩⟩⟩)
theorem kg_210 : qm_G1 (yX9_lack, cX9_lack, 6, some .int, 9, 4) (6, kt_210) := ⟨rfl, false, (fun z => by cases z), ka_210⟩
-- 211: TowerBoardsModel.needSquare
def kk_211_39 : List qm_I := (.ireturn, 0, 0, 0) :: []
def kk_211_34 : List qm_I := (.aload 0, 0, 0, 0) :: (.iconst 0, 0, 0, 3) :: (.invokevirtual 134, 2, 9, 0) :: kk_211_39
def kk_211_15 : List qm_I := (.aload 0, 0, 0, 0) :: (.getfield 9, 10, 0, 0) :: (.iload 2, 0, 0, 0) :: (.iaload, 0, 0, 0) :: (.aload 0, 0, 0, 0) :: (.getfield 9, 11, 0, 0) :: (.iload 2, 0, 0, 0) :: (.iaload, 0, 0, 0) :: (.if_icmp .ne 34, 0, 0, 0) :: (.iconst 0, 0, 0, 0) :: (.goto 39, 0, 0, 0) :: kk_211_34
def kk_211_0 : List qm_I := (.aload 0, 0, 0, 0) :: (.iload 1, 0, 0, 0) :: (.iload 2, 0, 0, 0) :: (.invokevirtual 159, 3, 9, 0) :: (.istore 3, 0, 0, 0) :: (.iload 3, 0, 0, 0) :: (.ifCond .ge 15, 0, 0, 0) :: (.iload 3, 0, 0, 0) :: (.goto 39, 0, 0, 0) :: kk_211_15
def kt_211 : qm_T := [(0, kk_211_0), (15, kk_211_15), (34, kk_211_34), (39, kk_211_39)]
theorem kc_211_39 : qm_chain 9 false (some .int) cX9_needSquare 39 kk_211_39 := qm_chain_of _ _ _ _ 1 _ 40 _ (by decide +kernel) trivial
theorem kc_211_34 : qm_chain 9 false (some .int) cX9_needSquare 34 kk_211_34 := qm_chain_of _ _ _ _ 3 _ 39 _ (by decide +kernel) kc_211_39
theorem kc_211_15 : qm_chain 9 false (some .int) cX9_needSquare 15 kk_211_15 := qm_chain_of _ _ _ _ 11 _ 34 _ (by decide +kernel) kc_211_34
theorem kc_211_0 : qm_chain 9 false (some .int) cX9_needSquare 0 kk_211_0 := qm_chain_of _ _ _ _ 9 _ 15 _ (by decide +kernel) kc_211_15
theorem ka_211 : ∀ t : Int, 0 ≤ t → qm_chain 9 false (some .int) cX9_needSquare t.toNat (qm_lk kt_211 t) := qm_lk_ok (List.forall_mem_cons.mpr ⟨⟨by decide, kc_211_0⟩, List.forall_mem_cons.mpr ⟨⟨by decide, kc_211_15⟩, List.forall_mem_cons.mpr ⟨⟨by decide, kc_211_34⟩, List.forall_mem_cons.mpr ⟨⟨by decide, kc_211_39⟩, fun _ h => absurd h List.not_mem_nil⟩⟩⟩⟩)
theorem kg_211 : qm_G1 (yX9_needSquare, cX9_needSquare, 4, some .int, 9, 2) (4, kt_211) := ⟨rfl, false, (fun z => by cases z), ka_211⟩
-- 212: TowerBoardsModel.rounds
def kk_212_40 : List qm_I := (.aload 0, 0, 0, 0) :: (.iload 1, 0, 0, 0) :: (.iload 2, 0, 0, 0) :: (.iconst 0, 0, 0, 1) :: (.iload 3, 0, 0, 0) :: (.invokevirtual 194, 5, 9, 0) :: (.aload 0, 0, 0, 0) :: (.aload 0, 0, 0, 0) :: (.getfield 9, 28, 0, 0) :: (.invokevirtual 138, 2, 9, 0) :: (.ireturn, 0, 0, 0) :: []
def kk_212_26 : List qm_I := (.iload 1, 0, 0, 0) :: (.invokevirtual 211, 3, 9, 0) :: (.istore 4, 0, 0, 0) :: (.iload 4, 0, 0, 0) :: (.ifCond .ge 40, 0, 0, 0) :: (.iload 4, 0, 0, 0) :: (.ireturn, 0, 0, 0) :: kk_212_40
def kk_212_25 : List qm_I := (.iconst 0, 0, 0, 0) :: kk_212_26
def kk_212_0 : List qm_I := (.aload 0, 0, 0, 0) :: (.iload 2, 0, 0, 0) :: (.iconst 0, 0, 0, 0) :: (.iconst 0, 0, 0, 6) :: (.invokestatic 131, 3, 0, 0) :: (.ifCond .eq 25, 0, 0, 0) :: (.iload 3, 0, 0, 0) :: (.iconst 0, 0, 0, 0) :: (.iconst 0, 0, 0, 6) :: (.invokestatic 131, 3, 0, 0) :: (.ifCond .eq 25, 0, 0, 0) :: (.iconst 0, 0, 0, 1) :: (.goto 26, 0, 0, 0) :: kk_212_25
def kt_212 : qm_T := [(0, kk_212_0), (25, kk_212_25), (26, kk_212_26), (40, kk_212_40)]
theorem kc_212_40 : qm_chain 9 false (some .int) cX9_rounds 40 kk_212_40 := qm_chain_of _ _ _ _ 11 _ 57 _ (by decide +kernel) trivial
theorem kc_212_26 : qm_chain 9 false (some .int) cX9_rounds 26 kk_212_26 := qm_chain_of _ _ _ _ 7 _ 40 _ (by decide +kernel) kc_212_40
theorem kc_212_25 : qm_chain 9 false (some .int) cX9_rounds 25 kk_212_25 := qm_chain_of _ _ _ _ 1 _ 26 _ (by decide +kernel) kc_212_26
theorem kc_212_0 : qm_chain 9 false (some .int) cX9_rounds 0 kk_212_0 := qm_chain_of _ _ _ _ 13 _ 25 _ (by decide +kernel) kc_212_25
theorem ka_212 : ∀ t : Int, 0 ≤ t → qm_chain 9 false (some .int) cX9_rounds t.toNat (qm_lk kt_212 t) := qm_lk_ok (List.forall_mem_cons.mpr ⟨⟨by decide, kc_212_0⟩, List.forall_mem_cons.mpr ⟨⟨by decide, kc_212_25⟩, List.forall_mem_cons.mpr ⟨⟨by decide, kc_212_26⟩, List.forall_mem_cons.mpr ⟨⟨by decide, kc_212_40⟩, fun _ h => absurd h List.not_mem_nil⟩⟩⟩⟩)
theorem kg_212 : qm_G1 (yX9_rounds, cX9_rounds, 5, some .int, 9, 3) (5, kt_212) := ⟨rfl, false, (fun z => by cases z), ka_212⟩
-- 213: TowerBoardsModel.longRings
def kk_213_19 : List qm_I := (.aload 0, 0, 0, 0) :: (.iload 1, 0, 0, 0) :: (.aload 0, 0, 0, 0) :: (.getfield 9, 10, 0, 0) :: (.iload 1, 0, 0, 0) :: (.iaload, 0, 0, 0) :: (.iconst 0, 0, 0, 2) :: (.iload 2, 0, 0, 0) :: (.invokevirtual 194, 5, 9, 0) :: (.aload 0, 0, 0, 0) :: (.aload 0, 0, 0, 0) :: (.getfield 9, 28, 0, 0) :: (.invokevirtual 138, 2, 9, 0) :: (.ireturn, 0, 0, 0) :: []
def kk_213_0 : List qm_I := (.aload 0, 0, 0, 0) :: (.iload 2, 0, 0, 0) :: (.iconst 0, 0, 0, 1) :: (.iconst 0, 0, 0, 6) :: (.invokestatic 131, 3, 0, 0) :: (.iload 1, 0, 0, 0) :: (.invokevirtual 211, 3, 9, 0) :: (.istore 3, 0, 0, 0) :: (.iload 3, 0, 0, 0) :: (.ifCond .ge 19, 0, 0, 0) :: (.iload 3, 0, 0, 0) :: (.ireturn, 0, 0, 0) :: kk_213_19
def kt_213 : qm_T := [(0, kk_213_0), (19, kk_213_19)]
theorem kc_213_19 : qm_chain 9 false (some .int) cX9_longRings 19 kk_213_19 := qm_chain_of _ _ _ _ 14 _ 41 _ (by decide +kernel) trivial
theorem kc_213_0 : qm_chain 9 false (some .int) cX9_longRings 0 kk_213_0 := qm_chain_of _ _ _ _ 12 _ 19 _ (by decide +kernel) kc_213_19
theorem ka_213 : ∀ t : Int, 0 ≤ t → qm_chain 9 false (some .int) cX9_longRings t.toNat (qm_lk kt_213 t) := qm_lk_ok (List.forall_mem_cons.mpr ⟨⟨by decide, kc_213_0⟩, List.forall_mem_cons.mpr ⟨⟨by decide, kc_213_19⟩, fun _ h => absurd h List.not_mem_nil⟩⟩)
theorem kg_213 : qm_G1 (yX9_longRings, cX9_longRings, 4, some .int, 9, 2) (4, kt_213) := ⟨rfl, false, (fun z => by cases z), ka_213⟩
-- 214: TowerBoardsModel.ringOf
def kk_214_116 : List qm_I := (.iconst 0, 0, 0, -9) :: (.ireturn, 0, 0, 0) :: []
def kk_214_100 : List qm_I := (.iadd, 0, 0, 0) :: (.istore 5, 0, 0, 0) :: (.iload 6, 0, 0, 0) :: (.iload 8, 0, 0, 0) :: (.ior, 0, 0, 0) :: (.istore 6, 0, 0, 0) :: (.iinc 7 0, 0, 0, 1) :: (.goto 26, 0, 0, 0) :: kk_214_116
def kk_214_99 : List qm_I := (.iconst 0, 0, 0, 0) :: kk_214_100
def kk_214_88 : List qm_I := (.iload 5, 0, 0, 0) :: (.iload 8, 0, 0, 0) :: (.ifCond .eq 99, 0, 0, 0) :: (.iconst 0, 0, 0, 1) :: (.goto 100, 0, 0, 0) :: kk_214_99
def kk_214_63 : List qm_I := (.istore 8, 0, 0, 0) :: (.iload 8, 0, 0, 0) :: (.ifCond .eq 88, 0, 0, 0) :: (.iload 5, 0, 0, 0) :: (.iload 3, 0, 0, 0) :: (.if_icmp .ne 88, 0, 0, 0) :: (.aload 0, 0, 0, 0) :: (.iload 8, 0, 0, 0) :: (.iload 8, 0, 0, 0) :: (.invokestatic 133, 1, 0, 0) :: (.invokevirtual 137, 3, 9, 0) :: (.ireturn, 0, 0, 0) :: kk_214_88
def kk_214_51 : List qm_I := (.aload 0, 0, 0, 0) :: (.aload 0, 0, 0, 0) :: (.getfield 9, 10, 0, 0) :: (.iload 1, 0, 0, 0) :: (.iaload, 0, 0, 0) :: (.iload 7, 0, 0, 0) :: (.invokevirtual 190, 3, 9, 0) :: kk_214_63
def kk_214_26 : List qm_I := (.iload 7, 0, 0, 0) :: (.aload 0, 0, 0, 0) :: (.getfield 9, 10, 0, 0) :: (.iload 1, 0, 0, 0) :: (.iaload, 0, 0, 0) :: (.if_icmp .ge 116, 0, 0, 0) :: (.iload 6, 0, 0, 0) :: (.iload 7, 0, 0, 0) :: (.invokestatic 132, 2, 0, 0) :: (.ifCond .eq 51, 0, 0, 0) :: (.iconst 0, 0, 0, 0) :: (.goto 63, 0, 0, 0) :: kk_214_51
def kk_214_17 : List qm_I := (.iconst 0, 0, 0, 0) :: (.istore 5, 0, 0, 0) :: (.iconst 0, 0, 0, 0) :: (.istore 6, 0, 0, 0) :: (.iconst 0, 0, 0, 0) :: (.istore 7, 0, 0, 0) :: kk_214_26
def kk_214_0 : List qm_I := (.aload 0, 0, 0, 0) :: (.iload 1, 0, 0, 0) :: (.iload 2, 0, 0, 0) :: (.iconst 0, 0, 0, 1) :: (.invokevirtual 200, 4, 9, 0) :: (.istore 4, 0, 0, 0) :: (.iload 4, 0, 0, 0) :: (.ifCond .ge 17, 0, 0, 0) :: (.iload 4, 0, 0, 0) :: (.ireturn, 0, 0, 0) :: kk_214_17
def kt_214 : qm_T := [(0, kk_214_0), (17, kk_214_17), (26, kk_214_26), (51, kk_214_51), (63, kk_214_63), (88, kk_214_88), (99, kk_214_99), (100, kk_214_100), (116, kk_214_116)]
theorem kc_214_116 : qm_chain 9 false (some .int) cX9_ringOf 116 kk_214_116 := qm_chain_of _ _ _ _ 2 _ 119 _ (by decide +kernel) trivial
theorem kc_214_100 : qm_chain 9 false (some .int) cX9_ringOf 100 kk_214_100 := qm_chain_of _ _ _ _ 8 _ 116 _ (by decide +kernel) kc_214_116
theorem kc_214_99 : qm_chain 9 false (some .int) cX9_ringOf 99 kk_214_99 := qm_chain_of _ _ _ _ 1 _ 100 _ (by decide +kernel) kc_214_100
theorem kc_214_88 : qm_chain 9 false (some .int) cX9_ringOf 88 kk_214_88 := qm_chain_of _ _ _ _ 5 _ 99 _ (by decide +kernel) kc_214_99
theorem kc_214_63 : qm_chain 9 false (some .int) cX9_ringOf 63 kk_214_63 := qm_chain_of _ _ _ _ 12 _ 88 _ (by decide +kernel) kc_214_88
theorem kc_214_51 : qm_chain 9 false (some .int) cX9_ringOf 51 kk_214_51 := qm_chain_of _ _ _ _ 7 _ 63 _ (by decide +kernel) kc_214_63
theorem kc_214_26 : qm_chain 9 false (some .int) cX9_ringOf 26 kk_214_26 := qm_chain_of _ _ _ _ 12 _ 51 _ (by decide +kernel) kc_214_51
theorem kc_214_17 : qm_chain 9 false (some .int) cX9_ringOf 17 kk_214_17 := qm_chain_of _ _ _ _ 6 _ 26 _ (by decide +kernel) kc_214_26
theorem kc_214_0 : qm_chain 9 false (some .int) cX9_ringOf 0 kk_214_0 := qm_chain_of _ _ _ _ 10 _ 17 _ (by decide +kernel) kc_214_17
theorem ka_214 : ∀ t : Int, 0 ≤ t → qm_chain 9 false (some .int) cX9_ringOf t.toNat (qm_lk kt_214 t) := qm_lk_ok (List.forall_mem_cons.mpr ⟨⟨by decide, kc_214_0⟩, List.forall_mem_cons.mpr ⟨⟨by decide, kc_214_17⟩, List.forall_mem_cons.mpr ⟨⟨by decide, kc_214_26⟩, List.forall_mem_cons.mpr ⟨⟨by decide, kc_214_51⟩, List.forall_mem_cons.mpr ⟨⟨by decide, kc_214_63⟩, List.forall_mem_cons.mpr ⟨⟨by decide, kc_214_88⟩, List.forall_mem_cons.mpr ⟨⟨by decide, kc_214_99⟩, List.forall_mem_cons.mpr ⟨⟨by decide, kc_214_100⟩, List.forall_mem_cons.mpr ⟨⟨by decide, kc_214_116⟩, fun _ h => absurd h List.not_mem_nil⟩⟩⟩⟩⟩⟩⟩⟩⟩)
theorem kg_214 : qm_G1 (yX9_ringOf, cX9_ringOf, 9, some .int, 9, 3) (9, kt_214) := ⟨rfl, false, (fun z => by cases z), ka_214⟩
-- 215: TowerBoardsModel.slants
def kk_215_206 : List qm_I := (.aload 0, 0, 0, 0) :: (.lload 4, 0, 0, 0) :: (.invokevirtual 138, 2, 9, 0) :: (.ireturn, 0, 0, 0) :: []
def kk_215_197 : List qm_I := (.ladd, 0, 0, 0) :: (.lstore 4, 0, 0, 0) :: (.iinc 6 0, 0, 0, 1) :: (.goto 167, 0, 0, 0) :: kk_215_206
def kk_215_196 : List qm_I := (.lconst 0, 0, 0, 0) :: kk_215_197
def kk_215_167 : List qm_I := (.iload 6, 0, 0, 0) :: (.iconst 0, 0, 0, 2048) :: (.if_icmp .ge 206, 0, 0, 0) :: (.lload 4, 0, 0, 0) :: (.iload 6, 0, 0, 0) :: (.invokestatic 133, 1, 0, 0) :: (.iload 2, 0, 0, 0) :: (.if_icmp .ne 196, 0, 0, 0) :: (.aload 0, 0, 0, 0) :: (.getfield 9, 33, 0, 0) :: (.iload 6, 0, 0, 0) :: (.laload, 0, 0, 0) :: (.goto 197, 0, 0, 0) :: kk_215_196
def kk_215_161 : List qm_I := (.lconst 0, 0, 0, 0) :: (.lstore 4, 0, 0, 0) :: (.iconst 0, 0, 0, 0) :: (.istore 6, 0, 0, 0) :: kk_215_167
def kk_215_155 : List qm_I := (.iinc 4 0, 0, 0, 1) :: (.goto 56, 0, 0, 0) :: kk_215_161
def kk_215_149 : List qm_I := (.iinc 5 0, 0, 0, -1) :: (.goto 68, 0, 0, 0) :: kk_215_155
def kk_215_143 : List qm_I := (.iinc 6 0, 0, 0, 1) :: (.goto 76, 0, 0, 0) :: kk_215_149
def kk_215_76 : List qm_I := (.iload 6, 0, 0, 0) :: (.iload 4, 0, 0, 0) :: (.if_icmp .gt 149, 0, 0, 0) :: (.iconst 0, 0, 0, 2) :: (.iload 6, 0, 0, 0) :: (.imul, 0, 0, 0) :: (.iload 4, 0, 0, 0) :: (.isub, 0, 0, 0) :: (.iconst 0, 0, 0, 5) :: (.iadd, 0, 0, 0) :: (.istore 7, 0, 0, 0) :: (.aload 0, 0, 0, 0) :: (.iload 1, 0, 0, 0) :: (.iload 6, 0, 0, 0) :: (.iload 4, 0, 0, 0) :: (.iload 6, 0, 0, 0) :: (.isub, 0, 0, 0) :: (.invokevirtual 166, 4, 9, 0) :: (.ifCond .eq 143, 0, 0, 0) :: (.iload 5, 0, 0, 0) :: (.iload 7, 0, 0, 0) :: (.invokestatic 132, 2, 0, 0) :: (.ifCond .eq 143, 0, 0, 0) :: (.aload 0, 0, 0, 0) :: (.getfield 9, 33, 0, 0) :: (.iload 5, 0, 0, 0) :: (.dup2, 0, 0, 0) :: (.laload, 0, 0, 0) :: (.aload 0, 0, 0, 0) :: (.getfield 9, 33, 0, 0) :: (.iload 5, 0, 0, 0) :: (.iconst 0, 0, 0, 1) :: (.iload 7, 0, 0, 0) :: (.ishl, 0, 0, 0) :: (.iconst 0, 0, 0, -1) :: (.ixor, 0, 0, 0) :: (.iand, 0, 0, 0) :: (.laload, 0, 0, 0) :: (.ladd, 0, 0, 0) :: (.lastore, 0, 0, 0) :: kk_215_143
def kk_215_68 : List qm_I := (.iload 5, 0, 0, 0) :: (.ifCond .le 155, 0, 0, 0) :: (.iconst 0, 0, 0, 0) :: (.istore 6, 0, 0, 0) :: kk_215_76
def kk_215_56 : List qm_I := (.iload 4, 0, 0, 0) :: (.iconst 0, 0, 0, 11) :: (.if_icmp .ge 161, 0, 0, 0) :: (.iconst 0, 0, 0, 2047) :: (.istore 5, 0, 0, 0) :: kk_215_68
def kk_215_53 : List qm_I := (.iconst 0, 0, 0, 0) :: (.istore 4, 0, 0, 0) :: kk_215_56
def kk_215_46 : List qm_I := (.lastore, 0, 0, 0) :: (.iinc 4 0, 0, 0, 1) :: (.goto 22, 0, 0, 0) :: kk_215_53
def kk_215_45 : List qm_I := (.lconst 0, 0, 0, 0) :: kk_215_46
def kk_215_22 : List qm_I := (.iload 4, 0, 0, 0) :: (.iconst 0, 0, 0, 2048) :: (.if_icmp .ge 53, 0, 0, 0) :: (.aload 0, 0, 0, 0) :: (.getfield 9, 33, 0, 0) :: (.iload 4, 0, 0, 0) :: (.iload 4, 0, 0, 0) :: (.ifCond .ne 45, 0, 0, 0) :: (.lconst 0, 0, 0, 1) :: (.goto 46, 0, 0, 0) :: kk_215_45
def kk_215_19 : List qm_I := (.iconst 0, 0, 0, 0) :: (.istore 4, 0, 0, 0) :: kk_215_22
def kk_215_0 : List qm_I := (.aload 0, 0, 0, 0) :: (.iload 2, 0, 0, 0) :: (.iconst 0, 0, 0, 0) :: (.iconst 0, 0, 0, 11) :: (.invokestatic 131, 3, 0, 0) :: (.iload 1, 0, 0, 0) :: (.invokevirtual 159, 3, 9, 0) :: (.istore 3, 0, 0, 0) :: (.iload 3, 0, 0, 0) :: (.ifCond .ge 19, 0, 0, 0) :: (.iload 3, 0, 0, 0) :: (.ireturn, 0, 0, 0) :: kk_215_19
def kt_215 : qm_T := [(0, kk_215_0), (19, kk_215_19), (22, kk_215_22), (45, kk_215_45), (46, kk_215_46), (53, kk_215_53), (56, kk_215_56), (68, kk_215_68), (76, kk_215_76), (143, kk_215_143), (149, kk_215_149), (155, kk_215_155), (161, kk_215_161), (167, kk_215_167), (196, kk_215_196), (197, kk_215_197), (206, kk_215_206)]
theorem kc_215_206 : qm_chain 9 false (some .int) cX9_slants 206 kk_215_206 := qm_chain_of _ _ _ _ 4 _ 213 _ (by decide +kernel) trivial
theorem kc_215_197 : qm_chain 9 false (some .int) cX9_slants 197 kk_215_197 := qm_chain_of _ _ _ _ 4 _ 206 _ (by decide +kernel) kc_215_206
theorem kc_215_196 : qm_chain 9 false (some .int) cX9_slants 196 kk_215_196 := qm_chain_of _ _ _ _ 1 _ 197 _ (by decide +kernel) kc_215_197
theorem kc_215_167 : qm_chain 9 false (some .int) cX9_slants 167 kk_215_167 := qm_chain_of _ _ _ _ 13 _ 196 _ (by decide +kernel) kc_215_196
theorem kc_215_161 : qm_chain 9 false (some .int) cX9_slants 161 kk_215_161 := qm_chain_of _ _ _ _ 4 _ 167 _ (by decide +kernel) kc_215_167
theorem kc_215_155 : qm_chain 9 false (some .int) cX9_slants 155 kk_215_155 := qm_chain_of _ _ _ _ 2 _ 161 _ (by decide +kernel) kc_215_161
theorem kc_215_149 : qm_chain 9 false (some .int) cX9_slants 149 kk_215_149 := qm_chain_of _ _ _ _ 2 _ 155 _ (by decide +kernel) kc_215_155
theorem kc_215_143 : qm_chain 9 false (some .int) cX9_slants 143 kk_215_143 := qm_chain_of _ _ _ _ 2 _ 149 _ (by decide +kernel) kc_215_149
theorem kc_215_76 : qm_chain 9 false (some .int) cX9_slants 76 kk_215_76 := qm_chain_of _ _ _ _ 40 _ 143 _ (by decide +kernel) kc_215_143
theorem kc_215_68 : qm_chain 9 false (some .int) cX9_slants 68 kk_215_68 := qm_chain_of _ _ _ _ 4 _ 76 _ (by decide +kernel) kc_215_76
theorem kc_215_56 : qm_chain 9 false (some .int) cX9_slants 56 kk_215_56 := qm_chain_of _ _ _ _ 5 _ 68 _ (by decide +kernel) kc_215_68
theorem kc_215_53 : qm_chain 9 false (some .int) cX9_slants 53 kk_215_53 := qm_chain_of _ _ _ _ 2 _ 56 _ (by decide +kernel) kc_215_56
theorem kc_215_46 : qm_chain 9 false (some .int) cX9_slants 46 kk_215_46 := qm_chain_of _ _ _ _ 3 _ 53 _ (by decide +kernel) kc_215_53
theorem kc_215_45 : qm_chain 9 false (some .int) cX9_slants 45 kk_215_45 := qm_chain_of _ _ _ _ 1 _ 46 _ (by decide +kernel) kc_215_46
theorem kc_215_22 : qm_chain 9 false (some .int) cX9_slants 22 kk_215_22 := qm_chain_of _ _ _ _ 10 _ 45 _ (by decide +kernel) kc_215_45
theorem kc_215_19 : qm_chain 9 false (some .int) cX9_slants 19 kk_215_19 := qm_chain_of _ _ _ _ 2 _ 22 _ (by decide +kernel) kc_215_22
theorem kc_215_0 : qm_chain 9 false (some .int) cX9_slants 0 kk_215_0 := qm_chain_of _ _ _ _ 12 _ 19 _ (by decide +kernel) kc_215_19
theorem ka_215 : ∀ t : Int, 0 ≤ t → qm_chain 9 false (some .int) cX9_slants t.toNat (qm_lk kt_215 t) := qm_lk_ok (List.forall_mem_cons.mpr ⟨⟨by decide, kc_215_0⟩, List.forall_mem_cons.mpr ⟨⟨by decide, kc_215_19⟩, List.forall_mem_cons.mpr ⟨⟨by decide, kc_215_22⟩, List.forall_mem_cons.mpr ⟨⟨by decide, kc_215_45⟩, List.forall_mem_cons.mpr ⟨⟨by decide, kc_215_46⟩, List.forall_mem_cons.mpr ⟨⟨by decide, kc_215_53⟩, List.forall_mem_cons.mpr ⟨⟨by decide, kc_215_56⟩, List.forall_mem_cons.mpr ⟨⟨by decide, kc_215_68⟩, List.forall_mem_cons.mpr ⟨⟨by decide, kc_215_76⟩, List.forall_mem_cons.mpr ⟨⟨by decide, kc_215_143⟩, List.forall_mem_cons.mpr ⟨⟨by decide, kc_215_149⟩, List.forall_mem_cons.mpr ⟨⟨by decide, kc_215_155⟩, List.forall_mem_cons.mpr ⟨⟨by decide, kc_215_161⟩, List.forall_mem_cons.mpr ⟨⟨by decide, kc_215_167⟩, List.forall_mem_cons.mpr ⟨⟨by decide, kc_215_196⟩, List.forall_mem_cons.mpr ⟨⟨by decide, kc_215_197⟩, List.forall_mem_cons.mpr ⟨⟨by decide, kc_215_206⟩, fun _ h => absurd h List.not_mem_nil⟩⟩⟩⟩⟩⟩⟩⟩⟩⟩⟩⟩⟩⟩⟩⟩⟩)
theorem kg_215 : qm_G1 (yX9_slants, cX9_slants, 8, some .int, 9, 2) (8, kt_215) := ⟨rfl, false, (fun z => by cases z), ka_215⟩
-- 216: TowerBoardsModel.count
def kk_216_131 : List qm_I := (.iload 2, 0, 0, 0) :: (.ireturn, 0, 0, 0) :: []
def kk_216_125 : List qm_I := (.iinc 3 0, 0, 0, 1) :: (.goto 50, 0, 0, 0) :: kk_216_131
def kk_216_123 : List qm_I := (.iadd, 0, 0, 0) :: (.istore 2, 0, 0, 0) :: kk_216_125
def kk_216_122 : List qm_I := (.iconst 0, 0, 0, 0) :: kk_216_123
def kk_216_118 : List qm_I := (.iconst 0, 0, 0, 1) :: (.goto 123, 0, 0, 0) :: kk_216_122
def kk_216_103 : List qm_I := (.iload 1, 0, 0, 0) :: (.iconst 0, 0, 0, 3) :: (.if_icmp .ne 122, 0, 0, 0) :: (.aload 0, 0, 0, 0) :: (.getfield 9, 9, 0, 0) :: (.iload 3, 0, 0, 0) :: (.iaload, 0, 0, 0) :: (.iconst 0, 0, 0, 1) :: (.if_icmp .le 122, 0, 0, 0) :: kk_216_118
def kk_216_83 : List qm_I := (.iload 1, 0, 0, 0) :: (.iconst 0, 0, 0, 1) :: (.if_icmp .eq 118, 0, 0, 0) :: (.iload 1, 0, 0, 0) :: (.iconst 0, 0, 0, 2) :: (.if_icmp .ne 103, 0, 0, 0) :: (.aload 0, 0, 0, 0) :: (.getfield 9, 9, 0, 0) :: (.iload 3, 0, 0, 0) :: (.iaload, 0, 0, 0) :: (.iconst 0, 0, 0, 1) :: (.if_icmp .eq 118, 0, 0, 0) :: kk_216_103
def kk_216_50 : List qm_I := (.iload 3, 0, 0, 0) :: (.iconst 0, 0, 0, 12) :: (.if_icmp .ge 131, 0, 0, 0) :: (.iload 1, 0, 0, 0) :: (.ifCond .le 131, 0, 0, 0) :: (.aload 0, 0, 0, 0) :: (.getfield 9, 9, 0, 0) :: (.iload 3, 0, 0, 0) :: (.iaload, 0, 0, 0) :: (.ifCond .lt 125, 0, 0, 0) :: (.iload 2, 0, 0, 0) :: (.iload 1, 0, 0, 0) :: (.iconst 0, 0, 0, 4) :: (.if_icmp .ne 83, 0, 0, 0) :: (.aload 0, 0, 0, 0) :: (.iload 3, 0, 0, 0) :: (.invokevirtual 153, 2, 9, 0) :: (.goto 123, 0, 0, 0) :: kk_216_83
def kk_216_48 : List qm_I := (.iconst 0, 0, 0, 0) :: (.istore 3, 0, 0, 0) :: kk_216_50
def kk_216_40 : List qm_I := (.iadd, 0, 0, 0) :: (.istore 2, 0, 0, 0) :: (.iinc 3 0, 0, 0, 1) :: (.goto 15, 0, 0, 0) :: kk_216_48
def kk_216_39 : List qm_I := (.iconst 0, 0, 0, 1) :: kk_216_40
def kk_216_15 : List qm_I := (.iload 3, 0, 0, 0) :: (.iconst 0, 0, 0, 8) :: (.if_icmp .ge 48, 0, 0, 0) :: (.iload 1, 0, 0, 0) :: (.ifCond .ne 48, 0, 0, 0) :: (.iload 2, 0, 0, 0) :: (.aload 0, 0, 0, 0) :: (.getfield 9, 6, 0, 0) :: (.iload 3, 0, 0, 0) :: (.iaload, 0, 0, 0) :: (.ifCond .ge 39, 0, 0, 0) :: (.iconst 0, 0, 0, 0) :: (.goto 40, 0, 0, 0) :: kk_216_39
def kk_216_11 : List qm_I := (.iconst 0, 0, 0, 0) :: (.istore 2, 0, 0, 0) :: (.iconst 0, 0, 0, 0) :: (.istore 3, 0, 0, 0) :: kk_216_15
def kk_216_0 : List qm_I := (.iload 1, 0, 0, 0) :: (.iconst 0, 0, 0, 0) :: (.iconst 0, 0, 0, 4) :: (.invokestatic 131, 3, 0, 0) :: (.ifCond .ne 11, 0, 0, 0) :: (.iconst 0, 0, 0, -1) :: (.ireturn, 0, 0, 0) :: kk_216_11
def kt_216 : qm_T := [(0, kk_216_0), (11, kk_216_11), (15, kk_216_15), (39, kk_216_39), (40, kk_216_40), (48, kk_216_48), (50, kk_216_50), (83, kk_216_83), (103, kk_216_103), (118, kk_216_118), (122, kk_216_122), (123, kk_216_123), (125, kk_216_125), (131, kk_216_131)]
theorem kc_216_131 : qm_chain 9 false (some .int) cX9_count 131 kk_216_131 := qm_chain_of _ _ _ _ 2 _ 133 _ (by decide +kernel) trivial
theorem kc_216_125 : qm_chain 9 false (some .int) cX9_count 125 kk_216_125 := qm_chain_of _ _ _ _ 2 _ 131 _ (by decide +kernel) kc_216_131
theorem kc_216_123 : qm_chain 9 false (some .int) cX9_count 123 kk_216_123 := qm_chain_of _ _ _ _ 2 _ 125 _ (by decide +kernel) kc_216_125
theorem kc_216_122 : qm_chain 9 false (some .int) cX9_count 122 kk_216_122 := qm_chain_of _ _ _ _ 1 _ 123 _ (by decide +kernel) kc_216_123
theorem kc_216_118 : qm_chain 9 false (some .int) cX9_count 118 kk_216_118 := qm_chain_of _ _ _ _ 2 _ 122 _ (by decide +kernel) kc_216_122
theorem kc_216_103 : qm_chain 9 false (some .int) cX9_count 103 kk_216_103 := qm_chain_of _ _ _ _ 9 _ 118 _ (by decide +kernel) kc_216_118
theorem kc_216_83 : qm_chain 9 false (some .int) cX9_count 83 kk_216_83 := qm_chain_of _ _ _ _ 12 _ 103 _ (by decide +kernel) kc_216_103
theorem kc_216_50 : qm_chain 9 false (some .int) cX9_count 50 kk_216_50 := qm_chain_of _ _ _ _ 18 _ 83 _ (by decide +kernel) kc_216_83
theorem kc_216_48 : qm_chain 9 false (some .int) cX9_count 48 kk_216_48 := qm_chain_of _ _ _ _ 2 _ 50 _ (by decide +kernel) kc_216_50
theorem kc_216_40 : qm_chain 9 false (some .int) cX9_count 40 kk_216_40 := qm_chain_of _ _ _ _ 4 _ 48 _ (by decide +kernel) kc_216_48
theorem kc_216_39 : qm_chain 9 false (some .int) cX9_count 39 kk_216_39 := qm_chain_of _ _ _ _ 1 _ 40 _ (by decide +kernel) kc_216_40
theorem kc_216_15 : qm_chain 9 false (some .int) cX9_count 15 kk_216_15 := qm_chain_of _ _ _ _ 13 _ 39 _ (by decide +kernel) kc_216_39
theorem kc_216_11 : qm_chain 9 false (some .int) cX9_count 11 kk_216_11 := qm_chain_of _ _ _ _ 4 _ 15 _ (by decide +kernel) kc_216_15
theorem kc_216_0 : qm_chain 9 false (some .int) cX9_count 0 kk_216_0 := qm_chain_of _ _ _ _ 7 _ 11 _ (by decide +kernel) kc_216_11
theorem ka_216 : ∀ t : Int, 0 ≤ t → qm_chain 9 false (some .int) cX9_count t.toNat (qm_lk kt_216 t) := qm_lk_ok (List.forall_mem_cons.mpr ⟨⟨by decide, kc_216_0⟩, List.forall_mem_cons.mpr ⟨⟨by decide, kc_216_11⟩, List.forall_mem_cons.mpr ⟨⟨by decide, kc_216_15⟩, List.forall_mem_cons.mpr ⟨⟨by decide, kc_216_39⟩, List.forall_mem_cons.mpr ⟨⟨by decide, kc_216_40⟩, List.forall_mem_cons.mpr ⟨⟨by decide, kc_216_48⟩, List.forall_mem_cons.mpr ⟨⟨by decide, kc_216_50⟩, List.forall_mem_cons.mpr ⟨⟨by decide, kc_216_83⟩, List.forall_mem_cons.mpr ⟨⟨by decide, kc_216_103⟩, List.forall_mem_cons.mpr ⟨⟨by decide, kc_216_118⟩, List.forall_mem_cons.mpr ⟨⟨by decide, kc_216_122⟩, List.forall_mem_cons.mpr ⟨⟨by decide, kc_216_123⟩, List.forall_mem_cons.mpr ⟨⟨by decide, kc_216_125⟩, List.forall_mem_cons.mpr ⟨⟨by decide, kc_216_131⟩, fun _ h => absurd h List.not_mem_nil⟩⟩⟩⟩⟩⟩⟩⟩⟩⟩⟩⟩⟩⟩)
theorem kg_216 : qm_G1 (yX9_count, cX9_count, 4, some .int, 9, 1) (4, kt_216) := ⟨rfl, false, (fun z => by cases z), ka_216⟩
-- 217: TowerBoardsModel.digest
def kk_217_174 : List qm_I := (.lload 1, 0, 0, 0) :: (.lreturn, 0, 0, 0) :: []
def kk_217_168 : List qm_I := (.iinc 3 0, 0, 0, 1) :: (.goto 113, 0, 0, 0) :: kk_217_174
def kk_217_136 : List qm_I := (.iload 4, 0, 0, 0) :: (.aload 0, 0, 0, 0) :: (.getfield 9, 6, 0, 0) :: (.iload 3, 0, 0, 0) :: (.iaload, 0, 0, 0) :: (.if_icmp .ge 168, 0, 0, 0) :: (.lconst 0, 0, 0, 31) :: (.lload 1, 0, 0, 0) :: (.lmul, 0, 0, 0) :: (.aload 0, 0, 0, 0) :: (.iload 3, 0, 0, 0) :: (.iload 4, 0, 0, 0) :: (.invokevirtual 144, 3, 9, 0) :: (.i2l, 0, 0, 0) :: (.ladd, 0, 0, 0) :: (.lstore 1, 0, 0, 0) :: (.iinc 4 0, 0, 0, 1) :: (.goto 136, 0, 0, 0) :: kk_217_168
def kk_217_113 : List qm_I := (.iload 3, 0, 0, 0) :: (.iconst 0, 0, 0, 8) :: (.if_icmp .ge 174, 0, 0, 0) :: (.lconst 0, 0, 0, 31) :: (.lload 1, 0, 0, 0) :: (.lmul, 0, 0, 0) :: (.aload 0, 0, 0, 0) :: (.getfield 9, 6, 0, 0) :: (.iload 3, 0, 0, 0) :: (.iaload, 0, 0, 0) :: (.i2l, 0, 0, 0) :: (.ladd, 0, 0, 0) :: (.lstore 1, 0, 0, 0) :: (.iconst 0, 0, 0, 0) :: (.istore 4, 0, 0, 0) :: kk_217_136
def kk_217_111 : List qm_I := (.iconst 0, 0, 0, 0) :: (.istore 3, 0, 0, 0) :: kk_217_113
def kk_217_105 : List qm_I := (.iinc 3 0, 0, 0, 1) :: (.goto 6, 0, 0, 0) :: kk_217_111
def kk_217_73 : List qm_I := (.iload 4, 0, 0, 0) :: (.aload 0, 0, 0, 0) :: (.getfield 9, 10, 0, 0) :: (.iload 3, 0, 0, 0) :: (.iaload, 0, 0, 0) :: (.if_icmp .ge 105, 0, 0, 0) :: (.lconst 0, 0, 0, 31) :: (.lload 1, 0, 0, 0) :: (.lmul, 0, 0, 0) :: (.aload 0, 0, 0, 0) :: (.iload 3, 0, 0, 0) :: (.iload 4, 0, 0, 0) :: (.invokevirtual 152, 3, 9, 0) :: (.i2l, 0, 0, 0) :: (.ladd, 0, 0, 0) :: (.lstore 1, 0, 0, 0) :: (.iinc 4 0, 0, 0, 1) :: (.goto 73, 0, 0, 0) :: kk_217_105
def kk_217_32 : List qm_I := (.lconst 0, 0, 0, 31) :: (.lconst 0, 0, 0, 31) :: (.lconst 0, 0, 0, 31) :: (.lload 1, 0, 0, 0) :: (.lmul, 0, 0, 0) :: (.aload 0, 0, 0, 0) :: (.getfield 9, 9, 0, 0) :: (.iload 3, 0, 0, 0) :: (.iaload, 0, 0, 0) :: (.i2l, 0, 0, 0) :: (.ladd, 0, 0, 0) :: (.lmul, 0, 0, 0) :: (.aload 0, 0, 0, 0) :: (.getfield 9, 10, 0, 0) :: (.iload 3, 0, 0, 0) :: (.iaload, 0, 0, 0) :: (.i2l, 0, 0, 0) :: (.ladd, 0, 0, 0) :: (.lmul, 0, 0, 0) :: (.aload 0, 0, 0, 0) :: (.getfield 9, 11, 0, 0) :: (.iload 3, 0, 0, 0) :: (.iaload, 0, 0, 0) :: (.i2l, 0, 0, 0) :: (.ladd, 0, 0, 0) :: (.lstore 1, 0, 0, 0) :: (.iconst 0, 0, 0, 0) :: (.istore 4, 0, 0, 0) :: kk_217_73
def kk_217_6 : List qm_I := (.iload 3, 0, 0, 0) :: (.iconst 0, 0, 0, 12) :: (.if_icmp .ge 111, 0, 0, 0) :: (.aload 0, 0, 0, 0) :: (.getfield 9, 9, 0, 0) :: (.iload 3, 0, 0, 0) :: (.iaload, 0, 0, 0) :: (.ifCond .ge 32, 0, 0, 0) :: (.lconst 0, 0, 0, 31) :: (.lload 1, 0, 0, 0) :: (.lmul, 0, 0, 0) :: (.lconst 0, 0, 0, 1) :: (.lsub, 0, 0, 0) :: (.lstore 1, 0, 0, 0) :: (.goto 105, 0, 0, 0) :: kk_217_32
def kk_217_0 : List qm_I := (.lconst 0, 0, 0, 17) :: (.lstore 1, 0, 0, 0) :: (.iconst 0, 0, 0, 0) :: (.istore 3, 0, 0, 0) :: kk_217_6
def kt_217 : qm_T := [(0, kk_217_0), (6, kk_217_6), (32, kk_217_32), (73, kk_217_73), (105, kk_217_105), (111, kk_217_111), (113, kk_217_113), (136, kk_217_136), (168, kk_217_168), (174, kk_217_174)]
theorem kc_217_174 : qm_chain 9 false (some .long) cX9_digest 174 kk_217_174 := qm_chain_of _ _ _ _ 2 _ 176 _ (by decide +kernel) trivial
theorem kc_217_168 : qm_chain 9 false (some .long) cX9_digest 168 kk_217_168 := qm_chain_of _ _ _ _ 2 _ 174 _ (by decide +kernel) kc_217_174
theorem kc_217_136 : qm_chain 9 false (some .long) cX9_digest 136 kk_217_136 := qm_chain_of _ _ _ _ 18 _ 168 _ (by decide +kernel) kc_217_168
theorem kc_217_113 : qm_chain 9 false (some .long) cX9_digest 113 kk_217_113 := qm_chain_of _ _ _ _ 15 _ 136 _ (by decide +kernel) kc_217_136
theorem kc_217_111 : qm_chain 9 false (some .long) cX9_digest 111 kk_217_111 := qm_chain_of _ _ _ _ 2 _ 113 _ (by decide +kernel) kc_217_113
theorem kc_217_105 : qm_chain 9 false (some .long) cX9_digest 105 kk_217_105 := qm_chain_of _ _ _ _ 2 _ 111 _ (by decide +kernel) kc_217_111
theorem kc_217_73 : qm_chain 9 false (some .long) cX9_digest 73 kk_217_73 := qm_chain_of _ _ _ _ 18 _ 105 _ (by decide +kernel) kc_217_105
theorem kc_217_32 : qm_chain 9 false (some .long) cX9_digest 32 kk_217_32 := qm_chain_of _ _ _ _ 28 _ 73 _ (by decide +kernel) kc_217_73
theorem kc_217_6 : qm_chain 9 false (some .long) cX9_digest 6 kk_217_6 := qm_chain_of _ _ _ _ 15 _ 32 _ (by decide +kernel) kc_217_32
theorem kc_217_0 : qm_chain 9 false (some .long) cX9_digest 0 kk_217_0 := qm_chain_of _ _ _ _ 4 _ 6 _ (by decide +kernel) kc_217_6
theorem ka_217 : ∀ t : Int, 0 ≤ t → qm_chain 9 false (some .long) cX9_digest t.toNat (qm_lk kt_217 t) := qm_lk_ok (List.forall_mem_cons.mpr ⟨⟨by decide, kc_217_0⟩, List.forall_mem_cons.mpr ⟨⟨by decide, kc_217_6⟩, List.forall_mem_cons.mpr ⟨⟨by decide, kc_217_32⟩, List.forall_mem_cons.mpr ⟨⟨by decide, kc_217_73⟩, List.forall_mem_cons.mpr ⟨⟨by decide, kc_217_105⟩, List.forall_mem_cons.mpr ⟨⟨by decide, kc_217_111⟩, List.forall_mem_cons.mpr ⟨⟨by decide, kc_217_113⟩, List.forall_mem_cons.mpr ⟨⟨by decide, kc_217_136⟩, List.forall_mem_cons.mpr ⟨⟨by decide, kc_217_168⟩, List.forall_mem_cons.mpr ⟨⟨by decide, kc_217_174⟩, fun _ h => absurd h List.not_mem_nil⟩⟩⟩⟩⟩⟩⟩⟩⟩⟩)
theorem kg_217 : qm_G1 (yX9_digest, cX9_digest, 5, some .long, 9, 0) (5, kt_217) := ⟨rfl, false, (fun z => by cases z), ka_217⟩
