theorem mT1 {w : Cond} (i : Nat) (h : tables_1_1[i]? = some w) : w ∈ lw_tbl := List.mem_append_right _ (List.mem_append_left _ (List.mem_of_getElem? h))
theorem mT2 {w : Cond} (i : Nat) (h : tables_1_2[i]? = some w) : w ∈ lw_tbl := List.mem_append_right _ (List.mem_append_right _ (List.mem_append_left _ (List.mem_of_getElem? h)))
theorem mT3 {w : Cond} (i : Nat) (h : tables_1_3[i]? = some w) : w ∈ lw_tbl := List.mem_append_right _ (List.mem_append_right _ (List.mem_append_right _ (List.mem_append_left _ (List.mem_of_getElem? h))))
theorem mT4 {w : Cond} (i : Nat) (h : tables_1_4[i]? = some w) : w ∈ lw_tbl := List.mem_append_right _ (List.mem_append_right _ (List.mem_append_right _ (List.mem_append_right _ (List.mem_of_getElem? h))))
theorem mS {w : Cond} (i : Nat) (h : (k2_sels lw_privs)[i]? = some w) : w ∈ lw_tbl := List.mem_append_left _ (List.mem_of_getElem? h)
def m_X0_init : MI := (yX0_init, cX0_init, 3, none, 1, 20)
theorem pn_X0_init : plainName m_X0_init.1.cls = true := by decide +kernel
set_option maxRecDepth 20000 in
theorem ck_X0_init : CK m_X0_init 2 := ⟨⟨by decide +kernel, by decide +kernel⟩, by decide +kernel, mT1 88 rfl, mT1 4 (by decide +kernel)⟩
theorem iv_X0_init : Cond.instanceMethod m_X0_init.1 ∈ lw_tbl := mT1 87 (by decide +kernel)
def m_X0_refresh : MI := (yX0_refresh, cX0_refresh, 1, none, 4, 96)
theorem pn_X0_refresh : plainName m_X0_refresh.1.cls = true := by decide +kernel
set_option maxRecDepth 20000 in
theorem ck_X0_refresh : CK m_X0_refresh 0 := ⟨⟨by decide +kernel, by decide +kernel⟩, by decide +kernel, mT2 127 rfl, mT1 4 (by decide +kernel)⟩
theorem iv_X0_refresh : Cond.instanceMethod m_X0_refresh.1 ∈ lw_tbl := mT2 125 (by decide +kernel)
theorem sl_X0_refresh : Cond.selects m_X0_refresh.1.cls m_X0_refresh.1 m_X0_refresh.1 ∈ lw_tbl := mT2 126 (by decide +kernel)
def m_X0_howMany : MI := (yX0_howMany, cX0_howMany, 1, (some .int), 0, 0)
theorem pn_X0_howMany : plainName m_X0_howMany.1.cls = true := by decide +kernel
set_option maxRecDepth 20000 in
theorem ck_X0_howMany : CK m_X0_howMany 0 := ⟨⟨by decide +kernel, by decide +kernel⟩, by decide +kernel, mT2 161 rfl, mT1 4 (by decide +kernel)⟩
theorem iv_X0_howMany : Cond.instanceMethod m_X0_howMany.1 ∈ lw_tbl := mT2 159 (by decide +kernel)
theorem sl_X0_howMany : Cond.selects m_X0_howMany.1.cls m_X0_howMany.1 m_X0_howMany.1 ∈ lw_tbl := mT2 160 (by decide +kernel)
def m_X0_holds : MI := (yX0_holds, cX0_holds, 2, (some .boolean), 0, 0)
theorem pn_X0_holds : plainName m_X0_holds.1.cls = true := by decide +kernel
set_option maxRecDepth 20000 in
theorem ck_X0_holds : CK m_X0_holds 1 := ⟨⟨by decide +kernel, by decide +kernel⟩, by decide +kernel, mT2 188 rfl, mT1 4 (by decide +kernel)⟩
theorem iv_X0_holds : Cond.instanceMethod m_X0_holds.1 ∈ lw_tbl := mT2 186 (by decide +kernel)
theorem sl_X0_holds : Cond.selects m_X0_holds.1.cls m_X0_holds.1 m_X0_holds.1 ∈ lw_tbl := mT2 187 (by decide +kernel)
def m_X0_numberOf : MI := (yX0_numberOf, cX0_numberOf, 4, (some .int), 3, 64)
theorem pn_X0_numberOf : plainName m_X0_numberOf.1.cls = true := by decide +kernel
set_option maxRecDepth 20000 in
theorem ck_X0_numberOf : CK m_X0_numberOf 2 := ⟨⟨by decide +kernel, by decide +kernel⟩, by decide +kernel, mT2 182 rfl, mT1 4 (by decide +kernel)⟩
theorem iv_X0_numberOf : Cond.instanceMethod m_X0_numberOf.1 ∈ lw_tbl := mT2 180 (by decide +kernel)
theorem sl_X0_numberOf : Cond.selects m_X0_numberOf.1.cls m_X0_numberOf.1 m_X0_numberOf.1 ∈ lw_tbl := mT2 181 (by decide +kernel)
def m_X0_comesTo : MI := (yX0_comesTo, cX0_comesTo, 3, (some .boolean), 1, 21)
theorem pn_X0_comesTo : plainName m_X0_comesTo.1.cls = true := by decide +kernel
set_option maxRecDepth 20000 in
theorem ck_X0_comesTo : CK m_X0_comesTo 2 := ⟨⟨by decide +kernel, by decide +kernel⟩, by decide +kernel, mT2 235 rfl, mT1 4 (by decide +kernel)⟩
theorem iv_X0_comesTo : Cond.instanceMethod m_X0_comesTo.1 ∈ lw_tbl := mT2 233 (by decide +kernel)
theorem sl_X0_comesTo : Cond.selects m_X0_comesTo.1.cls m_X0_comesTo.1 m_X0_comesTo.1 ∈ lw_tbl := mT2 234 (by decide +kernel)
def m_X0_isLonePair : MI := (yX0_isLonePair, cX0_isLonePair, 3, (some .boolean), 4, 87)
theorem pn_X0_isLonePair : plainName m_X0_isLonePair.1.cls = true := by decide +kernel
set_option maxRecDepth 20000 in
theorem ck_X0_isLonePair : CK m_X0_isLonePair 1 := ⟨⟨by decide +kernel, by decide +kernel⟩, by decide +kernel, mT2 197 rfl, mT1 4 (by decide +kernel)⟩
theorem iv_X0_isLonePair : Cond.instanceMethod m_X0_isLonePair.1 ∈ lw_tbl := mT2 195 (by decide +kernel)
theorem sl_X0_isLonePair : Cond.selects m_X0_isLonePair.1.cls m_X0_isLonePair.1 m_X0_isLonePair.1 ∈ lw_tbl := mT2 196 (by decide +kernel)
def m_X0_usefulRights : MI := (yX0_usefulRights, cX0_usefulRights, 5, (some .long), 4, 87)
theorem pn_X0_usefulRights : plainName m_X0_usefulRights.1.cls = true := by decide +kernel
set_option maxRecDepth 20000 in
theorem ck_X0_usefulRights : CK m_X0_usefulRights 1 := ⟨⟨by decide +kernel, by decide +kernel⟩, by decide +kernel, mT2 178 rfl, mT1 4 (by decide +kernel)⟩
theorem iv_X0_usefulRights : Cond.instanceMethod m_X0_usefulRights.1 ∈ lw_tbl := mT2 176 (by decide +kernel)
theorem sl_X0_usefulRights : Cond.selects m_X0_usefulRights.1.cls m_X0_usefulRights.1 m_X0_usefulRights.1 ∈ lw_tbl := mT2 177 (by decide +kernel)
def m_X0_findReached : MI := (yX0_findReached, cX0_findReached, 6, none, 3, 71)
theorem pn_X0_findReached : plainName m_X0_findReached.1.cls = true := by decide +kernel
set_option maxRecDepth 20000 in
theorem ck_X0_findReached : CK m_X0_findReached 0 := ⟨⟨by decide +kernel, by decide +kernel⟩, by decide +kernel, mT2 132 rfl, mT1 4 (by decide +kernel)⟩
theorem iv_X0_findReached : Cond.instanceMethod m_X0_findReached.1 ∈ lw_tbl := mT2 131 (by decide +kernel)
theorem sl_X0_findReached : Cond.selects m_X0_findReached.1.cls m_X0_findReached.1 m_X0_findReached.1 ∈ lw_tbl := mS 15 (by decide +kernel)
def m_X0_numberAll : MI := (yX0_numberAll, cX0_numberAll, 4, none, 3, 65)
theorem pn_X0_numberAll : plainName m_X0_numberAll.1.cls = true := by decide +kernel
set_option maxRecDepth 20000 in
theorem ck_X0_numberAll : CK m_X0_numberAll 0 := ⟨⟨by decide +kernel, by decide +kernel⟩, by decide +kernel, mT2 144 rfl, mT1 4 (by decide +kernel)⟩
theorem iv_X0_numberAll : Cond.instanceMethod m_X0_numberAll.1 ∈ lw_tbl := mT2 143 (by decide +kernel)
theorem sl_X0_numberAll : Cond.selects m_X0_numberAll.1.cls m_X0_numberAll.1 m_X0_numberAll.1 ∈ lw_tbl := mS 16 (by decide +kernel)
def m_X0_gather : MI := (yX0_gather, cX0_gather, 5, (some .long), 2, 41)
theorem pn_X0_gather : plainName m_X0_gather.1.cls = true := by decide +kernel
set_option maxRecDepth 20000 in
theorem ck_X0_gather : CK m_X0_gather 1 := ⟨⟨by decide +kernel, by decide +kernel⟩, by decide +kernel, mT2 149 rfl, mT1 4 (by decide +kernel)⟩
theorem iv_X0_gather : Cond.instanceMethod m_X0_gather.1 ∈ lw_tbl := mT2 148 (by decide +kernel)
theorem sl_X0_gather : Cond.selects m_X0_gather.1.cls m_X0_gather.1 m_X0_gather.1 ∈ lw_tbl := mS 17 (by decide +kernel)
def m_X1_init : MI := (yX1_init, cX1_init, 2, none, 1, 20)
theorem pn_X1_init : plainName m_X1_init.1.cls = true := by decide +kernel
set_option maxRecDepth 20000 in
theorem ck_X1_init : CK m_X1_init 1 := ⟨⟨by decide +kernel, by decide +kernel⟩, by decide +kernel, mT1 24 rfl, mT1 2 (by decide +kernel)⟩
theorem iv_X1_init : Cond.instanceMethod m_X1_init.1 ∈ lw_tbl := mT1 23 (by decide +kernel)
def m_X1_changes : MI := (yX1_changes, cX1_changes, 1, (some .int), 0, 0)
theorem pn_X1_changes : plainName m_X1_changes.1.cls = true := by decide +kernel
set_option maxRecDepth 20000 in
theorem ck_X1_changes : CK m_X1_changes 0 := ⟨⟨by decide +kernel, by decide +kernel⟩, by decide +kernel, mT2 11 rfl, mT1 2 (by decide +kernel)⟩
theorem iv_X1_changes : Cond.instanceMethod m_X1_changes.1 ∈ lw_tbl := mT2 9 (by decide +kernel)
theorem sl_X1_changes : Cond.selects m_X1_changes.1.cls m_X1_changes.1 m_X1_changes.1 ∈ lw_tbl := mT2 10 (by decide +kernel)
def m_X1_most : MI := (yX1_most, cX1_most, 1, (some .int), 0, 0)
theorem pn_X1_most : plainName m_X1_most.1.cls = true := by decide +kernel
set_option maxRecDepth 20000 in
theorem ck_X1_most : CK m_X1_most 0 := ⟨⟨by decide +kernel, by decide +kernel⟩, by decide +kernel, mT1 52 rfl, mT1 2 (by decide +kernel)⟩
theorem iv_X1_most : Cond.instanceMethod m_X1_most.1 ∈ lw_tbl := mT1 50 (by decide +kernel)
theorem sl_X1_most : Cond.selects m_X1_most.1.cls m_X1_most.1 m_X1_most.1 ∈ lw_tbl := mT1 51 (by decide +kernel)
def m_X1_sizeOf : MI := (yX1_sizeOf, cX1_sizeOf, 2, (some .int), 1, 20)
theorem pn_X1_sizeOf : plainName m_X1_sizeOf.1.cls = true := by decide +kernel
set_option maxRecDepth 20000 in
theorem ck_X1_sizeOf : CK m_X1_sizeOf 1 := ⟨⟨by decide +kernel, by decide +kernel⟩, by decide +kernel, mT1 233 rfl, mT1 2 (by decide +kernel)⟩
theorem iv_X1_sizeOf : Cond.instanceMethod m_X1_sizeOf.1 ∈ lw_tbl := mT1 231 (by decide +kernel)
theorem sl_X1_sizeOf : Cond.selects m_X1_sizeOf.1.cls m_X1_sizeOf.1 m_X1_sizeOf.1 ∈ lw_tbl := mT1 232 (by decide +kernel)
def m_X1_holds : MI := (yX1_holds, cX1_holds, 3, (some .boolean), 1, 20)
theorem pn_X1_holds : plainName m_X1_holds.1.cls = true := by decide +kernel
set_option maxRecDepth 20000 in
theorem ck_X1_holds : CK m_X1_holds 2 := ⟨⟨by decide +kernel, by decide +kernel⟩, by decide +kernel, mT1 208 rfl, mT1 2 (by decide +kernel)⟩
theorem iv_X1_holds : Cond.instanceMethod m_X1_holds.1 ∈ lw_tbl := mT1 206 (by decide +kernel)
theorem sl_X1_holds : Cond.selects m_X1_holds.1.cls m_X1_holds.1 m_X1_holds.1 ∈ lw_tbl := mT1 207 (by decide +kernel)
def m_X1_joins : MI := (yX1_joins, cX1_joins, 3, (some .boolean), 2, 42)
theorem pn_X1_joins : plainName m_X1_joins.1.cls = true := by decide +kernel
set_option maxRecDepth 20000 in
theorem ck_X1_joins : CK m_X1_joins 2 := ⟨⟨by decide +kernel, by decide +kernel⟩, by decide +kernel, mT1 212 rfl, mT1 2 (by decide +kernel)⟩
theorem iv_X1_joins : Cond.instanceMethod m_X1_joins.1 ∈ lw_tbl := mT1 210 (by decide +kernel)
theorem sl_X1_joins : Cond.selects m_X1_joins.1.cls m_X1_joins.1 m_X1_joins.1 ∈ lw_tbl := mT1 211 (by decide +kernel)
def m_X1_all : MI := (yX1_all, cX1_all, 2, (some .long), 1, 20)
theorem pn_X1_all : plainName m_X1_all.1.cls = true := by decide +kernel
set_option maxRecDepth 20000 in
theorem ck_X1_all : CK m_X1_all 1 := ⟨⟨by decide +kernel, by decide +kernel⟩, by decide +kernel, mT2 26 rfl, mT1 2 (by decide +kernel)⟩
theorem iv_X1_all : Cond.instanceMethod m_X1_all.1 ∈ lw_tbl := mT2 24 (by decide +kernel)
theorem sl_X1_all : Cond.selects m_X1_all.1.cls m_X1_all.1 m_X1_all.1 ∈ lw_tbl := mT2 25 (by decide +kernel)
def m_X1_across : MI := (yX1_across, cX1_across, 3, (some .long), 2, 42)
theorem pn_X1_across : plainName m_X1_across.1.cls = true := by decide +kernel
set_option maxRecDepth 20000 in
theorem ck_X1_across : CK m_X1_across 2 := ⟨⟨by decide +kernel, by decide +kernel⟩, by decide +kernel, mT2 41 rfl, mT1 2 (by decide +kernel)⟩
theorem iv_X1_across : Cond.instanceMethod m_X1_across.1 ∈ lw_tbl := mT2 39 (by decide +kernel)
theorem sl_X1_across : Cond.selects m_X1_across.1.cls m_X1_across.1 m_X1_across.1 ∈ lw_tbl := mT2 40 (by decide +kernel)
def m_X1_neighbours : MI := (yX1_neighbours, cX1_neighbours, 7, (some .long), 2, 41)
theorem pn_X1_neighbours : plainName m_X1_neighbours.1.cls = true := by decide +kernel
set_option maxRecDepth 20000 in
theorem ck_X1_neighbours : CK m_X1_neighbours 2 := ⟨⟨by decide +kernel, by decide +kernel⟩, by decide +kernel, mT2 70 rfl, mT1 2 (by decide +kernel)⟩
theorem iv_X1_neighbours : Cond.instanceMethod m_X1_neighbours.1 ∈ lw_tbl := mT2 68 (by decide +kernel)
theorem sl_X1_neighbours : Cond.selects m_X1_neighbours.1.cls m_X1_neighbours.1 m_X1_neighbours.1 ∈ lw_tbl := mT2 69 (by decide +kernel)
def m_X1_edges : MI := (yX1_edges, cX1_edges, 3, (some .int), 1, 21)
theorem pn_X1_edges : plainName m_X1_edges.1.cls = true := by decide +kernel
set_option maxRecDepth 20000 in
theorem ck_X1_edges : CK m_X1_edges 0 := ⟨⟨by decide +kernel, by decide +kernel⟩, by decide +kernel, mT1 237 rfl, mT1 2 (by decide +kernel)⟩
theorem iv_X1_edges : Cond.instanceMethod m_X1_edges.1 ∈ lw_tbl := mT1 235 (by decide +kernel)
theorem sl_X1_edges : Cond.selects m_X1_edges.1.cls m_X1_edges.1 m_X1_edges.1 ∈ lw_tbl := mT1 236 (by decide +kernel)
def m_X1_add : MI := (yX1_add, cX1_add, 3, (some .int), 1, 20)
theorem pn_X1_add : plainName m_X1_add.1.cls = true := by decide +kernel
set_option maxRecDepth 20000 in
theorem ck_X1_add : CK m_X1_add 1 := ⟨⟨by decide +kernel, by decide +kernel⟩, by decide +kernel, mT1 197 rfl, mT1 2 (by decide +kernel)⟩
theorem iv_X1_add : Cond.instanceMethod m_X1_add.1 ∈ lw_tbl := mT1 195 (by decide +kernel)
theorem sl_X1_add : Cond.selects m_X1_add.1.cls m_X1_add.1 m_X1_add.1 ∈ lw_tbl := mT1 196 (by decide +kernel)
def m_X1_joinAll : MI := (yX1_joinAll, cX1_joinAll, 6, none, 1, 22)
theorem pn_X1_joinAll : plainName m_X1_joinAll.1.cls = true := by decide +kernel
set_option maxRecDepth 20000 in
theorem ck_X1_joinAll : CK m_X1_joinAll 2 := ⟨⟨by decide +kernel, by decide +kernel⟩, by decide +kernel, mT1 220 rfl, mT1 2 (by decide +kernel)⟩
theorem iv_X1_joinAll : Cond.instanceMethod m_X1_joinAll.1 ∈ lw_tbl := mT1 218 (by decide +kernel)
theorem sl_X1_joinAll : Cond.selects m_X1_joinAll.1.cls m_X1_joinAll.1 m_X1_joinAll.1 ∈ lw_tbl := mT1 219 (by decide +kernel)
def m_X1_unjoin : MI := (yX1_unjoin, cX1_unjoin, 3, none, 2, 42)
theorem pn_X1_unjoin : plainName m_X1_unjoin.1.cls = true := by decide +kernel
set_option maxRecDepth 20000 in
theorem ck_X1_unjoin : CK m_X1_unjoin 2 := ⟨⟨by decide +kernel, by decide +kernel⟩, by decide +kernel, mT1 224 rfl, mT1 2 (by decide +kernel)⟩
theorem iv_X1_unjoin : Cond.instanceMethod m_X1_unjoin.1 ∈ lw_tbl := mT1 222 (by decide +kernel)
theorem sl_X1_unjoin : Cond.selects m_X1_unjoin.1.cls m_X1_unjoin.1 m_X1_unjoin.1 ∈ lw_tbl := mT1 223 (by decide +kernel)
def m_X1_clear : MI := (yX1_clear, cX1_clear, 2, none, 1, 24)
theorem pn_X1_clear : plainName m_X1_clear.1.cls = true := by decide +kernel
set_option maxRecDepth 20000 in
theorem ck_X1_clear : CK m_X1_clear 0 := ⟨⟨by decide +kernel, by decide +kernel⟩, by decide +kernel, mT3 83 rfl, mT1 2 (by decide +kernel)⟩
theorem iv_X1_clear : Cond.instanceMethod m_X1_clear.1 ∈ lw_tbl := mT3 81 (by decide +kernel)
theorem sl_X1_clear : Cond.selects m_X1_clear.1.cls m_X1_clear.1 m_X1_clear.1 ∈ lw_tbl := mT3 82 (by decide +kernel)
def m_X2_init : MI := (yX2_init, cX2_init, 3, none, 1, 20)
theorem pn_X2_init : plainName m_X2_init.1.cls = true := by decide +kernel
set_option maxRecDepth 20000 in
theorem ck_X2_init : CK m_X2_init 2 := ⟨⟨by decide +kernel, by decide +kernel⟩, by decide +kernel, mT1 147 rfl, mT1 6 (by decide +kernel)⟩
theorem iv_X2_init : Cond.instanceMethod m_X2_init.1 ∈ lw_tbl := mT1 146 (by decide +kernel)
def m_X2_refresh : MI := (yX2_refresh, cX2_refresh, 1, none, 5, 115)
theorem pn_X2_refresh : plainName m_X2_refresh.1.cls = true := by decide +kernel
set_option maxRecDepth 20000 in
theorem ck_X2_refresh : CK m_X2_refresh 0 := ⟨⟨by decide +kernel, by decide +kernel⟩, by decide +kernel, mT2 87 rfl, mT1 6 (by decide +kernel)⟩
theorem iv_X2_refresh : Cond.instanceMethod m_X2_refresh.1 ∈ lw_tbl := mT2 85 (by decide +kernel)
theorem sl_X2_refresh : Cond.selects m_X2_refresh.1.cls m_X2_refresh.1 m_X2_refresh.1 ∈ lw_tbl := mT2 86 (by decide +kernel)
def m_X2_howManyLevels : MI := (yX2_howManyLevels, cX2_howManyLevels, 1, (some .int), 0, 0)
theorem pn_X2_howManyLevels : plainName m_X2_howManyLevels.1.cls = true := by decide +kernel
set_option maxRecDepth 20000 in
theorem ck_X2_howManyLevels : CK m_X2_howManyLevels 0 := ⟨⟨by decide +kernel, by decide +kernel⟩, by decide +kernel, mT2 123 rfl, mT1 6 (by decide +kernel)⟩
theorem iv_X2_howManyLevels : Cond.instanceMethod m_X2_howManyLevels.1 ∈ lw_tbl := mT2 121 (by decide +kernel)
theorem sl_X2_howManyLevels : Cond.selects m_X2_howManyLevels.1.cls m_X2_howManyLevels.1 m_X2_howManyLevels.1 ∈ lw_tbl := mT2 122 (by decide +kernel)
def m_X2_levelOf : MI := (yX2_levelOf, cX2_levelOf, 2, (some .int), 2, 42)
theorem pn_X2_levelOf : plainName m_X2_levelOf.1.cls = true := by decide +kernel
set_option maxRecDepth 20000 in
theorem ck_X2_levelOf : CK m_X2_levelOf 1 := ⟨⟨by decide +kernel, by decide +kernel⟩, by decide +kernel, mT3 70 rfl, mT1 6 (by decide +kernel)⟩
theorem iv_X2_levelOf : Cond.instanceMethod m_X2_levelOf.1 ∈ lw_tbl := mT3 68 (by decide +kernel)
theorem sl_X2_levelOf : Cond.selects m_X2_levelOf.1.cls m_X2_levelOf.1 m_X2_levelOf.1 ∈ lw_tbl := mT3 69 (by decide +kernel)
def m_X2_chainOf : MI := (yX2_chainOf, cX2_chainOf, 2, (some .int), 2, 42)
theorem pn_X2_chainOf : plainName m_X2_chainOf.1.cls = true := by decide +kernel
set_option maxRecDepth 20000 in
theorem ck_X2_chainOf : CK m_X2_chainOf 1 := ⟨⟨by decide +kernel, by decide +kernel⟩, by decide +kernel, mT3 66 rfl, mT1 6 (by decide +kernel)⟩
theorem iv_X2_chainOf : Cond.instanceMethod m_X2_chainOf.1 ∈ lw_tbl := mT3 64 (by decide +kernel)
theorem sl_X2_chainOf : Cond.selects m_X2_chainOf.1.cls m_X2_chainOf.1 m_X2_chainOf.1 ∈ lw_tbl := mT3 65 (by decide +kernel)
def m_X2_isInAntichain : MI := (yX2_isInAntichain, cX2_isInAntichain, 4, (some .boolean), 3, 68)
theorem pn_X2_isInAntichain : plainName m_X2_isInAntichain.1.cls = true := by decide +kernel
set_option maxRecDepth 20000 in
theorem ck_X2_isInAntichain : CK m_X2_isInAntichain 2 := ⟨⟨by decide +kernel, by decide +kernel⟩, by decide +kernel, mT3 74 rfl, mT1 6 (by decide +kernel)⟩
theorem iv_X2_isInAntichain : Cond.instanceMethod m_X2_isInAntichain.1 ∈ lw_tbl := mT3 72 (by decide +kernel)
theorem sl_X2_isInAntichain : Cond.selects m_X2_isInAntichain.1.cls m_X2_isInAntichain.1 m_X2_isInAntichain.1 ∈ lw_tbl := mT3 73 (by decide +kernel)
def m_X2_findLevels : MI := (yX2_findLevels, cX2_findLevels, 7, none, 4, 89)
theorem pn_X2_findLevels : plainName m_X2_findLevels.1.cls = true := by decide +kernel
set_option maxRecDepth 20000 in
theorem ck_X2_findLevels : CK m_X2_findLevels 0 := ⟨⟨by decide +kernel, by decide +kernel⟩, by decide +kernel, mT2 92 rfl, mT1 6 (by decide +kernel)⟩
theorem iv_X2_findLevels : Cond.instanceMethod m_X2_findLevels.1 ∈ lw_tbl := mT2 91 (by decide +kernel)
theorem sl_X2_findLevels : Cond.selects m_X2_findLevels.1.cls m_X2_findLevels.1 m_X2_findLevels.1 ∈ lw_tbl := mS 11 (by decide +kernel)
def m_X2_bottomOf : MI := (yX2_bottomOf, cX2_bottomOf, 6, (some .long), 3, 64)
theorem pn_X2_bottomOf : plainName m_X2_bottomOf.1.cls = true := by decide +kernel
set_option maxRecDepth 20000 in
theorem ck_X2_bottomOf : CK m_X2_bottomOf 1 := ⟨⟨by decide +kernel, by decide +kernel⟩, by decide +kernel, mT2 97 rfl, mT1 6 (by decide +kernel)⟩
theorem iv_X2_bottomOf : Cond.instanceMethod m_X2_bottomOf.1 ∈ lw_tbl := mT2 96 (by decide +kernel)
theorem sl_X2_bottomOf : Cond.selects m_X2_bottomOf.1.cls m_X2_bottomOf.1 m_X2_bottomOf.1 ∈ lw_tbl := mS 12 (by decide +kernel)
def m_X2_findChains : MI := (yX2_findChains, cX2_findChains, 3, none, 4, 88)
theorem pn_X2_findChains : plainName m_X2_findChains.1.cls = true := by decide +kernel
set_option maxRecDepth 20000 in
theorem ck_X2_findChains : CK m_X2_findChains 0 := ⟨⟨by decide +kernel, by decide +kernel⟩, by decide +kernel, mT2 105 rfl, mT1 6 (by decide +kernel)⟩
theorem iv_X2_findChains : Cond.instanceMethod m_X2_findChains.1 ∈ lw_tbl := mT2 104 (by decide +kernel)
theorem sl_X2_findChains : Cond.selects m_X2_findChains.1.cls m_X2_findChains.1 m_X2_findChains.1 ∈ lw_tbl := mS 13 (by decide +kernel)
def m_X2_numberChain : MI := (yX2_numberChain, cX2_numberChain, 5, none, 3, 64)
theorem pn_X2_numberChain : plainName m_X2_numberChain.1.cls = true := by decide +kernel
set_option maxRecDepth 20000 in
theorem ck_X2_numberChain : CK m_X2_numberChain 2 := ⟨⟨by decide +kernel, by decide +kernel⟩, by decide +kernel, mT2 114 rfl, mT1 6 (by decide +kernel)⟩
theorem iv_X2_numberChain : Cond.instanceMethod m_X2_numberChain.1 ∈ lw_tbl := mT2 113 (by decide +kernel)
theorem sl_X2_numberChain : Cond.selects m_X2_numberChain.1.cls m_X2_numberChain.1 m_X2_numberChain.1 ∈ lw_tbl := mS 14 (by decide +kernel)
def m_X3_init : MI := (yX3_init, cX3_init, 2, none, 1, 20)
theorem pn_X3_init : plainName m_X3_init.1.cls = true := by decide +kernel
set_option maxRecDepth 20000 in
theorem ck_X3_init : CK m_X3_init 1 := ⟨⟨by decide +kernel, by decide +kernel⟩, by decide +kernel, mT1 47 rfl, mT1 3 (by decide +kernel)⟩
theorem iv_X3_init : Cond.instanceMethod m_X3_init.1 ∈ lw_tbl := mT1 46 (by decide +kernel)
def m_X3_refresh : MI := (yX3_refresh, cX3_refresh, 2, none, 5, 131)
theorem pn_X3_refresh : plainName m_X3_refresh.1.cls = true := by decide +kernel
set_option maxRecDepth 20000 in
theorem ck_X3_refresh : CK m_X3_refresh 0 := ⟨⟨by decide +kernel, by decide +kernel⟩, by decide +kernel, mT2 7 rfl, mT1 3 (by decide +kernel)⟩
theorem iv_X3_refresh : Cond.instanceMethod m_X3_refresh.1 ∈ lw_tbl := mT2 5 (by decide +kernel)
theorem sl_X3_refresh : Cond.selects m_X3_refresh.1.cls m_X3_refresh.1 m_X3_refresh.1 ∈ lw_tbl := mT2 6 (by decide +kernel)
def m_X3_pairs : MI := (yX3_pairs, cX3_pairs, 1, (some .int), 0, 0)
theorem pn_X3_pairs : plainName m_X3_pairs.1.cls = true := by decide +kernel
set_option maxRecDepth 20000 in
theorem ck_X3_pairs : CK m_X3_pairs 0 := ⟨⟨by decide +kernel, by decide +kernel⟩, by decide +kernel, mT2 119 rfl, mT1 3 (by decide +kernel)⟩
theorem iv_X3_pairs : Cond.instanceMethod m_X3_pairs.1 ∈ lw_tbl := mT2 117 (by decide +kernel)
theorem sl_X3_pairs : Cond.selects m_X3_pairs.1.cls m_X3_pairs.1 m_X3_pairs.1 ∈ lw_tbl := mT2 118 (by decide +kernel)
def m_X3_mateOf : MI := (yX3_mateOf, cX3_mateOf, 3, (some .int), 2, 42)
theorem pn_X3_mateOf : plainName m_X3_mateOf.1.cls = true := by decide +kernel
set_option maxRecDepth 20000 in
theorem ck_X3_mateOf : CK m_X3_mateOf 2 := ⟨⟨by decide +kernel, by decide +kernel⟩, by decide +kernel, mT2 109 rfl, mT1 3 (by decide +kernel)⟩
theorem iv_X3_mateOf : Cond.instanceMethod m_X3_mateOf.1 ∈ lw_tbl := mT2 107 (by decide +kernel)
theorem sl_X3_mateOf : Cond.selects m_X3_mateOf.1.cls m_X3_mateOf.1 m_X3_mateOf.1 ∈ lw_tbl := mT2 108 (by decide +kernel)
def m_X3_matesOf : MI := (yX3_matesOf, cX3_matesOf, 10, (some .long), 2, 42)
theorem pn_X3_matesOf : plainName m_X3_matesOf.1.cls = true := by decide +kernel
set_option maxRecDepth 20000 in
theorem ck_X3_matesOf : CK m_X3_matesOf 2 := ⟨⟨by decide +kernel, by decide +kernel⟩, by decide +kernel, mT2 66 rfl, mT1 3 (by decide +kernel)⟩
theorem iv_X3_matesOf : Cond.instanceMethod m_X3_matesOf.1 ∈ lw_tbl := mT2 64 (by decide +kernel)
theorem sl_X3_matesOf : Cond.selects m_X3_matesOf.1.cls m_X3_matesOf.1 m_X3_matesOf.1 ∈ lw_tbl := mT2 65 (by decide +kernel)
def m_X3_nodesOfPart : MI := (yX3_nodesOfPart, cX3_nodesOfPart, 3, (some .long), 0, 0)
theorem pn_X3_nodesOfPart : plainName m_X3_nodesOfPart.1.cls = true := by decide +kernel
set_option maxRecDepth 20000 in
theorem ck_X3_nodesOfPart : CK m_X3_nodesOfPart 2 := ⟨⟨by decide +kernel, by decide +kernel⟩, by decide +kernel, mT2 137 rfl, mT1 3 (by decide +kernel)⟩
theorem iv_X3_nodesOfPart : Cond.instanceMethod m_X3_nodesOfPart.1 ∈ lw_tbl := mT2 135 (by decide +kernel)
theorem sl_X3_nodesOfPart : Cond.selects m_X3_nodesOfPart.1.cls m_X3_nodesOfPart.1 m_X3_nodesOfPart.1 ∈ lw_tbl := mT2 136 (by decide +kernel)
def m_X3_partOf : MI := (yX3_partOf, cX3_partOf, 3, (some .int), 1, 22)
theorem pn_X3_partOf : plainName m_X3_partOf.1.cls = true := by decide +kernel
set_option maxRecDepth 20000 in
theorem ck_X3_partOf : CK m_X3_partOf 2 := ⟨⟨by decide +kernel, by decide +kernel⟩, by decide +kernel, mT2 192 rfl, mT1 3 (by decide +kernel)⟩
theorem iv_X3_partOf : Cond.instanceMethod m_X3_partOf.1 ∈ lw_tbl := mT2 190 (by decide +kernel)
theorem sl_X3_partOf : Cond.selects m_X3_partOf.1.cls m_X3_partOf.1 m_X3_partOf.1 ∈ lw_tbl := mT2 191 (by decide +kernel)
def m_X3_nodesInPart : MI := (yX3_nodesInPart, cX3_nodesInPart, 2, (some .int), 1, 21)
theorem pn_X3_nodesInPart : plainName m_X3_nodesInPart.1.cls = true := by decide +kernel
set_option maxRecDepth 20000 in
theorem ck_X3_nodesInPart : CK m_X3_nodesInPart 1 := ⟨⟨by decide +kernel, by decide +kernel⟩, by decide +kernel, mT2 157 rfl, mT1 3 (by decide +kernel)⟩
theorem iv_X3_nodesInPart : Cond.instanceMethod m_X3_nodesInPart.1 ∈ lw_tbl := mT2 155 (by decide +kernel)
theorem sl_X3_nodesInPart : Cond.selects m_X3_nodesInPart.1.cls m_X3_nodesInPart.1 m_X3_nodesInPart.1 ∈ lw_tbl := mT2 156 (by decide +kernel)
def m_X3_isInCover : MI := (yX3_isInCover, cX3_isInCover, 5, (some .boolean), 2, 44)
theorem pn_X3_isInCover : plainName m_X3_isInCover.1.cls = true := by decide +kernel
set_option maxRecDepth 20000 in
theorem ck_X3_isInCover : CK m_X3_isInCover 3 := ⟨⟨by decide +kernel, by decide +kernel⟩, by decide +kernel, mT2 212 rfl, mT1 3 (by decide +kernel)⟩
theorem iv_X3_isInCover : Cond.instanceMethod m_X3_isInCover.1 ∈ lw_tbl := mT2 210 (by decide +kernel)
theorem sl_X3_isInCover : Cond.selects m_X3_isInCover.1.cls m_X3_isInCover.1 m_X3_isInCover.1 ∈ lw_tbl := mT2 211 (by decide +kernel)
def m_X3_begin : MI := (yX3_begin, cX3_begin, 2, none, 3, 61)
theorem pn_X3_begin : plainName m_X3_begin.1.cls = true := by decide +kernel
set_option maxRecDepth 20000 in
theorem ck_X3_begin : CK m_X3_begin 0 := ⟨⟨by decide +kernel, by decide +kernel⟩, by decide +kernel, mT2 15 rfl, mT1 3 (by decide +kernel)⟩
theorem iv_X3_begin : Cond.instanceMethod m_X3_begin.1 ∈ lw_tbl := mT2 14 (by decide +kernel)
theorem sl_X3_begin : Cond.selects m_X3_begin.1.cls m_X3_begin.1 m_X3_begin.1 ∈ lw_tbl := mS 0 (by decide +kernel)
def m_X3_openAll : MI := (yX3_openAll, cX3_openAll, 1, none, 2, 41)
theorem pn_X3_openAll : plainName m_X3_openAll.1.cls = true := by decide +kernel
set_option maxRecDepth 20000 in
theorem ck_X3_openAll : CK m_X3_openAll 0 := ⟨⟨by decide +kernel, by decide +kernel⟩, by decide +kernel, mT2 22 rfl, mT1 3 (by decide +kernel)⟩
theorem iv_X3_openAll : Cond.instanceMethod m_X3_openAll.1 ∈ lw_tbl := mT2 21 (by decide +kernel)
theorem sl_X3_openAll : Cond.selects m_X3_openAll.1.cls m_X3_openAll.1 m_X3_openAll.1 ∈ lw_tbl := mS 1 (by decide +kernel)
def m_X3_bare : MI := (yX3_bare, cX3_bare, 2, (some .long), 0, 0)
theorem pn_X3_bare : plainName m_X3_bare.1.cls = true := by decide +kernel
set_option maxRecDepth 20000 in
theorem ck_X3_bare : CK m_X3_bare 1 := ⟨⟨by decide +kernel, by decide +kernel⟩, by decide +kernel, mT2 34 rfl, mT1 3 (by decide +kernel)⟩
theorem iv_X3_bare : Cond.instanceMethod m_X3_bare.1 ∈ lw_tbl := mT2 33 (by decide +kernel)
theorem sl_X3_bare : Cond.selects m_X3_bare.1.cls m_X3_bare.1 m_X3_bare.1 ∈ lw_tbl := mS 3 (by decide +kernel)
def m_X3_pair : MI := (yX3_pair, cX3_pair, 3, none, 0, 0)
theorem pn_X3_pair : plainName m_X3_pair.1.cls = true := by decide +kernel
set_option maxRecDepth 20000 in
theorem ck_X3_pair : CK m_X3_pair 2 := ⟨⟨by decide +kernel, by decide +kernel⟩, by decide +kernel, mT2 54 rfl, mT1 3 (by decide +kernel)⟩
theorem iv_X3_pair : Cond.instanceMethod m_X3_pair.1 ∈ lw_tbl := mT2 53 (by decide +kernel)
theorem sl_X3_pair : Cond.selects m_X3_pair.1.cls m_X3_pair.1 m_X3_pair.1 ∈ lw_tbl := mS 5 (by decide +kernel)
def m_X3_loosen : MI := (yX3_loosen, cX3_loosen, 4, none, 0, 0)
theorem pn_X3_loosen : plainName m_X3_loosen.1.cls = true := by decide +kernel
set_option maxRecDepth 20000 in
theorem ck_X3_loosen : CK m_X3_loosen 2 := ⟨⟨by decide +kernel, by decide +kernel⟩, by decide +kernel, mT2 79 rfl, mT1 3 (by decide +kernel)⟩
theorem iv_X3_loosen : Cond.instanceMethod m_X3_loosen.1 ∈ lw_tbl := mT2 78 (by decide +kernel)
theorem sl_X3_loosen : Cond.selects m_X3_loosen.1.cls m_X3_loosen.1 m_X3_loosen.1 ∈ lw_tbl := mS 9 (by decide +kernel)
def m_X3_lengthen : MI := (yX3_lengthen, cX3_lengthen, 13, (some .boolean), 3, 64)
theorem pn_X3_lengthen : plainName m_X3_lengthen.1.cls = true := by decide +kernel
set_option maxRecDepth 20000 in
theorem ck_X3_lengthen : CK m_X3_lengthen 0 := ⟨⟨by decide +kernel, by decide +kernel⟩, by decide +kernel, mT2 30 rfl, mT1 3 (by decide +kernel)⟩
theorem iv_X3_lengthen : Cond.instanceMethod m_X3_lengthen.1 ∈ lw_tbl := mT2 29 (by decide +kernel)
theorem sl_X3_lengthen : Cond.selects m_X3_lengthen.1.cls m_X3_lengthen.1 m_X3_lengthen.1 ∈ lw_tbl := mS 2 (by decide +kernel)
def m_X3_pairAlongPath : MI := (yX3_pairAlongPath, cX3_pairAlongPath, 6, none, 1, 22)
theorem pn_X3_pairAlongPath : plainName m_X3_pairAlongPath.1.cls = true := by decide +kernel
set_option maxRecDepth 20000 in
theorem ck_X3_pairAlongPath : CK m_X3_pairAlongPath 1 := ⟨⟨by decide +kernel, by decide +kernel⟩, by decide +kernel, mT2 50 rfl, mT1 3 (by decide +kernel)⟩
theorem iv_X3_pairAlongPath : Cond.instanceMethod m_X3_pairAlongPath.1 ∈ lw_tbl := mT2 49 (by decide +kernel)
theorem sl_X3_pairAlongPath : Cond.selects m_X3_pairAlongPath.1.cls m_X3_pairAlongPath.1 m_X3_pairAlongPath.1 ∈ lw_tbl := mS 4 (by decide +kernel)
def m_X3_reach : MI := (yX3_reach, cX3_reach, 15, (some .long), 3, 71)
theorem pn_X3_reach : plainName m_X3_reach.1.cls = true := by decide +kernel
set_option maxRecDepth 20000 in
theorem ck_X3_reach : CK m_X3_reach 2 := ⟨⟨by decide +kernel, by decide +kernel⟩, by decide +kernel, mT2 62 rfl, mT1 3 (by decide +kernel)⟩
theorem iv_X3_reach : Cond.instanceMethod m_X3_reach.1 ∈ lw_tbl := mT2 61 (by decide +kernel)
theorem sl_X3_reach : Cond.selects m_X3_reach.1.cls m_X3_reach.1 m_X3_reach.1 ∈ lw_tbl := mS 7 (by decide +kernel)
def m_X3_choicesOf : MI := (yX3_choicesOf, cX3_choicesOf, 7, (some .long), 4, 105)
theorem pn_X3_choicesOf : plainName m_X3_choicesOf.1.cls = true := by decide +kernel
set_option maxRecDepth 20000 in
theorem ck_X3_choicesOf : CK m_X3_choicesOf 1 := ⟨⟨by decide +kernel, by decide +kernel⟩, by decide +kernel, mT2 58 rfl, mT1 3 (by decide +kernel)⟩
theorem iv_X3_choicesOf : Cond.instanceMethod m_X3_choicesOf.1 ∈ lw_tbl := mT2 57 (by decide +kernel)
theorem sl_X3_choicesOf : Cond.selects m_X3_choicesOf.1.cls m_X3_choicesOf.1 m_X3_choicesOf.1 ∈ lw_tbl := mS 6 (by decide +kernel)
def m_X3_settle : MI := (yX3_settle, cX3_settle, 5, none, 4, 96)
theorem pn_X3_settle : plainName m_X3_settle.1.cls = true := by decide +kernel
set_option maxRecDepth 20000 in
theorem ck_X3_settle : CK m_X3_settle 2 := ⟨⟨by decide +kernel, by decide +kernel⟩, by decide +kernel, mT2 75 rfl, mT1 3 (by decide +kernel)⟩
theorem iv_X3_settle : Cond.instanceMethod m_X3_settle.1 ∈ lw_tbl := mT2 74 (by decide +kernel)
theorem sl_X3_settle : Cond.selects m_X3_settle.1.cls m_X3_settle.1 m_X3_settle.1 ∈ lw_tbl := mS 8 (by decide +kernel)
def m_X3_findParts : MI := (yX3_findParts, cX3_findParts, 2, none, 4, 105)
theorem pn_X3_findParts : plainName m_X3_findParts.1.cls = true := by decide +kernel
set_option maxRecDepth 20000 in
theorem ck_X3_findParts : CK m_X3_findParts 0 := ⟨⟨by decide +kernel, by decide +kernel⟩, by decide +kernel, mT2 83 rfl, mT1 3 (by decide +kernel)⟩
theorem iv_X3_findParts : Cond.instanceMethod m_X3_findParts.1 ∈ lw_tbl := mT2 82 (by decide +kernel)
theorem sl_X3_findParts : Cond.selects m_X3_findParts.1.cls m_X3_findParts.1 m_X3_findParts.1 ∈ lw_tbl := mS 10 (by decide +kernel)
def m_X4_init : MI := (yX4_init, cX4_init, 3, none, 1, 20)
theorem pn_X4_init : plainName m_X4_init.1.cls = true := by decide +kernel
set_option maxRecDepth 20000 in
theorem ck_X4_init : CK m_X4_init 2 := ⟨⟨by decide +kernel, by decide +kernel⟩, by decide +kernel, mT1 119 rfl, mT1 5 (by decide +kernel)⟩
theorem iv_X4_init : Cond.instanceMethod m_X4_init.1 ∈ lw_tbl := mT1 118 (by decide +kernel)
def m_X4_refresh : MI := (yX4_refresh, cX4_refresh, 6, none, 5, 119)
theorem pn_X4_refresh : plainName m_X4_refresh.1.cls = true := by decide +kernel
set_option maxRecDepth 20000 in
theorem ck_X4_refresh : CK m_X4_refresh 0 := ⟨⟨by decide +kernel, by decide +kernel⟩, by decide +kernel, mT3 4 rfl, mT1 5 (by decide +kernel)⟩
theorem iv_X4_refresh : Cond.instanceMethod m_X4_refresh.1 ∈ lw_tbl := mT3 2 (by decide +kernel)
theorem sl_X4_refresh : Cond.selects m_X4_refresh.1.cls m_X4_refresh.1 m_X4_refresh.1 ∈ lw_tbl := mT3 3 (by decide +kernel)
def m_X4_total : MI := (yX4_total, cX4_total, 1, (some .long), 0, 0)
theorem pn_X4_total : plainName m_X4_total.1.cls = true := by decide +kernel
set_option maxRecDepth 20000 in
theorem ck_X4_total : CK m_X4_total 0 := ⟨⟨by decide +kernel, by decide +kernel⟩, by decide +kernel, mT3 45 rfl, mT1 5 (by decide +kernel)⟩
theorem iv_X4_total : Cond.instanceMethod m_X4_total.1 ∈ lw_tbl := mT3 43 (by decide +kernel)
theorem sl_X4_total : Cond.selects m_X4_total.1.cls m_X4_total.1 m_X4_total.1 ∈ lw_tbl := mT3 44 (by decide +kernel)
def m_X4_lefts : MI := (yX4_lefts, cX4_lefts, 1, (some .int), 2, 41)
theorem pn_X4_lefts : plainName m_X4_lefts.1.cls = true := by decide +kernel
set_option maxRecDepth 20000 in
theorem ck_X4_lefts : CK m_X4_lefts 0 := ⟨⟨by decide +kernel, by decide +kernel⟩, by decide +kernel, mT3 9 rfl, mT1 5 (by decide +kernel)⟩
theorem iv_X4_lefts : Cond.instanceMethod m_X4_lefts.1 ∈ lw_tbl := mT3 8 (by decide +kernel)
theorem sl_X4_lefts : Cond.selects m_X4_lefts.1.cls m_X4_lefts.1 m_X4_lefts.1 ∈ lw_tbl := mS 19 (by decide +kernel)
def m_X4_pieceOf : MI := (yX4_pieceOf, cX4_pieceOf, 8, (some .long), 3, 61)
theorem pn_X4_pieceOf : plainName m_X4_pieceOf.1.cls = true := by decide +kernel
set_option maxRecDepth 20000 in
theorem ck_X4_pieceOf : CK m_X4_pieceOf 1 := ⟨⟨by decide +kernel, by decide +kernel⟩, by decide +kernel, mT3 20 rfl, mT1 5 (by decide +kernel)⟩
theorem iv_X4_pieceOf : Cond.instanceMethod m_X4_pieceOf.1 ∈ lw_tbl := mT3 19 (by decide +kernel)
theorem sl_X4_pieceOf : Cond.selects m_X4_pieceOf.1.cls m_X4_pieceOf.1 m_X4_pieceOf.1 ∈ lw_tbl := mS 20 (by decide +kernel)
def m_X4_waysToPair : MI := (yX4_waysToPair, cX4_waysToPair, 8, (some .long), 4, 92)
theorem pn_X4_waysToPair : plainName m_X4_waysToPair.1.cls = true := by decide +kernel
set_option maxRecDepth 20000 in
theorem ck_X4_waysToPair : CK m_X4_waysToPair 1 := ⟨⟨by decide +kernel, by decide +kernel⟩, by decide +kernel, mT3 25 rfl, mT1 5 (by decide +kernel)⟩
theorem iv_X4_waysToPair : Cond.instanceMethod m_X4_waysToPair.1 ∈ lw_tbl := mT3 24 (by decide +kernel)
theorem sl_X4_waysToPair : Cond.selects m_X4_waysToPair.1.cls m_X4_waysToPair.1 m_X4_waysToPair.1 ∈ lw_tbl := mS 21 (by decide +kernel)
def m_X4_setChoices : MI := (yX4_setChoices, cX4_setChoices, 12, none, 3, 61)
theorem pn_X4_setChoices : plainName m_X4_setChoices.1.cls = true := by decide +kernel
set_option maxRecDepth 20000 in
theorem ck_X4_setChoices : CK m_X4_setChoices 3 := ⟨⟨by decide +kernel, by decide +kernel⟩, by decide +kernel, mT3 30 rfl, mT1 5 (by decide +kernel)⟩
theorem iv_X4_setChoices : Cond.instanceMethod m_X4_setChoices.1 ∈ lw_tbl := mT3 29 (by decide +kernel)
theorem sl_X4_setChoices : Cond.selects m_X4_setChoices.1.cls m_X4_setChoices.1 m_X4_setChoices.1 ∈ lw_tbl := mS 22 (by decide +kernel)
def m_X4_waysToChoose : MI := (yX4_waysToChoose, cX4_waysToChoose, 10, (some .long), 1, 21)
theorem pn_X4_waysToChoose : plainName m_X4_waysToChoose.1.cls = true := by decide +kernel
set_option maxRecDepth 20000 in
theorem ck_X4_waysToChoose : CK m_X4_waysToChoose 2 := ⟨⟨by decide +kernel, by decide +kernel⟩, by decide +kernel, mT3 35 rfl, mT1 5 (by decide +kernel)⟩
theorem iv_X4_waysToChoose : Cond.instanceMethod m_X4_waysToChoose.1 ∈ lw_tbl := mT3 34 (by decide +kernel)
theorem sl_X4_waysToChoose : Cond.selects m_X4_waysToChoose.1.cls m_X4_waysToChoose.1 m_X4_waysToChoose.1 ∈ lw_tbl := mS 23 (by decide +kernel)
def m_X5_init : MI := (yX5_init, cX5_init, 1, none, 2, 42)
theorem pn_X5_init : plainName m_X5_init.1.cls = true := by decide +kernel
set_option maxRecDepth 20000 in
theorem ck_X5_init : CK m_X5_init 0 := ⟨⟨by decide +kernel, by decide +kernel⟩, by decide +kernel, mT1 16 rfl, mT1 1 (by decide +kernel)⟩
theorem iv_X5_init : Cond.instanceMethod m_X5_init.1 ∈ lw_tbl := mT1 15 (by decide +kernel)
def m_X5_node : MI := (yX5_node, cX5_node, 2, (some .int), 2, 42)
theorem pn_X5_node : plainName m_X5_node.1.cls = true := by decide +kernel
set_option maxRecDepth 20000 in
theorem ck_X5_node : CK m_X5_node 1 := ⟨⟨by decide +kernel, by decide +kernel⟩, by decide +kernel, mT1 193 rfl, mT1 1 (by decide +kernel)⟩
theorem iv_X5_node : Cond.instanceMethod m_X5_node.1 ∈ lw_tbl := mT1 191 (by decide +kernel)
theorem sl_X5_node : Cond.selects m_X5_node.1.cls m_X5_node.1 m_X5_node.1 ∈ lw_tbl := mT1 192 (by decide +kernel)
def m_X5_edge : MI := (yX5_edge, cX5_edge, 4, (some .int), 3, 64)
theorem pn_X5_edge : plainName m_X5_edge.1.cls = true := by decide +kernel
set_option maxRecDepth 20000 in
theorem ck_X5_edge : CK m_X5_edge 3 := ⟨⟨by decide +kernel, by decide +kernel⟩, by decide +kernel, mT1 204 rfl, mT1 1 (by decide +kernel)⟩
theorem iv_X5_edge : Cond.instanceMethod m_X5_edge.1 ∈ lw_tbl := mT1 202 (by decide +kernel)
theorem sl_X5_edge : Cond.selects m_X5_edge.1.cls m_X5_edge.1 m_X5_edge.1 ∈ lw_tbl := mT1 203 (by decide +kernel)
def m_X5_count : MI := (yX5_count, cX5_count, 2, (some .int), 6, 152)
theorem pn_X5_count : plainName m_X5_count.1.cls = true := by decide +kernel
set_option maxRecDepth 20000 in
theorem ck_X5_count : CK m_X5_count 1 := ⟨⟨by decide +kernel, by decide +kernel⟩, by decide +kernel, mT1 229 rfl, mT1 1 (by decide +kernel)⟩
theorem iv_X5_count : Cond.instanceMethod m_X5_count.1 ∈ lw_tbl := mT1 227 (by decide +kernel)
theorem sl_X5_count : Cond.selects m_X5_count.1.cls m_X5_count.1 m_X5_count.1 ∈ lw_tbl := mT1 228 (by decide +kernel)
def m_X5_countFindings : MI := (yX5_countFindings, cX5_countFindings, 2, (some .int), 2, 42)
theorem pn_X5_countFindings : plainName m_X5_countFindings.1.cls = true := by decide +kernel
set_option maxRecDepth 20000 in
theorem ck_X5_countFindings : CK m_X5_countFindings 1 := ⟨⟨by decide +kernel, by decide +kernel⟩, by decide +kernel, mT2 153 rfl, mT1 1 (by decide +kernel)⟩
theorem iv_X5_countFindings : Cond.instanceMethod m_X5_countFindings.1 ∈ lw_tbl := mT2 152 (by decide +kernel)
theorem sl_X5_countFindings : Cond.selects m_X5_countFindings.1.cls m_X5_countFindings.1 m_X5_countFindings.1 ∈ lw_tbl := mS 18 (by decide +kernel)
def m_X5_has : MI := (yX5_has, cX5_has, 3, (some .boolean), 3, 64)
theorem pn_X5_has : plainName m_X5_has.1.cls = true := by decide +kernel
set_option maxRecDepth 20000 in
theorem ck_X5_has : CK m_X5_has 2 := ⟨⟨by decide +kernel, by decide +kernel⟩, by decide +kernel, mT2 165 rfl, mT1 1 (by decide +kernel)⟩
theorem iv_X5_has : Cond.instanceMethod m_X5_has.1 ∈ lw_tbl := mT2 163 (by decide +kernel)
theorem sl_X5_has : Cond.selects m_X5_has.1.cls m_X5_has.1 m_X5_has.1 ∈ lw_tbl := mT2 164 (by decide +kernel)
def m_X5_partner : MI := (yX5_partner, cX5_partner, 3, (some .int), 6, 152)
theorem pn_X5_partner : plainName m_X5_partner.1.cls = true := by decide +kernel
set_option maxRecDepth 20000 in
theorem ck_X5_partner : CK m_X5_partner 2 := ⟨⟨by decide +kernel, by decide +kernel⟩, by decide +kernel, mT2 169 rfl, mT1 1 (by decide +kernel)⟩
theorem iv_X5_partner : Cond.instanceMethod m_X5_partner.1 ∈ lw_tbl := mT2 167 (by decide +kernel)
theorem sl_X5_partner : Cond.selects m_X5_partner.1.cls m_X5_partner.1 m_X5_partner.1 ∈ lw_tbl := mT2 168 (by decide +kernel)
def m_X5_edgeIs : MI := (yX5_edgeIs, cX5_edgeIs, 3, (some .int), 6, 152)
theorem pn_X5_edgeIs : plainName m_X5_edgeIs.1.cls = true := by decide +kernel
set_option maxRecDepth 20000 in
theorem ck_X5_edgeIs : CK m_X5_edgeIs 2 := ⟨⟨by decide +kernel, by decide +kernel⟩, by decide +kernel, mT2 174 rfl, mT1 1 (by decide +kernel)⟩
theorem iv_X5_edgeIs : Cond.instanceMethod m_X5_edgeIs.1 ∈ lw_tbl := mT2 172 (by decide +kernel)
theorem sl_X5_edgeIs : Cond.selects m_X5_edgeIs.1.cls m_X5_edgeIs.1 m_X5_edgeIs.1 ∈ lw_tbl := mT2 173 (by decide +kernel)
def m_X5_nodeIs : MI := (yX5_nodeIs, cX5_nodeIs, 4, (some .int), 6, 152)
theorem pn_X5_nodeIs : plainName m_X5_nodeIs.1.cls = true := by decide +kernel
set_option maxRecDepth 20000 in
theorem ck_X5_nodeIs : CK m_X5_nodeIs 2 := ⟨⟨by decide +kernel, by decide +kernel⟩, by decide +kernel, mT2 202 rfl, mT1 1 (by decide +kernel)⟩
theorem iv_X5_nodeIs : Cond.instanceMethod m_X5_nodeIs.1 ∈ lw_tbl := mT2 200 (by decide +kernel)
theorem sl_X5_nodeIs : Cond.selects m_X5_nodeIs.1.cls m_X5_nodeIs.1 m_X5_nodeIs.1 ∈ lw_tbl := mT2 201 (by decide +kernel)
def m_X5_cover : MI := (yX5_cover, cX5_cover, 4, (some .int), 6, 152)
theorem pn_X5_cover : plainName m_X5_cover.1.cls = true := by decide +kernel
set_option maxRecDepth 20000 in
theorem ck_X5_cover : CK m_X5_cover 3 := ⟨⟨by decide +kernel, by decide +kernel⟩, by decide +kernel, mT2 207 rfl, mT1 1 (by decide +kernel)⟩
theorem iv_X5_cover : Cond.instanceMethod m_X5_cover.1 ∈ lw_tbl := mT2 205 (by decide +kernel)
theorem sl_X5_cover : Cond.selects m_X5_cover.1.cls m_X5_cover.1 m_X5_cover.1 ∈ lw_tbl := mT2 206 (by decide +kernel)
def m_X5_hall : MI := (yX5_hall, cX5_hall, 3, (some .int), 6, 152)
theorem pn_X5_hall : plainName m_X5_hall.1.cls = true := by decide +kernel
set_option maxRecDepth 20000 in
theorem ck_X5_hall : CK m_X5_hall 2 := ⟨⟨by decide +kernel, by decide +kernel⟩, by decide +kernel, mT2 217 rfl, mT1 1 (by decide +kernel)⟩
theorem iv_X5_hall : Cond.instanceMethod m_X5_hall.1 ∈ lw_tbl := mT2 215 (by decide +kernel)
theorem sl_X5_hall : Cond.selects m_X5_hall.1.cls m_X5_hall.1 m_X5_hall.1 ∈ lw_tbl := mT2 216 (by decide +kernel)
def m_X5_part : MI := (yX5_part, cX5_part, 3, (some .int), 6, 152)
theorem pn_X5_part : plainName m_X5_part.1.cls = true := by decide +kernel
set_option maxRecDepth 20000 in
theorem ck_X5_part : CK m_X5_part 2 := ⟨⟨by decide +kernel, by decide +kernel⟩, by decide +kernel, mT2 221 rfl, mT1 1 (by decide +kernel)⟩
theorem iv_X5_part : Cond.instanceMethod m_X5_part.1 ∈ lw_tbl := mT2 219 (by decide +kernel)
theorem sl_X5_part : Cond.selects m_X5_part.1.cls m_X5_part.1 m_X5_part.1 ∈ lw_tbl := mT2 220 (by decide +kernel)
def m_X5_block : MI := (yX5_block, cX5_block, 3, (some .int), 6, 152)
theorem pn_X5_block : plainName m_X5_block.1.cls = true := by decide +kernel
set_option maxRecDepth 20000 in
theorem ck_X5_block : CK m_X5_block 2 := ⟨⟨by decide +kernel, by decide +kernel⟩, by decide +kernel, mT2 225 rfl, mT1 1 (by decide +kernel)⟩
theorem iv_X5_block : Cond.instanceMethod m_X5_block.1 ∈ lw_tbl := mT2 223 (by decide +kernel)
theorem sl_X5_block : Cond.selects m_X5_block.1.cls m_X5_block.1 m_X5_block.1 ∈ lw_tbl := mT2 224 (by decide +kernel)
def m_X5_leads : MI := (yX5_leads, cX5_leads, 3, (some .int), 6, 152)
theorem pn_X5_leads : plainName m_X5_leads.1.cls = true := by decide +kernel
set_option maxRecDepth 20000 in
theorem ck_X5_leads : CK m_X5_leads 2 := ⟨⟨by decide +kernel, by decide +kernel⟩, by decide +kernel, mT2 230 rfl, mT1 1 (by decide +kernel)⟩
theorem iv_X5_leads : Cond.instanceMethod m_X5_leads.1 ∈ lw_tbl := mT2 228 (by decide +kernel)
theorem sl_X5_leads : Cond.selects m_X5_leads.1.cls m_X5_leads.1 m_X5_leads.1 ∈ lw_tbl := mT2 229 (by decide +kernel)
def m_X5_pairings : MI := (yX5_pairings, cX5_pairings, 1, (some .long), 6, 152)
theorem pn_X5_pairings : plainName m_X5_pairings.1.cls = true := by decide +kernel
set_option maxRecDepth 20000 in
theorem ck_X5_pairings : CK m_X5_pairings 0 := ⟨⟨by decide +kernel, by decide +kernel⟩, by decide +kernel, mT2 239 rfl, mT1 1 (by decide +kernel)⟩
theorem iv_X5_pairings : Cond.instanceMethod m_X5_pairings.1 ∈ lw_tbl := mT2 237 (by decide +kernel)
theorem sl_X5_pairings : Cond.selects m_X5_pairings.1.cls m_X5_pairings.1 m_X5_pairings.1 ∈ lw_tbl := mT2 238 (by decide +kernel)
def m_X5_thing : MI := (yX5_thing, cX5_thing, 1, (some .int), 2, 42)
theorem pn_X5_thing : plainName m_X5_thing.1.cls = true := by decide +kernel
set_option maxRecDepth 20000 in
theorem ck_X5_thing : CK m_X5_thing 0 := ⟨⟨by decide +kernel, by decide +kernel⟩, by decide +kernel, mT3 49 rfl, mT1 1 (by decide +kernel)⟩
theorem iv_X5_thing : Cond.instanceMethod m_X5_thing.1 ∈ lw_tbl := mT3 47 (by decide +kernel)
theorem sl_X5_thing : Cond.selects m_X5_thing.1.cls m_X5_thing.1 m_X5_thing.1 ∈ lw_tbl := mT3 48 (by decide +kernel)
def m_X5_tell : MI := (yX5_tell, cX5_tell, 7, (some .int), 3, 64)
theorem pn_X5_tell : plainName m_X5_tell.1.cls = true := by decide +kernel
set_option maxRecDepth 20000 in
theorem ck_X5_tell : CK m_X5_tell 2 := ⟨⟨by decide +kernel, by decide +kernel⟩, by decide +kernel, mT3 53 rfl, mT1 1 (by decide +kernel)⟩
theorem iv_X5_tell : Cond.instanceMethod m_X5_tell.1 ∈ lw_tbl := mT3 51 (by decide +kernel)
theorem sl_X5_tell : Cond.selects m_X5_tell.1.cls m_X5_tell.1 m_X5_tell.1 ∈ lw_tbl := mT3 52 (by decide +kernel)
def m_X5_below : MI := (yX5_below, cX5_below, 3, (some .boolean), 3, 64)
theorem pn_X5_below : plainName m_X5_below.1.cls = true := by decide +kernel
set_option maxRecDepth 20000 in
theorem ck_X5_below : CK m_X5_below 2 := ⟨⟨by decide +kernel, by decide +kernel⟩, by decide +kernel, mT3 58 rfl, mT1 1 (by decide +kernel)⟩
theorem iv_X5_below : Cond.instanceMethod m_X5_below.1 ∈ lw_tbl := mT3 56 (by decide +kernel)
theorem sl_X5_below : Cond.selects m_X5_below.1.cls m_X5_below.1 m_X5_below.1 ∈ lw_tbl := mT3 57 (by decide +kernel)
def m_X5_about : MI := (yX5_about, cX5_about, 3, (some .int), 6, 152)
theorem pn_X5_about : plainName m_X5_about.1.cls = true := by decide +kernel
set_option maxRecDepth 20000 in
theorem ck_X5_about : CK m_X5_about 2 := ⟨⟨by decide +kernel, by decide +kernel⟩, by decide +kernel, mT3 62 rfl, mT1 1 (by decide +kernel)⟩
theorem iv_X5_about : Cond.instanceMethod m_X5_about.1 ∈ lw_tbl := mT3 60 (by decide +kernel)
theorem sl_X5_about : Cond.selects m_X5_about.1.cls m_X5_about.1 m_X5_about.1 ∈ lw_tbl := mT3 61 (by decide +kernel)
def m_X5_clearGraph : MI := (yX5_clearGraph, cX5_clearGraph, 2, (some .int), 2, 45)
theorem pn_X5_clearGraph : plainName m_X5_clearGraph.1.cls = true := by decide +kernel
set_option maxRecDepth 20000 in
theorem ck_X5_clearGraph : CK m_X5_clearGraph 0 := ⟨⟨by decide +kernel, by decide +kernel⟩, by decide +kernel, mT3 79 rfl, mT1 1 (by decide +kernel)⟩
theorem iv_X5_clearGraph : Cond.instanceMethod m_X5_clearGraph.1 ∈ lw_tbl := mT3 77 (by decide +kernel)
theorem sl_X5_clearGraph : Cond.selects m_X5_clearGraph.1.cls m_X5_clearGraph.1 m_X5_clearGraph.1 ∈ lw_tbl := mT3 78 (by decide +kernel)
def m_X5_clearThings : MI := (yX5_clearThings, cX5_clearThings, 2, (some .int), 2, 45)
theorem pn_X5_clearThings : plainName m_X5_clearThings.1.cls = true := by decide +kernel
set_option maxRecDepth 20000 in
theorem ck_X5_clearThings : CK m_X5_clearThings 0 := ⟨⟨by decide +kernel, by decide +kernel⟩, by decide +kernel, mT3 90 rfl, mT1 1 (by decide +kernel)⟩
theorem iv_X5_clearThings : Cond.instanceMethod m_X5_clearThings.1 ∈ lw_tbl := mT3 88 (by decide +kernel)
theorem sl_X5_clearThings : Cond.selects m_X5_clearThings.1.cls m_X5_clearThings.1 m_X5_clearThings.1 ∈ lw_tbl := mT3 89 (by decide +kernel)
def m_X5_isOneOfTwo : MI := (yX5_isOneOfTwo, cX5_isOneOfTwo, 1, (some .boolean), 0, 0)
theorem pn_X5_isOneOfTwo : plainName m_X5_isOneOfTwo.1.cls = true := by decide +kernel
set_option maxRecDepth 20000 in
theorem ck_X5_isOneOfTwo : CK m_X5_isOneOfTwo 1 := ⟨⟨by decide +kernel, by decide +kernel⟩, by decide +kernel, mT1 200 rfl, mT1 1 (by decide +kernel)⟩
theorem sv_X5_isOneOfTwo : Cond.static m_X5_isOneOfTwo.1 ∈ lw_tbl := mT1 199 (by decide +kernel)
def m_X5_contains : MI := (yX5_contains, cX5_contains, 3, (some .boolean), 0, 0)
theorem pn_X5_contains : plainName m_X5_contains.1.cls = true := by decide +kernel
set_option maxRecDepth 20000 in
theorem ck_X5_contains : CK m_X5_contains 2 := ⟨⟨by decide +kernel, by decide +kernel⟩, by decide +kernel, mT1 216 rfl, mT1 1 (by decide +kernel)⟩
theorem sv_X5_contains : Cond.static m_X5_contains.1 ∈ lw_tbl := mT1 215 (by decide +kernel)
def m_X5_lowest : MI := (yX5_lowest, cX5_lowest, 2, (some .int), 1, 21)
theorem pn_X5_lowest : plainName m_X5_lowest.1.cls = true := by decide +kernel
set_option maxRecDepth 20000 in
theorem ck_X5_lowest : CK m_X5_lowest 1 := ⟨⟨by decide +kernel, by decide +kernel⟩, by decide +kernel, mT2 45 rfl, mT1 1 (by decide +kernel)⟩
theorem sv_X5_lowest : Cond.static m_X5_lowest.1 ∈ lw_tbl := mT2 44 (by decide +kernel)
def m_X6_init : MI := (yX6_init, cX6_init, 1, none, 1, 20)
theorem pn_X6_init : plainName m_X6_init.1.cls = true := by decide +kernel
set_option maxRecDepth 20000 in
theorem ck_X6_init : CK m_X6_init 0 := ⟨⟨by decide +kernel, by decide +kernel⟩, by decide +kernel, mT3 95 rfl, mT1 7 (by decide +kernel)⟩
theorem iv_X6_init : Cond.instanceMethod m_X6_init.1 ∈ lw_tbl := mT3 94 (by decide +kernel)
def m_X6_use : MI := (yX6_use, cX6_use, 5, none, 0, 0)
theorem pn_X6_use : plainName m_X6_use.1.cls = true := by decide +kernel
set_option maxRecDepth 20000 in
theorem ck_X6_use : CK m_X6_use 3 := ⟨⟨by decide +kernel, by decide +kernel⟩, by decide +kernel, mT4 4 rfl, mT1 7 (by decide +kernel)⟩
theorem iv_X6_use : Cond.instanceMethod m_X6_use.1 ∈ lw_tbl := mT4 3 (by decide +kernel)
theorem sl_X6_use : Cond.selects m_X6_use.1.cls m_X6_use.1 m_X6_use.1 ∈ lw_tbl := mS 27 (by decide +kernel)
def m_X6_begin : MI := (yX6_begin, cX6_begin, 2, none, 0, 0)
theorem pn_X6_begin : plainName m_X6_begin.1.cls = true := by decide +kernel
set_option maxRecDepth 20000 in
theorem ck_X6_begin : CK m_X6_begin 0 := ⟨⟨by decide +kernel, by decide +kernel⟩, by decide +kernel, mT4 16 rfl, mT1 7 (by decide +kernel)⟩
theorem iv_X6_begin : Cond.instanceMethod m_X6_begin.1 ∈ lw_tbl := mT4 15 (by decide +kernel)
theorem sl_X6_begin : Cond.selects m_X6_begin.1.cls m_X6_begin.1 m_X6_begin.1 ∈ lw_tbl := mS 30 (by decide +kernel)
def m_X6_flip : MI := (yX6_flip, cX6_flip, 5, none, 0, 0)
theorem pn_X6_flip : plainName m_X6_flip.1.cls = true := by decide +kernel
set_option maxRecDepth 20000 in
theorem ck_X6_flip : CK m_X6_flip 1 := ⟨⟨by decide +kernel, by decide +kernel⟩, by decide +kernel, mT4 20 rfl, mT1 7 (by decide +kernel)⟩
theorem iv_X6_flip : Cond.instanceMethod m_X6_flip.1 ∈ lw_tbl := mT4 19 (by decide +kernel)
theorem sl_X6_flip : Cond.selects m_X6_flip.1.cls m_X6_flip.1 m_X6_flip.1 ∈ lw_tbl := mS 31 (by decide +kernel)
def m_X6_grow : MI := (yX6_grow, cX6_grow, 4, (some .boolean), 1, 24)
theorem pn_X6_grow : plainName m_X6_grow.1.cls = true := by decide +kernel
set_option maxRecDepth 20000 in
theorem ck_X6_grow : CK m_X6_grow 0 := ⟨⟨by decide +kernel, by decide +kernel⟩, by decide +kernel, mT4 12 rfl, mT1 7 (by decide +kernel)⟩
theorem iv_X6_grow : Cond.instanceMethod m_X6_grow.1 ∈ lw_tbl := mT4 11 (by decide +kernel)
theorem sl_X6_grow : Cond.selects m_X6_grow.1.cls m_X6_grow.1 m_X6_grow.1 ∈ lw_tbl := mS 29 (by decide +kernel)
def m_X6_growAll : MI := (yX6_growAll, cX6_growAll, 2, (some .int), 2, 47)
theorem pn_X6_growAll : plainName m_X6_growAll.1.cls = true := by decide +kernel
set_option maxRecDepth 20000 in
theorem ck_X6_growAll : CK m_X6_growAll 0 := ⟨⟨by decide +kernel, by decide +kernel⟩, by decide +kernel, mT4 8 rfl, mT1 7 (by decide +kernel)⟩
theorem iv_X6_growAll : Cond.instanceMethod m_X6_growAll.1 ∈ lw_tbl := mT4 7 (by decide +kernel)
theorem sl_X6_growAll : Cond.selects m_X6_growAll.1.cls m_X6_growAll.1 m_X6_growAll.1 ∈ lw_tbl := mS 28 (by decide +kernel)
def m_X6_keep : MI := (yX6_keep, cX6_keep, 2, none, 0, 0)
theorem pn_X6_keep : plainName m_X6_keep.1.cls = true := by decide +kernel
set_option maxRecDepth 20000 in
theorem ck_X6_keep : CK m_X6_keep 0 := ⟨⟨by decide +kernel, by decide +kernel⟩, by decide +kernel, mT4 32 rfl, mT1 7 (by decide +kernel)⟩
theorem iv_X6_keep : Cond.instanceMethod m_X6_keep.1 ∈ lw_tbl := mT4 31 (by decide +kernel)
theorem sl_X6_keep : Cond.selects m_X6_keep.1.cls m_X6_keep.1 m_X6_keep.1 ∈ lw_tbl := mS 34 (by decide +kernel)
def m_X6_putBack : MI := (yX6_putBack, cX6_putBack, 2, none, 0, 0)
theorem pn_X6_putBack : plainName m_X6_putBack.1.cls = true := by decide +kernel
set_option maxRecDepth 20000 in
theorem ck_X6_putBack : CK m_X6_putBack 0 := ⟨⟨by decide +kernel, by decide +kernel⟩, by decide +kernel, mT4 36 rfl, mT1 7 (by decide +kernel)⟩
theorem iv_X6_putBack : Cond.instanceMethod m_X6_putBack.1 ∈ lw_tbl := mT4 35 (by decide +kernel)
theorem sl_X6_putBack : Cond.selects m_X6_putBack.1.cls m_X6_putBack.1 m_X6_putBack.1 ∈ lw_tbl := mS 35 (by decide +kernel)
def m_X6_canMiss : MI := (yX6_canMiss, cX6_canMiss, 5, (some .boolean), 2, 47)
theorem pn_X6_canMiss : plainName m_X6_canMiss.1.cls = true := by decide +kernel
set_option maxRecDepth 20000 in
theorem ck_X6_canMiss : CK m_X6_canMiss 2 := ⟨⟨by decide +kernel, by decide +kernel⟩, by decide +kernel, mT4 52 rfl, mT1 7 (by decide +kernel)⟩
theorem iv_X6_canMiss : Cond.instanceMethod m_X6_canMiss.1 ∈ lw_tbl := mT4 51 (by decide +kernel)
theorem sl_X6_canMiss : Cond.selects m_X6_canMiss.1.cls m_X6_canMiss.1 m_X6_canMiss.1 ∈ lw_tbl := mS 39 (by decide +kernel)
def m_X6_force : MI := (yX6_force, cX6_force, 5, (some .boolean), 2, 47)
theorem pn_X6_force : plainName m_X6_force.1.cls = true := by decide +kernel
set_option maxRecDepth 20000 in
theorem ck_X6_force : CK m_X6_force 2 := ⟨⟨by decide +kernel, by decide +kernel⟩, by decide +kernel, mT4 28 rfl, mT1 7 (by decide +kernel)⟩
theorem iv_X6_force : Cond.instanceMethod m_X6_force.1 ∈ lw_tbl := mT4 27 (by decide +kernel)
theorem sl_X6_force : Cond.selects m_X6_force.1.cls m_X6_force.1 m_X6_force.1 ∈ lw_tbl := mS 33 (by decide +kernel)
def m_X6_improve : MI := (yX6_improve, cX6_improve, 4, none, 3, 71)
theorem pn_X6_improve : plainName m_X6_improve.1.cls = true := by decide +kernel
set_option maxRecDepth 20000 in
theorem ck_X6_improve : CK m_X6_improve 0 := ⟨⟨by decide +kernel, by decide +kernel⟩, by decide +kernel, mT4 24 rfl, mT1 7 (by decide +kernel)⟩
theorem iv_X6_improve : Cond.instanceMethod m_X6_improve.1 ∈ lw_tbl := mT4 23 (by decide +kernel)
theorem sl_X6_improve : Cond.selects m_X6_improve.1.cls m_X6_improve.1 m_X6_improve.1 ∈ lw_tbl := mS 32 (by decide +kernel)
def m_X6_work : MI := (yX6_work, cX6_work, 3, none, 4, 94)
theorem pn_X6_work : plainName m_X6_work.1.cls = true := by decide +kernel
set_option maxRecDepth 20000 in
theorem ck_X6_work : CK m_X6_work 0 := ⟨⟨by decide +kernel, by decide +kernel⟩, by decide +kernel, mT4 48 rfl, mT1 7 (by decide +kernel)⟩
theorem iv_X6_work : Cond.instanceMethod m_X6_work.1 ∈ lw_tbl := mT4 47 (by decide +kernel)
theorem sl_X6_work : Cond.selects m_X6_work.1.cls m_X6_work.1 m_X6_work.1 ∈ lw_tbl := mS 38 (by decide +kernel)
def m_X6_parts : MI := (yX6_parts, cX6_parts, 3, none, 0, 0)
theorem pn_X6_parts : plainName m_X6_parts.1.cls = true := by decide +kernel
set_option maxRecDepth 20000 in
theorem ck_X6_parts : CK m_X6_parts 0 := ⟨⟨by decide +kernel, by decide +kernel⟩, by decide +kernel, mT4 56 rfl, mT1 7 (by decide +kernel)⟩
theorem iv_X6_parts : Cond.instanceMethod m_X6_parts.1 ∈ lw_tbl := mT4 55 (by decide +kernel)
theorem sl_X6_parts : Cond.selects m_X6_parts.1.cls m_X6_parts.1 m_X6_parts.1 ∈ lw_tbl := mS 40 (by decide +kernel)
def m_X6_blocks : MI := (yX6_blocks, cX6_blocks, 4, none, 0, 0)
theorem pn_X6_blocks : plainName m_X6_blocks.1.cls = true := by decide +kernel
set_option maxRecDepth 20000 in
theorem ck_X6_blocks : CK m_X6_blocks 0 := ⟨⟨by decide +kernel, by decide +kernel⟩, by decide +kernel, mT4 60 rfl, mT1 7 (by decide +kernel)⟩
theorem iv_X6_blocks : Cond.instanceMethod m_X6_blocks.1 ∈ lw_tbl := mT4 59 (by decide +kernel)
theorem sl_X6_blocks : Cond.selects m_X6_blocks.1.cls m_X6_blocks.1 m_X6_blocks.1 ∈ lw_tbl := mS 41 (by decide +kernel)
def m_X6_isNode : MI := (yX6_isNode, cX6_isNode, 3, (some .boolean), 0, 0)
theorem pn_X6_isNode : plainName m_X6_isNode.1.cls = true := by decide +kernel
set_option maxRecDepth 20000 in
theorem ck_X6_isNode : CK m_X6_isNode 2 := ⟨⟨by decide +kernel, by decide +kernel⟩, by decide +kernel, mT3 228 rfl, mT1 7 (by decide +kernel)⟩
theorem iv_X6_isNode : Cond.instanceMethod m_X6_isNode.1 ∈ lw_tbl := mT3 227 (by decide +kernel)
theorem sl_X6_isNode : Cond.selects m_X6_isNode.1.cls m_X6_isNode.1 m_X6_isNode.1 ∈ lw_tbl := mS 24 (by decide +kernel)
def m_X6_node : MI := (yX6_node, cX6_node, 2, (some .int), 0, 0)
theorem pn_X6_node : plainName m_X6_node.1.cls = true := by decide +kernel
set_option maxRecDepth 20000 in
theorem ck_X6_node : CK m_X6_node 1 := ⟨⟨by decide +kernel, by decide +kernel⟩, by decide +kernel, mT3 220 rfl, mT1 7 (by decide +kernel)⟩
theorem iv_X6_node : Cond.instanceMethod m_X6_node.1 ∈ lw_tbl := mT3 218 (by decide +kernel)
theorem sl_X6_node : Cond.selects m_X6_node.1.cls m_X6_node.1 m_X6_node.1 ∈ lw_tbl := mT3 219 (by decide +kernel)
def m_X6_edge : MI := (yX6_edge, cX6_edge, 5, (some .int), 1, 22)
theorem pn_X6_edge : plainName m_X6_edge.1.cls = true := by decide +kernel
set_option maxRecDepth 20000 in
theorem ck_X6_edge : CK m_X6_edge 3 := ⟨⟨by decide +kernel, by decide +kernel⟩, by decide +kernel, mT3 224 rfl, mT1 7 (by decide +kernel)⟩
theorem iv_X6_edge : Cond.instanceMethod m_X6_edge.1 ∈ lw_tbl := mT3 222 (by decide +kernel)
theorem sl_X6_edge : Cond.selects m_X6_edge.1.cls m_X6_edge.1 m_X6_edge.1 ∈ lw_tbl := mT3 223 (by decide +kernel)
def m_X6_edgesMany : MI := (yX6_edgesMany, cX6_edgesMany, 3, (some .int), 0, 0)
theorem pn_X6_edgesMany : plainName m_X6_edgesMany.1.cls = true := by decide +kernel
set_option maxRecDepth 20000 in
theorem ck_X6_edgesMany : CK m_X6_edgesMany 0 := ⟨⟨by decide +kernel, by decide +kernel⟩, by decide +kernel, mT4 64 rfl, mT1 7 (by decide +kernel)⟩
theorem iv_X6_edgesMany : Cond.instanceMethod m_X6_edgesMany.1 ∈ lw_tbl := mT4 63 (by decide +kernel)
theorem sl_X6_edgesMany : Cond.selects m_X6_edgesMany.1.cls m_X6_edgesMany.1 m_X6_edgesMany.1 ∈ lw_tbl := mS 42 (by decide +kernel)
def m_X6_inPart : MI := (yX6_inPart, cX6_inPart, 4, (some .int), 0, 0)
theorem pn_X6_inPart : plainName m_X6_inPart.1.cls = true := by decide +kernel
set_option maxRecDepth 20000 in
theorem ck_X6_inPart : CK m_X6_inPart 1 := ⟨⟨by decide +kernel, by decide +kernel⟩, by decide +kernel, mT4 68 rfl, mT1 7 (by decide +kernel)⟩
theorem iv_X6_inPart : Cond.instanceMethod m_X6_inPart.1 ∈ lw_tbl := mT4 67 (by decide +kernel)
theorem sl_X6_inPart : Cond.selects m_X6_inPart.1.cls m_X6_inPart.1 m_X6_inPart.1 ∈ lw_tbl := mS 43 (by decide +kernel)
def m_X6_count : MI := (yX6_count, cX6_count, 4, (some .int), 5, 117)
theorem pn_X6_count : plainName m_X6_count.1.cls = true := by decide +kernel
set_option maxRecDepth 20000 in
theorem ck_X6_count : CK m_X6_count 1 := ⟨⟨by decide +kernel, by decide +kernel⟩, by decide +kernel, mT3 232 rfl, mT1 7 (by decide +kernel)⟩
theorem iv_X6_count : Cond.instanceMethod m_X6_count.1 ∈ lw_tbl := mT3 230 (by decide +kernel)
theorem sl_X6_count : Cond.selects m_X6_count.1.cls m_X6_count.1 m_X6_count.1 ∈ lw_tbl := mT3 231 (by decide +kernel)
def m_X6_has : MI := (yX6_has, cX6_has, 3, (some .boolean), 1, 22)
theorem pn_X6_has : plainName m_X6_has.1.cls = true := by decide +kernel
set_option maxRecDepth 20000 in
theorem ck_X6_has : CK m_X6_has 2 := ⟨⟨by decide +kernel, by decide +kernel⟩, by decide +kernel, mT4 72 rfl, mT1 7 (by decide +kernel)⟩
theorem iv_X6_has : Cond.instanceMethod m_X6_has.1 ∈ lw_tbl := mT4 70 (by decide +kernel)
theorem sl_X6_has : Cond.selects m_X6_has.1.cls m_X6_has.1 m_X6_has.1 ∈ lw_tbl := mT4 71 (by decide +kernel)
def m_X6_partner : MI := (yX6_partner, cX6_partner, 4, (some .int), 5, 116)
theorem pn_X6_partner : plainName m_X6_partner.1.cls = true := by decide +kernel
set_option maxRecDepth 20000 in
theorem ck_X6_partner : CK m_X6_partner 2 := ⟨⟨by decide +kernel, by decide +kernel⟩, by decide +kernel, mT4 76 rfl, mT1 7 (by decide +kernel)⟩
theorem iv_X6_partner : Cond.instanceMethod m_X6_partner.1 ∈ lw_tbl := mT4 74 (by decide +kernel)
theorem sl_X6_partner : Cond.selects m_X6_partner.1.cls m_X6_partner.1 m_X6_partner.1 ∈ lw_tbl := mT4 75 (by decide +kernel)
def m_X6_edgeIs : MI := (yX6_edgeIs, cX6_edgeIs, 4, (some .int), 5, 116)
theorem pn_X6_edgeIs : plainName m_X6_edgeIs.1.cls = true := by decide +kernel
set_option maxRecDepth 20000 in
theorem ck_X6_edgeIs : CK m_X6_edgeIs 2 := ⟨⟨by decide +kernel, by decide +kernel⟩, by decide +kernel, mT4 80 rfl, mT1 7 (by decide +kernel)⟩
theorem iv_X6_edgeIs : Cond.instanceMethod m_X6_edgeIs.1 ∈ lw_tbl := mT4 78 (by decide +kernel)
theorem sl_X6_edgeIs : Cond.selects m_X6_edgeIs.1.cls m_X6_edgeIs.1 m_X6_edgeIs.1 ∈ lw_tbl := mT4 79 (by decide +kernel)
def m_X6_nodeIs : MI := (yX6_nodeIs, cX6_nodeIs, 3, (some .int), 5, 116)
theorem pn_X6_nodeIs : plainName m_X6_nodeIs.1.cls = true := by decide +kernel
set_option maxRecDepth 20000 in
theorem ck_X6_nodeIs : CK m_X6_nodeIs 2 := ⟨⟨by decide +kernel, by decide +kernel⟩, by decide +kernel, mT4 85 rfl, mT1 7 (by decide +kernel)⟩
theorem iv_X6_nodeIs : Cond.instanceMethod m_X6_nodeIs.1 ∈ lw_tbl := mT4 83 (by decide +kernel)
theorem sl_X6_nodeIs : Cond.selects m_X6_nodeIs.1.cls m_X6_nodeIs.1 m_X6_nodeIs.1 ∈ lw_tbl := mT4 84 (by decide +kernel)
def m_X6_meetsMissed : MI := (yX6_meetsMissed, cX6_meetsMissed, 6, (some .boolean), 0, 0)
theorem pn_X6_meetsMissed : plainName m_X6_meetsMissed.1.cls = true := by decide +kernel
set_option maxRecDepth 20000 in
theorem ck_X6_meetsMissed : CK m_X6_meetsMissed 2 := ⟨⟨by decide +kernel, by decide +kernel⟩, by decide +kernel, mT4 97 rfl, mT1 7 (by decide +kernel)⟩
theorem iv_X6_meetsMissed : Cond.instanceMethod m_X6_meetsMissed.1 ∈ lw_tbl := mT4 96 (by decide +kernel)
theorem sl_X6_meetsMissed : Cond.selects m_X6_meetsMissed.1.cls m_X6_meetsMissed.1 m_X6_meetsMissed.1 ∈ lw_tbl := mS 45 (by decide +kernel)
def m_X6_covers : MI := (yX6_covers, cX6_covers, 4, (some .boolean), 1, 25)
theorem pn_X6_covers : plainName m_X6_covers.1.cls = true := by decide +kernel
set_option maxRecDepth 20000 in
theorem ck_X6_covers : CK m_X6_covers 3 := ⟨⟨by decide +kernel, by decide +kernel⟩, by decide +kernel, mT4 93 rfl, mT1 7 (by decide +kernel)⟩
theorem iv_X6_covers : Cond.instanceMethod m_X6_covers.1 ∈ lw_tbl := mT4 92 (by decide +kernel)
theorem sl_X6_covers : Cond.selects m_X6_covers.1.cls m_X6_covers.1 m_X6_covers.1 ∈ lw_tbl := mS 44 (by decide +kernel)
def m_X6_cover : MI := (yX6_cover, cX6_cover, 4, (some .int), 5, 116)
theorem pn_X6_cover : plainName m_X6_cover.1.cls = true := by decide +kernel
set_option maxRecDepth 20000 in
theorem ck_X6_cover : CK m_X6_cover 3 := ⟨⟨by decide +kernel, by decide +kernel⟩, by decide +kernel, mT4 89 rfl, mT1 7 (by decide +kernel)⟩
theorem iv_X6_cover : Cond.instanceMethod m_X6_cover.1 ∈ lw_tbl := mT4 87 (by decide +kernel)
theorem sl_X6_cover : Cond.selects m_X6_cover.1.cls m_X6_cover.1 m_X6_cover.1 ∈ lw_tbl := mT4 88 (by decide +kernel)
def m_X6_hall : MI := (yX6_hall, cX6_hall, 3, (some .int), 5, 116)
theorem pn_X6_hall : plainName m_X6_hall.1.cls = true := by decide +kernel
set_option maxRecDepth 20000 in
theorem ck_X6_hall : CK m_X6_hall 2 := ⟨⟨by decide +kernel, by decide +kernel⟩, by decide +kernel, mT4 101 rfl, mT1 7 (by decide +kernel)⟩
theorem iv_X6_hall : Cond.instanceMethod m_X6_hall.1 ∈ lw_tbl := mT4 99 (by decide +kernel)
theorem sl_X6_hall : Cond.selects m_X6_hall.1.cls m_X6_hall.1 m_X6_hall.1 ∈ lw_tbl := mT4 100 (by decide +kernel)
def m_X6_part : MI := (yX6_part, cX6_part, 3, (some .int), 5, 116)
theorem pn_X6_part : plainName m_X6_part.1.cls = true := by decide +kernel
set_option maxRecDepth 20000 in
theorem ck_X6_part : CK m_X6_part 2 := ⟨⟨by decide +kernel, by decide +kernel⟩, by decide +kernel, mT4 105 rfl, mT1 7 (by decide +kernel)⟩
theorem iv_X6_part : Cond.instanceMethod m_X6_part.1 ∈ lw_tbl := mT4 103 (by decide +kernel)
theorem sl_X6_part : Cond.selects m_X6_part.1.cls m_X6_part.1 m_X6_part.1 ∈ lw_tbl := mT4 104 (by decide +kernel)
def m_X6_block : MI := (yX6_block, cX6_block, 4, (some .int), 5, 116)
theorem pn_X6_block : plainName m_X6_block.1.cls = true := by decide +kernel
set_option maxRecDepth 20000 in
theorem ck_X6_block : CK m_X6_block 2 := ⟨⟨by decide +kernel, by decide +kernel⟩, by decide +kernel, mT4 109 rfl, mT1 7 (by decide +kernel)⟩
theorem iv_X6_block : Cond.instanceMethod m_X6_block.1 ∈ lw_tbl := mT4 107 (by decide +kernel)
theorem sl_X6_block : Cond.selects m_X6_block.1.cls m_X6_block.1 m_X6_block.1 ∈ lw_tbl := mT4 108 (by decide +kernel)
def m_X6_leads : MI := (yX6_leads, cX6_leads, 6, (some .int), 5, 116)
theorem pn_X6_leads : plainName m_X6_leads.1.cls = true := by decide +kernel
set_option maxRecDepth 20000 in
theorem ck_X6_leads : CK m_X6_leads 2 := ⟨⟨by decide +kernel, by decide +kernel⟩, by decide +kernel, mT4 113 rfl, mT1 7 (by decide +kernel)⟩
theorem iv_X6_leads : Cond.instanceMethod m_X6_leads.1 ∈ lw_tbl := mT4 111 (by decide +kernel)
theorem sl_X6_leads : Cond.selects m_X6_leads.1.cls m_X6_leads.1 m_X6_leads.1 ∈ lw_tbl := mT4 112 (by decide +kernel)
def m_X6_bits : MI := (yX6_bits, cX6_bits, 3, (some .int), 0, 0)
theorem pn_X6_bits : plainName m_X6_bits.1.cls = true := by decide +kernel
set_option maxRecDepth 20000 in
theorem ck_X6_bits : CK m_X6_bits 1 := ⟨⟨by decide +kernel, by decide +kernel⟩, by decide +kernel, mT4 121 rfl, mT1 7 (by decide +kernel)⟩
theorem sv_X6_bits : Cond.static m_X6_bits.1 ∈ lw_tbl := mT4 120 (by decide +kernel)
def m_X6_pairings : MI := (yX6_pairings, cX6_pairings, 5, (some .long), 5, 116)
theorem pn_X6_pairings : plainName m_X6_pairings.1.cls = true := by decide +kernel
set_option maxRecDepth 20000 in
theorem ck_X6_pairings : CK m_X6_pairings 0 := ⟨⟨by decide +kernel, by decide +kernel⟩, by decide +kernel, mT4 117 rfl, mT1 7 (by decide +kernel)⟩
theorem iv_X6_pairings : Cond.instanceMethod m_X6_pairings.1 ∈ lw_tbl := mT4 115 (by decide +kernel)
theorem sl_X6_pairings : Cond.selects m_X6_pairings.1.cls m_X6_pairings.1 m_X6_pairings.1 ∈ lw_tbl := mT4 116 (by decide +kernel)
def m_X6_thing : MI := (yX6_thing, cX6_thing, 1, (some .int), 0, 0)
theorem pn_X6_thing : plainName m_X6_thing.1.cls = true := by decide +kernel
set_option maxRecDepth 20000 in
theorem ck_X6_thing : CK m_X6_thing 0 := ⟨⟨by decide +kernel, by decide +kernel⟩, by decide +kernel, mT4 125 rfl, mT1 7 (by decide +kernel)⟩
theorem iv_X6_thing : Cond.instanceMethod m_X6_thing.1 ∈ lw_tbl := mT4 123 (by decide +kernel)
theorem sl_X6_thing : Cond.selects m_X6_thing.1.cls m_X6_thing.1 m_X6_thing.1 ∈ lw_tbl := mT4 124 (by decide +kernel)
def m_X6_tell : MI := (yX6_tell, cX6_tell, 5, (some .int), 0, 0)
theorem pn_X6_tell : plainName m_X6_tell.1.cls = true := by decide +kernel
set_option maxRecDepth 20000 in
theorem ck_X6_tell : CK m_X6_tell 2 := ⟨⟨by decide +kernel, by decide +kernel⟩, by decide +kernel, mT4 129 rfl, mT1 7 (by decide +kernel)⟩
theorem iv_X6_tell : Cond.instanceMethod m_X6_tell.1 ∈ lw_tbl := mT4 127 (by decide +kernel)
theorem sl_X6_tell : Cond.selects m_X6_tell.1.cls m_X6_tell.1 m_X6_tell.1 ∈ lw_tbl := mT4 128 (by decide +kernel)
def m_X6_below : MI := (yX6_below, cX6_below, 3, (some .boolean), 0, 0)
theorem pn_X6_below : plainName m_X6_below.1.cls = true := by decide +kernel
set_option maxRecDepth 20000 in
theorem ck_X6_below : CK m_X6_below 2 := ⟨⟨by decide +kernel, by decide +kernel⟩, by decide +kernel, mT4 133 rfl, mT1 7 (by decide +kernel)⟩
theorem iv_X6_below : Cond.instanceMethod m_X6_below.1 ∈ lw_tbl := mT4 131 (by decide +kernel)
theorem sl_X6_below : Cond.selects m_X6_below.1.cls m_X6_below.1 m_X6_below.1 ∈ lw_tbl := mT4 132 (by decide +kernel)
def m_X6_widthBeside : MI := (yX6_widthBeside, cX6_widthBeside, 4, (some .int), 3, 68)
theorem pn_X6_widthBeside : plainName m_X6_widthBeside.1.cls = true := by decide +kernel
set_option maxRecDepth 20000 in
theorem ck_X6_widthBeside : CK m_X6_widthBeside 1 := ⟨⟨by decide +kernel, by decide +kernel⟩, by decide +kernel, mT4 0 rfl, mT1 7 (by decide +kernel)⟩
theorem iv_X6_widthBeside : Cond.instanceMethod m_X6_widthBeside.1 ∈ lw_tbl := mT3 239 (by decide +kernel)
theorem sl_X6_widthBeside : Cond.selects m_X6_widthBeside.1.cls m_X6_widthBeside.1 m_X6_widthBeside.1 ∈ lw_tbl := mS 26 (by decide +kernel)
def m_X6_workThings : MI := (yX6_workThings, cX6_workThings, 4, none, 4, 94)
theorem pn_X6_workThings : plainName m_X6_workThings.1.cls = true := by decide +kernel
set_option maxRecDepth 20000 in
theorem ck_X6_workThings : CK m_X6_workThings 0 := ⟨⟨by decide +kernel, by decide +kernel⟩, by decide +kernel, mT3 236 rfl, mT1 7 (by decide +kernel)⟩
theorem iv_X6_workThings : Cond.instanceMethod m_X6_workThings.1 ∈ lw_tbl := mT3 235 (by decide +kernel)
theorem sl_X6_workThings : Cond.selects m_X6_workThings.1.cls m_X6_workThings.1 m_X6_workThings.1 ∈ lw_tbl := mS 25 (by decide +kernel)
def m_X6_levels : MI := (yX6_levels, cX6_levels, 4, none, 0, 0)
theorem pn_X6_levels : plainName m_X6_levels.1.cls = true := by decide +kernel
set_option maxRecDepth 20000 in
theorem ck_X6_levels : CK m_X6_levels 0 := ⟨⟨by decide +kernel, by decide +kernel⟩, by decide +kernel, mT4 40 rfl, mT1 7 (by decide +kernel)⟩
theorem iv_X6_levels : Cond.instanceMethod m_X6_levels.1 ∈ lw_tbl := mT4 39 (by decide +kernel)
theorem sl_X6_levels : Cond.selects m_X6_levels.1.cls m_X6_levels.1 m_X6_levels.1 ∈ lw_tbl := mS 36 (by decide +kernel)
def m_X6_ends : MI := (yX6_ends, cX6_ends, 3, none, 0, 0)
theorem pn_X6_ends : plainName m_X6_ends.1.cls = true := by decide +kernel
set_option maxRecDepth 20000 in
theorem ck_X6_ends : CK m_X6_ends 0 := ⟨⟨by decide +kernel, by decide +kernel⟩, by decide +kernel, mT4 44 rfl, mT1 7 (by decide +kernel)⟩
theorem iv_X6_ends : Cond.instanceMethod m_X6_ends.1 ∈ lw_tbl := mT4 43 (by decide +kernel)
theorem sl_X6_ends : Cond.selects m_X6_ends.1.cls m_X6_ends.1 m_X6_ends.1 ∈ lw_tbl := mS 37 (by decide +kernel)
def m_X6_about : MI := (yX6_about, cX6_about, 3, (some .int), 5, 117)
theorem pn_X6_about : plainName m_X6_about.1.cls = true := by decide +kernel
set_option maxRecDepth 20000 in
theorem ck_X6_about : CK m_X6_about 2 := ⟨⟨by decide +kernel, by decide +kernel⟩, by decide +kernel, mT4 137 rfl, mT1 7 (by decide +kernel)⟩
theorem iv_X6_about : Cond.instanceMethod m_X6_about.1 ∈ lw_tbl := mT4 135 (by decide +kernel)
theorem sl_X6_about : Cond.selects m_X6_about.1.cls m_X6_about.1 m_X6_about.1 ∈ lw_tbl := mT4 136 (by decide +kernel)
def m_X6_clearGraph : MI := (yX6_clearGraph, cX6_clearGraph, 3, (some .int), 0, 0)
theorem pn_X6_clearGraph : plainName m_X6_clearGraph.1.cls = true := by decide +kernel
set_option maxRecDepth 20000 in
theorem ck_X6_clearGraph : CK m_X6_clearGraph 0 := ⟨⟨by decide +kernel, by decide +kernel⟩, by decide +kernel, mT4 141 rfl, mT1 7 (by decide +kernel)⟩
theorem iv_X6_clearGraph : Cond.instanceMethod m_X6_clearGraph.1 ∈ lw_tbl := mT4 139 (by decide +kernel)
theorem sl_X6_clearGraph : Cond.selects m_X6_clearGraph.1.cls m_X6_clearGraph.1 m_X6_clearGraph.1 ∈ lw_tbl := mT4 140 (by decide +kernel)
def m_X6_clearThings : MI := (yX6_clearThings, cX6_clearThings, 3, (some .int), 0, 0)
theorem pn_X6_clearThings : plainName m_X6_clearThings.1.cls = true := by decide +kernel
set_option maxRecDepth 20000 in
theorem ck_X6_clearThings : CK m_X6_clearThings 0 := ⟨⟨by decide +kernel, by decide +kernel⟩, by decide +kernel, mT4 145 rfl, mT1 7 (by decide +kernel)⟩
theorem iv_X6_clearThings : Cond.instanceMethod m_X6_clearThings.1 ∈ lw_tbl := mT4 143 (by decide +kernel)
theorem sl_X6_clearThings : Cond.selects m_X6_clearThings.1.cls m_X6_clearThings.1 m_X6_clearThings.1 ∈ lw_tbl := mT4 144 (by decide +kernel)
def m_J6_bitCount_0f7a4 : MI := (yJ6_bitCount_0f7a4, cJ6_bitCount_0f7a4, 1, (some .int), 0, 0)
theorem pn_J6_bitCount_0f7a4 : plainName m_J6_bitCount_0f7a4.1.cls = true := by decide +kernel
set_option maxRecDepth 20000 in
theorem ck_J6_bitCount_0f7a4 : CK m_J6_bitCount_0f7a4 1 := ⟨⟨by decide +kernel, by decide +kernel⟩, by decide +kernel, mT3 38 rfl, mT1 11 (by decide +kernel)⟩
theorem sv_J6_bitCount_0f7a4 : Cond.static m_J6_bitCount_0f7a4.1 ∈ lw_tbl := mT3 37 (by decide +kernel)
def m_J13_bitCount_95d88 : MI := (yJ13_bitCount_95d88, cJ13_bitCount_95d88, 2, (some .int), 0, 0)
theorem pn_J13_bitCount_95d88 : plainName m_J13_bitCount_95d88.1.cls = true := by decide +kernel
set_option maxRecDepth 20000 in
theorem ck_J13_bitCount_95d88 : CK m_J13_bitCount_95d88 1 := ⟨⟨by decide +kernel, by decide +kernel⟩, by decide +kernel, mT2 0 rfl, mT1 8 (by decide +kernel)⟩
theorem sv_J13_bitCount_95d88 : Cond.static m_J13_bitCount_95d88.1 ∈ lw_tbl := mT1 239 (by decide +kernel)
def m_J9_min_7cf53 : MI := (yJ9_min_7cf53, cJ9_min_7cf53, 2, (some .int), 0, 0)
set_option maxRecDepth 20000 in
theorem ck_J9_min_7cf53 : CK m_J9_min_7cf53 2 := ⟨⟨by decide +kernel, by decide +kernel⟩, by decide +kernel, mT3 13 rfl, mT1 10 (by decide +kernel)⟩
theorem sv_J9_min_7cf53 : Cond.static m_J9_min_7cf53.1 ∈ lw_tbl := mT3 12 (by decide +kernel)
def m_J7_fill_d0a16 : MI := (yJ7_fill_d0a16, cJ7_fill_d0a16, 5, none, 0, 0)
theorem pn_J7_fill_d0a16 : plainName m_J7_fill_d0a16.1.cls = true := by decide +kernel
set_option maxRecDepth 20000 in
theorem ck_J7_fill_d0a16 : CK m_J7_fill_d0a16 2 := ⟨⟨by decide +kernel, by decide +kernel⟩, by decide +kernel, mT3 86 rfl, mT1 9 (by decide +kernel)⟩
theorem sv_J7_fill_d0a16 : Cond.static m_J7_fill_d0a16.1 ∈ lw_tbl := mT3 85 (by decide +kernel)
def m_J7_fill_53178 : MI := (yJ7_fill_53178, cJ7_fill_53178, 4, none, 0, 0)
theorem pn_J7_fill_53178 : plainName m_J7_fill_53178.1.cls = true := by decide +kernel
set_option maxRecDepth 20000 in
theorem ck_J7_fill_53178 : CK m_J7_fill_53178 2 := ⟨⟨by decide +kernel, by decide +kernel⟩, by decide +kernel, mT2 18 rfl, mT1 9 (by decide +kernel)⟩
theorem sv_J7_fill_53178 : Cond.static m_J7_fill_53178.1 ∈ lw_tbl := mT2 17 (by decide +kernel)
theorem lk_RX5_1 : Cond.methodLink RX5 1 objectInit ∈ lw_tbl := mT1 17 (by decide +kernel)
theorem lk_RX5_11 : Cond.methodLink RX5 11 m_X1_init.1 ∈ lw_tbl := mT1 22 (by decide +kernel)
theorem lk_RX5_20 : Cond.methodLink RX5 20 m_X3_init.1 ∈ lw_tbl := mT1 45 (by decide +kernel)
theorem lk_RX5_29 : Cond.methodLink RX5 29 m_X0_init.1 ∈ lw_tbl := mT1 86 (by decide +kernel)
theorem lk_RX5_38 : Cond.methodLink RX5 38 m_X4_init.1 ∈ lw_tbl := mT1 117 (by decide +kernel)
theorem lk_RX5_53 : Cond.methodLink RX5 53 m_X2_init.1 ∈ lw_tbl := mT1 145 (by decide +kernel)
theorem lk_RX5_58 : Cond.methodLink RX5 58 m_X1_add.1 ∈ lw_tbl := mT1 194 (by decide +kernel)
theorem lk_RX5_62 : Cond.methodLink RX5 62 m_X1_holds.1 ∈ lw_tbl := mT1 205 (by decide +kernel)
theorem lk_RX5_66 : Cond.methodLink RX5 66 m_X1_joins.1 ∈ lw_tbl := mT1 209 (by decide +kernel)
theorem lk_RX5_69 : Cond.methodLink RX5 69 m_X1_joinAll.1 ∈ lw_tbl := mT1 217 (by decide +kernel)
theorem lk_RX5_73 : Cond.methodLink RX5 73 m_X1_unjoin.1 ∈ lw_tbl := mT1 221 (by decide +kernel)
theorem lk_RX5_77 : Cond.methodLink RX5 77 m_X1_sizeOf.1 ∈ lw_tbl := mT1 230 (by decide +kernel)
theorem lk_RX5_80 : Cond.methodLink RX5 80 m_X1_edges.1 ∈ lw_tbl := mT1 234 (by decide +kernel)
theorem lk_RX5_84 : Cond.methodLink RX5 84 m_X3_refresh.1 ∈ lw_tbl := mT2 4 (by decide +kernel)
theorem lk_RX5_87 : Cond.methodLink RX5 87 m_X2_refresh.1 ∈ lw_tbl := mT2 84 (by decide +kernel)
theorem lk_RX5_88 : Cond.methodLink RX5 88 m_X3_pairs.1 ∈ lw_tbl := mT2 116 (by decide +kernel)
theorem lk_RX5_91 : Cond.methodLink RX5 91 m_X2_howManyLevels.1 ∈ lw_tbl := mT2 120 (by decide +kernel)
theorem lk_RX5_94 : Cond.methodLink RX5 94 m_X0_refresh.1 ∈ lw_tbl := mT2 124 (by decide +kernel)
theorem lk_RX5_95 : Cond.methodLink RX5 95 m_X5_countFindings.1 ∈ lw_tbl := mT2 150 (by decide +kernel)
theorem lk_RX5_98 : Cond.methodLink RX5 98 m_X3_nodesInPart.1 ∈ lw_tbl := mT2 154 (by decide +kernel)
theorem lk_RX5_101 : Cond.methodLink RX5 101 m_X0_howMany.1 ∈ lw_tbl := mT2 158 (by decide +kernel)
theorem lk_RX5_104 : Cond.methodLink RX5 104 m_X3_mateOf.1 ∈ lw_tbl := mT2 170 (by decide +kernel)
theorem lk_RX5_108 : Cond.methodLink RX5 108 m_X0_usefulRights.1 ∈ lw_tbl := mT2 175 (by decide +kernel)
theorem lk_RX5_112 : Cond.methodLink RX5 112 m_X5_contains.1 ∈ lw_tbl := mT2 193 (by decide +kernel)
theorem lk_RX5_116 : Cond.methodLink RX5 116 m_X0_isLonePair.1 ∈ lw_tbl := mT2 194 (by decide +kernel)
theorem lk_RX5_120 : Cond.methodLink RX5 120 m_X3_partOf.1 ∈ lw_tbl := mT2 203 (by decide +kernel)
theorem lk_RX5_123 : Cond.methodLink RX5 123 m_X5_isOneOfTwo.1 ∈ lw_tbl := mT2 208 (by decide +kernel)
theorem lk_RX5_126 : Cond.methodLink RX5 126 m_X3_isInCover.1 ∈ lw_tbl := mT2 209 (by decide +kernel)
theorem lk_RX5_130 : Cond.methodLink RX5 130 m_X0_numberOf.1 ∈ lw_tbl := mT2 226 (by decide +kernel)
theorem lk_RX5_133 : Cond.methodLink RX5 133 m_X0_holds.1 ∈ lw_tbl := mT2 231 (by decide +kernel)
theorem lk_RX5_135 : Cond.methodLink RX5 135 m_X0_comesTo.1 ∈ lw_tbl := mT2 232 (by decide +kernel)
theorem lk_RX5_140 : Cond.methodLink RX5 140 m_X4_refresh.1 ∈ lw_tbl := mT3 1 (by decide +kernel)
theorem lk_RX5_141 : Cond.methodLink RX5 141 m_X4_total.1 ∈ lw_tbl := mT3 42 (by decide +kernel)
theorem lk_RX5_145 : Cond.methodLink RX5 145 m_X1_across.1 ∈ lw_tbl := mT3 54 (by decide +kernel)
theorem lk_RX5_149 : Cond.methodLink RX5 149 m_X2_chainOf.1 ∈ lw_tbl := mT3 63 (by decide +kernel)
theorem lk_RX5_152 : Cond.methodLink RX5 152 m_X2_levelOf.1 ∈ lw_tbl := mT3 67 (by decide +kernel)
theorem lk_RX5_155 : Cond.methodLink RX5 155 m_X2_isInAntichain.1 ∈ lw_tbl := mT3 71 (by decide +kernel)
theorem lk_RX5_158 : Cond.methodLink RX5 158 m_X1_clear.1 ∈ lw_tbl := mT3 80 (by decide +kernel)
theorem lk_RX5_161 : Cond.methodLink RX5 161 m_J13_bitCount_95d88.1 ∈ lw_tbl := mT2 46 (by decide +kernel)
theorem lk_RX0_3 : Cond.methodLink RX0 3 objectInit ∈ lw_tbl := mT1 89 (by decide +kernel)
theorem lk_RX0_40 : Cond.methodLink RX0 40 m_X1_changes.1 ∈ lw_tbl := mT2 128 (by decide +kernel)
theorem lk_RX0_46 : Cond.methodLink RX0 46 m_X0_findReached.1 ∈ lw_tbl := mT2 129 (by decide +kernel)
theorem lk_RX0_49 : Cond.methodLink RX0 49 m_X0_numberAll.1 ∈ lw_tbl := mT2 141 (by decide +kernel)
theorem lk_RX0_52 : Cond.methodLink RX0 52 m_X3_mateOf.1 ∈ lw_tbl := mT2 183 (by decide +kernel)
theorem lk_RX0_58 : Cond.methodLink RX0 58 m_X1_holds.1 ∈ lw_tbl := mT2 184 (by decide +kernel)
theorem lk_RX0_62 : Cond.methodLink RX0 62 m_X0_holds.1 ∈ lw_tbl := mT2 185 (by decide +kernel)
theorem lk_RX0_65 : Cond.methodLink RX0 65 m_X0_numberOf.1 ∈ lw_tbl := mT2 179 (by decide +kernel)
theorem lk_RX0_68 : Cond.methodLink RX0 68 m_J13_bitCount_95d88.1 ∈ lw_tbl := mT2 198 (by decide +kernel)
theorem lk_RX0_74 : Cond.methodLink RX0 74 m_X3_matesOf.1 ∈ lw_tbl := mT2 140 (by decide +kernel)
theorem lk_RX0_78 : Cond.methodLink RX0 78 m_X3_partOf.1 ∈ lw_tbl := mT2 189 (by decide +kernel)
theorem lk_RX0_81 : Cond.methodLink RX0 81 m_X3_nodesOfPart.1 ∈ lw_tbl := mT2 134 (by decide +kernel)
theorem lk_RX0_85 : Cond.methodLink RX0 85 m_X1_across.1 ∈ lw_tbl := mT2 139 (by decide +kernel)
theorem lk_RX0_88 : Cond.methodLink RX0 88 m_X1_sizeOf.1 ∈ lw_tbl := mT2 133 (by decide +kernel)
theorem lk_RX0_92 : Cond.methodLinkNest RX0 92 m_X5_contains.1 "PairBench" ∈ lw_tbl := mT2 138 (by decide +kernel)
theorem lk_RX0_96 : Cond.methodLink RX0 96 m_J7_fill_53178.1 ∈ lw_tbl := mT2 145 (by decide +kernel)
theorem lk_RX0_102 : Cond.methodLink RX0 102 m_X0_gather.1 ∈ lw_tbl := mT2 146 (by decide +kernel)
theorem lk_RX1_3 : Cond.methodLink RX1 3 objectInit ∈ lw_tbl := mT1 25 (by decide +kernel)
theorem lk_RX1_27 : Cond.methodLinkNest RX1 27 m_X5_isOneOfTwo.1 "PairBench" ∈ lw_tbl := mT1 198 (by decide +kernel)
theorem lk_RX1_31 : Cond.methodLink RX1 31 m_X1_holds.1 ∈ lw_tbl := mT1 213 (by decide +kernel)
theorem lk_RX1_35 : Cond.methodLinkNest RX1 35 m_X5_contains.1 "PairBench" ∈ lw_tbl := mT1 214 (by decide +kernel)
theorem lk_RX1_39 : Cond.methodLink RX1 39 m_X1_sizeOf.1 ∈ lw_tbl := mT2 71 (by decide +kernel)
theorem lk_RX1_43 : Cond.methodLink RX1 43 m_J13_bitCount_95d88.1 ∈ lw_tbl := mT1 238 (by decide +kernel)
theorem lk_RX1_51 : Cond.methodLink RX1 51 m_J7_fill_d0a16.1 ∈ lw_tbl := mT3 84 (by decide +kernel)
theorem lk_RX2_3 : Cond.methodLink RX2 3 objectInit ∈ lw_tbl := mT1 148 (by decide +kernel)
theorem lk_RX2_33 : Cond.methodLink RX2 33 m_X1_changes.1 ∈ lw_tbl := mT2 88 (by decide +kernel)
theorem lk_RX2_39 : Cond.methodLink RX2 39 m_X2_findLevels.1 ∈ lw_tbl := mT2 89 (by decide +kernel)
theorem lk_RX2_42 : Cond.methodLink RX2 42 m_X2_findChains.1 ∈ lw_tbl := mT2 102 (by decide +kernel)
theorem lk_RX2_45 : Cond.methodLink RX2 45 m_X1_holds.1 ∈ lw_tbl := mT2 115 (by decide +kernel)
theorem lk_RX2_49 : Cond.methodLink RX2 49 m_X3_isInCover.1 ∈ lw_tbl := mT3 75 (by decide +kernel)
theorem lk_RX2_55 : Cond.methodLink RX2 55 m_X1_all.1 ∈ lw_tbl := mT2 93 (by decide +kernel)
theorem lk_RX2_59 : Cond.methodLink RX2 59 m_X2_bottomOf.1 ∈ lw_tbl := mT2 94 (by decide +kernel)
theorem lk_RX2_63 : Cond.methodLink RX2 63 m_X1_sizeOf.1 ∈ lw_tbl := mT2 98 (by decide +kernel)
theorem lk_RX2_67 : Cond.methodLinkNest RX2 67 m_X5_contains.1 "PairBench" ∈ lw_tbl := mT2 99 (by decide +kernel)
theorem lk_RX2_73 : Cond.methodLink RX2 73 m_X1_across.1 ∈ lw_tbl := mT2 100 (by decide +kernel)
theorem lk_RX2_77 : Cond.methodLink RX2 77 m_X3_mateOf.1 ∈ lw_tbl := mT2 106 (by decide +kernel)
theorem lk_RX2_81 : Cond.methodLink RX2 81 m_X2_numberChain.1 ∈ lw_tbl := mT2 111 (by decide +kernel)
theorem lk_RX3_3 : Cond.methodLink RX3 3 objectInit ∈ lw_tbl := mT1 48 (by decide +kernel)
theorem lk_RX3_15 : Cond.methodLink RX3 15 m_X1_most.1 ∈ lw_tbl := mT1 49 (by decide +kernel)
theorem lk_RX3_52 : Cond.methodLink RX3 52 m_X1_changes.1 ∈ lw_tbl := mT2 8 (by decide +kernel)
theorem lk_RX3_55 : Cond.methodLink RX3 55 m_X3_begin.1 ∈ lw_tbl := mT2 12 (by decide +kernel)
theorem lk_RX3_58 : Cond.methodLink RX3 58 m_X3_lengthen.1 ∈ lw_tbl := mT2 27 (by decide +kernel)
theorem lk_RX3_62 : Cond.methodLink RX3 62 m_X1_sizeOf.1 ∈ lw_tbl := mT2 36 (by decide +kernel)
theorem lk_RX3_66 : Cond.methodLink RX3 66 m_X3_choicesOf.1 ∈ lw_tbl := mT2 55 (by decide +kernel)
theorem lk_RX3_70 : Cond.methodLink RX3 70 m_X3_settle.1 ∈ lw_tbl := mT2 72 (by decide +kernel)
theorem lk_RX3_74 : Cond.methodLink RX3 74 m_X3_openAll.1 ∈ lw_tbl := mT2 19 (by decide +kernel)
theorem lk_RX3_77 : Cond.methodLink RX3 77 m_X3_findParts.1 ∈ lw_tbl := mT2 80 (by decide +kernel)
theorem lk_RX3_80 : Cond.methodLink RX3 80 m_X1_holds.1 ∈ lw_tbl := mT2 110 (by decide +kernel)
theorem lk_RX3_84 : Cond.methodLink RX3 84 m_X1_all.1 ∈ lw_tbl := mT2 23 (by decide +kernel)
theorem lk_RX3_87 : Cond.methodLink RX3 87 m_J13_bitCount_95d88.1 ∈ lw_tbl := mT2 42 (by decide +kernel)
theorem lk_RX3_93 : Cond.methodLinkNest RX3 93 m_X5_lowest.1 "PairBench" ∈ lw_tbl := mT2 43 (by decide +kernel)
theorem lk_RX3_96 : Cond.methodLinkNest RX3 96 m_X5_contains.1 "PairBench" ∈ lw_tbl := mT2 37 (by decide +kernel)
theorem lk_RX3_100 : Cond.methodLink RX3 100 m_X3_partOf.1 ∈ lw_tbl := mT2 213 (by decide +kernel)
theorem lk_RX3_104 : Cond.methodLink RX3 104 m_J7_fill_53178.1 ∈ lw_tbl := mT2 16 (by decide +kernel)
theorem lk_RX3_112 : Cond.methodLink RX3 112 m_X3_bare.1 ∈ lw_tbl := mT2 31 (by decide +kernel)
theorem lk_RX3_115 : Cond.methodLink RX3 115 m_X1_across.1 ∈ lw_tbl := mT2 38 (by decide +kernel)
theorem lk_RX3_119 : Cond.methodLink RX3 119 m_X3_pairAlongPath.1 ∈ lw_tbl := mT2 47 (by decide +kernel)
theorem lk_RX3_123 : Cond.methodLink RX3 123 m_X3_pair.1 ∈ lw_tbl := mT2 51 (by decide +kernel)
theorem lk_RX3_127 : Cond.methodLink RX3 127 m_X3_matesOf.1 ∈ lw_tbl := mT2 63 (by decide +kernel)
theorem lk_RX3_131 : Cond.methodLink RX3 131 m_X3_reach.1 ∈ lw_tbl := mT2 59 (by decide +kernel)
theorem lk_RX3_134 : Cond.methodLink RX3 134 m_X1_neighbours.1 ∈ lw_tbl := mT2 67 (by decide +kernel)
theorem lk_RX3_137 : Cond.methodLink RX3 137 m_X3_loosen.1 ∈ lw_tbl := mT2 76 (by decide +kernel)
theorem lk_RX4_3 : Cond.methodLink RX4 3 objectInit ∈ lw_tbl := mT1 120 (by decide +kernel)
theorem lk_RX4_38 : Cond.methodLink RX4 38 m_X1_changes.1 ∈ lw_tbl := mT3 5 (by decide +kernel)
theorem lk_RX4_44 : Cond.methodLink RX4 44 m_X4_lefts.1 ∈ lw_tbl := mT3 6 (by decide +kernel)
theorem lk_RX4_47 : Cond.methodLink RX4 47 m_X0_usefulRights.1 ∈ lw_tbl := mT3 14 (by decide +kernel)
theorem lk_RX4_53 : Cond.methodLink RX4 53 m_X1_all.1 ∈ lw_tbl := mT3 15 (by decide +kernel)
theorem lk_RX4_56 : Cond.methodLinkNest RX4 56 m_X5_contains.1 "PairBench" ∈ lw_tbl := mT3 16 (by decide +kernel)
theorem lk_RX4_60 : Cond.methodLink RX4 60 m_X4_pieceOf.1 ∈ lw_tbl := mT3 17 (by decide +kernel)
theorem lk_RX4_65 : Cond.methodLink RX4 65 m_X4_waysToPair.1 ∈ lw_tbl := mT3 22 (by decide +kernel)
theorem lk_RX4_69 : Cond.methodLink RX4 69 m_X1_sizeOf.1 ∈ lw_tbl := mT3 10 (by decide +kernel)
theorem lk_RX4_73 : Cond.methodLink RX4 73 m_J9_min_7cf53.1 ∈ lw_tbl := mT3 11 (by decide +kernel)
theorem lk_RX4_79 : Cond.methodLink RX4 79 m_J13_bitCount_95d88.1 ∈ lw_tbl := mT3 26 (by decide +kernel)
theorem lk_RX4_85 : Cond.methodLink RX4 85 m_X4_setChoices.1 ∈ lw_tbl := mT3 27 (by decide +kernel)
theorem lk_RX4_89 : Cond.methodLink RX4 89 m_X4_waysToChoose.1 ∈ lw_tbl := mT3 32 (by decide +kernel)
theorem lk_RX4_93 : Cond.methodLink RX4 93 m_J7_fill_53178.1 ∈ lw_tbl := mT3 31 (by decide +kernel)
theorem lk_RX4_99 : Cond.methodLink RX4 99 m_J6_bitCount_0f7a4.1 ∈ lw_tbl := mT3 36 (by decide +kernel)
theorem lk_RL_9 : Cond.methodLink RL 9 m_X5_init.1 ∈ lw_tbl := mT1 14 (by decide +kernel)
theorem lk_RL_12 : Cond.methodLink RL 12 m_X6_init.1 ∈ lw_tbl := mT3 93 (by decide +kernel)
theorem lk_RL_13 : Cond.methodLink RL 13 m_X5_node.1 ∈ lw_tbl := mT1 190 (by decide +kernel)
theorem lk_RL_17 : Cond.methodLink RL 17 m_X6_node.1 ∈ lw_tbl := mT3 217 (by decide +kernel)
theorem lk_RL_18 : Cond.methodLink RL 18 m_X5_edge.1 ∈ lw_tbl := mT1 201 (by decide +kernel)
theorem lk_RL_22 : Cond.methodLink RL 22 m_X6_edge.1 ∈ lw_tbl := mT3 221 (by decide +kernel)
theorem lk_RL_23 : Cond.methodLink RL 23 m_X5_count.1 ∈ lw_tbl := mT1 226 (by decide +kernel)
theorem lk_RL_26 : Cond.methodLink RL 26 m_X6_count.1 ∈ lw_tbl := mT3 229 (by decide +kernel)
theorem lk_RL_27 : Cond.methodLink RL 27 m_X5_has.1 ∈ lw_tbl := mT2 162 (by decide +kernel)
theorem lk_RL_31 : Cond.methodLink RL 31 m_X6_has.1 ∈ lw_tbl := mT4 69 (by decide +kernel)
theorem lk_RL_32 : Cond.methodLink RL 32 m_X5_partner.1 ∈ lw_tbl := mT2 166 (by decide +kernel)
theorem lk_RL_36 : Cond.methodLink RL 36 m_X6_partner.1 ∈ lw_tbl := mT4 73 (by decide +kernel)
theorem lk_RL_37 : Cond.methodLink RL 37 m_X5_edgeIs.1 ∈ lw_tbl := mT2 171 (by decide +kernel)
theorem lk_RL_40 : Cond.methodLink RL 40 m_X6_edgeIs.1 ∈ lw_tbl := mT4 77 (by decide +kernel)
theorem lk_RL_41 : Cond.methodLink RL 41 m_X5_nodeIs.1 ∈ lw_tbl := mT2 199 (by decide +kernel)
theorem lk_RL_44 : Cond.methodLink RL 44 m_X6_nodeIs.1 ∈ lw_tbl := mT4 82 (by decide +kernel)
theorem lk_RL_45 : Cond.methodLink RL 45 m_X5_cover.1 ∈ lw_tbl := mT2 204 (by decide +kernel)
theorem lk_RL_49 : Cond.methodLink RL 49 m_X6_cover.1 ∈ lw_tbl := mT4 86 (by decide +kernel)
theorem lk_RL_50 : Cond.methodLink RL 50 m_X5_hall.1 ∈ lw_tbl := mT2 214 (by decide +kernel)
theorem lk_RL_53 : Cond.methodLink RL 53 m_X6_hall.1 ∈ lw_tbl := mT4 98 (by decide +kernel)
theorem lk_RL_54 : Cond.methodLink RL 54 m_X5_part.1 ∈ lw_tbl := mT2 218 (by decide +kernel)
theorem lk_RL_57 : Cond.methodLink RL 57 m_X6_part.1 ∈ lw_tbl := mT4 102 (by decide +kernel)
theorem lk_RL_58 : Cond.methodLink RL 58 m_X5_block.1 ∈ lw_tbl := mT2 222 (by decide +kernel)
theorem lk_RL_61 : Cond.methodLink RL 61 m_X6_block.1 ∈ lw_tbl := mT4 106 (by decide +kernel)
theorem lk_RL_62 : Cond.methodLink RL 62 m_X5_leads.1 ∈ lw_tbl := mT2 227 (by decide +kernel)
theorem lk_RL_65 : Cond.methodLink RL 65 m_X6_leads.1 ∈ lw_tbl := mT4 110 (by decide +kernel)
theorem lk_RL_66 : Cond.methodLink RL 66 m_X5_pairings.1 ∈ lw_tbl := mT2 236 (by decide +kernel)
theorem lk_RL_70 : Cond.methodLink RL 70 m_X6_pairings.1 ∈ lw_tbl := mT4 114 (by decide +kernel)
theorem lk_RL_71 : Cond.methodLink RL 71 m_X5_thing.1 ∈ lw_tbl := mT3 46 (by decide +kernel)
theorem lk_RL_75 : Cond.methodLink RL 75 m_X6_thing.1 ∈ lw_tbl := mT4 122 (by decide +kernel)
theorem lk_RL_76 : Cond.methodLink RL 76 m_X5_tell.1 ∈ lw_tbl := mT3 50 (by decide +kernel)
theorem lk_RL_79 : Cond.methodLink RL 79 m_X6_tell.1 ∈ lw_tbl := mT4 126 (by decide +kernel)
theorem lk_RL_80 : Cond.methodLink RL 80 m_X5_below.1 ∈ lw_tbl := mT3 55 (by decide +kernel)
theorem lk_RL_83 : Cond.methodLink RL 83 m_X6_below.1 ∈ lw_tbl := mT4 130 (by decide +kernel)
theorem lk_RL_84 : Cond.methodLink RL 84 m_X5_about.1 ∈ lw_tbl := mT3 59 (by decide +kernel)
theorem lk_RL_87 : Cond.methodLink RL 87 m_X6_about.1 ∈ lw_tbl := mT4 134 (by decide +kernel)
theorem lk_RL_88 : Cond.methodLink RL 88 m_X5_clearGraph.1 ∈ lw_tbl := mT3 76 (by decide +kernel)
theorem lk_RL_91 : Cond.methodLink RL 91 m_X6_clearGraph.1 ∈ lw_tbl := mT4 138 (by decide +kernel)
theorem lk_RL_92 : Cond.methodLink RL 92 m_X5_clearThings.1 ∈ lw_tbl := mT3 87 (by decide +kernel)
theorem lk_RL_95 : Cond.methodLink RL 95 m_X6_clearThings.1 ∈ lw_tbl := mT4 142 (by decide +kernel)
theorem lk_RX6_1 : Cond.methodLink RX6 1 objectInit ∈ lw_tbl := mT3 96 (by decide +kernel)
theorem lk_RX6_101 : Cond.methodLink RX6 101 m_X6_begin.1 ∈ lw_tbl := mT4 13 (by decide +kernel)
theorem lk_RX6_104 : Cond.methodLink RX6 104 m_X6_flip.1 ∈ lw_tbl := mT4 17 (by decide +kernel)
theorem lk_RX6_108 : Cond.methodLink RX6 108 m_X6_grow.1 ∈ lw_tbl := mT4 9 (by decide +kernel)
theorem lk_RX6_112 : Cond.methodLink RX6 112 m_X6_keep.1 ∈ lw_tbl := mT4 29 (by decide +kernel)
theorem lk_RX6_115 : Cond.methodLink RX6 115 m_X6_putBack.1 ∈ lw_tbl := mT4 33 (by decide +kernel)
theorem lk_RX6_118 : Cond.methodLink RX6 118 m_X6_force.1 ∈ lw_tbl := mT4 25 (by decide +kernel)
theorem lk_RX6_132 : Cond.methodLink RX6 132 m_X6_use.1 ∈ lw_tbl := mT4 1 (by decide +kernel)
theorem lk_RX6_136 : Cond.methodLink RX6 136 m_X6_growAll.1 ∈ lw_tbl := mT4 5 (by decide +kernel)
theorem lk_RX6_146 : Cond.methodLink RX6 146 m_X6_canMiss.1 ∈ lw_tbl := mT4 49 (by decide +kernel)
theorem lk_RX6_150 : Cond.methodLink RX6 150 m_X6_parts.1 ∈ lw_tbl := mT4 53 (by decide +kernel)
theorem lk_RX6_153 : Cond.methodLink RX6 153 m_X6_improve.1 ∈ lw_tbl := mT4 21 (by decide +kernel)
theorem lk_RX6_156 : Cond.methodLink RX6 156 m_X6_blocks.1 ∈ lw_tbl := mT4 57 (by decide +kernel)
theorem lk_RX6_161 : Cond.methodLink RX6 161 m_X6_isNode.1 ∈ lw_tbl := mT3 225 (by decide +kernel)
theorem lk_RX6_164 : Cond.methodLink RX6 164 m_X6_workThings.1 ∈ lw_tbl := mT3 233 (by decide +kernel)
theorem lk_RX6_167 : Cond.methodLink RX6 167 m_X6_work.1 ∈ lw_tbl := mT4 45 (by decide +kernel)
theorem lk_RX6_170 : Cond.methodLink RX6 170 m_X6_edgesMany.1 ∈ lw_tbl := mT4 61 (by decide +kernel)
theorem lk_RX6_173 : Cond.methodLink RX6 173 m_X6_inPart.1 ∈ lw_tbl := mT4 65 (by decide +kernel)
theorem lk_RX6_183 : Cond.methodLink RX6 183 m_X6_has.1 ∈ lw_tbl := mT4 81 (by decide +kernel)
theorem lk_RX6_186 : Cond.methodLink RX6 186 m_X6_meetsMissed.1 ∈ lw_tbl := mT4 94 (by decide +kernel)
theorem lk_RX6_189 : Cond.methodLink RX6 189 m_X6_covers.1 ∈ lw_tbl := mT4 90 (by decide +kernel)
theorem lk_RX6_199 : Cond.methodLink RX6 199 m_X6_bits.1 ∈ lw_tbl := mT4 119 (by decide +kernel)
theorem lk_RX6_205 : Cond.methodLink RX6 205 m_X6_widthBeside.1 ∈ lw_tbl := mT3 237 (by decide +kernel)
theorem lk_RX6_208 : Cond.methodLink RX6 208 m_X6_levels.1 ∈ lw_tbl := mT4 37 (by decide +kernel)
theorem lk_RX6_211 : Cond.methodLink RX6 211 m_X6_ends.1 ∈ lw_tbl := mT4 41 (by decide +kernel)
theorem fl_RX5_14 : Cond.fieldLink RX5 14 "PairBench" "graph" "LPairBench$Graph;" ∈ lw_tbl := mT1 168 (by decide +kernel)
theorem fl_RX5_23 : Cond.fieldLink RX5 23 "PairBench" "pairing" "LPairBench$Pairing;" ∈ lw_tbl := mT1 169 (by decide +kernel)
theorem fl_RX5_32 : Cond.fieldLink RX5 32 "PairBench" "blocks" "LPairBench$Blocks;" ∈ lw_tbl := mT1 170 (by decide +kernel)
theorem fl_RX5_41 : Cond.fieldLink RX5 41 "PairBench" "tally" "LPairBench$Tally;" ∈ lw_tbl := mT1 171 (by decide +kernel)
theorem fl_RX5_45 : Cond.fieldLink RX5 45 "PairBench" "things" "LPairBench$Graph;" ∈ lw_tbl := mT1 172 (by decide +kernel)
theorem fl_RX5_48 : Cond.fieldLink RX5 48 "PairBench" "links" "LPairBench$Pairing;" ∈ lw_tbl := mT1 173 (by decide +kernel)
theorem fl_RX5_54 : Cond.fieldLink RX5 54 "PairBench" "order" "LPairBench$Order;" ∈ lw_tbl := mT1 174 (by decide +kernel)
theorem fl_RX0_9 : Cond.fieldLink RX0 9 "PairBench$Blocks" "graph" "LPairBench$Graph;" ∈ lw_tbl := mT1 90 (by decide +kernel)
theorem fl_RX0_15 : Cond.fieldLink RX0 15 "PairBench$Blocks" "pairing" "LPairBench$Pairing;" ∈ lw_tbl := mT1 91 (by decide +kernel)
theorem fl_RX0_19 : Cond.fieldLink RX0 19 "PairBench$Blocks" "reached" "[J" ∈ lw_tbl := mT1 92 (by decide +kernel)
theorem fl_RX0_23 : Cond.fieldLink RX0 23 "PairBench$Blocks" "numbers" "[I" ∈ lw_tbl := mT1 93 (by decide +kernel)
theorem fl_RX0_27 : Cond.fieldLink RX0 27 "PairBench$Blocks" "lefts" "[J" ∈ lw_tbl := mT1 94 (by decide +kernel)
theorem fl_RX0_30 : Cond.fieldLink RX0 30 "PairBench$Blocks" "onward" "[J" ∈ lw_tbl := mT1 95 (by decide +kernel)
theorem fl_RX0_33 : Cond.fieldLink RX0 33 "PairBench$Blocks" "size" "I" ∈ lw_tbl := mT1 96 (by decide +kernel)
theorem fl_RX0_37 : Cond.fieldLink RX0 37 "PairBench$Blocks" "known" "I" ∈ lw_tbl := mT1 97 (by decide +kernel)
theorem fl_RX1_9 : Cond.fieldLink RX1 9 "PairBench$Graph" "most" "I" ∈ lw_tbl := mT1 28 (by decide +kernel)
theorem fl_RX1_15 : Cond.fieldLink RX1 15 "PairBench$Graph" "sizes" "[I" ∈ lw_tbl := mT1 29 (by decide +kernel)
theorem fl_RX1_21 : Cond.fieldLink RX1 21 "PairBench$Graph" "rows" "[[J" ∈ lw_tbl := mT1 30 (by decide +kernel)
theorem fl_RX1_24 : Cond.fieldLink RX1 24 "PairBench$Graph" "changes" "I" ∈ lw_tbl := mT1 31 (by decide +kernel)
theorem fl_RX2_9 : Cond.fieldLink RX2 9 "PairBench$Order" "things" "LPairBench$Graph;" ∈ lw_tbl := mT1 149 (by decide +kernel)
theorem fl_RX2_15 : Cond.fieldLink RX2 15 "PairBench$Order" "links" "LPairBench$Pairing;" ∈ lw_tbl := mT1 150 (by decide +kernel)
theorem fl_RX2_19 : Cond.fieldLink RX2 19 "PairBench$Order" "levels" "[I" ∈ lw_tbl := mT1 151 (by decide +kernel)
theorem fl_RX2_23 : Cond.fieldLink RX2 23 "PairBench$Order" "chains" "[I" ∈ lw_tbl := mT1 152 (by decide +kernel)
theorem fl_RX2_26 : Cond.fieldLink RX2 26 "PairBench$Order" "levelCount" "I" ∈ lw_tbl := mT1 153 (by decide +kernel)
theorem fl_RX2_30 : Cond.fieldLink RX2 30 "PairBench$Order" "known" "I" ∈ lw_tbl := mT1 154 (by decide +kernel)
theorem fl_RX3_9 : Cond.fieldLink RX3 9 "PairBench$Pairing" "graph" "LPairBench$Graph;" ∈ lw_tbl := mT1 56 (by decide +kernel)
theorem fl_RX3_23 : Cond.fieldLink RX3 23 "PairBench$Pairing" "mates" "[[I" ∈ lw_tbl := mT1 57 (by decide +kernel)
theorem fl_RX3_26 : Cond.fieldLink RX3 26 "PairBench$Pairing" "paired" "[J" ∈ lw_tbl := mT1 58 (by decide +kernel)
theorem fl_RX3_30 : Cond.fieldLink RX3 30 "PairBench$Pairing" "open" "[J" ∈ lw_tbl := mT1 59 (by decide +kernel)
theorem fl_RX3_35 : Cond.fieldLink RX3 35 "PairBench$Pairing" "parts" "[[J" ∈ lw_tbl := mT1 60 (by decide +kernel)
theorem fl_RX3_38 : Cond.fieldLink RX3 38 "PairBench$Pairing" "queue" "[I" ∈ lw_tbl := mT1 61 (by decide +kernel)
theorem fl_RX3_42 : Cond.fieldLink RX3 42 "PairBench$Pairing" "cameFrom" "[I" ∈ lw_tbl := mT1 62 (by decide +kernel)
theorem fl_RX3_45 : Cond.fieldLink RX3 45 "PairBench$Pairing" "pairs" "I" ∈ lw_tbl := mT1 63 (by decide +kernel)
theorem fl_RX3_49 : Cond.fieldLink RX3 49 "PairBench$Pairing" "known" "I" ∈ lw_tbl := mT1 64 (by decide +kernel)
theorem fl_RX4_9 : Cond.fieldLink RX4 9 "PairBench$Tally" "graph" "LPairBench$Graph;" ∈ lw_tbl := mT1 121 (by decide +kernel)
theorem fl_RX4_15 : Cond.fieldLink RX4 15 "PairBench$Tally" "blocks" "LPairBench$Blocks;" ∈ lw_tbl := mT1 122 (by decide +kernel)
theorem fl_RX4_19 : Cond.fieldLink RX4 19 "PairBench$Tally" "useful" "[J" ∈ lw_tbl := mT1 123 (by decide +kernel)
theorem fl_RX4_23 : Cond.fieldLink RX4 23 "PairBench$Tally" "choices" "[I" ∈ lw_tbl := mT1 124 (by decide +kernel)
theorem fl_RX4_27 : Cond.fieldLink RX4 27 "PairBench$Tally" "ways" "[J" ∈ lw_tbl := mT1 125 (by decide +kernel)
theorem fl_RX4_30 : Cond.fieldLink RX4 30 "PairBench$Tally" "total" "J" ∈ lw_tbl := mT1 126 (by decide +kernel)
theorem fl_RX4_34 : Cond.fieldLink RX4 34 "PairBench$Tally" "known" "I" ∈ lw_tbl := mT1 127 (by decide +kernel)
theorem fl_RX6_7 : Cond.fieldLink RX6 7 "PairBenchModel" "graph" "[Z" ∈ lw_tbl := mT3 100 (by decide +kernel)
theorem fl_RX6_13 : Cond.fieldLink RX6 13 "PairBenchModel" "best" "[I" ∈ lw_tbl := mT3 103 (by decide +kernel)
theorem fl_RX6_17 : Cond.fieldLink RX6 17 "PairBenchModel" "bestRight" "[I" ∈ lw_tbl := mT3 104 (by decide +kernel)
theorem fl_RX6_20 : Cond.fieldLink RX6 20 "PairBenchModel" "missesLeft" "[Z" ∈ lw_tbl := mT3 105 (by decide +kernel)
theorem fl_RX6_23 : Cond.fieldLink RX6 23 "PairBenchModel" "missesRight" "[Z" ∈ lw_tbl := mT3 106 (by decide +kernel)
theorem fl_RX6_26 : Cond.fieldLink RX6 26 "PairBenchModel" "partLeft" "[I" ∈ lw_tbl := mT3 107 (by decide +kernel)
theorem fl_RX6_29 : Cond.fieldLink RX6 29 "PairBenchModel" "partRight" "[I" ∈ lw_tbl := mT3 108 (by decide +kernel)
theorem fl_RX6_32 : Cond.fieldLink RX6 32 "PairBenchModel" "blockLeft" "[I" ∈ lw_tbl := mT3 109 (by decide +kernel)
theorem fl_RX6_35 : Cond.fieldLink RX6 35 "PairBenchModel" "comes" "[Z" ∈ lw_tbl := mT3 110 (by decide +kernel)
theorem fl_RX6_39 : Cond.fieldLink RX6 39 "PairBenchModel" "ways" "[J" ∈ lw_tbl := mT3 114 (by decide +kernel)
theorem fl_RX6_43 : Cond.fieldLink RX6 43 "PairBenchModel" "under" "[Z" ∈ lw_tbl := mT3 116 (by decide +kernel)
theorem fl_RX6_46 : Cond.fieldLink RX6 46 "PairBenchModel" "nextThing" "[I" ∈ lw_tbl := mT3 119 (by decide +kernel)
theorem fl_RX6_49 : Cond.fieldLink RX6 49 "PairBenchModel" "chain" "[I" ∈ lw_tbl := mT3 120 (by decide +kernel)
theorem fl_RX6_52 : Cond.fieldLink RX6 52 "PairBenchModel" "level" "[I" ∈ lw_tbl := mT3 121 (by decide +kernel)
theorem fl_RX6_55 : Cond.fieldLink RX6 55 "PairBenchModel" "lowest" "[Z" ∈ lw_tbl := mT3 122 (by decide +kernel)
theorem fl_RX6_58 : Cond.fieldLink RX6 58 "PairBenchModel" "highest" "[Z" ∈ lw_tbl := mT3 123 (by decide +kernel)
theorem fl_RX6_61 : Cond.fieldLink RX6 61 "PairBenchModel" "marks" "[Z" ∈ lw_tbl := mT3 124 (by decide +kernel)
theorem fl_RX6_64 : Cond.fieldLink RX6 64 "PairBenchModel" "edges" "[Z" ∈ lw_tbl := mT3 125 (by decide +kernel)
theorem fl_RX6_67 : Cond.fieldLink RX6 67 "PairBenchModel" "outLeft" "[Z" ∈ lw_tbl := mT3 128 (by decide +kernel)
theorem fl_RX6_70 : Cond.fieldLink RX6 70 "PairBenchModel" "outRight" "[Z" ∈ lw_tbl := mT3 129 (by decide +kernel)
theorem fl_RX6_73 : Cond.fieldLink RX6 73 "PairBenchModel" "pairLeft" "[I" ∈ lw_tbl := mT3 130 (by decide +kernel)
theorem fl_RX6_76 : Cond.fieldLink RX6 76 "PairBenchModel" "pairRight" "[I" ∈ lw_tbl := mT3 131 (by decide +kernel)
theorem fl_RX6_79 : Cond.fieldLink RX6 79 "PairBenchModel" "keptLeft" "[I" ∈ lw_tbl := mT3 132 (by decide +kernel)
theorem fl_RX6_82 : Cond.fieldLink RX6 82 "PairBenchModel" "keptRight" "[I" ∈ lw_tbl := mT3 133 (by decide +kernel)
theorem fl_RX6_85 : Cond.fieldLink RX6 85 "PairBenchModel" "queue" "[I" ∈ lw_tbl := mT3 134 (by decide +kernel)
theorem fl_RX6_88 : Cond.fieldLink RX6 88 "PairBenchModel" "cameFrom" "[I" ∈ lw_tbl := mT3 135 (by decide +kernel)
theorem fl_RX6_91 : Cond.fieldLink RX6 91 "PairBenchModel" "n" "I" ∈ lw_tbl := mT3 126 (by decide +kernel)
theorem fl_RX6_95 : Cond.fieldLink RX6 95 "PairBenchModel" "m" "I" ∈ lw_tbl := mT3 127 (by decide +kernel)
theorem fl_RX6_98 : Cond.fieldLink RX6 98 "PairBenchModel" "queued" "I" ∈ lw_tbl := mT3 136 (by decide +kernel)
theorem fl_RX6_122 : Cond.fieldLink RX6 122 "PairBenchModel" "fresh" "Z" ∈ lw_tbl := mT3 101 (by decide +kernel)
theorem fl_RX6_126 : Cond.fieldLink RX6 126 "PairBenchModel" "lefts" "I" ∈ lw_tbl := mT3 98 (by decide +kernel)
theorem fl_RX6_129 : Cond.fieldLink RX6 129 "PairBenchModel" "rights" "I" ∈ lw_tbl := mT3 99 (by decide +kernel)
theorem fl_RX6_140 : Cond.fieldLink RX6 140 "PairBenchModel" "counted" "Z" ∈ lw_tbl := mT3 112 (by decide +kernel)
theorem fl_RX6_143 : Cond.fieldLink RX6 143 "PairBenchModel" "size" "I" ∈ lw_tbl := mT3 102 (by decide +kernel)
theorem fl_RX6_159 : Cond.fieldLink RX6 159 "PairBenchModel" "blocks" "I" ∈ lw_tbl := mT3 111 (by decide +kernel)
theorem fl_RX6_177 : Cond.fieldLink RX6 177 "PairBenchModel" "things" "I" ∈ lw_tbl := mT3 115 (by decide +kernel)
theorem fl_RX6_180 : Cond.fieldLink RX6 180 "PairBenchModel" "width" "I" ∈ lw_tbl := mT3 118 (by decide +kernel)
theorem fl_RX6_195 : Cond.fieldLink RX6 195 "PairBenchModel" "pairings" "J" ∈ lw_tbl := mT3 113 (by decide +kernel)
theorem fl_RX6_202 : Cond.fieldLink RX6 202 "PairBenchModel" "freshThings" "Z" ∈ lw_tbl := mT3 117 (by decide +kernel)
theorem it_RL : Cond.initialized RL ∈ lw_tbl := mT1 0 (by decide +kernel)
theorem it_RX5 : Cond.initialized RX5 ∈ lw_tbl := mT1 1 (by decide +kernel)
theorem it_RX1 : Cond.initialized RX1 ∈ lw_tbl := mT1 2 (by decide +kernel)
theorem it_RX3 : Cond.initialized RX3 ∈ lw_tbl := mT1 3 (by decide +kernel)
theorem it_RX0 : Cond.initialized RX0 ∈ lw_tbl := mT1 4 (by decide +kernel)
theorem it_RX4 : Cond.initialized RX4 ∈ lw_tbl := mT1 5 (by decide +kernel)
theorem it_RX2 : Cond.initialized RX2 ∈ lw_tbl := mT1 6 (by decide +kernel)
theorem it_RX6 : Cond.initialized RX6 ∈ lw_tbl := mT1 7 (by decide +kernel)
theorem it_RJ13 : Cond.initialized RJ13 ∈ lw_tbl := mT1 8 (by decide +kernel)
theorem it_RJ7 : Cond.initialized RJ7 ∈ lw_tbl := mT1 9 (by decide +kernel)
theorem it_RJ9 : Cond.initialized RJ9 ∈ lw_tbl := mT1 10 (by decide +kernel)
theorem it_RJ6 : Cond.initialized RJ6 ∈ lw_tbl := mT1 11 (by decide +kernel)
theorem cl_RL_7 : Cond.classLink RL 7 "PairBench" ∈ lw_tbl := mT1 12 (by decide +kernel)
theorem in_RX5 : Cond.instantiable RX5 7 ∈ lw_tbl := mT1 13 (by decide +kernel)
theorem cl_RX5_7 : Cond.classLink RX5 7 "PairBench$Graph" ∈ lw_tbl := mT1 20 (by decide +kernel)
theorem in_RX1 : Cond.instantiable RX1 4 ∈ lw_tbl := mT1 21 (by decide +kernel)
theorem cl_RX1_19 : Cond.classLink RX1 19 "[[J" ∈ lw_tbl := mT1 26 (by decide +kernel)
theorem ac_int : Cond.arrayClass .int ∈ lw_tbl := mT1 41 (by decide +kernel)
theorem ac_long : Cond.arrayClass .long ∈ lw_tbl := mT1 42 (by decide +kernel)
theorem cl_RX5_18 : Cond.classLink RX5 18 "PairBench$Pairing" ∈ lw_tbl := mT1 43 (by decide +kernel)
theorem in_RX3 : Cond.instantiable RX3 9 ∈ lw_tbl := mT1 44 (by decide +kernel)
theorem cl_RX3_21 : Cond.classLink RX3 21 "[[I" ∈ lw_tbl := mT1 53 (by decide +kernel)
theorem cl_RX3_33 : Cond.classLink RX3 33 "[[J" ∈ lw_tbl := mT1 55 (by decide +kernel)
theorem cl_RX5_27 : Cond.classLink RX5 27 "PairBench$Blocks" ∈ lw_tbl := mT1 84 (by decide +kernel)
theorem in_RX0 : Cond.instantiable RX0 8 ∈ lw_tbl := mT1 85 (by decide +kernel)
theorem cl_RX5_36 : Cond.classLink RX5 36 "PairBench$Tally" ∈ lw_tbl := mT1 115 (by decide +kernel)
theorem in_RX4 : Cond.instantiable RX4 7 ∈ lw_tbl := mT1 116 (by decide +kernel)
theorem cl_RX5_51 : Cond.classLink RX5 51 "PairBench$Order" ∈ lw_tbl := mT1 143 (by decide +kernel)
theorem in_RX2 : Cond.instantiable RX2 6 ∈ lw_tbl := mT1 144 (by decide +kernel)
theorem cn_RX1_49 : Cond.constantLong RX1 49 (-1) ∈ lw_tbl := mT1 225 (by decide +kernel)
theorem cn_RJ13_314 : Cond.constantLong RJ13 314 (6148914691236517205) ∈ lw_tbl := mT2 1 (by decide +kernel)
theorem cn_RJ13_316 : Cond.constantLong RJ13 316 (3689348814741910323) ∈ lw_tbl := mT2 2 (by decide +kernel)
theorem cn_RJ13_318 : Cond.constantLong RJ13 318 (1085102592571150095) ∈ lw_tbl := mT2 3 (by decide +kernel)
theorem cn_RX3_110 : Cond.constantLong RX3 110 (-1) ∈ lw_tbl := mT2 35 (by decide +kernel)
theorem cn_RX2_71 : Cond.constantLong RX2 71 (-1) ∈ lw_tbl := mT2 101 (by decide +kernel)
theorem cn_RX5_138 : Cond.constantLong RX5 138 (-3) ∈ lw_tbl := mT3 0 (by decide +kernel)
theorem cn_RX4_63 : Cond.constantLong RX4 63 (-1) ∈ lw_tbl := mT3 21 (by decide +kernel)
theorem cn_RJ6_265 : Cond.constant RJ6 265 (1431655765) ∈ lw_tbl := mT3 39 (by decide +kernel)
theorem cn_RJ6_266 : Cond.constant RJ6 266 (858993459) ∈ lw_tbl := mT3 40 (by decide +kernel)
theorem cn_RJ6_267 : Cond.constant RJ6 267 (252645135) ∈ lw_tbl := mT3 41 (by decide +kernel)
theorem cl_RL_10 : Cond.classLink RL 10 "PairBenchModel" ∈ lw_tbl := mT3 91 (by decide +kernel)
theorem in_RX6 : Cond.instantiable RX6 39 ∈ lw_tbl := mT3 92 (by decide +kernel)
theorem cn_RX6_38 : Cond.constant RX6 38 (65536) ∈ lw_tbl := mT3 97 (by decide +kernel)
theorem ac_boolean : Cond.arrayClass .boolean ∈ lw_tbl := mT3 216 (by decide +kernel)
theorem cn_RX6_193 : Cond.constantLong RX6 193 (-3) ∈ lw_tbl := mT4 118 (by decide +kernel)
theorem iv_obj : Cond.instanceMethod objectInit ∈ lw_tbl := mT1 18 (by decide +kernel)
theorem cd_obj : Cond.code objectInit ⟨#[0xb1]⟩ 1 none ∈ lw_tbl := mT1 19 (by decide +kernel)
