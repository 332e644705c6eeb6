theorem hs_iJx4a65c : ∀ k, k < 3 → lw_tbl[[315, 311, 313].getD k 0]? = some (u_lay RJx4a65c TJx4a65c k) := by decide +kernel
theorem hs_wJx4a65c : ∀ w ∈ u_ws RJx4a65c TJx4a65c 3, w ∈ lw_tbl ∧ goodWord w = true := fun w hw => by
  obtain ⟨k, hk, rfl⟩ := List.mem_map.mp hw
  refine ⟨List.mem_of_getElem? (hs_iJx4a65c k (List.mem_range.mp hk)), ?_⟩
  unfold u_lay
  split <;> rfl
theorem hs_nJx4a65c : ∀ a, a < 3 → ∀ b, b < 3 → a ≠ b → (TJx4a65c a).2.1 ≠ (TJx4a65c b).2.1 := by decide +kernel
theorem hs_jJx4a65c : Cond.instantiable RJx4a65c 3 ∈ lw_tbl := List.mem_of_getElem? (i := 293) (by decide +kernel)
theorem hs_iX0 : ∀ k, k < 6 → lw_tbl[[850, 852, 854, 856, 858, 860].getD k 0]? = some (u_lay RX0 TX0 k) := by decide +kernel
theorem hs_wX0 : ∀ w ∈ u_ws RX0 TX0 6, w ∈ lw_tbl ∧ goodWord w = true := fun w hw => by
  obtain ⟨k, hk, rfl⟩ := List.mem_map.mp hw
  refine ⟨List.mem_of_getElem? (hs_iX0 k (List.mem_range.mp hk)), ?_⟩
  unfold u_lay
  split <;> rfl
theorem hs_nX0 : ∀ a, a < 6 → ∀ b, b < 6 → a ≠ b → (TX0 a).2.1 ≠ (TX0 b).2.1 := by decide +kernel
theorem hs_jX0 : Cond.instantiable RX0 6 ∈ lw_tbl := List.mem_of_getElem? (i := 833) (by decide +kernel)
theorem hs_iX1 : ∀ k, k < 7 → lw_tbl[[617, 619, 621, 623, 625, 627, 629].getD k 0]? = some (u_lay RX1 TX1 k) := by decide +kernel
theorem hs_wX1 : ∀ w ∈ u_ws RX1 TX1 7, w ∈ lw_tbl ∧ goodWord w = true := fun w hw => by
  obtain ⟨k, hk, rfl⟩ := List.mem_map.mp hw
  refine ⟨List.mem_of_getElem? (hs_iX1 k (List.mem_range.mp hk)), ?_⟩
  unfold u_lay
  split <;> rfl
theorem hs_nX1 : ∀ a, a < 7 → ∀ b, b < 7 → a ≠ b → (TX1 a).2.1 ≠ (TX1 b).2.1 := by decide +kernel
theorem hs_jX1 : Cond.instantiable RX1 7 ∈ lw_tbl := List.mem_of_getElem? (i := 605) (by decide +kernel)
theorem hs_iX2 : ∀ k, k < 6 → lw_tbl[[1064, 1066, 1068, 1070, 1072, 1074].getD k 0]? = some (u_lay RX2 TX2 k) := by decide +kernel
theorem hs_wX2 : ∀ w ∈ u_ws RX2 TX2 6, w ∈ lw_tbl ∧ goodWord w = true := fun w hw => by
  obtain ⟨k, hk, rfl⟩ := List.mem_map.mp hw
  refine ⟨List.mem_of_getElem? (hs_iX2 k (List.mem_range.mp hk)), ?_⟩
  unfold u_lay
  split <;> rfl
theorem hs_nX2 : ∀ a, a < 6 → ∀ b, b < 6 → a ≠ b → (TX2 a).2.1 ≠ (TX2 b).2.1 := by decide +kernel
theorem hs_jX2 : Cond.instantiable RX2 6 ∈ lw_tbl := List.mem_of_getElem? (i := 1047) (by decide +kernel)
theorem hs_iX3 : ∀ k, k < 7 → lw_tbl[[787, 789, 791, 793, 795, 797, 799].getD k 0]? = some (u_lay RX3 TX3 k) := by decide +kernel
theorem hs_wX3 : ∀ w ∈ u_ws RX3 TX3 7, w ∈ lw_tbl ∧ goodWord w = true := fun w hw => by
  obtain ⟨k, hk, rfl⟩ := List.mem_map.mp hw
  refine ⟨List.mem_of_getElem? (hs_iX3 k (List.mem_range.mp hk)), ?_⟩
  unfold u_lay
  split <;> rfl
theorem hs_nX3 : ∀ a, a < 7 → ∀ b, b < 7 → a ≠ b → (TX3 a).2.1 ≠ (TX3 b).2.1 := by decide +kernel
theorem hs_jX3 : Cond.instantiable RX3 7 ∈ lw_tbl := List.mem_of_getElem? (i := 761) (by decide +kernel)
theorem hs_iX4 : ∀ k, k < 15 → lw_tbl[[983, 985, 987, 989, 991, 993, 995, 997, 999, 1001, 1003, 1005, 1007, 1009, 1011].getD k 0]? = some (u_lay RX4 TX4 k) := by decide +kernel
theorem hs_wX4 : ∀ w ∈ u_ws RX4 TX4 15, w ∈ lw_tbl ∧ goodWord w = true := fun w hw => by
  obtain ⟨k, hk, rfl⟩ := List.mem_map.mp hw
  refine ⟨List.mem_of_getElem? (hs_iX4 k (List.mem_range.mp hk)), ?_⟩
  unfold u_lay
  split <;> rfl
theorem hs_nX4 : ∀ a, a < 15 → ∀ b, b < 15 → a ≠ b → (TX4 a).2.1 ≠ (TX4 b).2.1 := by decide +kernel
theorem hs_jX4 : Cond.instantiable RX4 15 ∈ lw_tbl := List.mem_of_getElem? (i := 959) (by decide +kernel)
theorem hs_iX5 : ∀ k, k < 7 → lw_tbl[[467, 469, 471, 473, 475, 477, 479].getD k 0]? = some (u_lay RX5 TX5 k) := by decide +kernel
theorem hs_wX5 : ∀ w ∈ u_ws RX5 TX5 7, w ∈ lw_tbl ∧ goodWord w = true := fun w hw => by
  obtain ⟨k, hk, rfl⟩ := List.mem_map.mp hw
  refine ⟨List.mem_of_getElem? (hs_iX5 k (List.mem_range.mp hk)), ?_⟩
  unfold u_lay
  split <;> rfl
theorem hs_nX5 : ∀ a, a < 7 → ∀ b, b < 7 → a ≠ b → (TX5 a).2.1 ≠ (TX5 b).2.1 := by decide +kernel
theorem hs_jX5 : Cond.instantiable RX5 7 ∈ lw_tbl := List.mem_of_getElem? (i := 450) (by decide +kernel)
theorem hs_iX6 : ∀ k, k < 7 → lw_tbl[[264, 266, 268, 270, 272, 274, 276].getD k 0]? = some (u_lay RX6 TX6 k) := by decide +kernel
theorem hs_wX6 : ∀ w ∈ u_ws RX6 TX6 7, w ∈ lw_tbl ∧ goodWord w = true := fun w hw => by
  obtain ⟨k, hk, rfl⟩ := List.mem_map.mp hw
  refine ⟨List.mem_of_getElem? (hs_iX6 k (List.mem_range.mp hk)), ?_⟩
  unfold u_lay
  split <;> rfl
theorem hs_nX6 : ∀ a, a < 7 → ∀ b, b < 7 → a ≠ b → (TX6 a).2.1 ≠ (TX6 b).2.1 := by decide +kernel
theorem hs_jX6 : Cond.instantiable RX6 7 ∈ lw_tbl := List.mem_of_getElem? (i := 247) (by decide +kernel)
theorem hs_iX7 : ∀ k, k < 18 → lw_tbl[[538, 540, 542, 544, 546, 548, 550, 552, 554, 556, 558, 560, 562, 564, 566, 568, 570, 572].getD k 0]? = some (u_lay RX7 TX7 k) := by decide +kernel
theorem hs_wX7 : ∀ w ∈ u_ws RX7 TX7 18, w ∈ lw_tbl ∧ goodWord w = true := fun w hw => by
  obtain ⟨k, hk, rfl⟩ := List.mem_map.mp hw
  refine ⟨List.mem_of_getElem? (hs_iX7 k (List.mem_range.mp hk)), ?_⟩
  unfold u_lay
  split <;> rfl
theorem hs_nX7 : ∀ a, a < 18 → ∀ b, b < 18 → a ≠ b → (TX7 a).2.1 ≠ (TX7 b).2.1 := by decide +kernel
theorem hs_jX7 : Cond.instantiable RX7 18 ∈ lw_tbl := List.mem_of_getElem? (i := 498) (by decide +kernel)
theorem hs_iX8 : ∀ k, k < 7 → lw_tbl[[228, 230, 232, 234, 236, 238, 240].getD k 0]? = some (u_lay RX8 TX8 k) := by decide +kernel
theorem hs_wX8 : ∀ w ∈ u_ws RX8 TX8 7, w ∈ lw_tbl ∧ goodWord w = true := fun w hw => by
  obtain ⟨k, hk, rfl⟩ := List.mem_map.mp hw
  refine ⟨List.mem_of_getElem? (hs_iX8 k (List.mem_range.mp hk)), ?_⟩
  unfold u_lay
  split <;> rfl
theorem hs_nX8 : ∀ a, a < 7 → ∀ b, b < 7 → a ≠ b → (TX8 a).2.1 ≠ (TX8 b).2.1 := by decide +kernel
theorem hs_jX8 : Cond.instantiable RX8 7 ∈ lw_tbl := List.mem_of_getElem? (i := 158) (by decide +kernel)
theorem hs_iX9 : ∀ k, k < 4 → lw_tbl[[677, 679, 681, 683].getD k 0]? = some (u_lay RX9 TX9 k) := by decide +kernel
theorem hs_wX9 : ∀ w ∈ u_ws RX9 TX9 4, w ∈ lw_tbl ∧ goodWord w = true := fun w hw => by
  obtain ⟨k, hk, rfl⟩ := List.mem_map.mp hw
  refine ⟨List.mem_of_getElem? (hs_iX9 k (List.mem_range.mp hk)), ?_⟩
  unfold u_lay
  split <;> rfl
theorem hs_nX9 : ∀ a, a < 4 → ∀ b, b < 4 → a ≠ b → (TX9 a).2.1 ≠ (TX9 b).2.1 := by decide +kernel
theorem hs_jX9 : Cond.instantiable RX9 4 ∈ lw_tbl := List.mem_of_getElem? (i := 657) (by decide +kernel)
theorem hs_iX10 : ∀ k, k < 12 → lw_tbl[[338, 340, 342, 344, 346, 348, 350, 352, 354, 356, 358, 360].getD k 0]? = some (u_lay RX10 TX10 k) := by decide +kernel
theorem hs_wX10 : ∀ w ∈ u_ws RX10 TX10 12, w ∈ lw_tbl ∧ goodWord w = true := fun w hw => by
  obtain ⟨k, hk, rfl⟩ := List.mem_map.mp hw
  refine ⟨List.mem_of_getElem? (hs_iX10 k (List.mem_range.mp hk)), ?_⟩
  unfold u_lay
  split <;> rfl
theorem hs_nX10 : ∀ a, a < 12 → ∀ b, b < 12 → a ≠ b → (TX10 a).2.1 ≠ (TX10 b).2.1 := by decide +kernel
theorem hs_jX10 : Cond.instantiable RX10 12 ∈ lw_tbl := List.mem_of_getElem? (i := 280) (by decide +kernel)
theorem hs_iX11 : ∀ k, k < 7 → lw_tbl[[370, 372, 374, 376, 378, 380, 382].getD k 0]? = some (u_lay RX11 TX11 k) := by decide +kernel
theorem hs_wX11 : ∀ w ∈ u_ws RX11 TX11 7, w ∈ lw_tbl ∧ goodWord w = true := fun w hw => by
  obtain ⟨k, hk, rfl⟩ := List.mem_map.mp hw
  refine ⟨List.mem_of_getElem? (hs_iX11 k (List.mem_range.mp hk)), ?_⟩
  unfold u_lay
  split <;> rfl
theorem hs_nX11 : ∀ a, a < 7 → ∀ b, b < 7 → a ≠ b → (TX11 a).2.1 ≠ (TX11 b).2.1 := by decide +kernel
theorem hs_jX11 : Cond.instantiable RX11 7 ∈ lw_tbl := List.mem_of_getElem? (i := 150) (by decide +kernel)
theorem hs_iX12 : ∀ k, k < 86 → lw_tbl[[1555, 1557, 1559, 1561, 1563, 1565, 1567, 1569, 1571, 1573, 1575, 1577, 1579, 1581, 1583, 1585, 1587, 1589, 1591, 1593, 1595, 1597, 1599, 1601, 1603, 1605, 1607, 1609, 1611, 1613, 1615, 1617, 1619, 1621, 1623, 1625, 1627, 1629, 1631, 1633, 1635, 1637, 1639, 1641, 1643, 1645, 1647, 1649, 1651, 1653, 1655, 1657, 1659, 1661, 1663, 1665, 1667, 1669, 1671, 1673, 1675, 1677, 1679, 1681, 1683, 1685, 1687, 1689, 1691, 1693, 1695, 1697, 1699, 1701, 1703, 1705, 1707, 1709, 1711, 1713, 1715, 1717, 1719, 1721, 1723, 1725].getD k 0]? = some (u_lay RX12 TX12 k) := by decide +kernel
theorem hs_wX12 : ∀ w ∈ u_ws RX12 TX12 86, w ∈ lw_tbl ∧ goodWord w = true := fun w hw => by
  obtain ⟨k, hk, rfl⟩ := List.mem_map.mp hw
  refine ⟨List.mem_of_getElem? (hs_iX12 k (List.mem_range.mp hk)), ?_⟩
  unfold u_lay
  split <;> rfl
theorem hs_nX12 : ∀ a, a < 86 → ∀ b, b < 86 → a ≠ b → (TX12 a).2.1 ≠ (TX12 b).2.1 := by decide +kernel
theorem hs_jX12 : Cond.instantiable RX12 86 ∈ lw_tbl := List.mem_of_getElem? (i := 1305) (by decide +kernel)
theorem hs_aint : Cond.arrayClass .int ∈ lw_tbl := List.mem_of_getElem? (i := 243) (by decide +kernel)
theorem hs_along : Cond.arrayClass .long ∈ lw_tbl := List.mem_of_getElem? (i := 244) (by decide +kernel)
theorem hs_abyte : Cond.arrayClass .byte ∈ lw_tbl := List.mem_of_getElem? (i := 245) (by decide +kernel)
theorem hs_ashort : Cond.arrayClass .short ∈ lw_tbl := List.mem_of_getElem? (i := 1729) (by decide +kernel)
theorem hs_aboolean : Cond.arrayClass .boolean ∈ lw_tbl := List.mem_of_getElem? (i := 1728) (by decide +kernel)
theorem hs_o0 : Cond.arrayOver (.object "WatchHouse$Rule") ∈ lw_tbl := List.mem_of_getElem? (i := 282) (by decide +kernel)
theorem hs_o1 : Cond.arrayOver (.object "WatchHouse$Event") ∈ lw_tbl := List.mem_of_getElem? (i := 291) (by decide +kernel)
theorem hs_o2 : Cond.arrayOver (.object "WatchHouse$Cond") ∈ lw_tbl := List.mem_of_getElem? (i := 504) (by decide +kernel)
theorem hs_o3 : Cond.arrayOver (.object "WatchHouse$Key") ∈ lw_tbl := List.mem_of_getElem? (i := 508) (by decide +kernel)
theorem hs_o4 : Cond.arrayOver (.object "WatchHouse$Value") ∈ lw_tbl := List.mem_of_getElem? (i := 506) (by decide +kernel)
theorem hs_o5 : Cond.arrayOver (.object "java/lang/Object") ∈ lw_tbl := List.mem_of_getElem? (i := 913) (by decide +kernel)
theorem hs_s0 : Cond.laysStatic "WatchHouse" "NO_BYTES" "[I" ∈ lw_tbl := List.mem_of_getElem? (i := 164) (by decide +kernel)
theorem hs_t0 : Cond.initialized "WatchHouse" ∈ lw_tbl := List.mem_of_getElem? (i := 120) (by decide +kernel)
theorem hs_s1 : Cond.laysStatic "java/util/ArrayList" "DEFAULTCAPACITY_EMPTY_ELEMENTDATA" "[Ljava/lang/Object;" ∈ lw_tbl := List.mem_of_getElem? (i := 305) (by decide +kernel)
theorem hs_t1 : Cond.initialized "java/util/ArrayList" ∈ lw_tbl := List.mem_of_getElem? (i := 131) (by decide +kernel)
theorem hs_s2 : Cond.laysStatic "java/lang/String" "COMPACT_STRINGS" "Z" ∈ lw_tbl := List.mem_of_getElem? (i := 175) (by decide +kernel)
theorem hs_t2 : Cond.initialized "java/lang/String" ∈ lw_tbl := List.mem_of_getElem? (i := 122) (by decide +kernel)
theorem hs_s3 : Cond.laysStatic "jdk/internal/util/Preconditions" "SIOOBE_FORMATTER" "Ljava/util/function/BiFunction;" ∈ lw_tbl := List.mem_of_getElem? (i := 191) (by decide +kernel)
theorem hs_t3 : Cond.initialized "jdk/internal/util/Preconditions" ∈ lw_tbl := List.mem_of_getElem? (i := 124) (by decide +kernel)
theorem hs_s4 : Cond.laysStatic "java/lang/Throwable" "UNASSIGNED_STACK" "[Ljava/lang/StackTraceElement;" ∈ lw_tbl := List.mem_of_getElem? (i := 1165) (by decide +kernel)
theorem hs_t4 : Cond.initialized "java/lang/Throwable" ∈ lw_tbl := List.mem_of_getElem? (i := 145) (by decide +kernel)
theorem hs_s5 : Cond.laysStatic "java/lang/Throwable" "SUPPRESSED_SENTINEL" "Ljava/util/List;" ∈ lw_tbl := List.mem_of_getElem? (i := 1167) (by decide +kernel)
theorem hs_t5 : Cond.initialized "java/lang/Throwable" ∈ lw_tbl := List.mem_of_getElem? (i := 145) (by decide +kernel)
theorem hs_r0 : Cond.stringRef "WatchHouse$Scanner" 31 "rule by within quiet count of distinct sum chain then unless lack or and not kind has alert like in " ∈ lw_tbl := List.mem_of_getElem? (i := 165) (by decide +kernel)
theorem hs_r1 : Cond.stringRef "WatchHouseModel" 299 " rule by within quiet count of distinct sum chain then unless lack or and not kind has alert like in " ∈ lw_tbl := List.mem_of_getElem? (i := 1462) (by decide +kernel)
theorem hs_r2 : Cond.stringRef "WatchHouse" 132 "no such alert" ∈ lw_tbl := List.mem_of_getElem? (i := 1177) (by decide +kernel)
theorem hs_r3 : Cond.stringRef "WatchHouse" 150 "no such answer of an alert" ∈ lw_tbl := List.mem_of_getElem? (i := 1203) (by decide +kernel)
theorem hs_r4 : Cond.stringRef "WatchHouse" 162 "no such value of a key" ∈ lw_tbl := List.mem_of_getElem? (i := 1215) (by decide +kernel)
theorem hs_r5 : Cond.stringRef "WatchHouse" 175 "no such byte of a key" ∈ lw_tbl := List.mem_of_getElem? (i := 1216) (by decide +kernel)
theorem hs_r6 : Cond.stringRef "WatchHouse" 177 "no such rule or answer of one" ∈ lw_tbl := List.mem_of_getElem? (i := 1224) (by decide +kernel)
theorem hs_r7 : Cond.stringRef "WatchHouse" 193 "no such event" ∈ lw_tbl := List.mem_of_getElem? (i := 1244) (by decide +kernel)
theorem hs_r8 : Cond.stringRef "WatchHouse" 210 "no such answer of an event" ∈ lw_tbl := List.mem_of_getElem? (i := 1252) (by decide +kernel)
theorem hs_r9 : Cond.stringRef "WatchHouse" 212 "no such event to pack" ∈ lw_tbl := List.mem_of_getElem? (i := 1260) (by decide +kernel)
theorem hs_r10 : Cond.stringRef "WatchHouse" 218 "no such byte packed" ∈ lw_tbl := List.mem_of_getElem? (i := 1293) (by decide +kernel)
def hs_F : List Cond := flatC (Jvm.Cond.and given_1 narrow_1)
def hs_tm (i : Nat) : Term := .string (cs_lit.getD i ("", 0, "")).1 (cs_lit.getD i ("", 0, "")).2.1
theorem hs_ex : ∀ i, i < 11 → hs_F[[33, 408, 137, 155, 187, 216, 245, 283, 306, 343, 376].getD i 0]? = some (Cond.exactly (hs_tm i) "java/lang/String") := by decide +kernel
theorem hs_co : ∀ i, i < 11 → hs_F[[34, 409, 138, 156, 188, 217, 246, 284, 307, 344, 377].getD i 0]? = some (Cond.eq (.field (hs_tm i) "java/lang/String" "coder" "B") (.int 0)) := by decide +kernel
theorem hs_ar : ∀ i, i < 11 → hs_F[[35, 410, 139, 157, 189, 218, 247, 285, 308, 345, 378].getD i 0]? = some (Cond.arrayOf (.field (hs_tm i) "java/lang/String" "value" "[B") .byte) := by decide +kernel
theorem hs_le : ∀ i, i < 11 → hs_F[[36, 411, 140, 158, 190, 219, 248, 286, 309, 346, 379].getD i 0]? = some (Cond.eq (.length (.field (hs_tm i) "java/lang/String" "value" "[B")) (.int (Int32.ofNat (cs_len.getD i 0)))) := by decide +kernel
theorem hs_el : ∀ i, i < 11 → ∀ j, j < cs_len.getD i 0 → hs_F[[37, 412, 141, 159, 191, 220, 249, 287, 310, 347, 380].getD i 0 + j]? = some (Cond.eq (.elem (.field (hs_tm i) "java/lang/String" "value" "[B") (.int (Int32.ofNat j))) (.int ((cs_byt.getD i []).getD j 0))) := by decide +kernel
theorem hs_ne : ∀ i, i < 11 → ∀ j, j < 11 → i ≠ j → hs_F[([[0, 513, 154, 185, 213, 241, 278, 300, 336, 368, 399], [513, 0, 514, 515, 516, 517, 518, 519, 520, 521, 522], [154, 514, 0, 186, 214, 242, 279, 301, 337, 369, 400], [185, 515, 186, 0, 215, 243, 280, 302, 338, 370, 401], [213, 516, 214, 215, 0, 244, 281, 303, 339, 371, 402], [241, 517, 242, 243, 244, 0, 282, 304, 340, 372, 403], [278, 518, 279, 280, 281, 282, 0, 305, 341, 373, 404], [300, 519, 301, 302, 303, 304, 305, 0, 342, 374, 405], [336, 520, 337, 338, 339, 340, 341, 342, 0, 375, 406], [368, 521, 369, 370, 371, 372, 373, 374, 375, 0, 407], [399, 522, 400, 401, 402, 403, 404, 405, 406, 407, 0]].getD i []).getD j 0]? = some (Cond.not (Cond.eq (hs_tm i) (hs_tm j))) ∨ hs_F[([[0, 513, 154, 185, 213, 241, 278, 300, 336, 368, 399], [513, 0, 514, 515, 516, 517, 518, 519, 520, 521, 522], [154, 514, 0, 186, 214, 242, 279, 301, 337, 369, 400], [185, 515, 186, 0, 215, 243, 280, 302, 338, 370, 401], [213, 516, 214, 215, 0, 244, 281, 303, 339, 371, 402], [241, 517, 242, 243, 244, 0, 282, 304, 340, 372, 403], [278, 518, 279, 280, 281, 282, 0, 305, 341, 373, 404], [300, 519, 301, 302, 303, 304, 305, 0, 342, 374, 405], [336, 520, 337, 338, 339, 340, 341, 342, 0, 375, 406], [368, 521, 369, 370, 371, 372, 373, 374, 375, 0, 407], [399, 522, 400, 401, 402, 403, 404, 405, 406, 407, 0]].getD i []).getD j 0]? = some (Cond.not (Cond.eq (hs_tm j) (hs_tm i))) := by decide +kernel
theorem hs_p0 : Cond.arrayOf (.static "WatchHouse" "NO_BYTES" "[I") .int ∈ hs_F := List.mem_of_getElem? (i := 5) (by decide +kernel)
theorem hs_p1 : Cond.eq (.length (.static "WatchHouse" "NO_BYTES" "[I")) (.int 0) ∈ hs_F := List.mem_of_getElem? (i := 6) (by decide +kernel)
theorem hs_p2 : Cond.arrayOf (.static "java/util/ArrayList" "DEFAULTCAPACITY_EMPTY_ELEMENTDATA" "[Ljava/lang/Object;") (.object "java/lang/Object") ∈ hs_F := List.mem_of_getElem? (i := 13) (by decide +kernel)
theorem hs_p3 : Cond.exactly (.static "java/util/ArrayList" "DEFAULTCAPACITY_EMPTY_ELEMENTDATA" "[Ljava/lang/Object;") "[Ljava/lang/Object;" ∈ hs_F := List.mem_of_getElem? (i := 14) (by decide +kernel)
theorem hs_p4 : Cond.eq (.length (.static "java/util/ArrayList" "DEFAULTCAPACITY_EMPTY_ELEMENTDATA" "[Ljava/lang/Object;")) (.int 0) ∈ hs_F := List.mem_of_getElem? (i := 15) (by decide +kernel)
theorem hs_p5 : Cond.eq (.static "java/lang/String" "COMPACT_STRINGS" "Z") (.int 1) ∈ hs_F := List.mem_of_getElem? (i := 7) (by decide +kernel)
theorem hs_p6 : Cond.isRef (.static "jdk/internal/util/Preconditions" "SIOOBE_FORMATTER" "Ljava/util/function/BiFunction;") ∈ hs_F := List.mem_of_getElem? (i := 8) (by decide +kernel)
theorem hs_p7 : Cond.isRef (.static "java/lang/Throwable" "UNASSIGNED_STACK" "[Ljava/lang/StackTraceElement;") ∈ hs_F := List.mem_of_getElem? (i := 16) (by decide +kernel)
theorem hs_p8 : Cond.isRef (.static "java/lang/Throwable" "SUPPRESSED_SENTINEL" "Ljava/util/List;") ∈ hs_F := List.mem_of_getElem? (i := 17) (by decide +kernel)
theorem hs_p9 : Cond.isRef (.mirror "[Ljava/lang/Object;") ∈ hs_F := List.mem_of_getElem? (i := 32) (by decide +kernel)
theorem hs_Kn {s : State} {args : Array Value} (hts : ∀ w ∈ lw_tbl, w.before args s = true) : ∃ D : va_G, ∀ (k : Nat) (q : vw_C), vwCl[k]? = some q → u_Kn s q.1 q.2.1 q.2.2 (D.1 k) (D.2 k) := by
  obtain ⟨c0, i0, k0⟩ := u_known (C := RJx4a65c) (T := TJx4a65c) (N := 3) (n := 3) hts (fun w hw => (hs_wJx4a65c w hw).1) (hts _ hs_jJx4a65c)
  obtain ⟨c1, i1, k1⟩ := u_known (C := RX0) (T := TX0) (N := 6) (n := 6) hts (fun w hw => (hs_wX0 w hw).1) (hts _ hs_jX0)
  obtain ⟨c2, i2, k2⟩ := u_known (C := RX1) (T := TX1) (N := 7) (n := 7) hts (fun w hw => (hs_wX1 w hw).1) (hts _ hs_jX1)
  obtain ⟨c3, i3, k3⟩ := u_known (C := RX2) (T := TX2) (N := 6) (n := 6) hts (fun w hw => (hs_wX2 w hw).1) (hts _ hs_jX2)
  obtain ⟨c4, i4, k4⟩ := u_known (C := RX3) (T := TX3) (N := 7) (n := 7) hts (fun w hw => (hs_wX3 w hw).1) (hts _ hs_jX3)
  obtain ⟨c5, i5, k5⟩ := u_known (C := RX4) (T := TX4) (N := 15) (n := 15) hts (fun w hw => (hs_wX4 w hw).1) (hts _ hs_jX4)
  obtain ⟨c6, i6, k6⟩ := u_known (C := RX5) (T := TX5) (N := 7) (n := 7) hts (fun w hw => (hs_wX5 w hw).1) (hts _ hs_jX5)
  obtain ⟨c7, i7, k7⟩ := u_known (C := RX6) (T := TX6) (N := 7) (n := 7) hts (fun w hw => (hs_wX6 w hw).1) (hts _ hs_jX6)
  obtain ⟨c8, i8, k8⟩ := u_known (C := RX7) (T := TX7) (N := 18) (n := 18) hts (fun w hw => (hs_wX7 w hw).1) (hts _ hs_jX7)
  obtain ⟨c9, i9, k9⟩ := u_known (C := RX8) (T := TX8) (N := 7) (n := 7) hts (fun w hw => (hs_wX8 w hw).1) (hts _ hs_jX8)
  obtain ⟨c10, i10, k10⟩ := u_known (C := RX9) (T := TX9) (N := 4) (n := 4) hts (fun w hw => (hs_wX9 w hw).1) (hts _ hs_jX9)
  obtain ⟨c11, i11, k11⟩ := u_known (C := RX10) (T := TX10) (N := 12) (n := 12) hts (fun w hw => (hs_wX10 w hw).1) (hts _ hs_jX10)
  obtain ⟨c12, i12, k12⟩ := u_known (C := RX11) (T := TX11) (N := 7) (n := 7) hts (fun w hw => (hs_wX11 w hw).1) (hts _ hs_jX11)
  obtain ⟨c13, i13, k13⟩ := u_known (C := RX12) (T := TX12) (N := 86) (n := 86) hts (fun w hw => (hs_wX12 w hw).1) (hts _ hs_jX12)
  refine ⟨(fun k => if k = 0 then c0 else if k = 1 then c1 else if k = 2 then c2 else if k = 3 then c3 else if k = 4 then c4 else if k = 5 then c5 else if k = 6 then c6 else if k = 7 then c7 else if k = 8 then c8 else if k = 9 then c9 else if k = 10 then c10 else if k = 11 then c11 else if k = 12 then c12 else c13, fun k => if k = 0 then i0 else if k = 1 then i1 else if k = 2 then i2 else if k = 3 then i3 else if k = 4 then i4 else if k = 5 then i5 else if k = 6 then i6 else if k = 7 then i7 else if k = 8 then i8 else if k = 9 then i9 else if k = 10 then i10 else if k = 11 then i11 else if k = 12 then i12 else i13), ?_⟩
  intro k q hq
  match k, hq with
  | 0, hq => cases hq; exact k0
  | 1, hq => cases hq; exact k1
  | 2, hq => cases hq; exact k2
  | 3, hq => cases hq; exact k3
  | 4, hq => cases hq; exact k4
  | 5, hq => cases hq; exact k5
  | 6, hq => cases hq; exact k6
  | 7, hq => cases hq; exact k7
  | 8, hq => cases hq; exact k8
  | 9, hq => cases hq; exact k9
  | 10, hq => cases hq; exact k10
  | 11, hq => cases hq; exact k11
  | 12, hq => cases hq; exact k12
  | 13, hq => cases hq; exact k13
  | k + 14, hq => simp [vwCl] at hq
theorem hs_cls {s : State} {args : Array Value} {D : va_G} (hts : ∀ w ∈ lw_tbl, w.before args s = true) (hKn : ∀ (k : Nat) (q : vw_C), vwCl[k]? = some q → u_Kn s q.1 q.2.1 q.2.2 (D.1 k) (D.2 k)) :
    ∀ (c : Nat) (q : vw_C), vwCl[c]? = some q → u_Kn s q.1 q.2.1 q.2.2 (D.1 c) (D.2 c) ∧ (∀ w ∈ u_ws q.1 q.2.1 q.2.2, w ∈ lw_tbl ∧ goodWord w = true) ∧ ∀ x y, x < q.2.2 → y < q.2.2 → x ≠ y → D.2 c x ≠ D.2 c y := by
  intro k q hq
  match k, hq with
  | 0, hq => cases hq; exact ⟨hKn 0 _ rfl, hs_wJx4a65c, va_apart (own := "") hts (fun w hw => (hs_wJx4a65c w hw).1) tyJx4a65c tyJx4a65c_ok hs_nJx4a65c (D := D) (cl := vwCl) (tys := []) ⟨hKn, fun k q h => by simp at h⟩ rfl⟩
  | 1, hq => cases hq; exact ⟨hKn 1 _ rfl, hs_wX0, va_apart (own := "") hts (fun w hw => (hs_wX0 w hw).1) tyX0 tyX0_ok hs_nX0 (D := D) (cl := vwCl) (tys := []) ⟨hKn, fun k q h => by simp at h⟩ rfl⟩
  | 2, hq => cases hq; exact ⟨hKn 2 _ rfl, hs_wX1, va_apart (own := "") hts (fun w hw => (hs_wX1 w hw).1) tyX1 tyX1_ok hs_nX1 (D := D) (cl := vwCl) (tys := []) ⟨hKn, fun k q h => by simp at h⟩ rfl⟩
  | 3, hq => cases hq; exact ⟨hKn 3 _ rfl, hs_wX2, va_apart (own := "") hts (fun w hw => (hs_wX2 w hw).1) tyX2 tyX2_ok hs_nX2 (D := D) (cl := vwCl) (tys := []) ⟨hKn, fun k q h => by simp at h⟩ rfl⟩
  | 4, hq => cases hq; exact ⟨hKn 4 _ rfl, hs_wX3, va_apart (own := "") hts (fun w hw => (hs_wX3 w hw).1) tyX3 tyX3_ok hs_nX3 (D := D) (cl := vwCl) (tys := []) ⟨hKn, fun k q h => by simp at h⟩ rfl⟩
  | 5, hq => cases hq; exact ⟨hKn 5 _ rfl, hs_wX4, va_apart (own := "") hts (fun w hw => (hs_wX4 w hw).1) tyX4 tyX4_ok hs_nX4 (D := D) (cl := vwCl) (tys := []) ⟨hKn, fun k q h => by simp at h⟩ rfl⟩
  | 6, hq => cases hq; exact ⟨hKn 6 _ rfl, hs_wX5, va_apart (own := "") hts (fun w hw => (hs_wX5 w hw).1) tyX5 tyX5_ok hs_nX5 (D := D) (cl := vwCl) (tys := []) ⟨hKn, fun k q h => by simp at h⟩ rfl⟩
  | 7, hq => cases hq; exact ⟨hKn 7 _ rfl, hs_wX6, va_apart (own := "") hts (fun w hw => (hs_wX6 w hw).1) tyX6 tyX6_ok hs_nX6 (D := D) (cl := vwCl) (tys := []) ⟨hKn, fun k q h => by simp at h⟩ rfl⟩
  | 8, hq => cases hq; exact ⟨hKn 8 _ rfl, hs_wX7, va_apart (own := "") hts (fun w hw => (hs_wX7 w hw).1) tyX7 tyX7_ok hs_nX7 (D := D) (cl := vwCl) (tys := []) ⟨hKn, fun k q h => by simp at h⟩ rfl⟩
  | 9, hq => cases hq; exact ⟨hKn 9 _ rfl, hs_wX8, va_apart (own := "") hts (fun w hw => (hs_wX8 w hw).1) tyX8 tyX8_ok hs_nX8 (D := D) (cl := vwCl) (tys := []) ⟨hKn, fun k q h => by simp at h⟩ rfl⟩
  | 10, hq => cases hq; exact ⟨hKn 10 _ rfl, hs_wX9, va_apart (own := "") hts (fun w hw => (hs_wX9 w hw).1) tyX9 tyX9_ok hs_nX9 (D := D) (cl := vwCl) (tys := []) ⟨hKn, fun k q h => by simp at h⟩ rfl⟩
  | 11, hq => cases hq; exact ⟨hKn 11 _ rfl, hs_wX10, va_apart (own := "") hts (fun w hw => (hs_wX10 w hw).1) tyX10 tyX10_ok hs_nX10 (D := D) (cl := vwCl) (tys := []) ⟨hKn, fun k q h => by simp at h⟩ rfl⟩
  | 12, hq => cases hq; exact ⟨hKn 12 _ rfl, hs_wX11, va_apart (own := "") hts (fun w hw => (hs_wX11 w hw).1) tyX11 tyX11_ok hs_nX11 (D := D) (cl := vwCl) (tys := []) ⟨hKn, fun k q h => by simp at h⟩ rfl⟩
  | 13, hq => cases hq; exact ⟨hKn 13 _ rfl, hs_wX12, va_apart (own := "") hts (fun w hw => (hs_wX12 w hw).1) tyX12 tyX12_ok hs_nX12 (D := D) (cl := vwCl) (tys := []) ⟨hKn, fun k q h => by simp at h⟩ rfl⟩
  | k + 14, hq => simp [vwCl] at hq
theorem hs_pr {s : State} {args : Array Value} {ty : FieldType} (hno : ∀ C, ty ≠ .object C) (h : (Cond.arrayClass ty).before args s = true) : ∃ cA, ArrOfT s cA ty ∧ va_RA s cA ty := by
  obtain ⟨c, k, comp, h1, h2, h3⟩ := Cond.arrayClass_spec h
  refine ⟨c, fun n z => ⟨fun k h => (by cases h), k, h2, comp, h3⟩, ?_⟩
  cases ty <;> first | exact h1 | exact absurd rfl (hno _)
theorem hs_ob {s : State} {args : Array Value} {C : String} (h : (Cond.arrayOver (.object C)).before args s = true) : ∃ cA, ArrOfT s cA (.object C) ∧ va_RA s cA (.object C) := by
  obtain ⟨comp, c, k, h1, h2, h3, h4, h5⟩ := Cond.arrayOver_spec h
  exact ⟨c, fun n z => ⟨fun k h => (by cases h), k, h3, comp, h4⟩, k, comp, h3, h4, h1, h5⟩
theorem hs_arr {s : State} {args : Array Value} (hts : ∀ w ∈ lw_tbl, w.before args s = true) : ∀ ty ∈ hw_tys, ∃ cA, ArrOfT s cA ty ∧ va_RA s cA ty := by
  intro ty hty
  simp only [hw_tys, List.mem_cons, List.not_mem_nil, or_false] at hty
  rcases hty with rfl | rfl | rfl | rfl | rfl | rfl | rfl | rfl | rfl | rfl | rfl
  · exact hs_pr (fun C h => by cases h) (hts _ hs_aint)
  · exact hs_pr (fun C h => by cases h) (hts _ hs_along)
  · exact hs_pr (fun C h => by cases h) (hts _ hs_abyte)
  · exact hs_pr (fun C h => by cases h) (hts _ hs_ashort)
  · exact hs_pr (fun C h => by cases h) (hts _ hs_aboolean)
  · exact hs_ob (hts _ hs_o0)
  · exact hs_ob (hts _ hs_o1)
  · exact hs_ob (hts _ hs_o2)
  · exact hs_ob (hts _ hs_o3)
  · exact hs_ob (hts _ hs_o4)
  · exact hs_ob (hts _ hs_o5)
theorem hs_K {s : State} {args : Array Value} (hts : ∀ w ∈ lw_tbl, w.before args s = true) {cB : ClassId} (hB : ArrOfT s cB .int) : ∃ P : hw_G, hw_K P s ∧ P.2.2 = cB := by
  obtain ⟨D, hKn⟩ := hs_Kn hts
  have h0 : ∀ ty : FieldType, ∃ cA : ClassId, ty ∈ hw_tys → ArrOfT s cA ty ∧ va_RA s cA ty := by
    intro ty
    by_cases h : ty ∈ hw_tys
    · obtain ⟨cA, h1⟩ := hs_arr hts ty h
      exact ⟨cA, fun _ => h1⟩
    · exact ⟨0, fun h1 => absurd h1 h⟩
  obtain ⟨ar, har⟩ := Classical.axiomOfChoice h0
  refine ⟨(D, ar, cB), ⟨fun w hw hg => word_at (State.WarmedH.refl s) (good_of_word hg) (hts w hw), hs_cls hts hKn, fun ty hty => har ty hty, fun C hC => ?_, hB⟩, rfl⟩
  simp only [hw_obs, List.mem_cons, List.not_mem_nil, or_false] at hC
  rcases hC with rfl | rfl | rfl | rfl | rfl | rfl
  · exact va_AO.of (hts _ hs_o0)
  · exact va_AO.of (hts _ hs_o1)
  · exact va_AO.of (hts _ hs_o2)
  · exact va_AO.of (hts _ hs_o3)
  · exact va_AO.of (hts _ hs_o4)
  · exact va_AO.of (hts _ hs_o5)
/-- the class's world at the start: the two empty rows -/
def cs_00 (G : Nat → Nat) : cs_S := cs_newA (cs_newA cs_0 (G 0) 20 0) (G 1) 27 0
theorem cs_00k {G : Nat → Nat} {a : Nat} : cs_k (cs_00 G) a = if a = G 1 then 27 else if a = G 0 then 20 else 0 := by
  simp only [cs_00, cs_k, cs_newA, cs_0, va_up]
theorem hs_O {s : State} {args : Array Value} (hts : ∀ w ∈ lw_tbl, w.before args s = true) (hgv : (Jvm.Cond.and given_1 narrow_1).before args s = true) :
    ∃ (P : hw_G) (G : Nat → Nat), hw_K P s ∧ cs_O G (fun q => s.heap.size ≤ q) s s.heap ∧ G 0 ≠ G 1 ∧ hw_in P (cs_M (cs_00 G)) s.heap := by
  have hs : ∀ w ∈ hs_F, w.before args s = true := flat_of_before _ hgv
  have hA : ∀ a : Nat, a < s.heap.size → ¬ (fun q => s.heap.size ≤ q) a := fun a ha h => absurd h (Nat.not_le.mpr ha)
  obtain ⟨g0, e0, t0⟩ := va_Tof (N := 0) (f := fun _ => .null) (A := fun q => s.heap.size ≤ q) (by decide) (hs _ hs_p0) (va_eqt (hs _ hs_p1)) (fun j hj => absurd hj (Nat.not_lt_zero _)) hA
  obtain ⟨g1, e1, t1⟩ := va_Tof (N := 0) (f := fun _ => .null) (A := fun q => s.heap.size ≤ q) (by decide) (hs _ hs_p2) (va_eqt (hs _ hs_p4)) (fun j hj => absurd hj (Nat.not_lt_zero _)) hA
  obtain ⟨cell0, a1, a2, a3, -, a5, -, -⟩ := t0
  obtain ⟨cell1, b1, b2, b3, -, b5, -, -⟩ := t1
  obtain ⟨k0, hk0, comp0, hk0'⟩ := id a2.2
  obtain ⟨P, hK, hPB⟩ := hs_K hts (cB := cell0.cls) (fun n z => ⟨fun k h => (by cases h), k0, hk0, comp0, hk0'⟩)
  have hg : g0 ≠ g1 := by
    intro h
    subst h
    have e2 : cell0 = cell1 := Option.some.inj (a1.symm.trans b1)
    subst e2
    obtain ⟨k1, hk1, comp1, hk1'⟩ := b2.2
    have e3 : k0 = k1 := Option.some.inj (hk0.symm.trans hk1)
    subst e3
    rw [hk0'] at hk1'
    cases hk1'
  obtain ⟨adK, adV, hS, htm⟩ := vk_Sof (N := 11) (tm := hs_tm) (len := cs_len) (byt := cs_byt) (A := fun q => s.heap.size ≤ q) (args := args) (s := s)
    (fun i hi => Nat.lt_trans (cs_bsm i hi) (by decide)) (fun i hi => hs _ (List.mem_of_getElem? (hs_ex i hi))) (fun i hi => hs _ (List.mem_of_getElem? (hs_co i hi)))
    (fun i hi => hs _ (List.mem_of_getElem? (hs_ar i hi))) (fun i hi => hs _ (List.mem_of_getElem? (hs_le i hi))) (fun i hi j hj => hs _ (List.mem_of_getElem? (hs_el i hi j hj)))
    (fun i j hi hj hij => by
      rcases hs_ne i hi j hj hij with h | h
      · exact Or.inl (hs _ (List.mem_of_getElem? h))
      · exact Or.inr (hs _ (List.mem_of_getElem? h))) hA
  obtain ⟨mi, hmi⟩ := va_Mi.of (hs _ hs_p9)
  obtain ⟨G, hG⟩ : ∃ G : Nat → Nat, G = fun n => if n = 0 then g0 else if n = 1 then g1 else if n = 2 then mi else if n < 30 then adK (n - 10) else adV (n - 30) := ⟨_, rfl⟩
  have G0 : G 0 = g0 := by rw [hG]; rfl
  have G1 : G 1 = g1 := by rw [hG]; rfl
  have G2 : G 2 = mi := by rw [hG]; rfl
  have GK : ∀ i, i < 11 → G (10 + i) = adK i := by
    intro i hi
    rw [hG]
    have h1 : ¬ 10 + i = 0 := by omega
    have h2 : ¬ 10 + i = 1 := by omega
    have h2b : ¬ 10 + i = 2 := by omega
    have h3 : 10 + i < 30 := by omega
    have h4 : 10 + i - 10 = i := by omega
    simp only [h1, h2, h2b, h3, h4, if_true, if_false]
  have GV : ∀ i, i < 11 → G (30 + i) = adV i := by
    intro i hi
    rw [hG]
    have h1 : ¬ 30 + i = 0 := by omega
    have h2 : ¬ 30 + i = 1 := by omega
    have h2b : ¬ 30 + i = 2 := by omega
    have h3 : ¬ 30 + i < 30 := by omega
    have h4 : 30 + i - 30 = i := by omega
    simp only [h1, h2, h2b, h3, h4, if_false]
  refine ⟨P, G, hK, ⟨va_Zof (hts _ hs_s0) (hts _ hs_t0) (by rw [G0]; exact e0) hA, va_Zof (hts _ hs_s1) (hts _ hs_t1) (by rw [G1]; exact e1) hA, va_Zof (hts _ hs_s2) (hts _ hs_t2) (va_eqt (hs _ hs_p5)) hA, va_Zqof (hts _ hs_s3) (hts _ hs_t3) (hs _ hs_p6) hA, ⟨fun i hi => ?_, fun i j hi hj h => ?_⟩, fun i q hi => ?_, vx_Zqof (hts _ hs_s4) (hts _ hs_t4) (hs _ hs_p7) hA, vx_Zqof (hts _ hs_s5) (hts _ hs_t5) (hs _ hs_p8) hA, fun w hw hn => va_Nw.of (hw_nest_ot hn) (hts w hw), by rw [G2]; exact hmi⟩, by rw [G0, G1]; exact hg, ?_⟩
  · show va_O _ (G (10 + i)) _ _ _ ∧ va_OF _ _ _ _ (G (10 + i)) _ _ _ ∧ va_OF _ _ _ (.ref (G (30 + i))) (G (10 + i)) _ _ _ ∧ va_T _ (G (30 + i)) _ _ _ _ _
    rw [GK i hi, GV i hi]
    exact hS.1 i hi
  · have h : G (10 + i) = G (10 + j) := h
    rw [GK i hi, GK j hj] at h
    exact hS.2 i j hi hj h
  · have hi11 : i < 11 := (List.getElem?_eq_some_iff.mp hi).1
    rw [GK i hi11]
    have ht := htm i hi11
    have e9 : cs_lit.getD i ("", 0, "") = q := by rw [List.getD_eq_getElem?_getD, hi]; rfl
    unfold hs_tm at ht
    rw [e9] at ht
    refine vk_R.of (A := args) ?_ ht
    have h11 : i = 0 ∨ i = 1 ∨ i = 2 ∨ i = 3 ∨ i = 4 ∨ i = 5 ∨ i = 6 ∨ i = 7 ∨ i = 8 ∨ i = 9 ∨ i = 10 := by omega
    rcases h11 with rfl | rfl | rfl | rfl | rfl | rfl | rfl | rfl | rfl | rfl | rfl <;> cases hi
    · exact hts _ hs_r0
    · exact hts _ hs_r1
    · exact hts _ hs_r2
    · exact hts _ hs_r3
    · exact hts _ hs_r4
    · exact hts _ hs_r5
    · exact hts _ hs_r6
    · exact hts _ hs_r7
    · exact hts _ hs_r8
    · exact hts _ hs_r9
    · exact hts _ hs_r10
  · intro a e9 h9
    have hk := cs_00k (G := G) (a := a)
    by_cases h1 : a = G 1
    · rw [if_pos h1] at hk
      have h2 := cs_M_arr hk (by decide)
      rw [h2] at h9
      cases h9
      have hn0 : cs_n (cs_00 G) a = 0 := by simp [cs_n, cs_00, cs_newA, va_up, h1]
      obtain ⟨a9, c9, cA, kA, q1, q2, q3, q4, q5, q6, -⟩ := Cond.exactly_spec (args := args) (first := s) (o := none) (s := s) (idx := []) (hs _ hs_p3)
      have e2 : a9 = g1 := by
        have := q1.symm.trans e1
        cases this
        rfl
      subst e2
      have e3 : cA = cell1 := Option.some.inj (q3.symm.trans b1)
      subst e3
      refine ⟨fun hn => absurd hn0 hn, fun _ => ⟨cA, by rw [h1, G1]; exact b1, b2.1, Or.inl ?_, by rw [b5]; rfl⟩⟩
      have h3 := va_nmO (hK.2.2.1 (.object "java/lang/Object") (by decide)).2 (nm := "[Ljava/lang/Object;") (by decide +kernel)
      rw [q6]
      exact Option.some.inj (q2.symm.trans h3)
    · by_cases h2 : a = G 0
      · rw [if_neg h1, if_pos h2] at hk
        have h3 := cs_M_arr hk (by decide)
        rw [h3] at h9
        cases h9
        have hn0 : cs_n (cs_00 G) a = 0 := by simp [cs_n, cs_00, cs_newA, va_up, h1, h2]
        exact ⟨fun hn => absurd hn0 hn, fun _ => ⟨cell0, by rw [h2, G0]; exact a1, a2.1, Or.inr ⟨rfl, hPB.symm⟩, by rw [a5]; rfl⟩⟩
      · rw [if_neg h1, if_neg h2] at hk
        simp [cs_M, hk] at h9
