theorem inst_0 : Cond.instantiable RX0 4 ∈ lw_g := tb2 49 (by decide +kernel)
theorem inst_1 : Cond.instantiable RX1 7 ∈ lw_g := tb1 30 (by decide +kernel)
theorem inst_2 : Cond.instantiable RX2 7 ∈ lw_g := tb2 70 (by decide +kernel)
theorem inst_3 : Cond.instantiable RX3 4 ∈ lw_g := tb1 68 (by decide +kernel)
theorem inst_4 : Cond.instantiable RX4 1 ∈ lw_g := tb2 37 (by decide +kernel)
theorem inst_5 : Cond.instantiable RX5 13 ∈ lw_g := tb1 164 (by decide +kernel)
theorem inst_6 : Cond.instantiable RX6 7 ∈ lw_g := tb1 212 (by decide +kernel)
theorem inst_7 : Cond.instantiable RX7 4 ∈ lw_g := tb1 91 (by decide +kernel)
theorem inst_8 : Cond.instantiable RX8 6 ∈ lw_g := tb1 36 (by decide +kernel)
theorem inst_9 : Cond.instantiable RX9 4 ∈ lw_g := tb1 114 (by decide +kernel)
theorem inst_10 : Cond.instantiable RX10 6 ∈ lw_g := tb1 218 (by decide +kernel)
theorem inst_11 : Cond.instantiable RX11 16 ∈ lw_g := tb1 22 (by decide +kernel)
theorem inst_12 : Cond.instantiable RX12 37 ∈ lw_g := tb5 53 (by decide +kernel)
theorem inst_all : ∀ (k : Nat) (C : String) (T : u_T) (N : Nat), vwCl[k]? = some (C, T, N) → Cond.instantiable C N ∈ lw_g := by
  intro k C T N h
  match k, h with
  | 0, h => cases h; exact inst_0
  | 1, h => cases h; exact inst_1
  | 2, h => cases h; exact inst_2
  | 3, h => cases h; exact inst_3
  | 4, h => cases h; exact inst_4
  | 5, h => cases h; exact inst_5
  | 6, h => cases h; exact inst_6
  | 7, h => cases h; exact inst_7
  | 8, h => cases h; exact inst_8
  | 9, h => cases h; exact inst_9
  | 10, h => cases h; exact inst_10
  | 11, h => cases h; exact inst_11
  | 12, h => cases h; exact inst_12
  | k + 13, h => cases h
theorem strw : Cond.stringRef RX10 62 wTx ∈ lw_tbl := List.mem_append_right _ (List.mem_append_right _ (List.mem_append_left _ (List.mem_of_getElem? (show tables_1_2[230]? = some _ from by decide +kernel))))
theorem lsw1 : Cond.laysStatic "java/lang/String" "COMPACT_STRINGS" "Z" ∈ lw_tbl := List.mem_append_right _ (List.mem_append_right _ (List.mem_append_right _ (List.mem_append_left _ (List.mem_of_getElem? (show tables_1_3[0]? = some _ from by decide +kernel)))))
theorem lsw2 : Cond.laysStatic "jdk/internal/util/Preconditions" "SIOOBE_FORMATTER" "Ljava/util/function/BiFunction;" ∈ lw_tbl := List.mem_append_right _ (List.mem_append_right _ (List.mem_append_right _ (List.mem_append_left _ (List.mem_of_getElem? (show tables_1_3[16]? = some _ from by decide +kernel)))))
theorem aow : Cond.arrayOver (.object RX5) ∈ lw_tbl := List.mem_append_right _ (List.mem_append_left _ (List.mem_of_getElem? (show tables_1_1[163]? = some _ from by decide +kernel)))
