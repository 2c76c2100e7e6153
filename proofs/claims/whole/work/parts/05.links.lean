def shA : List Sd := [.inr (8, [some 1, some 4, some 7, some 17, some 29, some 31, some 39, some 40]), .inr (3, [none, some 2, some 3]), .inl (.int, 45), .inl (.int, 10), .inr (4, [none, none, some 5, some 6]), .inl (.int, 8), .inl (.int, 32), .inr (0, [some 1, some 4, some 8, none, some 10, some 11, some 12, some 13, some 14, some 15, some 16]), .inr (1, [none, some 9]), .inl (.int, 26), .inl (.int, 10), .inl (.int, 10), .inl (.int, 10), .inl (.int, 10), .inl (.int, 8), .inl (.int, 8), .inl (.int, 8), .inr (5, [some 1, none, none, none, none, none, none, some 18, some 19, some 20, some 21, some 22, some 23, some 24, some 25, some 26, some 27, some 28]), .inl (.int, 81), .inl (.int, 81), .inl (.int, 9), .inl (.boolean, 9), .inl (.int, 10), .inl (.int, 10), .inl (.int, 10), .inl (.int, 10), .inl (.int, 10), .inl (.int, 10), .inl (.int, 10), .inr (6, [none, some 30]), .inl (.int, 300), .inr (7, [some 29, some 32, some 35, some 38, none, none, none, none, none, none]), .inr (3, [none, some 33, some 34]), .inl (.int, 45), .inl (.int, 10), .inr (4, [none, none, some 36, some 37]), .inl (.int, 8), .inl (.int, 32), .inl (.int, 8), .inr (2, [none, none, none]), .inr (2, [none, none, none])]
def isA (Y : Sx) : Prop := Y.1 = shA
theorem sA_0 {Y : Sx} (h : isA Y) : Y.1[0]? = some (.inr (8, [some 1, some 4, some 7, some 17, some 29, some 31, some 39, some 40])) := by rw [h]; rfl
theorem sA_1 {Y : Sx} (h : isA Y) : Y.1[1]? = some (.inr (3, [none, some 2, some 3])) := by rw [h]; rfl
theorem sA_2 {Y : Sx} (h : isA Y) : Y.1[2]? = some (.inl (.int, 45)) := by rw [h]; rfl
theorem sA_3 {Y : Sx} (h : isA Y) : Y.1[3]? = some (.inl (.int, 10)) := by rw [h]; rfl
theorem sA_4 {Y : Sx} (h : isA Y) : Y.1[4]? = some (.inr (4, [none, none, some 5, some 6])) := by rw [h]; rfl
theorem sA_5 {Y : Sx} (h : isA Y) : Y.1[5]? = some (.inl (.int, 8)) := by rw [h]; rfl
theorem sA_6 {Y : Sx} (h : isA Y) : Y.1[6]? = some (.inl (.int, 32)) := by rw [h]; rfl
theorem sA_7 {Y : Sx} (h : isA Y) : Y.1[7]? = some (.inr (0, [some 1, some 4, some 8, none, some 10, some 11, some 12, some 13, some 14, some 15, some 16])) := by rw [h]; rfl
theorem sA_8 {Y : Sx} (h : isA Y) : Y.1[8]? = some (.inr (1, [none, some 9])) := by rw [h]; rfl
theorem sA_9 {Y : Sx} (h : isA Y) : Y.1[9]? = some (.inl (.int, 26)) := by rw [h]; rfl
theorem sA_10 {Y : Sx} (h : isA Y) : Y.1[10]? = some (.inl (.int, 10)) := by rw [h]; rfl
theorem sA_11 {Y : Sx} (h : isA Y) : Y.1[11]? = some (.inl (.int, 10)) := by rw [h]; rfl
theorem sA_12 {Y : Sx} (h : isA Y) : Y.1[12]? = some (.inl (.int, 10)) := by rw [h]; rfl
theorem sA_13 {Y : Sx} (h : isA Y) : Y.1[13]? = some (.inl (.int, 10)) := by rw [h]; rfl
theorem sA_14 {Y : Sx} (h : isA Y) : Y.1[14]? = some (.inl (.int, 8)) := by rw [h]; rfl
theorem sA_15 {Y : Sx} (h : isA Y) : Y.1[15]? = some (.inl (.int, 8)) := by rw [h]; rfl
theorem sA_16 {Y : Sx} (h : isA Y) : Y.1[16]? = some (.inl (.int, 8)) := by rw [h]; rfl
theorem sA_17 {Y : Sx} (h : isA Y) : Y.1[17]? = some (.inr (5, [some 1, none, none, none, none, none, none, some 18, some 19, some 20, some 21, some 22, some 23, some 24, some 25, some 26, some 27, some 28])) := by rw [h]; rfl
theorem sA_18 {Y : Sx} (h : isA Y) : Y.1[18]? = some (.inl (.int, 81)) := by rw [h]; rfl
theorem sA_19 {Y : Sx} (h : isA Y) : Y.1[19]? = some (.inl (.int, 81)) := by rw [h]; rfl
theorem sA_20 {Y : Sx} (h : isA Y) : Y.1[20]? = some (.inl (.int, 9)) := by rw [h]; rfl
theorem sA_21 {Y : Sx} (h : isA Y) : Y.1[21]? = some (.inl (.boolean, 9)) := by rw [h]; rfl
theorem sA_22 {Y : Sx} (h : isA Y) : Y.1[22]? = some (.inl (.int, 10)) := by rw [h]; rfl
theorem sA_23 {Y : Sx} (h : isA Y) : Y.1[23]? = some (.inl (.int, 10)) := by rw [h]; rfl
theorem sA_24 {Y : Sx} (h : isA Y) : Y.1[24]? = some (.inl (.int, 10)) := by rw [h]; rfl
theorem sA_25 {Y : Sx} (h : isA Y) : Y.1[25]? = some (.inl (.int, 10)) := by rw [h]; rfl
theorem sA_26 {Y : Sx} (h : isA Y) : Y.1[26]? = some (.inl (.int, 10)) := by rw [h]; rfl
theorem sA_27 {Y : Sx} (h : isA Y) : Y.1[27]? = some (.inl (.int, 10)) := by rw [h]; rfl
theorem sA_28 {Y : Sx} (h : isA Y) : Y.1[28]? = some (.inl (.int, 10)) := by rw [h]; rfl
theorem sA_29 {Y : Sx} (h : isA Y) : Y.1[29]? = some (.inr (6, [none, some 30])) := by rw [h]; rfl
theorem sA_30 {Y : Sx} (h : isA Y) : Y.1[30]? = some (.inl (.int, 300)) := by rw [h]; rfl
theorem sA_31 {Y : Sx} (h : isA Y) : Y.1[31]? = some (.inr (7, [some 29, some 32, some 35, some 38, none, none, none, none, none, none])) := by rw [h]; rfl
theorem sA_32 {Y : Sx} (h : isA Y) : Y.1[32]? = some (.inr (3, [none, some 33, some 34])) := by rw [h]; rfl
theorem sA_33 {Y : Sx} (h : isA Y) : Y.1[33]? = some (.inl (.int, 45)) := by rw [h]; rfl
theorem sA_34 {Y : Sx} (h : isA Y) : Y.1[34]? = some (.inl (.int, 10)) := by rw [h]; rfl
theorem sA_35 {Y : Sx} (h : isA Y) : Y.1[35]? = some (.inr (4, [none, none, some 36, some 37])) := by rw [h]; rfl
theorem sA_36 {Y : Sx} (h : isA Y) : Y.1[36]? = some (.inl (.int, 8)) := by rw [h]; rfl
theorem sA_37 {Y : Sx} (h : isA Y) : Y.1[37]? = some (.inl (.int, 32)) := by rw [h]; rfl
theorem sA_38 {Y : Sx} (h : isA Y) : Y.1[38]? = some (.inl (.int, 8)) := by rw [h]; rfl
theorem sA_39 {Y : Sx} (h : isA Y) : Y.1[39]? = some (.inr (2, [none, none, none])) := by rw [h]; rfl
theorem sA_40 {Y : Sx} (h : isA Y) : Y.1[40]? = some (.inr (2, [none, none, none])) := by rw [h]; rfl
def shB : List Sd := [.inr (9, [none, some 1, some 2, some 3, none, none, none, none, none, some 4, some 5, some 6, some 7, some 8, some 9, some 10, some 11, some 12, none, some 13, some 14, some 15, some 16, some 17, some 18, none, none]), .inl (.int, 160), .inl (.int, 160), .inl (.byte, 300), .inl (.int, 10), .inl (.int, 10), .inl (.int, 10), .inl (.int, 10), .inl (.int, 8), .inl (.int, 8), .inl (.int, 8), .inl (.boolean, 8), .inl (.int, 200), .inl (.int, 10), .inl (.int, 10), .inl (.int, 10), .inl (.int, 10), .inl (.int, 10), .inl (.boolean, 10)]
def isB (Y : Sx) : Prop := Y.1 = shB
theorem sB_0 {Y : Sx} (h : isB Y) : Y.1[0]? = some (.inr (9, [none, some 1, some 2, some 3, none, none, none, none, none, some 4, some 5, some 6, some 7, some 8, some 9, some 10, some 11, some 12, none, some 13, some 14, some 15, some 16, some 17, some 18, none, none])) := by rw [h]; rfl
theorem sB_1 {Y : Sx} (h : isB Y) : Y.1[1]? = some (.inl (.int, 160)) := by rw [h]; rfl
theorem sB_2 {Y : Sx} (h : isB Y) : Y.1[2]? = some (.inl (.int, 160)) := by rw [h]; rfl
theorem sB_3 {Y : Sx} (h : isB Y) : Y.1[3]? = some (.inl (.byte, 300)) := by rw [h]; rfl
theorem sB_4 {Y : Sx} (h : isB Y) : Y.1[4]? = some (.inl (.int, 10)) := by rw [h]; rfl
theorem sB_5 {Y : Sx} (h : isB Y) : Y.1[5]? = some (.inl (.int, 10)) := by rw [h]; rfl
theorem sB_6 {Y : Sx} (h : isB Y) : Y.1[6]? = some (.inl (.int, 10)) := by rw [h]; rfl
theorem sB_7 {Y : Sx} (h : isB Y) : Y.1[7]? = some (.inl (.int, 10)) := by rw [h]; rfl
theorem sB_8 {Y : Sx} (h : isB Y) : Y.1[8]? = some (.inl (.int, 8)) := by rw [h]; rfl
theorem sB_9 {Y : Sx} (h : isB Y) : Y.1[9]? = some (.inl (.int, 8)) := by rw [h]; rfl
theorem sB_10 {Y : Sx} (h : isB Y) : Y.1[10]? = some (.inl (.int, 8)) := by rw [h]; rfl
theorem sB_11 {Y : Sx} (h : isB Y) : Y.1[11]? = some (.inl (.boolean, 8)) := by rw [h]; rfl
theorem sB_12 {Y : Sx} (h : isB Y) : Y.1[12]? = some (.inl (.int, 200)) := by rw [h]; rfl
theorem sB_13 {Y : Sx} (h : isB Y) : Y.1[13]? = some (.inl (.int, 10)) := by rw [h]; rfl
theorem sB_14 {Y : Sx} (h : isB Y) : Y.1[14]? = some (.inl (.int, 10)) := by rw [h]; rfl
theorem sB_15 {Y : Sx} (h : isB Y) : Y.1[15]? = some (.inl (.int, 10)) := by rw [h]; rfl
theorem sB_16 {Y : Sx} (h : isB Y) : Y.1[16]? = some (.inl (.int, 10)) := by rw [h]; rfl
theorem sB_17 {Y : Sx} (h : isB Y) : Y.1[17]? = some (.inl (.int, 10)) := by rw [h]; rfl
theorem sB_18 {Y : Sx} (h : isB Y) : Y.1[18]? = some (.inl (.boolean, 10)) := by rw [h]; rfl
theorem kLand_1 {Y : Sx} (h : isA Y) : isLand Y 1 := ⟨sA_1 h, sA_2 h, sA_3 h⟩
theorem kLand_32 {Y : Sx} (h : isA Y) : isLand Y 32 := ⟨sA_32 h, sA_33 h, sA_34 h⟩
theorem kPlan_4 {Y : Sx} (h : isA Y) : isPlan Y 4 := ⟨sA_4 h, sA_5 h, sA_6 h⟩
theorem kPlan_35 {Y : Sx} (h : isA Y) : isPlan Y 35 := ⟨sA_35 h, sA_36 h, sA_37 h⟩
theorem kFound_39 {Y : Sx} (h : isA Y) : isFound Y 39 := sA_39 h
theorem kFound_40 {Y : Sx} (h : isA Y) : isFound Y 40 := sA_40 h
def stL0 : List Int32 := [50, 50, 30, 30, 99]
def stL1 : List Int32 := [1, 1, -3, -3, 0, 1, 0, 0, 0, 0]
def stL2 : List Int32 := [9, 9, 3, 3, 99, 999, 9, 9, 2, 1]
def stL3 : List Int32 := [3, 2, 0, 0, 50, 100, 1, 1, 1, 1]
def stL4 : List Int32 := [2, 5, 2, 8, 4]
set_option maxRecDepth 20000 in
theorem tb_app {w : Cond} (h : w ∈ tables_1) : w ∈ lw_tbl := List.mem_append_right _ h
set_option maxRecDepth 20000 in
theorem tb1 {w : Cond} (i : Nat) (h : tables_1_1[i]? = some w) : w ∈ lw_tbl := tb_app (List.mem_append_left _ (List.mem_of_getElem? h))
set_option maxRecDepth 20000 in
theorem tb2 {w : Cond} (i : Nat) (h : tables_1_2[i]? = some w) : w ∈ lw_tbl := tb_app (List.mem_append_right _ (List.mem_append_left _ (List.mem_of_getElem? h)))
set_option maxRecDepth 20000 in
theorem tb3 {w : Cond} (i : Nat) (h : tables_1_3[i]? = some w) : w ∈ lw_tbl := tb_app (List.mem_append_right _ (List.mem_append_right _ (List.mem_append_left _ (List.mem_of_getElem? h))))
set_option maxRecDepth 20000 in
theorem tb4 {w : Cond} (i : Nat) (h : tables_1_4[i]? = some w) : w ∈ lw_tbl := tb_app (List.mem_append_right _ (List.mem_append_right _ (List.mem_append_right _ (List.mem_append_left _ (List.mem_of_getElem? h)))))
set_option maxRecDepth 20000 in
theorem tb5 {w : Cond} (i : Nat) (h : tables_1_5[i]? = some w) : w ∈ lw_tbl := tb_app (List.mem_append_right _ (List.mem_append_right _ (List.mem_append_right _ (List.mem_append_right _ (List.mem_append_left _ (List.mem_of_getElem? h))))))
set_option maxRecDepth 20000 in
theorem tb6 {w : Cond} (i : Nat) (h : tables_1_6[i]? = some w) : w ∈ lw_tbl := tb_app (List.mem_append_right _ (List.mem_append_right _ (List.mem_append_right _ (List.mem_append_right _ (List.mem_append_right _ (List.mem_of_getElem? h))))))
set_option maxRecDepth 20000 in
theorem sl1 {q : MethodName × Nat} (i : Nat) (h : lw_privs_1[i]? = some q) : Cond.selects q.1.cls q.1 q.1 ∈ lw_tbl := List.mem_append_left _ (List.mem_map.mpr ⟨q, (List.mem_append_left _ (List.mem_of_getElem? h)), rfl⟩)
set_option maxRecDepth 20000 in
theorem sl2 {q : MethodName × Nat} (i : Nat) (h : lw_privs_2[i]? = some q) : Cond.selects q.1.cls q.1 q.1 ∈ lw_tbl := List.mem_append_left _ (List.mem_map.mpr ⟨q, (List.mem_append_right _ (List.mem_append_left _ (List.mem_of_getElem? h))), rfl⟩)
set_option maxRecDepth 20000 in
theorem sl3 {q : MethodName × Nat} (i : Nat) (h : lw_privs_3[i]? = some q) : Cond.selects q.1.cls q.1 q.1 ∈ lw_tbl := List.mem_append_left _ (List.mem_map.mpr ⟨q, (List.mem_append_right _ (List.mem_append_right _ (List.mem_append_left _ (List.mem_of_getElem? h)))), rfl⟩)
set_option maxRecDepth 20000 in
theorem sl4 {q : MethodName × Nat} (i : Nat) (h : lw_privs_4[i]? = some q) : Cond.selects q.1.cls q.1 q.1 ∈ lw_tbl := List.mem_append_left _ (List.mem_map.mpr ⟨q, (List.mem_append_right _ (List.mem_append_right _ (List.mem_append_right _ (List.mem_append_left _ (List.mem_of_getElem? h))))), rfl⟩)
set_option maxRecDepth 20000 in
theorem sl5 {q : MethodName × Nat} (i : Nat) (h : lw_privs_5[i]? = some q) : Cond.selects q.1.cls q.1 q.1 ∈ lw_tbl := List.mem_append_left _ (List.mem_map.mpr ⟨q, (List.mem_append_right _ (List.mem_append_right _ (List.mem_append_right _ (List.mem_append_right _ (List.mem_append_left _ (List.mem_of_getElem? h)))))), rfl⟩)
set_option maxRecDepth 20000 in
theorem sl6 {q : MethodName × Nat} (i : Nat) (h : lw_privs_6[i]? = some q) : Cond.selects q.1.cls q.1 q.1 ∈ lw_tbl := List.mem_append_left _ (List.mem_map.mpr ⟨q, (List.mem_append_right _ (List.mem_append_right _ (List.mem_append_right _ (List.mem_append_right _ (List.mem_append_right _ (List.mem_append_left _ (List.mem_of_getElem? h))))))), rfl⟩)
set_option maxRecDepth 20000 in
theorem sl7 {q : MethodName × Nat} (i : Nat) (h : lw_privs_7[i]? = some q) : Cond.selects q.1.cls q.1 q.1 ∈ lw_tbl := List.mem_append_left _ (List.mem_map.mpr ⟨q, (List.mem_append_right _ (List.mem_append_right _ (List.mem_append_right _ (List.mem_append_right _ (List.mem_append_right _ (List.mem_append_right _ (List.mem_append_left _ (List.mem_of_getElem? h)))))))), rfl⟩)
set_option maxRecDepth 20000 in
theorem sl8 {q : MethodName × Nat} (i : Nat) (h : lw_privs_8[i]? = some q) : Cond.selects q.1.cls q.1 q.1 ∈ lw_tbl := List.mem_append_left _ (List.mem_map.mpr ⟨q, (List.mem_append_right _ (List.mem_append_right _ (List.mem_append_right _ (List.mem_append_right _ (List.mem_append_right _ (List.mem_append_right _ (List.mem_append_right _ (List.mem_append_left _ (List.mem_of_getElem? h))))))))), rfl⟩)
set_option maxRecDepth 20000 in
theorem sl9 {q : MethodName × Nat} (i : Nat) (h : lw_privs_9[i]? = some q) : Cond.selects q.1.cls q.1 q.1 ∈ lw_tbl := List.mem_append_left _ (List.mem_map.mpr ⟨q, (List.mem_append_right _ (List.mem_append_right _ (List.mem_append_right _ (List.mem_append_right _ (List.mem_append_right _ (List.mem_append_right _ (List.mem_append_right _ (List.mem_append_right _ (List.mem_of_getElem? h))))))))), rfl⟩)
set_option maxRecDepth 20000 in
theorem inWX0 : ∀ w ∈ u_ws RX0 TX0 11, w ∈ gw := gw_sub _ [118, 120, 122, 124, 126, 128, 130, 132, 134, 136, 138] (by decide +kernel) (by decide +kernel)
set_option maxRecDepth 20000 in
theorem inWX1 : ∀ w ∈ u_ws RX1 TX1 2, w ∈ gw := gw_sub _ [100, 102] (by decide +kernel) (by decide +kernel)
set_option maxRecDepth 20000 in
theorem inWX2 : ∀ w ∈ u_ws RX2 TX2 3, w ∈ gw := gw_sub _ [275, 277, 279] (by decide +kernel) (by decide +kernel)
set_option maxRecDepth 20000 in
theorem inWX3 : ∀ w ∈ u_ws RX3 TX3 3, w ∈ gw := gw_sub _ [52, 54, 56] (by decide +kernel) (by decide +kernel)
set_option maxRecDepth 20000 in
theorem inWX4 : ∀ w ∈ u_ws RX4 TX4 4, w ∈ gw := gw_sub _ [76, 78, 80, 82] (by decide +kernel) (by decide +kernel)
set_option maxRecDepth 20000 in
theorem inWX5 : ∀ w ∈ u_ws RX5 TX5 18, w ∈ gw := gw_sub _ [165, 167, 169, 171, 173, 175, 177, 179, 181, 183, 185, 187, 189, 191, 193, 195, 197, 199] (by decide +kernel) (by decide +kernel)
set_option maxRecDepth 20000 in
theorem inWX6 : ∀ w ∈ u_ws RX6 TX6 2, w ∈ gw := gw_sub _ [213, 215] (by decide +kernel) (by decide +kernel)
set_option maxRecDepth 20000 in
theorem inWX7 : ∀ w ∈ u_ws RX7 TX7 10, w ∈ gw := gw_sub _ [241, 243, 245, 247, 249, 251, 253, 255, 257, 259] (by decide +kernel) (by decide +kernel)
set_option maxRecDepth 20000 in
theorem inWX8 : ∀ w ∈ u_ws RX8 TX8 8, w ∈ gw := gw_sub _ [290, 292, 294, 296, 298, 300, 302, 304] (by decide +kernel) (by decide +kernel)
set_option maxRecDepth 20000 in
theorem inWX9 : ∀ w ∈ u_ws RX9 TX9 27, w ∈ gw := gw_sub _ [1009, 1011, 1013, 1015, 1017, 1019, 1021, 1023, 1025, 1027, 1029, 1031, 1033, 1035, 1037, 1039, 1041, 1043, 1045, 1047, 1049, 1051, 1053, 1055, 1057, 1059, 1061] (by decide +kernel) (by decide +kernel)
set_option maxRecDepth 20000 in
theorem f_X8_10 : FL RX8 10 8 0 := ⟨RX8, TX8, 8, rfl, by decide, inWX8, Or.inl (gw_mem (tb2 42 rfl) rfl)⟩
set_option maxRecDepth 20000 in
theorem f_X8_19 : FL RX8 19 8 1 := ⟨RX8, TX8, 8, rfl, by decide, inWX8, Or.inl (gw_mem (tb2 43 rfl) rfl)⟩
set_option maxRecDepth 20000 in
theorem f_X8_28 : FL RX8 28 8 2 := ⟨RX8, TX8, 8, rfl, by decide, inWX8, Or.inl (gw_mem (tb2 44 rfl) rfl)⟩
set_option maxRecDepth 20000 in
theorem f_X8_37 : FL RX8 37 8 3 := ⟨RX8, TX8, 8, rfl, by decide, inWX8, Or.inl (gw_mem (tb2 45 rfl) rfl)⟩
set_option maxRecDepth 20000 in
theorem f_X8_44 : FL RX8 44 8 4 := ⟨RX8, TX8, 8, rfl, by decide, inWX8, Or.inl (gw_mem (tb2 46 rfl) rfl)⟩
set_option maxRecDepth 20000 in
theorem f_X8_53 : FL RX8 53 8 5 := ⟨RX8, TX8, 8, rfl, by decide, inWX8, Or.inl (gw_mem (tb2 47 rfl) rfl)⟩
set_option maxRecDepth 20000 in
theorem f_X8_60 : FL RX8 60 8 6 := ⟨RX8, TX8, 8, rfl, by decide, inWX8, Or.inl (gw_mem (tb2 48 rfl) rfl)⟩
set_option maxRecDepth 20000 in
theorem f_X8_64 : FL RX8 64 8 7 := ⟨RX8, TX8, 8, rfl, by decide, inWX8, Or.inl (gw_mem (tb2 49 rfl) rfl)⟩
set_option maxRecDepth 20000 in
theorem f_X8_67 : FL RX8 67 6 0 := ⟨RX6, TX6, 2, rfl, by decide, inWX6, Or.inr ⟨"TruckWing", nw_mem (tb1 210 rfl) rfl⟩⟩
set_option maxRecDepth 20000 in
theorem f_X8_79 : FL RX8 79 7 1 := ⟨RX7, TX7, 10, rfl, by decide, inWX7, Or.inr ⟨"TruckWing", nw_mem (tb1 230 rfl) rfl⟩⟩
set_option maxRecDepth 20000 in
theorem f_X8_83 : FL RX8 83 7 2 := ⟨RX7, TX7, 10, rfl, by decide, inWX7, Or.inr ⟨"TruckWing", nw_mem (tb1 232 rfl) rfl⟩⟩
set_option maxRecDepth 20000 in
theorem f_X8_90 : FL RX8 90 7 5 := ⟨RX7, TX7, 10, rfl, by decide, inWX7, Or.inr ⟨"TruckWing", nw_mem (tb1 236 rfl) rfl⟩⟩
set_option maxRecDepth 20000 in
theorem f_X8_97 : FL RX8 97 3 0 := ⟨RX3, TX3, 3, rfl, by decide, inWX3, Or.inr ⟨"TruckWing", nw_mem (tb1 48 rfl) rfl⟩⟩
set_option maxRecDepth 20000 in
theorem f_X8_142 : FL RX8 142 4 1 := ⟨RX4, TX4, 4, rfl, by decide, inWX4, Or.inr ⟨"TruckWing", nw_mem (tb1 73 rfl) rfl⟩⟩
set_option maxRecDepth 20000 in
theorem f_X8_145 : FL RX8 145 4 0 := ⟨RX4, TX4, 4, rfl, by decide, inWX4, Or.inr ⟨"TruckWing", nw_mem (tb1 68 rfl) rfl⟩⟩
set_option maxRecDepth 20000 in
theorem f_X8_175 : FL RX8 175 0 3 := ⟨RX0, TX0, 11, rfl, by decide, inWX0, Or.inr ⟨"TruckWing", nw_mem (tb1 110 rfl) rfl⟩⟩
set_option maxRecDepth 20000 in
theorem f_X8_187 : FL RX8 187 0 2 := ⟨RX0, TX0, 11, rfl, by decide, inWX0, Or.inr ⟨"TruckWing", nw_mem (tb1 108 rfl) rfl⟩⟩
set_option maxRecDepth 20000 in
theorem f_X8_191 : FL RX8 191 1 0 := ⟨RX1, TX1, 2, rfl, by decide, inWX1, Or.inr ⟨"TruckWing", nw_mem (tb1 98 rfl) rfl⟩⟩
set_option maxRecDepth 20000 in
theorem f_X8_215 : FL RX8 215 2 1 := ⟨RX2, TX2, 3, rfl, by decide, inWX2, Or.inr ⟨"TruckWing", nw_mem (tb2 32 rfl) rfl⟩⟩
set_option maxRecDepth 20000 in
theorem f_X8_218 : FL RX8 218 2 2 := ⟨RX2, TX2, 3, rfl, by decide, inWX2, Or.inr ⟨"TruckWing", nw_mem (tb2 34 rfl) rfl⟩⟩
set_option maxRecDepth 20000 in
theorem f_X8_236 : FL RX8 236 2 0 := ⟨RX2, TX2, 3, rfl, by decide, inWX2, Or.inr ⟨"TruckWing", nw_mem (tb2 29 rfl) rfl⟩⟩
set_option maxRecDepth 20000 in
theorem f_X0_12 : FL RX0 12 0 2 := ⟨RX0, TX0, 11, rfl, by decide, inWX0, Or.inl (gw_mem (tb1 107 rfl) rfl)⟩
set_option maxRecDepth 20000 in
theorem f_X0_18 : FL RX0 18 0 4 := ⟨RX0, TX0, 11, rfl, by decide, inWX0, Or.inl (gw_mem (tb1 111 rfl) rfl)⟩
set_option maxRecDepth 20000 in
theorem f_X0_22 : FL RX0 22 0 5 := ⟨RX0, TX0, 11, rfl, by decide, inWX0, Or.inl (gw_mem (tb1 112 rfl) rfl)⟩
set_option maxRecDepth 20000 in
theorem f_X0_25 : FL RX0 25 0 6 := ⟨RX0, TX0, 11, rfl, by decide, inWX0, Or.inl (gw_mem (tb1 113 rfl) rfl)⟩
set_option maxRecDepth 20000 in
theorem f_X0_28 : FL RX0 28 0 7 := ⟨RX0, TX0, 11, rfl, by decide, inWX0, Or.inl (gw_mem (tb1 114 rfl) rfl)⟩
set_option maxRecDepth 20000 in
theorem f_X0_31 : FL RX0 31 0 8 := ⟨RX0, TX0, 11, rfl, by decide, inWX0, Or.inl (gw_mem (tb1 115 rfl) rfl)⟩
set_option maxRecDepth 20000 in
theorem f_X0_34 : FL RX0 34 0 9 := ⟨RX0, TX0, 11, rfl, by decide, inWX0, Or.inl (gw_mem (tb1 116 rfl) rfl)⟩
set_option maxRecDepth 20000 in
theorem f_X0_37 : FL RX0 37 0 10 := ⟨RX0, TX0, 11, rfl, by decide, inWX0, Or.inl (gw_mem (tb1 117 rfl) rfl)⟩
set_option maxRecDepth 20000 in
theorem f_X0_40 : FL RX0 40 0 0 := ⟨RX0, TX0, 11, rfl, by decide, inWX0, Or.inl (gw_mem (tb1 105 rfl) rfl)⟩
set_option maxRecDepth 20000 in
theorem f_X0_44 : FL RX0 44 0 1 := ⟨RX0, TX0, 11, rfl, by decide, inWX0, Or.inl (gw_mem (tb1 106 rfl) rfl)⟩
set_option maxRecDepth 20000 in
theorem f_X0_52 : FL RX0 52 0 3 := ⟨RX0, TX0, 11, rfl, by decide, inWX0, Or.inl (gw_mem (tb1 109 rfl) rfl)⟩
set_option maxRecDepth 20000 in
theorem f_X0_77 : FL RX0 77 4 1 := ⟨RX4, TX4, 4, rfl, by decide, inWX4, Or.inr ⟨"TruckWing", nw_mem (tb1 72 rfl) rfl⟩⟩
set_option maxRecDepth 20000 in
theorem f_X0_98 : FL RX0 98 4 0 := ⟨RX4, TX4, 4, rfl, by decide, inWX4, Or.inr ⟨"TruckWing", nw_mem (tb1 67 rfl) rfl⟩⟩
set_option maxRecDepth 20000 in
theorem f_X0_104 : FL RX0 104 3 0 := ⟨RX3, TX3, 3, rfl, by decide, inWX3, Or.inr ⟨"TruckWing", nw_mem (tb1 49 rfl) rfl⟩⟩
set_option maxRecDepth 20000 in
theorem f_X1_11 : FL RX1 11 1 1 := ⟨RX1, TX1, 2, rfl, by decide, inWX1, Or.inl (gw_mem (tb1 99 rfl) rfl)⟩
set_option maxRecDepth 20000 in
theorem f_X1_15 : FL RX1 15 1 0 := ⟨RX1, TX1, 2, rfl, by decide, inWX1, Or.inl (gw_mem (tb1 97 rfl) rfl)⟩
set_option maxRecDepth 20000 in
theorem f_X3_9 : FL RX3 9 3 1 := ⟨RX3, TX3, 3, rfl, by decide, inWX3, Or.inl (gw_mem (tb1 50 rfl) rfl)⟩
set_option maxRecDepth 20000 in
theorem f_X3_23 : FL RX3 23 3 2 := ⟨RX3, TX3, 3, rfl, by decide, inWX3, Or.inl (gw_mem (tb1 51 rfl) rfl)⟩
set_option maxRecDepth 20000 in
theorem f_X3_35 : FL RX3 35 3 0 := ⟨RX3, TX3, 3, rfl, by decide, inWX3, Or.inl (gw_mem (tb1 46 rfl) rfl)⟩
set_option maxRecDepth 20000 in
theorem f_X4_9 : FL RX4 9 4 2 := ⟨RX4, TX4, 4, rfl, by decide, inWX4, Or.inl (gw_mem (tb1 74 rfl) rfl)⟩
set_option maxRecDepth 20000 in
theorem f_X4_15 : FL RX4 15 4 3 := ⟨RX4, TX4, 4, rfl, by decide, inWX4, Or.inl (gw_mem (tb1 75 rfl) rfl)⟩
set_option maxRecDepth 20000 in
theorem f_X4_18 : FL RX4 18 4 0 := ⟨RX4, TX4, 4, rfl, by decide, inWX4, Or.inl (gw_mem (tb1 66 rfl) rfl)⟩
set_option maxRecDepth 20000 in
theorem f_X4_22 : FL RX4 22 4 1 := ⟨RX4, TX4, 4, rfl, by decide, inWX4, Or.inl (gw_mem (tb1 70 rfl) rfl)⟩
set_option maxRecDepth 20000 in
theorem f_X5_9 : FL RX5 9 5 7 := ⟨RX5, TX5, 18, rfl, by decide, inWX5, Or.inl (gw_mem (tb1 154 rfl) rfl)⟩
set_option maxRecDepth 20000 in
theorem f_X5_15 : FL RX5 15 5 8 := ⟨RX5, TX5, 18, rfl, by decide, inWX5, Or.inl (gw_mem (tb1 155 rfl) rfl)⟩
set_option maxRecDepth 20000 in
theorem f_X5_18 : FL RX5 18 5 9 := ⟨RX5, TX5, 18, rfl, by decide, inWX5, Or.inl (gw_mem (tb1 156 rfl) rfl)⟩
set_option maxRecDepth 20000 in
theorem f_X5_21 : FL RX5 21 5 10 := ⟨RX5, TX5, 18, rfl, by decide, inWX5, Or.inl (gw_mem (tb1 157 rfl) rfl)⟩
set_option maxRecDepth 20000 in
theorem f_X5_25 : FL RX5 25 5 11 := ⟨RX5, TX5, 18, rfl, by decide, inWX5, Or.inl (gw_mem (tb1 158 rfl) rfl)⟩
set_option maxRecDepth 20000 in
theorem f_X5_28 : FL RX5 28 5 12 := ⟨RX5, TX5, 18, rfl, by decide, inWX5, Or.inl (gw_mem (tb1 159 rfl) rfl)⟩
set_option maxRecDepth 20000 in
theorem f_X5_31 : FL RX5 31 5 13 := ⟨RX5, TX5, 18, rfl, by decide, inWX5, Or.inl (gw_mem (tb1 160 rfl) rfl)⟩
set_option maxRecDepth 20000 in
theorem f_X5_34 : FL RX5 34 5 14 := ⟨RX5, TX5, 18, rfl, by decide, inWX5, Or.inl (gw_mem (tb1 161 rfl) rfl)⟩
set_option maxRecDepth 20000 in
theorem f_X5_37 : FL RX5 37 5 15 := ⟨RX5, TX5, 18, rfl, by decide, inWX5, Or.inl (gw_mem (tb1 162 rfl) rfl)⟩
set_option maxRecDepth 20000 in
theorem f_X5_40 : FL RX5 40 5 16 := ⟨RX5, TX5, 18, rfl, by decide, inWX5, Or.inl (gw_mem (tb1 163 rfl) rfl)⟩
set_option maxRecDepth 20000 in
theorem f_X5_43 : FL RX5 43 5 17 := ⟨RX5, TX5, 18, rfl, by decide, inWX5, Or.inl (gw_mem (tb1 164 rfl) rfl)⟩
set_option maxRecDepth 20000 in
theorem f_X5_46 : FL RX5 46 5 0 := ⟨RX5, TX5, 18, rfl, by decide, inWX5, Or.inl (gw_mem (tb1 147 rfl) rfl)⟩
set_option maxRecDepth 20000 in
theorem f_X5_50 : FL RX5 50 3 0 := ⟨RX3, TX3, 3, rfl, by decide, inWX3, Or.inr ⟨"TruckWing", nw_mem (tb1 45 rfl) rfl⟩⟩
set_option maxRecDepth 20000 in
theorem f_X5_56 : FL RX5 56 5 6 := ⟨RX5, TX5, 18, rfl, by decide, inWX5, Or.inl (gw_mem (tb1 153 rfl) rfl)⟩
set_option maxRecDepth 20000 in
theorem f_X5_63 : FL RX5 63 5 1 := ⟨RX5, TX5, 18, rfl, by decide, inWX5, Or.inl (gw_mem (tb1 148 rfl) rfl)⟩
set_option maxRecDepth 20000 in
theorem f_X5_70 : FL RX5 70 5 2 := ⟨RX5, TX5, 18, rfl, by decide, inWX5, Or.inl (gw_mem (tb1 149 rfl) rfl)⟩
set_option maxRecDepth 20000 in
theorem f_X5_73 : FL RX5 73 5 3 := ⟨RX5, TX5, 18, rfl, by decide, inWX5, Or.inl (gw_mem (tb1 150 rfl) rfl)⟩
set_option maxRecDepth 20000 in
theorem f_X5_76 : FL RX5 76 5 4 := ⟨RX5, TX5, 18, rfl, by decide, inWX5, Or.inl (gw_mem (tb1 151 rfl) rfl)⟩
set_option maxRecDepth 20000 in
theorem f_X5_79 : FL RX5 79 5 5 := ⟨RX5, TX5, 18, rfl, by decide, inWX5, Or.inl (gw_mem (tb1 152 rfl) rfl)⟩
set_option maxRecDepth 20000 in
theorem f_X5_164 : FL RX5 164 2 1 := ⟨RX2, TX2, 3, rfl, by decide, inWX2, Or.inr ⟨"TruckWing", nw_mem (tb2 31 rfl) rfl⟩⟩
set_option maxRecDepth 20000 in
theorem f_X5_182 : FL RX5 182 4 0 := ⟨RX4, TX4, 4, rfl, by decide, inWX4, Or.inr ⟨"TruckWing", nw_mem (tb1 69 rfl) rfl⟩⟩
set_option maxRecDepth 20000 in
theorem f_X6_9 : FL RX6 9 6 1 := ⟨RX6, TX6, 2, rfl, by decide, inWX6, Or.inl (gw_mem (tb1 212 rfl) rfl)⟩
set_option maxRecDepth 20000 in
theorem f_X6_15 : FL RX6 15 6 0 := ⟨RX6, TX6, 2, rfl, by decide, inWX6, Or.inl (gw_mem (tb1 209 rfl) rfl)⟩
set_option maxRecDepth 20000 in
theorem f_X7_12 : FL RX7 12 7 1 := ⟨RX7, TX7, 10, rfl, by decide, inWX7, Or.inl (gw_mem (tb1 229 rfl) rfl)⟩
set_option maxRecDepth 20000 in
theorem f_X7_21 : FL RX7 21 7 2 := ⟨RX7, TX7, 10, rfl, by decide, inWX7, Or.inl (gw_mem (tb1 231 rfl) rfl)⟩
set_option maxRecDepth 20000 in
theorem f_X7_25 : FL RX7 25 7 3 := ⟨RX7, TX7, 10, rfl, by decide, inWX7, Or.inl (gw_mem (tb1 233 rfl) rfl)⟩
set_option maxRecDepth 20000 in
theorem f_X7_29 : FL RX7 29 7 0 := ⟨RX7, TX7, 10, rfl, by decide, inWX7, Or.inl (gw_mem (tb1 228 rfl) rfl)⟩
set_option maxRecDepth 20000 in
theorem f_X7_44 : FL RX7 44 7 8 := ⟨RX7, TX7, 10, rfl, by decide, inWX7, Or.inl (gw_mem (tb1 239 rfl) rfl)⟩
set_option maxRecDepth 20000 in
theorem f_X7_50 : FL RX7 50 7 6 := ⟨RX7, TX7, 10, rfl, by decide, inWX7, Or.inl (gw_mem (tb1 237 rfl) rfl)⟩
set_option maxRecDepth 20000 in
theorem f_X7_82 : FL RX7 82 3 0 := ⟨RX3, TX3, 3, rfl, by decide, inWX3, Or.inr ⟨"TruckWing", nw_mem (tb1 47 rfl) rfl⟩⟩
set_option maxRecDepth 20000 in
theorem f_X7_85 : FL RX7 85 4 1 := ⟨RX4, TX4, 4, rfl, by decide, inWX4, Or.inr ⟨"TruckWing", nw_mem (tb1 71 rfl) rfl⟩⟩
set_option maxRecDepth 20000 in
theorem f_X7_88 : FL RX7 88 7 4 := ⟨RX7, TX7, 10, rfl, by decide, inWX7, Or.inl (gw_mem (tb1 234 rfl) rfl)⟩
set_option maxRecDepth 20000 in
theorem f_X7_94 : FL RX7 94 7 9 := ⟨RX7, TX7, 10, rfl, by decide, inWX7, Or.inl (gw_mem (tb2 0 rfl) rfl)⟩
set_option maxRecDepth 20000 in
theorem f_X7_140 : FL RX7 140 7 7 := ⟨RX7, TX7, 10, rfl, by decide, inWX7, Or.inl (gw_mem (tb1 238 rfl) rfl)⟩
set_option maxRecDepth 20000 in
theorem f_X7_143 : FL RX7 143 6 0 := ⟨RX6, TX6, 2, rfl, by decide, inWX6, Or.inr ⟨"TruckWing", nw_mem (tb1 211 rfl) rfl⟩⟩
set_option maxRecDepth 20000 in
theorem f_X9_7 : FL RX9 7 9 1 := ⟨RX9, TX9, 27, rfl, by decide, inWX9, Or.inl (gw_mem (tb5 23 rfl) rfl)⟩
set_option maxRecDepth 20000 in
theorem f_X9_13 : FL RX9 13 9 2 := ⟨RX9, TX9, 27, rfl, by decide, inWX9, Or.inl (gw_mem (tb5 24 rfl) rfl)⟩
set_option maxRecDepth 20000 in
theorem f_X9_16 : FL RX9 16 9 3 := ⟨RX9, TX9, 27, rfl, by decide, inWX9, Or.inl (gw_mem (tb5 25 rfl) rfl)⟩
set_option maxRecDepth 20000 in
theorem f_X9_20 : FL RX9 20 9 9 := ⟨RX9, TX9, 27, rfl, by decide, inWX9, Or.inl (gw_mem (tb5 31 rfl) rfl)⟩
set_option maxRecDepth 20000 in
theorem f_X9_23 : FL RX9 23 9 10 := ⟨RX9, TX9, 27, rfl, by decide, inWX9, Or.inl (gw_mem (tb5 32 rfl) rfl)⟩
set_option maxRecDepth 20000 in
theorem f_X9_26 : FL RX9 26 9 11 := ⟨RX9, TX9, 27, rfl, by decide, inWX9, Or.inl (gw_mem (tb5 33 rfl) rfl)⟩
set_option maxRecDepth 20000 in
theorem f_X9_29 : FL RX9 29 9 12 := ⟨RX9, TX9, 27, rfl, by decide, inWX9, Or.inl (gw_mem (tb5 34 rfl) rfl)⟩
set_option maxRecDepth 20000 in
theorem f_X9_32 : FL RX9 32 9 13 := ⟨RX9, TX9, 27, rfl, by decide, inWX9, Or.inl (gw_mem (tb5 35 rfl) rfl)⟩
set_option maxRecDepth 20000 in
theorem f_X9_35 : FL RX9 35 9 14 := ⟨RX9, TX9, 27, rfl, by decide, inWX9, Or.inl (gw_mem (tb5 36 rfl) rfl)⟩
set_option maxRecDepth 20000 in
theorem f_X9_38 : FL RX9 38 9 15 := ⟨RX9, TX9, 27, rfl, by decide, inWX9, Or.inl (gw_mem (tb5 37 rfl) rfl)⟩
set_option maxRecDepth 20000 in
theorem f_X9_41 : FL RX9 41 9 16 := ⟨RX9, TX9, 27, rfl, by decide, inWX9, Or.inl (gw_mem (tb5 38 rfl) rfl)⟩
set_option maxRecDepth 20000 in
theorem f_X9_45 : FL RX9 45 9 17 := ⟨RX9, TX9, 27, rfl, by decide, inWX9, Or.inl (gw_mem (tb5 39 rfl) rfl)⟩
set_option maxRecDepth 20000 in
theorem f_X9_48 : FL RX9 48 9 19 := ⟨RX9, TX9, 27, rfl, by decide, inWX9, Or.inl (gw_mem (tb5 41 rfl) rfl)⟩
set_option maxRecDepth 20000 in
theorem f_X9_51 : FL RX9 51 9 20 := ⟨RX9, TX9, 27, rfl, by decide, inWX9, Or.inl (gw_mem (tb5 42 rfl) rfl)⟩
set_option maxRecDepth 20000 in
theorem f_X9_54 : FL RX9 54 9 21 := ⟨RX9, TX9, 27, rfl, by decide, inWX9, Or.inl (gw_mem (tb5 43 rfl) rfl)⟩
set_option maxRecDepth 20000 in
theorem f_X9_57 : FL RX9 57 9 22 := ⟨RX9, TX9, 27, rfl, by decide, inWX9, Or.inl (gw_mem (tb5 44 rfl) rfl)⟩
set_option maxRecDepth 20000 in
theorem f_X9_60 : FL RX9 60 9 23 := ⟨RX9, TX9, 27, rfl, by decide, inWX9, Or.inl (gw_mem (tb5 45 rfl) rfl)⟩
set_option maxRecDepth 20000 in
theorem f_X9_63 : FL RX9 63 9 24 := ⟨RX9, TX9, 27, rfl, by decide, inWX9, Or.inl (gw_mem (tb5 46 rfl) rfl)⟩
set_option maxRecDepth 20000 in
theorem f_X9_66 : FL RX9 66 9 0 := ⟨RX9, TX9, 27, rfl, by decide, inWX9, Or.inl (gw_mem (tb5 22 rfl) rfl)⟩
set_option maxRecDepth 20000 in
theorem f_X9_125 : FL RX9 125 9 4 := ⟨RX9, TX9, 27, rfl, by decide, inWX9, Or.inl (gw_mem (tb5 26 rfl) rfl)⟩
set_option maxRecDepth 20000 in
theorem f_X9_143 : FL RX9 143 9 7 := ⟨RX9, TX9, 27, rfl, by decide, inWX9, Or.inl (gw_mem (tb5 29 rfl) rfl)⟩
set_option maxRecDepth 20000 in
theorem f_X9_146 : FL RX9 146 9 6 := ⟨RX9, TX9, 27, rfl, by decide, inWX9, Or.inl (gw_mem (tb5 28 rfl) rfl)⟩
set_option maxRecDepth 20000 in
theorem f_X9_149 : FL RX9 149 9 5 := ⟨RX9, TX9, 27, rfl, by decide, inWX9, Or.inl (gw_mem (tb5 27 rfl) rfl)⟩
set_option maxRecDepth 20000 in
theorem f_X9_155 : FL RX9 155 9 8 := ⟨RX9, TX9, 27, rfl, by decide, inWX9, Or.inl (gw_mem (tb5 30 rfl) rfl)⟩
set_option maxRecDepth 20000 in
theorem f_X9_199 : FL RX9 199 9 18 := ⟨RX9, TX9, 27, rfl, by decide, inWX9, Or.inl (gw_mem (tb5 40 rfl) rfl)⟩
set_option maxRecDepth 20000 in
theorem f_X9_248 : FL RX9 248 9 25 := ⟨RX9, TX9, 27, rfl, by decide, inWX9, Or.inl (gw_mem (tb5 47 rfl) rfl)⟩
set_option maxRecDepth 20000 in
theorem f_X9_254 : FL RX9 254 9 26 := ⟨RX9, TX9, 27, rfl, by decide, inWX9, Or.inl (gw_mem (tb5 48 rfl) rfl)⟩
set_option maxRecDepth 20000 in
theorem fp_X8_67 : FP RX8 67 6 0 .int := ⟨RX6, TX6, 2, tyX6, rfl, by decide, inWX6, Or.inr ⟨"TruckWing", nw_mem (tb1 210 rfl) rfl⟩, tyX6_ok, nmX6, rfl, by decide +kernel⟩
set_option maxRecDepth 20000 in
theorem fp_X8_97 : FP RX8 97 3 0 .int := ⟨RX3, TX3, 3, tyX3, rfl, by decide, inWX3, Or.inr ⟨"TruckWing", nw_mem (tb1 48 rfl) rfl⟩, tyX3_ok, nmX3, rfl, by decide +kernel⟩
set_option maxRecDepth 20000 in
theorem fp_X8_142 : FP RX8 142 4 1 .int := ⟨RX4, TX4, 4, tyX4, rfl, by decide, inWX4, Or.inr ⟨"TruckWing", nw_mem (tb1 73 rfl) rfl⟩, tyX4_ok, nmX4, rfl, by decide +kernel⟩
set_option maxRecDepth 20000 in
theorem fp_X8_145 : FP RX8 145 4 0 .int := ⟨RX4, TX4, 4, tyX4, rfl, by decide, inWX4, Or.inr ⟨"TruckWing", nw_mem (tb1 68 rfl) rfl⟩, tyX4_ok, nmX4, rfl, by decide +kernel⟩
set_option maxRecDepth 20000 in
theorem fp_X8_236 : FP RX8 236 2 0 .boolean := ⟨RX2, TX2, 3, tyX2, rfl, by decide, inWX2, Or.inr ⟨"TruckWing", nw_mem (tb2 29 rfl) rfl⟩, tyX2_ok, nmX2, rfl, by decide +kernel⟩
set_option maxRecDepth 20000 in
theorem fp_X0_52 : FP RX0 52 0 3 .int := ⟨RX0, TX0, 11, tyX0, rfl, by decide, inWX0, Or.inl (gw_mem (tb1 109 rfl) rfl), tyX0_ok, nmX0, rfl, by decide +kernel⟩
set_option maxRecDepth 20000 in
theorem fp_X1_15 : FP RX1 15 1 0 .int := ⟨RX1, TX1, 2, tyX1, rfl, by decide, inWX1, Or.inl (gw_mem (tb1 97 rfl) rfl), tyX1_ok, nmX1, rfl, by decide +kernel⟩
set_option maxRecDepth 20000 in
theorem fp_X2_7 : FP RX2 7 2 0 .boolean := ⟨RX2, TX2, 3, tyX2, rfl, by decide, inWX2, Or.inl (gw_mem (tb2 28 rfl) rfl), tyX2_ok, nmX2, rfl, by decide +kernel⟩
set_option maxRecDepth 20000 in
theorem fp_X2_13 : FP RX2 13 2 1 .int := ⟨RX2, TX2, 3, tyX2, rfl, by decide, inWX2, Or.inl (gw_mem (tb2 30 rfl) rfl), tyX2_ok, nmX2, rfl, by decide +kernel⟩
set_option maxRecDepth 20000 in
theorem fp_X2_17 : FP RX2 17 2 2 .int := ⟨RX2, TX2, 3, tyX2, rfl, by decide, inWX2, Or.inl (gw_mem (tb2 33 rfl) rfl), tyX2_ok, nmX2, rfl, by decide +kernel⟩
set_option maxRecDepth 20000 in
theorem fp_X3_35 : FP RX3 35 3 0 .int := ⟨RX3, TX3, 3, tyX3, rfl, by decide, inWX3, Or.inl (gw_mem (tb1 46 rfl) rfl), tyX3_ok, nmX3, rfl, by decide +kernel⟩
set_option maxRecDepth 20000 in
theorem fp_X4_18 : FP RX4 18 4 0 .int := ⟨RX4, TX4, 4, tyX4, rfl, by decide, inWX4, Or.inl (gw_mem (tb1 66 rfl) rfl), tyX4_ok, nmX4, rfl, by decide +kernel⟩
set_option maxRecDepth 20000 in
theorem fp_X4_22 : FP RX4 22 4 1 .int := ⟨RX4, TX4, 4, tyX4, rfl, by decide, inWX4, Or.inl (gw_mem (tb1 70 rfl) rfl), tyX4_ok, nmX4, rfl, by decide +kernel⟩
set_option maxRecDepth 20000 in
theorem fp_X5_56 : FP RX5 56 5 6 .int := ⟨RX5, TX5, 18, tyX5, rfl, by decide, inWX5, Or.inl (gw_mem (tb1 153 rfl) rfl), tyX5_ok, nmX5, rfl, by decide +kernel⟩
set_option maxRecDepth 20000 in
theorem fp_X5_63 : FP RX5 63 5 1 .int := ⟨RX5, TX5, 18, tyX5, rfl, by decide, inWX5, Or.inl (gw_mem (tb1 148 rfl) rfl), tyX5_ok, nmX5, rfl, by decide +kernel⟩
set_option maxRecDepth 20000 in
theorem fp_X5_70 : FP RX5 70 5 2 .int := ⟨RX5, TX5, 18, tyX5, rfl, by decide, inWX5, Or.inl (gw_mem (tb1 149 rfl) rfl), tyX5_ok, nmX5, rfl, by decide +kernel⟩
set_option maxRecDepth 20000 in
theorem fp_X5_73 : FP RX5 73 5 3 .int := ⟨RX5, TX5, 18, tyX5, rfl, by decide, inWX5, Or.inl (gw_mem (tb1 150 rfl) rfl), tyX5_ok, nmX5, rfl, by decide +kernel⟩
set_option maxRecDepth 20000 in
theorem fp_X5_76 : FP RX5 76 5 4 .int := ⟨RX5, TX5, 18, tyX5, rfl, by decide, inWX5, Or.inl (gw_mem (tb1 151 rfl) rfl), tyX5_ok, nmX5, rfl, by decide +kernel⟩
set_option maxRecDepth 20000 in
theorem fp_X5_79 : FP RX5 79 5 5 .boolean := ⟨RX5, TX5, 18, tyX5, rfl, by decide, inWX5, Or.inl (gw_mem (tb1 152 rfl) rfl), tyX5_ok, nmX5, rfl, by decide +kernel⟩
set_option maxRecDepth 20000 in
theorem fp_X6_15 : FP RX6 15 6 0 .int := ⟨RX6, TX6, 2, tyX6, rfl, by decide, inWX6, Or.inl (gw_mem (tb1 209 rfl) rfl), tyX6_ok, nmX6, rfl, by decide +kernel⟩
set_option maxRecDepth 20000 in
theorem fp_X7_40 : FP RX7 40 7 5 .int := ⟨RX7, TX7, 10, tyX7, rfl, by decide, inWX7, Or.inl (gw_mem (tb1 235 rfl) rfl), tyX7_ok, nmX7, rfl, by decide +kernel⟩
set_option maxRecDepth 20000 in
theorem fp_X7_44 : FP RX7 44 7 8 .int := ⟨RX7, TX7, 10, tyX7, rfl, by decide, inWX7, Or.inl (gw_mem (tb1 239 rfl) rfl), tyX7_ok, nmX7, rfl, by decide +kernel⟩
set_option maxRecDepth 20000 in
theorem fp_X7_50 : FP RX7 50 7 6 .int := ⟨RX7, TX7, 10, tyX7, rfl, by decide, inWX7, Or.inl (gw_mem (tb1 237 rfl) rfl), tyX7_ok, nmX7, rfl, by decide +kernel⟩
set_option maxRecDepth 20000 in
theorem fp_X7_88 : FP RX7 88 7 4 .int := ⟨RX7, TX7, 10, tyX7, rfl, by decide, inWX7, Or.inl (gw_mem (tb1 234 rfl) rfl), tyX7_ok, nmX7, rfl, by decide +kernel⟩
set_option maxRecDepth 20000 in
theorem fp_X7_94 : FP RX7 94 7 9 .int := ⟨RX7, TX7, 10, tyX7, rfl, by decide, inWX7, Or.inl (gw_mem (tb2 0 rfl) rfl), tyX7_ok, nmX7, rfl, by decide +kernel⟩
set_option maxRecDepth 20000 in
theorem fp_X7_140 : FP RX7 140 7 7 .int := ⟨RX7, TX7, 10, tyX7, rfl, by decide, inWX7, Or.inl (gw_mem (tb1 238 rfl) rfl), tyX7_ok, nmX7, rfl, by decide +kernel⟩
set_option maxRecDepth 20000 in
theorem fp_X9_66 : FP RX9 66 9 0 .int := ⟨RX9, TX9, 27, tyX9, rfl, by decide, inWX9, Or.inl (gw_mem (tb5 22 rfl) rfl), tyX9_ok, nmX9, rfl, by decide +kernel⟩
set_option maxRecDepth 20000 in
theorem fp_X9_125 : FP RX9 125 9 4 .int := ⟨RX9, TX9, 27, tyX9, rfl, by decide, inWX9, Or.inl (gw_mem (tb5 26 rfl) rfl), tyX9_ok, nmX9, rfl, by decide +kernel⟩
set_option maxRecDepth 20000 in
theorem fp_X9_143 : FP RX9 143 9 7 .int := ⟨RX9, TX9, 27, tyX9, rfl, by decide, inWX9, Or.inl (gw_mem (tb5 29 rfl) rfl), tyX9_ok, nmX9, rfl, by decide +kernel⟩
set_option maxRecDepth 20000 in
theorem fp_X9_146 : FP RX9 146 9 6 .int := ⟨RX9, TX9, 27, tyX9, rfl, by decide, inWX9, Or.inl (gw_mem (tb5 28 rfl) rfl), tyX9_ok, nmX9, rfl, by decide +kernel⟩
set_option maxRecDepth 20000 in
theorem fp_X9_149 : FP RX9 149 9 5 .int := ⟨RX9, TX9, 27, tyX9, rfl, by decide, inWX9, Or.inl (gw_mem (tb5 27 rfl) rfl), tyX9_ok, nmX9, rfl, by decide +kernel⟩
set_option maxRecDepth 20000 in
theorem fp_X9_155 : FP RX9 155 9 8 .int := ⟨RX9, TX9, 27, tyX9, rfl, by decide, inWX9, Or.inl (gw_mem (tb5 30 rfl) rfl), tyX9_ok, nmX9, rfl, by decide +kernel⟩
set_option maxRecDepth 20000 in
theorem fp_X9_199 : FP RX9 199 9 18 .int := ⟨RX9, TX9, 27, tyX9, rfl, by decide, inWX9, Or.inl (gw_mem (tb5 40 rfl) rfl), tyX9_ok, nmX9, rfl, by decide +kernel⟩
set_option maxRecDepth 20000 in
theorem fp_X9_248 : FP RX9 248 9 25 .int := ⟨RX9, TX9, 27, tyX9, rfl, by decide, inWX9, Or.inl (gw_mem (tb5 47 rfl) rfl), tyX9_ok, nmX9, rfl, by decide +kernel⟩
set_option maxRecDepth 20000 in
theorem fp_X9_254 : FP RX9 254 9 26 .int := ⟨RX9, TX9, 27, tyX9, rfl, by decide, inWX9, Or.inl (gw_mem (tb5 48 rfl) rfl), tyX9_ok, nmX9, rfl, by decide +kernel⟩
set_option maxRecDepth 20000 in
theorem g_X3_26 : SL RX3 26 0 := ⟨_, _, _, _, rfl, Or.inr ⟨"TruckWing", nw_mem (tb2 232 rfl) rfl⟩⟩
set_option maxRecDepth 20000 in
theorem g_X3_29 : SL RX3 29 1 := ⟨_, _, _, _, rfl, Or.inr ⟨"TruckWing", nw_mem (tb3 4 rfl) rfl⟩⟩
set_option maxRecDepth 20000 in
theorem g_X3_32 : SL RX3 32 2 := ⟨_, _, _, _, rfl, Or.inr ⟨"TruckWing", nw_mem (tb3 5 rfl) rfl⟩⟩
set_option maxRecDepth 20000 in
theorem g_X7_91 : SL RX7 91 4 := ⟨_, _, _, _, rfl, Or.inl (gw_mem (tb2 197 rfl) rfl)⟩
set_option maxRecDepth 20000 in
theorem g_X7_104 : SL RX7 104 1 := ⟨_, _, _, _, rfl, Or.inr ⟨"TruckWing", nw_mem (tb2 203 rfl) rfl⟩⟩
set_option maxRecDepth 20000 in
theorem g_X7_107 : SL RX7 107 2 := ⟨_, _, _, _, rfl, Or.inr ⟨"TruckWing", nw_mem (tb2 209 rfl) rfl⟩⟩
set_option maxRecDepth 20000 in
theorem g_X7_110 : SL RX7 110 0 := ⟨_, _, _, _, rfl, Or.inr ⟨"TruckWing", nw_mem (tb2 211 rfl) rfl⟩⟩
set_option maxRecDepth 20000 in
theorem k_J6_265 : Cond.constant RJ6 265 1431655765 ∈ gw := gw_mem (tb4 98 rfl) rfl
set_option maxRecDepth 20000 in
theorem k_J6_266 : Cond.constant RJ6 266 858993459 ∈ gw := gw_mem (tb4 99 rfl) rfl
set_option maxRecDepth 20000 in
theorem k_J6_267 : Cond.constant RJ6 267 252645135 ∈ gw := gw_mem (tb4 100 rfl) rfl
set_option maxRecDepth 20000 in
theorem ml_X8_71 : ML RX8 71 yX6_append := Or.inr ⟨"TruckWing", nw_mem (tb2 71 rfl) rfl⟩
set_option maxRecDepth 20000 in
theorem ml_X8_75 : ML RX8 75 yX7_read := Or.inr ⟨"TruckWing", nw_mem (tb2 83 rfl) rfl⟩
set_option maxRecDepth 20000 in
theorem ml_X8_80 : ML RX8 80 yX3_copyOf := Or.inr ⟨"TruckWing", nw_mem (tb3 22 rfl) rfl⟩
set_option maxRecDepth 20000 in
theorem ml_X8_84 : ML RX8 84 yX4_copyOf := Or.inr ⟨"TruckWing", nw_mem (tb3 23 rfl) rfl⟩
set_option maxRecDepth 20000 in
theorem ml_X8_87 : ML RX8 87 yX8_forgetSearches := Or.inl (gw_mem (tb3 24 rfl) rfl)
set_option maxRecDepth 20000 in
theorem ml_X8_93 : ML RX8 93 yX3_mayBeFact := Or.inr ⟨"TruckWing", nw_mem (tb3 37 rfl) rfl⟩
set_option maxRecDepth 20000 in
theorem ml_X8_100 : ML RX8 100 yX3_addCustomer := Or.inr ⟨"TruckWing", nw_mem (tb3 38 rfl) rfl⟩
set_option maxRecDepth 20000 in
theorem ml_X8_103 : ML RX8 103 yX3_putFact := Or.inr ⟨"TruckWing", nw_mem (tb3 39 rfl) rfl⟩
set_option maxRecDepth 20000 in
theorem ml_X8_107 : ML RX8 107 yX4_empty := Or.inr ⟨"TruckWing", nw_mem (tb3 44 rfl) rfl⟩
set_option maxRecDepth 20000 in
theorem ml_X8_110 : ML RX8 110 yX3_mayBeSetting := Or.inr ⟨"TruckWing", nw_mem (tb3 49 rfl) rfl⟩
set_option maxRecDepth 20000 in
theorem ml_X8_113 : ML RX8 113 yX3_setting := Or.inr ⟨"TruckWing", nw_mem (tb3 50 rfl) rfl⟩
set_option maxRecDepth 20000 in
theorem ml_X8_117 : ML RX8 117 yX3_putSetting := Or.inr ⟨"TruckWing", nw_mem (tb3 54 rfl) rfl⟩
set_option maxRecDepth 20000 in
theorem ml_X8_121 : ML RX8 121 yX3_isCustomer := Or.inr ⟨"TruckWing", nw_mem (tb3 59 rfl) rfl⟩
set_option maxRecDepth 20000 in
theorem ml_X8_125 : ML RX8 125 yX4_addStop := Or.inr ⟨"TruckWing", nw_mem (tb3 63 rfl) rfl⟩
set_option maxRecDepth 20000 in
theorem ml_X8_128 : ML RX8 128 yX4_stops := Or.inr ⟨"TruckWing", nw_mem (tb3 64 rfl) rfl⟩
set_option maxRecDepth 20000 in
theorem ml_X8_132 : ML RX8 132 yX4_mayBeFlyer := Or.inr ⟨"TruckWing", nw_mem (tb3 72 rfl) rfl⟩
set_option maxRecDepth 20000 in
theorem ml_X8_135 : ML RX8 135 yX4_mayBeIndex := Or.inr ⟨"TruckWing", nw_mem (tb3 75 rfl) rfl⟩
set_option maxRecDepth 20000 in
theorem ml_X8_138 : ML RX8 138 yX4_addSortie := Or.inr ⟨"TruckWing", nw_mem (tb3 78 rfl) rfl⟩
set_option maxRecDepth 20000 in
theorem ml_X8_148 : ML RX8 148 yX3_fact := Or.inr ⟨"TruckWing", nw_mem (tb3 95 rfl) rfl⟩
set_option maxRecDepth 20000 in
theorem ml_X8_152 : ML RX8 152 yX3_isPlace := Or.inr ⟨"TruckWing", nw_mem (tb3 103 rfl) rfl⟩
set_option maxRecDepth 20000 in
theorem ml_X8_155 : ML RX8 155 yX3_flight := Or.inr ⟨"TruckWing", nw_mem (tb3 104 rfl) rfl⟩
set_option maxRecDepth 20000 in
theorem ml_X8_159 : ML RX8 159 yX3_drive := Or.inr ⟨"TruckWing", nw_mem (tb3 116 rfl) rfl⟩
set_option maxRecDepth 20000 in
theorem ml_X8_162 : ML RX8 162 yX4_hasSortie := Or.inr ⟨"TruckWing", nw_mem (tb3 237 rfl) rfl⟩
set_option maxRecDepth 20000 in
theorem ml_X8_171 : ML RX8 171 yX0_look := Or.inr ⟨"TruckWing", nw_mem (tb3 124 rfl) rfl⟩
set_option maxRecDepth 20000 in
theorem ml_X8_178 : ML RX8 178 yX0_lastReady := Or.inr ⟨"TruckWing", nw_mem (tb3 221 rfl) rfl⟩
set_option maxRecDepth 20000 in
theorem ml_X8_181 : ML RX8 181 yX0_ofStop := Or.inr ⟨"TruckWing", nw_mem (tb3 229 rfl) rfl⟩
set_option maxRecDepth 20000 in
theorem ml_X8_184 : ML RX8 184 yX0_ofSortie := Or.inr ⟨"TruckWing", nw_mem (tb4 1 rfl) rfl⟩
set_option maxRecDepth 20000 in
theorem ml_X8_196 : ML RX8 196 yX1_part := Or.inr ⟨"TruckWing", nw_mem (tb4 9 rfl) rfl⟩
set_option maxRecDepth 20000 in
theorem ml_X8_197 : ML RX8 197 yX0_total := Or.inr ⟨"TruckWing", nw_mem (tb4 17 rfl) rfl⟩
set_option maxRecDepth 20000 in
theorem ml_X8_200 : ML RX8 200 yX5_readOrder := Or.inr ⟨"TruckWing", nw_mem (tb4 33 rfl) rfl⟩
set_option maxRecDepth 20000 in
theorem ml_X8_203 : ML RX8 203 yX8_fillTable := Or.inl (gw_mem (tb4 38 rfl) rfl)
set_option maxRecDepth 20000 in
theorem ml_X8_206 : ML RX8 206 yX5_lastEnd := Or.inr ⟨"TruckWing", nw_mem (tb4 105 rfl) rfl⟩
set_option maxRecDepth 20000 in
theorem ml_X8_209 : ML RX8 209 yX5_writePlan := Or.inr ⟨"TruckWing", nw_mem (tb4 113 rfl) rfl⟩
set_option maxRecDepth 20000 in
theorem ml_X8_212 : ML RX8 212 yX8_searchBest := Or.inl (gw_mem (tb4 136 rfl) rfl)
set_option maxRecDepth 20000 in
theorem ml_X8_221 : ML RX8 221 yX8_searchAlone := Or.inl (gw_mem (tb4 170 rfl) rfl)
set_option maxRecDepth 20000 in
theorem ml_X8_224 : ML RX8 224 yX8_bestWind := Or.inl (gw_mem (tb4 178 rfl) rfl)
set_option maxRecDepth 20000 in
theorem ml_X8_227 : ML RX8 227 yX8_endByWind := Or.inl (gw_mem (tb4 182 rfl) rfl)
set_option maxRecDepth 20000 in
theorem ml_X8_230 : ML RX8 230 yX5_prepare := Or.inr ⟨"TruckWing", nw_mem (tb4 42 rfl) rfl⟩
set_option maxRecDepth 20000 in
theorem ml_X8_233 : ML RX8 233 yX5_fill := Or.inr ⟨"TruckWing", nw_mem (tb4 51 rfl) rfl⟩
set_option maxRecDepth 20000 in
theorem ml_X8_240 : ML RX8 240 yX5_search := Or.inr ⟨"TruckWing", nw_mem (tb4 140 rfl) rfl⟩
set_option maxRecDepth 20000 in
theorem ml_X0_48 : ML RX0 48 yX0_wrongWithoutTimes := Or.inl (gw_mem (tb3 128 rfl) rfl)
set_option maxRecDepth 20000 in
theorem ml_X0_56 : ML RX0 56 yX0_drivePlan := Or.inl (gw_mem (tb3 173 rfl) rfl)
set_option maxRecDepth 20000 in
theorem ml_X0_59 : ML RX0 59 yX0_tooLongInAir := Or.inl (gw_mem (tb3 209 rfl) rfl)
set_option maxRecDepth 20000 in
theorem ml_X0_62 : ML RX0 62 yX0_impossibleSortie := Or.inl (gw_mem (tb3 132 rfl) rfl)
set_option maxRecDepth 20000 in
theorem ml_X0_65 : ML RX0 65 yX0_servedTooOften := Or.inl (gw_mem (tb3 145 rfl) rfl)
set_option maxRecDepth 20000 in
theorem ml_X0_68 : ML RX0 68 yX0_servedByNobody := Or.inl (gw_mem (tb3 157 rfl) rfl)
set_option maxRecDepth 20000 in
theorem ml_X0_71 : ML RX0 71 yX0_tooHeavy := Or.inl (gw_mem (tb3 161 rfl) rfl)
set_option maxRecDepth 20000 in
theorem ml_X0_74 : ML RX0 74 yX0_overlapping := Or.inl (gw_mem (tb3 169 rfl) rfl)
set_option maxRecDepth 20000 in
theorem ml_X0_82 : ML RX0 82 yX4_part := Or.inr ⟨"TruckWing", nw_mem (tb3 136 rfl) rfl⟩
set_option maxRecDepth 20000 in
theorem ml_X0_86 : ML RX0 86 yX3_setting := Or.inr ⟨"TruckWing", nw_mem (tb3 140 rfl) rfl⟩
set_option maxRecDepth 20000 in
theorem ml_X0_92 : ML RX0 92 yX4_stops := Or.inr ⟨"TruckWing", nw_mem (tb3 141 rfl) rfl⟩
set_option maxRecDepth 20000 in
theorem ml_X0_95 : ML RX0 95 yX0_told := Or.inl (gw_mem (tb3 142 rfl) rfl)
set_option maxRecDepth 20000 in
theorem ml_X0_101 : ML RX0 101 yX4_placeAt := Or.inr ⟨"TruckWing", nw_mem (tb3 153 rfl) rfl⟩
set_option maxRecDepth 20000 in
theorem ml_X0_107 : ML RX0 107 yX0_timesServed := Or.inl (gw_mem (tb3 149 rfl) rfl)
set_option maxRecDepth 20000 in
theorem ml_X0_110 : ML RX0 110 yX3_isLight := Or.inr ⟨"TruckWing", nw_mem (tb3 165 rfl) rfl⟩
set_option maxRecDepth 20000 in
theorem ml_X0_114 : ML RX0 114 yX0_air := Or.inl (gw_mem (tb3 213 rfl) rfl)
set_option maxRecDepth 20000 in
theorem ml_X0_117 : ML RX0 117 yX1_empty := Or.inr ⟨"TruckWing", nw_mem (tb3 177 rfl) rfl⟩
set_option maxRecDepth 20000 in
theorem ml_X0_120 : ML RX0 120 yX3_drive := Or.inr ⟨"TruckWing", nw_mem (tb3 181 rfl) rfl⟩
set_option maxRecDepth 20000 in
theorem ml_X0_123 : ML RX0 123 yX1_note := Or.inr ⟨"TruckWing", nw_mem (tb3 182 rfl) rfl⟩
set_option maxRecDepth 20000 in
theorem ml_X0_127 : ML RX0 127 yX3_fact := Or.inr ⟨"TruckWing", nw_mem (tb3 186 rfl) rfl⟩
set_option maxRecDepth 20000 in
theorem ml_X0_130 : ML RX0 130 yX0_catchAll := Or.inl (gw_mem (tb3 187 rfl) rfl)
set_option maxRecDepth 20000 in
theorem ml_X0_133 : ML RX0 133 yX0_launchAll := Or.inl (gw_mem (tb3 200 rfl) rfl)
set_option maxRecDepth 20000 in
theorem ml_X0_136 : ML RX0 136 yX0_nextToCatch := Or.inl (gw_mem (tb3 191 rfl) rfl)
set_option maxRecDepth 20000 in
theorem ml_X0_144 : ML RX0 144 yX0_isAhead := Or.inl (gw_mem (tb3 195 rfl) rfl)
set_option maxRecDepth 20000 in
theorem ml_X0_148 : ML RX0 148 yX0_launch := Or.inl (gw_mem (tb3 204 rfl) rfl)
set_option maxRecDepth 20000 in
theorem ml_X0_152 : ML RX0 152 yX3_flight := Or.inr ⟨"TruckWing", nw_mem (tb3 208 rfl) rfl⟩
set_option maxRecDepth 20000 in
theorem ml_X0_156 : ML RX0 156 yX0_drivenTo := Or.inl (gw_mem (tb4 21 rfl) rfl)
set_option maxRecDepth 20000 in
theorem ml_X0_159 : ML RX0 159 yX0_flownBy := Or.inl (gw_mem (tb4 25 rfl) rfl)
set_option maxRecDepth 20000 in
theorem ml_X3_45 : ML RX3 45 yX3_isPlace := Or.inl (gw_mem (tb2 225 rfl) rfl)
set_option maxRecDepth 20000 in
theorem ml_X3_49 : ML RX3 49 yX3_mayBeFact := Or.inl (gw_mem (tb2 229 rfl) rfl)
set_option maxRecDepth 20000 in
theorem ml_X3_53 : ML RX3 53 yX3_mayBeSetting := Or.inl (gw_mem (tb3 1 rfl) rfl)
set_option maxRecDepth 20000 in
theorem ml_X3_56 : ML RX3 56 yX3_fact := Or.inl (gw_mem (tb3 108 rfl) rfl)
set_option maxRecDepth 20000 in
theorem ml_X3_60 : ML RX3 60 yX3_setting := Or.inl (gw_mem (tb3 109 rfl) rfl)
set_option maxRecDepth 20000 in
theorem ml_X5_59 : ML RX5 59 yX3_isCustomer := Or.inr ⟨"TruckWing", nw_mem (tb4 37 rfl) rfl⟩
set_option maxRecDepth 20000 in
theorem ml_X5_66 : ML RX5 66 yX3_setting := Or.inr ⟨"TruckWing", nw_mem (tb4 46 rfl) rfl⟩
set_option maxRecDepth 20000 in
theorem ml_X5_83 : ML RX5 83 yX3_fact := Or.inr ⟨"TruckWing", nw_mem (tb4 47 rfl) rfl⟩
set_option maxRecDepth 20000 in
theorem ml_X5_87 : ML RX5 87 yX3_isLight := Or.inr ⟨"TruckWing", nw_mem (tb4 48 rfl) rfl⟩
set_option maxRecDepth 20000 in
theorem ml_X5_90 : ML RX5 90 yX3_drive := Or.inr ⟨"TruckWing", nw_mem (tb4 49 rfl) rfl⟩
set_option maxRecDepth 20000 in
theorem ml_X5_93 : ML RX5 93 yX3_flight := Or.inr ⟨"TruckWing", nw_mem (tb4 50 rfl) rfl⟩
set_option maxRecDepth 20000 in
theorem ml_X5_102 : ML RX5 102 yX5_beginWithVan := Or.inl (gw_mem (tb4 56 rfl) rfl)
set_option maxRecDepth 20000 in
theorem ml_X5_106 : ML RX5 106 yX5_soonest := Or.inl (gw_mem (tb4 64 rfl) rfl)
set_option maxRecDepth 20000 in
theorem ml_X5_109 : ML RX5 109 yX5_offerBlocks := Or.inl (gw_mem (tb4 68 rfl) rfl)
set_option maxRecDepth 20000 in
theorem ml_X5_113 : ML RX5 113 yX5_leg := Or.inl (gw_mem (tb4 60 rfl) rfl)
set_option maxRecDepth 20000 in
theorem ml_X5_116 : ML RX5 116 yX5_offerOne := Or.inl (gw_mem (tb4 72 rfl) rfl)
set_option maxRecDepth 20000 in
theorem ml_X5_120 : ML RX5 120 yX5_offerTwo := Or.inl (gw_mem (tb4 101 rfl) rfl)
set_option maxRecDepth 20000 in
theorem ml_X5_124 : ML RX5 124 yX5_spared := Or.inl (gw_mem (tb4 76 rfl) rfl)
set_option maxRecDepth 20000 in
theorem ml_X5_127 : ML RX5 127 yX5_trip := Or.inl (gw_mem (tb4 80 rfl) rfl)
set_option maxRecDepth 20000 in
theorem ml_X5_131 : ML RX5 131 yX5_lasts := Or.inl (gw_mem (tb4 84 rfl) rfl)
set_option maxRecDepth 20000 in
theorem ml_X5_135 : ML RX5 135 yX5_bit := Or.inl (gw_mem (tb4 88 rfl) rfl)
set_option maxRecDepth 20000 in
theorem ml_X5_138 : ML RX5 138 yX5_offer := Or.inl (gw_mem (tb4 91 rfl) rfl)
set_option maxRecDepth 20000 in
theorem ml_X5_141 : ML RX5 141 yJ6_bitCount_0f7a4 := Or.inl (gw_mem (tb4 95 rfl) rfl)
set_option maxRecDepth 20000 in
theorem ml_X5_146 : ML RX5 146 yX5_fill := Or.inl (gw_mem (tb4 144 rfl) rfl)
set_option maxRecDepth 20000 in
theorem ml_X5_149 : ML RX5 149 yX5_lastEnd := Or.inl (gw_mem (tb4 145 rfl) rfl)
set_option maxRecDepth 20000 in
theorem ml_X5_153 : ML RX5 153 yX5_orderNumber := Or.inl (gw_mem (tb4 146 rfl) rfl)
set_option maxRecDepth 20000 in
theorem ml_X5_156 : ML RX5 156 yX2_keep := Or.inr ⟨"TruckWing", nw_mem (tb4 150 rfl) rfl⟩
set_option maxRecDepth 20000 in
theorem ml_X5_161 : ML RX5 161 yX5_nextOrder := Or.inl (gw_mem (tb4 154 rfl) rfl)
set_option maxRecDepth 20000 in
theorem ml_X5_167 : ML RX5 167 yX5_swap := Or.inl (gw_mem (tb4 158 rfl) rfl)
set_option maxRecDepth 20000 in
theorem ml_X5_170 : ML RX5 170 yX5_linkBlocks := Or.inl (gw_mem (tb4 117 rfl) rfl)
set_option maxRecDepth 20000 in
theorem ml_X5_173 : ML RX5 173 yX4_empty := Or.inr ⟨"TruckWing", nw_mem (tb4 121 rfl) rfl⟩
set_option maxRecDepth 20000 in
theorem ml_X5_178 : ML RX5 178 yX5_writeBlock := Or.inl (gw_mem (tb4 122 rfl) rfl)
set_option maxRecDepth 20000 in
theorem ml_X5_185 : ML RX5 185 yX5_isFlown := Or.inl (gw_mem (tb4 126 rfl) rfl)
set_option maxRecDepth 20000 in
theorem ml_X5_188 : ML RX5 188 yX4_addStop := Or.inr ⟨"TruckWing", nw_mem (tb4 130 rfl) rfl⟩
set_option maxRecDepth 20000 in
theorem ml_X5_191 : ML RX5 191 yX4_addSortie := Or.inr ⟨"TruckWing", nw_mem (tb4 131 rfl) rfl⟩
set_option maxRecDepth 20000 in
theorem ml_X6_19 : ML RX6 19 yX6_byteAt := Or.inl (gw_mem (tb2 107 rfl) rfl)
set_option maxRecDepth 20000 in
theorem ml_X7_33 : ML RX7 33 yX3_copyOf := Or.inr ⟨"TruckWing", nw_mem (tb2 87 rfl) rfl⟩
set_option maxRecDepth 20000 in
theorem ml_X7_37 : ML RX7 37 yX4_copyOf := Or.inr ⟨"TruckWing", nw_mem (tb2 94 rfl) rfl⟩
set_option maxRecDepth 20000 in
theorem ml_X7_47 : ML RX7 47 yX7_step := Or.inl (gw_mem (tb2 99 rfl) rfl)
set_option maxRecDepth 20000 in
theorem ml_X7_53 : ML RX7 53 yX7_whatIsTold := Or.inl (gw_mem (tb2 128 rfl) rfl)
set_option maxRecDepth 20000 in
theorem ml_X7_57 : ML RX7 57 yX7_readStatement := Or.inl (gw_mem (tb2 189 rfl) rfl)
set_option maxRecDepth 20000 in
theorem ml_X7_61 : ML RX7 61 yX7_apply := Or.inl (gw_mem (tb2 213 rfl) rfl)
set_option maxRecDepth 20000 in
theorem ml_X7_67 : ML RX7 67 yX7_isWord := Or.inl (gw_mem (tb2 133 rfl) rfl)
set_option maxRecDepth 20000 in
theorem ml_X7_79 : ML RX7 79 yX7_refuse := Or.inl (gw_mem (tb2 193 rfl) rfl)
set_option maxRecDepth 20000 in
theorem ml_X7_97 : ML RX7 97 yX7_least := Or.inl (gw_mem (tb2 199 rfl) rfl)
set_option maxRecDepth 20000 in
theorem ml_X7_101 : ML RX7 101 yX7_most := Or.inl (gw_mem (tb2 205 rfl) rfl)
set_option maxRecDepth 20000 in
theorem ml_X7_113 : ML RX7 113 yX7_applyFacts := Or.inl (gw_mem (tb2 217 rfl) rfl)
set_option maxRecDepth 20000 in
theorem ml_X7_116 : ML RX7 116 yX3_addCustomer := Or.inr ⟨"TruckWing", nw_mem (tb2 233 rfl) rfl⟩
set_option maxRecDepth 20000 in
theorem ml_X7_119 : ML RX7 119 yX3_putSetting := Or.inr ⟨"TruckWing", nw_mem (tb2 237 rfl) rfl⟩
set_option maxRecDepth 20000 in
theorem ml_X7_123 : ML RX7 123 yX7_applyRow := Or.inl (gw_mem (tb3 6 rfl) rfl)
set_option maxRecDepth 20000 in
theorem ml_X7_126 : ML RX7 126 yX4_addSortie := Or.inr ⟨"TruckWing", nw_mem (tb3 18 rfl) rfl⟩
set_option maxRecDepth 20000 in
theorem ml_X7_130 : ML RX7 130 yX3_putFact := Or.inr ⟨"TruckWing", nw_mem (tb2 221 rfl) rfl⟩
set_option maxRecDepth 20000 in
theorem ml_X7_134 : ML RX7 134 yX4_empty := Or.inr ⟨"TruckWing", nw_mem (tb3 10 rfl) rfl⟩
set_option maxRecDepth 20000 in
theorem ml_X7_137 : ML RX7 137 yX4_addStop := Or.inr ⟨"TruckWing", nw_mem (tb3 14 rfl) rfl⟩
set_option maxRecDepth 20000 in
theorem ml_X7_148 : ML RX7 148 yX6_hasBlankAt := Or.inr ⟨"TruckWing", nw_mem (tb2 103 rfl) rfl⟩
set_option maxRecDepth 20000 in
theorem ml_X7_151 : ML RX7 151 yX6_byteAt := Or.inr ⟨"TruckWing", nw_mem (tb2 111 rfl) rfl⟩
set_option maxRecDepth 20000 in
theorem ml_X7_154 : ML RX7 154 yX6_hasLetterAt := Or.inr ⟨"TruckWing", nw_mem (tb2 112 rfl) rfl⟩
set_option maxRecDepth 20000 in
theorem ml_X7_157 : ML RX7 157 yX7_stepWord := Or.inl (gw_mem (tb2 116 rfl) rfl)
set_option maxRecDepth 20000 in
theorem ml_X7_160 : ML RX7 160 yX6_hasDigitAt := Or.inr ⟨"TruckWing", nw_mem (tb2 120 rfl) rfl⟩
set_option maxRecDepth 20000 in
theorem ml_X7_163 : ML RX7 163 yX7_stepInt := Or.inl (gw_mem (tb2 124 rfl) rfl)
set_option maxRecDepth 20000 in
theorem ml_X7_166 : ML RX7 166 yJ0_length_8abf5 := Or.inl (gw_mem (tb2 137 rfl) rfl)
set_option maxRecDepth 20000 in
theorem ml_X7_170 : ML RX7 170 yJ0_charAt_5068e := Or.inl (gw_mem (tb2 147 rfl) rfl)
set_option maxRecDepth 20000 in
theorem ml_X9_70 : ML RX9 70 yX9_isIn := Or.inl (gw_mem (tb5 115 rfl) rfl)
set_option maxRecDepth 20000 in
theorem ml_X9_74 : ML RX9 74 yX9_customers := Or.inl (gw_mem (tb5 118 rfl) rfl)
set_option maxRecDepth 20000 in
theorem ml_X9_78 : ML RX9 78 yX9_of := Or.inl (gw_mem (tb5 141 rfl) rfl)
set_option maxRecDepth 20000 in
theorem ml_X9_82 : ML RX9 82 yX9_placeOf := Or.inl (gw_mem (tb5 197 rfl) rfl)
set_option maxRecDepth 20000 in
theorem ml_X9_86 : ML RX9 86 yX9_size := Or.inl (gw_mem (tb5 209 rfl) rfl)
set_option maxRecDepth 20000 in
theorem ml_X9_89 : ML RX9 89 yX9_mayBe := Or.inl (gw_mem (tb5 112 rfl) rfl)
set_option maxRecDepth 20000 in
theorem ml_X9_93 : ML RX9 93 yX9_more := Or.inl (gw_mem (tb5 122 rfl) rfl)
set_option maxRecDepth 20000 in
theorem ml_X9_97 : ML RX9 97 yX9_clears := Or.inl (gw_mem (tb5 130 rfl) rfl)
set_option maxRecDepth 20000 in
theorem ml_X9_100 : ML RX9 100 yX9_maySet := Or.inl (gw_mem (tb5 138 rfl) rfl)
set_option maxRecDepth 20000 in
theorem ml_X9_103 : ML RX9 103 yX9_isCustomer := Or.inl (gw_mem (tb5 149 rfl) rfl)
set_option maxRecDepth 20000 in
theorem ml_X9_107 : ML RX9 107 yX9_stops := Or.inl (gw_mem (tb5 153 rfl) rfl)
set_option maxRecDepth 20000 in
theorem ml_X9_110 : ML RX9 110 yX9_stopsAt := Or.inl (gw_mem (tb5 157 rfl) rfl)
set_option maxRecDepth 20000 in
theorem ml_X9_114 : ML RX9 114 yX9_maySend := Or.inl (gw_mem (tb5 165 rfl) rfl)
set_option maxRecDepth 20000 in
theorem ml_X9_118 : ML RX9 118 yX9_sorties := Or.inl (gw_mem (tb5 169 rfl) rfl)
set_option maxRecDepth 20000 in
theorem ml_X9_121 : ML RX9 121 yX9_sends := Or.inl (gw_mem (tb5 173 rfl) rfl)
set_option maxRecDepth 20000 in
theorem ml_X9_128 : ML RX9 128 yX9_isPlace := Or.inl (gw_mem (tb5 193 rfl) rfl)
set_option maxRecDepth 20000 in
theorem ml_X9_131 : ML RX9 131 yX9_flight := Or.inl (gw_mem (tb5 205 rfl) rfl)
set_option maxRecDepth 20000 in
theorem ml_X9_134 : ML RX9 134 yX9_drive := Or.inl (gw_mem (tb5 212 rfl) rfl)
set_option maxRecDepth 20000 in
theorem ml_X9_137 : ML RX9 137 yX9_sortieOf := Or.inl (gw_mem (tb5 220 rfl) rfl)
set_option maxRecDepth 20000 in
theorem ml_X9_140 : ML RX9 140 yX9_put := Or.inl (gw_mem (tb5 228 rfl) rfl)
set_option maxRecDepth 20000 in
theorem ml_X9_152 : ML RX9 152 yX9_here := Or.inl (gw_mem (tb6 0 rfl) rfl)
set_option maxRecDepth 20000 in
theorem ml_X9_158 : ML RX9 158 yX9_isDigitAt := Or.inl (gw_mem (tb6 23 rfl) rfl)
set_option maxRecDepth 20000 in
theorem ml_X9_161 : ML RX9 161 yX9_fails := Or.inl (gw_mem (tb6 27 rfl) rfl)
set_option maxRecDepth 20000 in
theorem ml_X9_165 : ML RX9 165 yX9_number := Or.inl (gw_mem (tb6 19 rfl) rfl)
set_option maxRecDepth 20000 in
theorem ml_X9_168 : ML RX9 168 yX9_word := Or.inl (gw_mem (tb6 8 rfl) rfl)
set_option maxRecDepth 20000 in
theorem ml_X9_171 : ML RX9 171 yX9_letters := Or.inl (gw_mem (tb6 12 rfl) rfl)
set_option maxRecDepth 20000 in
theorem ml_X9_175 : ML RX9 175 yX9_numberOf := Or.inl (gw_mem (tb6 15 rfl) rfl)
set_option maxRecDepth 20000 in
theorem ml_X9_178 : ML RX9 178 yX9_numberIn := Or.inl (gw_mem (tb6 31 rfl) rfl)
set_option maxRecDepth 20000 in
theorem ml_X9_181 : ML RX9 181 yX9_rowGoesOn := Or.inl (gw_mem (tb6 35 rfl) rfl)
set_option maxRecDepth 20000 in
theorem ml_X9_184 : ML RX9 184 yX9_statement := Or.inl (gw_mem (tb6 4 rfl) rfl)
set_option maxRecDepth 20000 in
theorem ml_X9_187 : ML RX9 187 yX9_stopAt := Or.inl (gw_mem (tb6 55 rfl) rfl)
set_option maxRecDepth 20000 in
theorem ml_X9_190 : ML RX9 190 yX9_servedBy := Or.inl (gw_mem (tb6 51 rfl) rfl)
set_option maxRecDepth 20000 in
theorem ml_X9_193 : ML RX9 193 yX9_isLight := Or.inl (gw_mem (tb6 59 rfl) rfl)
set_option maxRecDepth 20000 in
theorem ml_X9_196 : ML RX9 196 yX9_crosses := Or.inl (gw_mem (tb6 63 rfl) rfl)
set_option maxRecDepth 20000 in
theorem ml_X9_202 : ML RX9 202 yX9_happens := Or.inl (gw_mem (tb6 71 rfl) rfl)
set_option maxRecDepth 20000 in
theorem ml_X9_205 : ML RX9 205 yX9_wrongPlan := Or.inl (gw_mem (tb6 47 rfl) rfl)
set_option maxRecDepth 20000 in
theorem ml_X9_208 : ML RX9 208 yX9_service := Or.inl (gw_mem (tb6 75 rfl) rfl)
set_option maxRecDepth 20000 in
theorem ml_X9_211 : ML RX9 211 yX9_nextCaught := Or.inl (gw_mem (tb6 79 rfl) rfl)
set_option maxRecDepth 20000 in
theorem ml_X9_214 : ML RX9 214 yX9_launches := Or.inl (gw_mem (tb6 83 rfl) rfl)
set_option maxRecDepth 20000 in
theorem ml_X9_217 : ML RX9 217 yX9_sorts := Or.inl (gw_mem (tb6 87 rfl) rfl)
set_option maxRecDepth 20000 in
theorem ml_X9_220 : ML RX9 220 yX9_isAhead := Or.inl (gw_mem (tb6 91 rfl) rfl)
set_option maxRecDepth 20000 in
theorem ml_X9_223 : ML RX9 223 yX9_goes := Or.inl (gw_mem (tb6 67 rfl) rfl)
set_option maxRecDepth 20000 in
theorem ml_X9_227 : ML RX9 227 yX9_airOf := Or.inl (gw_mem (tb6 95 rfl) rfl)
set_option maxRecDepth 20000 in
theorem ml_X9_230 : ML RX9 230 yX9_bits := Or.inl (gw_mem (tb6 131 rfl) rfl)
set_option maxRecDepth 20000 in
theorem ml_X9_233 : ML RX9 233 yX9_isLightSet := Or.inl (gw_mem (tb6 134 rfl) rfl)
set_option maxRecDepth 20000 in
theorem ml_X9_236 : ML RX9 236 yX9_lasts := Or.inl (gw_mem (tb6 138 rfl) rfl)
set_option maxRecDepth 20000 in
theorem ml_X9_239 : ML RX9 239 yX9_lays := Or.inl (gw_mem (tb6 123 rfl) rfl)
set_option maxRecDepth 20000 in
theorem ml_X9_242 : ML RX9 242 yX9_splits := Or.inl (gw_mem (tb6 127 rfl) rfl)
set_option maxRecDepth 20000 in
theorem ml_X9_245 : ML RX9 245 yX9_swaps := Or.inl (gw_mem (tb6 162 rfl) rfl)
set_option maxRecDepth 20000 in
theorem ml_X9_251 : ML RX9 251 yX9_told := Or.inl (gw_mem (tb6 154 rfl) rfl)
set_option maxRecDepth 20000 in
theorem ml_X9_257 : ML RX9 257 yX9_goesOn := Or.inl (gw_mem (tb6 158 rfl) rfl)
set_option maxRecDepth 20000 in
theorem ml_X9_260 : ML RX9 260 yX9_seeks := Or.inl (gw_mem (tb6 150 rfl) rfl)
set_option maxRecDepth 20000 in
theorem ml_X9_263 : ML RX9 263 yX9_splitBy := Or.inl (gw_mem (tb6 178 rfl) rfl)
set_option maxRecDepth 20000 in
theorem mmax_X0_139 : MX RX0 139 := ⟨gw_mem (tb3 199 rfl) rfl, gw_mem (tb3 114 rfl) rfl, gw_mem (tb1 16 rfl) rfl, gw_mem (tb3 115 rfl) rfl⟩
set_option maxRecDepth 20000 in
theorem mcopy_X3_39 : MC RX3 39 := ⟨gw_mem (tb2 91 rfl) rfl, gw_mem (tb2 93 rfl) rfl, gw_mem (tb2 92 rfl) rfl, gw_mem (tb1 11 rfl) rfl⟩
set_option maxRecDepth 20000 in
theorem mabs_X3_64 : MA RX3 64 := ⟨gw_mem (tb3 110 rfl) rfl, gw_mem (tb3 111 rfl) rfl, gw_mem (tb1 16 rfl) rfl, gw_mem (tb3 112 rfl) rfl⟩
set_option maxRecDepth 20000 in
theorem mmax_X3_69 : MX RX3 69 := ⟨gw_mem (tb3 113 rfl) rfl, gw_mem (tb3 114 rfl) rfl, gw_mem (tb1 16 rfl) rfl, gw_mem (tb3 115 rfl) rfl⟩
set_option maxRecDepth 20000 in
theorem mcopy_X4_25 : MC RX4 25 := ⟨gw_mem (tb2 98 rfl) rfl, gw_mem (tb2 93 rfl) rfl, gw_mem (tb2 92 rfl) rfl, gw_mem (tb1 11 rfl) rfl⟩
set_option maxRecDepth 20000 in
theorem mmax_X5_97 : MX RX5 97 := ⟨gw_mem (tb4 55 rfl) rfl, gw_mem (tb3 114 rfl) rfl, gw_mem (tb1 16 rfl) rfl, gw_mem (tb3 115 rfl) rfl⟩
set_option maxRecDepth 20000 in
theorem my_J6_bitCount_0f7a4 : MY yJ6_bitCount_0f7a4 cJ6_bitCount_0f7a4 1 (some .int) 1 := ⟨gw_mem (tb4 97 rfl) rfl, gw_mem (tb1 21 rfl) rfl, by decide +kernel⟩
set_option maxRecDepth 20000 in
theorem ms_J6_bitCount_0f7a4 : Cond.static yJ6_bitCount_0f7a4 ∈ gw := gw_mem (tb4 96 rfl) rfl
set_option maxRecDepth 20000 in
theorem my_X0_air : MY yX0_air cX0_air 2 (some .int) 1 := ⟨gw_mem (tb3 216 rfl) rfl, gw_mem (tb1 4 rfl) rfl, by decide +kernel⟩
set_option maxRecDepth 20000 in
theorem mi_X0_air : MI yX0_air := ⟨gw_mem (tb3 215 rfl) rfl, gw_mem (sl4 6 rfl) rfl⟩
set_option maxRecDepth 20000 in
theorem my_X0_catchAll : MY yX0_catchAll cX0_catchAll 6 (some .int) 2 := ⟨gw_mem (tb3 190 rfl) rfl, gw_mem (tb1 4 rfl) rfl, by decide +kernel⟩
set_option maxRecDepth 20000 in
theorem mi_X0_catchAll : MI yX0_catchAll := ⟨gw_mem (tb3 189 rfl) rfl, gw_mem (sl4 0 rfl) rfl⟩
set_option maxRecDepth 20000 in
theorem my_X0_drivePlan : MY yX0_drivePlan cX0_drivePlan 4 none 0 := ⟨gw_mem (tb3 176 rfl) rfl, gw_mem (tb1 4 rfl) rfl, by decide +kernel⟩
set_option maxRecDepth 20000 in
theorem mi_X0_drivePlan : MI yX0_drivePlan := ⟨gw_mem (tb3 175 rfl) rfl, gw_mem (sl3 13 rfl) rfl⟩
set_option maxRecDepth 20000 in
theorem my_X0_drivenTo : MY yX0_drivenTo cX0_drivenTo 2 (some .int) 1 := ⟨gw_mem (tb4 24 rfl) rfl, gw_mem (tb1 4 rfl) rfl, by decide +kernel⟩
set_option maxRecDepth 20000 in
theorem mi_X0_drivenTo : MI yX0_drivenTo := ⟨gw_mem (tb4 23 rfl) rfl, gw_mem (sl4 13 rfl) rfl⟩
set_option maxRecDepth 20000 in
theorem my_X0_flownBy : MY yX0_flownBy cX0_flownBy 2 (some .int) 1 := ⟨gw_mem (tb4 28 rfl) rfl, gw_mem (tb1 4 rfl) rfl, by decide +kernel⟩
set_option maxRecDepth 20000 in
theorem mi_X0_flownBy : MI yX0_flownBy := ⟨gw_mem (tb4 27 rfl) rfl, gw_mem (sl4 14 rfl) rfl⟩
set_option maxRecDepth 20000 in
theorem my_X0_impossibleSortie : MY yX0_impossibleSortie cX0_impossibleSortie 4 (some .int) 0 := ⟨gw_mem (tb3 135 rfl) rfl, gw_mem (tb1 4 rfl) rfl, by decide +kernel⟩
set_option maxRecDepth 20000 in
theorem mi_X0_impossibleSortie : MI yX0_impossibleSortie := ⟨gw_mem (tb3 134 rfl) rfl, gw_mem (sl3 4 rfl) rfl⟩
set_option maxRecDepth 20000 in
theorem my_X0_isAhead : MY yX0_isAhead cX0_isAhead 3 (some .boolean) 2 := ⟨gw_mem (tb3 198 rfl) rfl, gw_mem (tb1 4 rfl) rfl, by decide +kernel⟩
set_option maxRecDepth 20000 in
theorem mi_X0_isAhead : MI yX0_isAhead := ⟨gw_mem (tb3 197 rfl) rfl, gw_mem (sl4 2 rfl) rfl⟩
set_option maxRecDepth 20000 in
theorem my_X0_lastReady : MY yX0_lastReady cX0_lastReady 1 (some .int) 0 := ⟨gw_mem (tb3 224 rfl) rfl, gw_mem (tb1 4 rfl) rfl, by decide +kernel⟩
set_option maxRecDepth 20000 in
theorem mi_X0_lastReady : MI yX0_lastReady := ⟨gw_mem (tb3 223 rfl) rfl, gw_mem (sl4 7 rfl) rfl⟩
set_option maxRecDepth 20000 in
theorem my_X0_launch : MY yX0_launch cX0_launch 10 none 2 := ⟨gw_mem (tb3 207 rfl) rfl, gw_mem (tb1 4 rfl) rfl, by decide +kernel⟩
set_option maxRecDepth 20000 in
theorem mi_X0_launch : MI yX0_launch := ⟨gw_mem (tb3 206 rfl) rfl, gw_mem (sl4 4 rfl) rfl⟩
set_option maxRecDepth 20000 in
theorem my_X0_launchAll : MY yX0_launchAll cX0_launchAll 6 (some .int) 2 := ⟨gw_mem (tb3 203 rfl) rfl, gw_mem (tb1 4 rfl) rfl, by decide +kernel⟩
set_option maxRecDepth 20000 in
theorem mi_X0_launchAll : MI yX0_launchAll := ⟨gw_mem (tb3 202 rfl) rfl, gw_mem (sl4 3 rfl) rfl⟩
set_option maxRecDepth 20000 in
theorem my_X0_look : MY yX0_look cX0_look 1 (some .boolean) 0 := ⟨gw_mem (tb3 127 rfl) rfl, gw_mem (tb1 4 rfl) rfl, by decide +kernel⟩
set_option maxRecDepth 20000 in
theorem mi_X0_look : MI yX0_look := ⟨gw_mem (tb3 126 rfl) rfl, gw_mem (sl3 2 rfl) rfl⟩
set_option maxRecDepth 20000 in
theorem my_X0_nextToCatch : MY yX0_nextToCatch cX0_nextToCatch 4 (some .int) 1 := ⟨gw_mem (tb3 194 rfl) rfl, gw_mem (tb1 4 rfl) rfl, by decide +kernel⟩
set_option maxRecDepth 20000 in
theorem mi_X0_nextToCatch : MI yX0_nextToCatch := ⟨gw_mem (tb3 193 rfl) rfl, gw_mem (sl4 1 rfl) rfl⟩
set_option maxRecDepth 20000 in
theorem my_X0_ofSortie : MY yX0_ofSortie cX0_ofSortie 3 (some .int) 2 := ⟨gw_mem (tb4 4 rfl) rfl, gw_mem (tb1 4 rfl) rfl, by decide +kernel⟩
set_option maxRecDepth 20000 in
theorem mi_X0_ofSortie : MI yX0_ofSortie := ⟨gw_mem (tb4 3 rfl) rfl, gw_mem (sl4 10 rfl) rfl⟩
set_option maxRecDepth 20000 in
theorem my_X0_ofStop : MY yX0_ofStop cX0_ofStop 3 (some .int) 2 := ⟨gw_mem (tb3 232 rfl) rfl, gw_mem (tb1 4 rfl) rfl, by decide +kernel⟩
set_option maxRecDepth 20000 in
theorem mi_X0_ofStop : MI yX0_ofStop := ⟨gw_mem (tb3 231 rfl) rfl, gw_mem (sl4 8 rfl) rfl⟩
set_option maxRecDepth 20000 in
theorem my_X0_overlapping : MY yX0_overlapping cX0_overlapping 3 (some .int) 0 := ⟨gw_mem (tb3 172 rfl) rfl, gw_mem (tb1 4 rfl) rfl, by decide +kernel⟩
set_option maxRecDepth 20000 in
theorem mi_X0_overlapping : MI yX0_overlapping := ⟨gw_mem (tb3 171 rfl) rfl, gw_mem (sl3 12 rfl) rfl⟩
set_option maxRecDepth 20000 in
theorem my_X0_servedByNobody : MY yX0_servedByNobody cX0_servedByNobody 2 (some .int) 0 := ⟨gw_mem (tb3 160 rfl) rfl, gw_mem (tb1 4 rfl) rfl, by decide +kernel⟩
set_option maxRecDepth 20000 in
theorem mi_X0_servedByNobody : MI yX0_servedByNobody := ⟨gw_mem (tb3 159 rfl) rfl, gw_mem (sl3 9 rfl) rfl⟩
set_option maxRecDepth 20000 in
theorem my_X0_servedTooOften : MY yX0_servedTooOften cX0_servedTooOften 2 (some .int) 0 := ⟨gw_mem (tb3 148 rfl) rfl, gw_mem (tb1 4 rfl) rfl, by decide +kernel⟩
set_option maxRecDepth 20000 in
theorem mi_X0_servedTooOften : MI yX0_servedTooOften := ⟨gw_mem (tb3 147 rfl) rfl, gw_mem (sl3 6 rfl) rfl⟩
set_option maxRecDepth 20000 in
theorem my_X0_timesServed : MY yX0_timesServed cX0_timesServed 4 (some .int) 1 := ⟨gw_mem (tb3 152 rfl) rfl, gw_mem (tb1 4 rfl) rfl, by decide +kernel⟩
set_option maxRecDepth 20000 in
theorem mi_X0_timesServed : MI yX0_timesServed := ⟨gw_mem (tb3 151 rfl) rfl, gw_mem (sl3 7 rfl) rfl⟩
set_option maxRecDepth 20000 in
theorem my_X0_told : MY yX0_told cX0_told 2 (some .int) 2 := ⟨gw_mem (tb3 144 rfl) rfl, gw_mem (tb1 4 rfl) rfl, by decide +kernel⟩
set_option maxRecDepth 20000 in
theorem ms_X0_told : Cond.static yX0_told ∈ gw := gw_mem (tb3 143 rfl) rfl
set_option maxRecDepth 20000 in
theorem my_X0_tooHeavy : MY yX0_tooHeavy cX0_tooHeavy 2 (some .int) 0 := ⟨gw_mem (tb3 164 rfl) rfl, gw_mem (tb1 4 rfl) rfl, by decide +kernel⟩
set_option maxRecDepth 20000 in
theorem mi_X0_tooHeavy : MI yX0_tooHeavy := ⟨gw_mem (tb3 163 rfl) rfl, gw_mem (sl3 10 rfl) rfl⟩
set_option maxRecDepth 20000 in
theorem my_X0_tooLongInAir : MY yX0_tooLongInAir cX0_tooLongInAir 2 (some .int) 0 := ⟨gw_mem (tb3 212 rfl) rfl, gw_mem (tb1 4 rfl) rfl, by decide +kernel⟩
set_option maxRecDepth 20000 in
theorem mi_X0_tooLongInAir : MI yX0_tooLongInAir := ⟨gw_mem (tb3 211 rfl) rfl, gw_mem (sl4 5 rfl) rfl⟩
set_option maxRecDepth 20000 in
theorem my_X0_total : MY yX0_total cX0_total 4 (some .int) 1 := ⟨gw_mem (tb4 20 rfl) rfl, gw_mem (tb1 4 rfl) rfl, by decide +kernel⟩
set_option maxRecDepth 20000 in
theorem mi_X0_total : MI yX0_total := ⟨gw_mem (tb4 19 rfl) rfl, gw_mem (sl4 12 rfl) rfl⟩
set_option maxRecDepth 20000 in
theorem my_X0_wrongWithoutTimes : MY yX0_wrongWithoutTimes cX0_wrongWithoutTimes 2 (some .int) 0 := ⟨gw_mem (tb3 131 rfl) rfl, gw_mem (tb1 4 rfl) rfl, by decide +kernel⟩
set_option maxRecDepth 20000 in
theorem mi_X0_wrongWithoutTimes : MI yX0_wrongWithoutTimes := ⟨gw_mem (tb3 130 rfl) rfl, gw_mem (sl3 3 rfl) rfl⟩
set_option maxRecDepth 20000 in
theorem my_X1_empty : MY yX1_empty cX1_empty 1 none 0 := ⟨gw_mem (tb3 180 rfl) rfl, gw_mem (tb1 5 rfl) rfl, by decide +kernel⟩
set_option maxRecDepth 20000 in
theorem mi_X1_empty : MI yX1_empty := ⟨gw_mem (tb3 179 rfl) rfl, gw_mem (sl3 14 rfl) rfl⟩
set_option maxRecDepth 20000 in
theorem my_X1_note : MY yX1_note cX1_note 7 none 4 := ⟨gw_mem (tb3 185 rfl) rfl, gw_mem (tb1 5 rfl) rfl, by decide +kernel⟩
set_option maxRecDepth 20000 in
theorem mi_X1_note : MI yX1_note := ⟨gw_mem (tb3 184 rfl) rfl, gw_mem (sl3 15 rfl) rfl⟩
set_option maxRecDepth 20000 in
theorem my_X1_part : MY yX1_part cX1_part 4 (some .int) 2 := ⟨gw_mem (tb4 12 rfl) rfl, gw_mem (tb1 5 rfl) rfl, by decide +kernel⟩
set_option maxRecDepth 20000 in
theorem mi_X1_part : MI yX1_part := ⟨gw_mem (tb4 11 rfl) rfl, gw_mem (sl4 11 rfl) rfl⟩
set_option maxRecDepth 20000 in
theorem my_X2_keep : MY yX2_keep cX2_keep 3 none 2 := ⟨gw_mem (tb4 153 rfl) rfl, gw_mem (tb1 9 rfl) rfl, by decide +kernel⟩
set_option maxRecDepth 20000 in
theorem mi_X2_keep : MI yX2_keep := ⟨gw_mem (tb4 152 rfl) rfl, gw_mem (sl6 5 rfl) rfl⟩
set_option maxRecDepth 20000 in
theorem my_X3_addCustomer : MY yX3_addCustomer cX3_addCustomer 1 none 0 := ⟨gw_mem (tb2 236 rfl) rfl, gw_mem (tb1 2 rfl) rfl, by decide +kernel⟩
set_option maxRecDepth 20000 in
theorem mi_X3_addCustomer : MI yX3_addCustomer := ⟨gw_mem (tb2 235 rfl) rfl, gw_mem (sl2 5 rfl) rfl⟩
set_option maxRecDepth 20000 in
theorem my_X3_copyOf : MY yX3_copyOf cX3_copyOf 2 none 1 := ⟨gw_mem (tb2 90 rfl) rfl, gw_mem (tb1 2 rfl) rfl, by decide +kernel⟩
set_option maxRecDepth 20000 in
theorem mi_X3_copyOf : MI yX3_copyOf := ⟨gw_mem (tb2 89 rfl) rfl, gw_mem (sl1 2 rfl) rfl⟩
set_option maxRecDepth 20000 in
theorem my_X3_drive : MY yX3_drive cX3_drive 5 (some .int) 2 := ⟨gw_mem (tb3 119 rfl) rfl, gw_mem (tb1 2 rfl) rfl, by decide +kernel⟩
set_option maxRecDepth 20000 in
theorem mi_X3_drive : MI yX3_drive := ⟨gw_mem (tb3 118 rfl) rfl, gw_mem (sl3 1 rfl) rfl⟩
set_option maxRecDepth 20000 in
theorem my_X3_fact : MY yX3_fact cX3_fact 4 (some .int) 2 := ⟨gw_mem (tb3 98 rfl) rfl, gw_mem (tb1 2 rfl) rfl, by decide +kernel⟩
set_option maxRecDepth 20000 in
theorem mi_X3_fact : MI yX3_fact := ⟨gw_mem (tb3 97 rfl) rfl, gw_mem (sl2 15 rfl) rfl⟩
set_option maxRecDepth 20000 in
theorem my_X3_flight : MY yX3_flight cX3_flight 8 (some .int) 4 := ⟨gw_mem (tb3 107 rfl) rfl, gw_mem (tb1 2 rfl) rfl, by decide +kernel⟩
set_option maxRecDepth 20000 in
theorem mi_X3_flight : MI yX3_flight := ⟨gw_mem (tb3 106 rfl) rfl, gw_mem (sl3 0 rfl) rfl⟩
set_option maxRecDepth 20000 in
theorem my_X3_isCustomer : MY yX3_isCustomer cX3_isCustomer 2 (some .boolean) 1 := ⟨gw_mem (tb3 62 rfl) rfl, gw_mem (tb1 2 rfl) rfl, by decide +kernel⟩
set_option maxRecDepth 20000 in
theorem mi_X3_isCustomer : MI yX3_isCustomer := ⟨gw_mem (tb3 61 rfl) rfl, gw_mem (sl2 13 rfl) rfl⟩
set_option maxRecDepth 20000 in
theorem my_X3_isLight : MY yX3_isLight cX3_isLight 2 (some .boolean) 1 := ⟨gw_mem (tb3 168 rfl) rfl, gw_mem (tb1 2 rfl) rfl, by decide +kernel⟩
set_option maxRecDepth 20000 in
theorem mi_X3_isLight : MI yX3_isLight := ⟨gw_mem (tb3 167 rfl) rfl, gw_mem (sl3 11 rfl) rfl⟩
set_option maxRecDepth 20000 in
theorem my_X3_isPlace : MY yX3_isPlace cX3_isPlace 2 (some .boolean) 1 := ⟨gw_mem (tb2 228 rfl) rfl, gw_mem (tb1 2 rfl) rfl, by decide +kernel⟩
set_option maxRecDepth 20000 in
theorem mi_X3_isPlace : MI yX3_isPlace := ⟨gw_mem (tb2 227 rfl) rfl, gw_mem (sl2 4 rfl) rfl⟩
set_option maxRecDepth 20000 in
theorem my_X3_mayBeFact : MY yX3_mayBeFact cX3_mayBeFact 2 (some .boolean) 2 := ⟨gw_mem (tb2 231 rfl) rfl, gw_mem (tb1 2 rfl) rfl, by decide +kernel⟩
set_option maxRecDepth 20000 in
theorem ms_X3_mayBeFact : Cond.static yX3_mayBeFact ∈ gw := gw_mem (tb2 230 rfl) rfl
set_option maxRecDepth 20000 in
theorem my_X3_mayBeSetting : MY yX3_mayBeSetting cX3_mayBeSetting 2 (some .boolean) 2 := ⟨gw_mem (tb3 3 rfl) rfl, gw_mem (tb1 2 rfl) rfl, by decide +kernel⟩
set_option maxRecDepth 20000 in
theorem ms_X3_mayBeSetting : Cond.static yX3_mayBeSetting ∈ gw := gw_mem (tb3 2 rfl) rfl
set_option maxRecDepth 20000 in
theorem my_X3_putFact : MY yX3_putFact cX3_putFact 4 none 3 := ⟨gw_mem (tb2 224 rfl) rfl, gw_mem (tb1 2 rfl) rfl, by decide +kernel⟩
set_option maxRecDepth 20000 in
theorem mi_X3_putFact : MI yX3_putFact := ⟨gw_mem (tb2 223 rfl) rfl, gw_mem (sl2 3 rfl) rfl⟩
set_option maxRecDepth 20000 in
theorem my_X3_putSetting : MY yX3_putSetting cX3_putSetting 3 none 2 := ⟨gw_mem (tb3 0 rfl) rfl, gw_mem (tb1 2 rfl) rfl, by decide +kernel⟩
set_option maxRecDepth 20000 in
theorem mi_X3_putSetting : MI yX3_putSetting := ⟨gw_mem (tb2 239 rfl) rfl, gw_mem (sl2 6 rfl) rfl⟩
set_option maxRecDepth 20000 in
theorem my_X3_setting : MY yX3_setting cX3_setting 2 (some .int) 1 := ⟨gw_mem (tb3 53 rfl) rfl, gw_mem (tb1 2 rfl) rfl, by decide +kernel⟩
set_option maxRecDepth 20000 in
theorem mi_X3_setting : MI yX3_setting := ⟨gw_mem (tb3 52 rfl) rfl, gw_mem (sl2 12 rfl) rfl⟩
set_option maxRecDepth 20000 in
theorem my_X4_addSortie : MY yX4_addSortie cX4_addSortie 6 (some .boolean) 4 := ⟨gw_mem (tb3 21 rfl) rfl, gw_mem (tb1 3 rfl) rfl, by decide +kernel⟩
set_option maxRecDepth 20000 in
theorem mi_X4_addSortie : MI yX4_addSortie := ⟨gw_mem (tb3 20 rfl) rfl, gw_mem (sl2 10 rfl) rfl⟩
set_option maxRecDepth 20000 in
theorem my_X4_addStop : MY yX4_addStop cX4_addStop 2 (some .boolean) 1 := ⟨gw_mem (tb3 17 rfl) rfl, gw_mem (tb1 3 rfl) rfl, by decide +kernel⟩
set_option maxRecDepth 20000 in
theorem mi_X4_addStop : MI yX4_addStop := ⟨gw_mem (tb3 16 rfl) rfl, gw_mem (sl2 9 rfl) rfl⟩
set_option maxRecDepth 20000 in
theorem my_X4_copyOf : MY yX4_copyOf cX4_copyOf 2 none 1 := ⟨gw_mem (tb2 97 rfl) rfl, gw_mem (tb1 3 rfl) rfl, by decide +kernel⟩
set_option maxRecDepth 20000 in
theorem mi_X4_copyOf : MI yX4_copyOf := ⟨gw_mem (tb2 96 rfl) rfl, gw_mem (sl1 3 rfl) rfl⟩
set_option maxRecDepth 20000 in
theorem my_X4_empty : MY yX4_empty cX4_empty 1 none 0 := ⟨gw_mem (tb3 13 rfl) rfl, gw_mem (tb1 3 rfl) rfl, by decide +kernel⟩
set_option maxRecDepth 20000 in
theorem mi_X4_empty : MI yX4_empty := ⟨gw_mem (tb3 12 rfl) rfl, gw_mem (sl2 8 rfl) rfl⟩
set_option maxRecDepth 20000 in
theorem my_X4_hasSortie : MY yX4_hasSortie cX4_hasSortie 2 (some .boolean) 1 := ⟨gw_mem (tb4 0 rfl) rfl, gw_mem (tb1 3 rfl) rfl, by decide +kernel⟩
set_option maxRecDepth 20000 in
theorem mi_X4_hasSortie : MI yX4_hasSortie := ⟨gw_mem (tb3 239 rfl) rfl, gw_mem (sl4 9 rfl) rfl⟩
set_option maxRecDepth 20000 in
theorem my_X4_mayBeFlyer : MY yX4_mayBeFlyer cX4_mayBeFlyer 1 (some .boolean) 1 := ⟨gw_mem (tb3 74 rfl) rfl, gw_mem (tb1 3 rfl) rfl, by decide +kernel⟩
set_option maxRecDepth 20000 in
theorem ms_X4_mayBeFlyer : Cond.static yX4_mayBeFlyer ∈ gw := gw_mem (tb3 73 rfl) rfl
set_option maxRecDepth 20000 in
theorem my_X4_mayBeIndex : MY yX4_mayBeIndex cX4_mayBeIndex 1 (some .boolean) 1 := ⟨gw_mem (tb3 77 rfl) rfl, gw_mem (tb1 3 rfl) rfl, by decide +kernel⟩
set_option maxRecDepth 20000 in
theorem ms_X4_mayBeIndex : Cond.static yX4_mayBeIndex ∈ gw := gw_mem (tb3 76 rfl) rfl
set_option maxRecDepth 20000 in
theorem my_X4_part : MY yX4_part cX4_part 4 (some .int) 2 := ⟨gw_mem (tb3 139 rfl) rfl, gw_mem (tb1 3 rfl) rfl, by decide +kernel⟩
set_option maxRecDepth 20000 in
theorem mi_X4_part : MI yX4_part := ⟨gw_mem (tb3 138 rfl) rfl, gw_mem (sl3 5 rfl) rfl⟩
set_option maxRecDepth 20000 in
theorem my_X4_placeAt : MY yX4_placeAt cX4_placeAt 2 (some .int) 1 := ⟨gw_mem (tb3 156 rfl) rfl, gw_mem (tb1 3 rfl) rfl, by decide +kernel⟩
set_option maxRecDepth 20000 in
theorem mi_X4_placeAt : MI yX4_placeAt := ⟨gw_mem (tb3 155 rfl) rfl, gw_mem (sl3 8 rfl) rfl⟩
set_option maxRecDepth 20000 in
theorem my_X4_stops : MY yX4_stops cX4_stops 1 (some .int) 0 := ⟨gw_mem (tb3 67 rfl) rfl, gw_mem (tb1 3 rfl) rfl, by decide +kernel⟩
set_option maxRecDepth 20000 in
theorem mi_X4_stops : MI yX4_stops := ⟨gw_mem (tb3 66 rfl) rfl, gw_mem (sl2 14 rfl) rfl⟩
set_option maxRecDepth 20000 in
theorem my_X5_beginWithVan : MY yX5_beginWithVan cX5_beginWithVan 3 none 1 := ⟨gw_mem (tb4 59 rfl) rfl, gw_mem (tb1 6 rfl) rfl, by decide +kernel⟩
set_option maxRecDepth 20000 in
theorem mi_X5_beginWithVan : MI yX5_beginWithVan := ⟨gw_mem (tb4 58 rfl) rfl, gw_mem (sl5 3 rfl) rfl⟩
set_option maxRecDepth 20000 in
theorem my_X5_bit : MY yX5_bit cX5_bit 2 (some .int) 2 := ⟨gw_mem (tb4 90 rfl) rfl, gw_mem (tb1 6 rfl) rfl, by decide +kernel⟩
set_option maxRecDepth 20000 in
theorem ms_X5_bit : Cond.static yX5_bit ∈ gw := gw_mem (tb4 89 rfl) rfl
set_option maxRecDepth 20000 in
theorem my_X5_fill : MY yX5_fill cX5_fill 4 none 1 := ⟨gw_mem (tb4 54 rfl) rfl, gw_mem (tb1 6 rfl) rfl, by decide +kernel⟩
set_option maxRecDepth 20000 in
theorem mi_X5_fill : MI yX5_fill := ⟨gw_mem (tb4 53 rfl) rfl, gw_mem (sl5 2 rfl) rfl⟩
set_option maxRecDepth 20000 in
theorem my_X5_isFlown : MY yX5_isFlown cX5_isFlown 4 (some .boolean) 3 := ⟨gw_mem (tb4 129 rfl) rfl, gw_mem (tb1 6 rfl) rfl, by decide +kernel⟩
set_option maxRecDepth 20000 in
theorem mi_X5_isFlown : MI yX5_isFlown := ⟨gw_mem (tb4 128 rfl) rfl, gw_mem (sl6 1 rfl) rfl⟩
set_option maxRecDepth 20000 in
theorem my_X5_lastEnd : MY yX5_lastEnd cX5_lastEnd 1 (some .int) 0 := ⟨gw_mem (tb4 108 rfl) rfl, gw_mem (tb1 6 rfl) rfl, by decide +kernel⟩
set_option maxRecDepth 20000 in
theorem mi_X5_lastEnd : MI yX5_lastEnd := ⟨gw_mem (tb4 107 rfl) rfl, gw_mem (sl5 13 rfl) rfl⟩
set_option maxRecDepth 20000 in
theorem my_X5_lasts : MY yX5_lasts cX5_lasts 4 (some .boolean) 3 := ⟨gw_mem (tb4 87 rfl) rfl, gw_mem (tb1 6 rfl) rfl, by decide +kernel⟩
set_option maxRecDepth 20000 in
theorem mi_X5_lasts : MI yX5_lasts := ⟨gw_mem (tb4 86 rfl) rfl, gw_mem (sl5 10 rfl) rfl⟩
set_option maxRecDepth 20000 in
theorem my_X5_leg : MY yX5_leg cX5_leg 3 (some .int) 2 := ⟨gw_mem (tb4 63 rfl) rfl, gw_mem (tb1 6 rfl) rfl, by decide +kernel⟩
set_option maxRecDepth 20000 in
theorem mi_X5_leg : MI yX5_leg := ⟨gw_mem (tb4 62 rfl) rfl, gw_mem (sl5 4 rfl) rfl⟩
set_option maxRecDepth 20000 in
theorem my_X5_linkBlocks : MY yX5_linkBlocks cX5_linkBlocks 3 none 0 := ⟨gw_mem (tb4 120 rfl) rfl, gw_mem (tb1 6 rfl) rfl, by decide +kernel⟩
set_option maxRecDepth 20000 in
theorem mi_X5_linkBlocks : MI yX5_linkBlocks := ⟨gw_mem (tb4 119 rfl) rfl, gw_mem (sl5 15 rfl) rfl⟩
set_option maxRecDepth 20000 in
theorem my_X5_nextOrder : MY yX5_nextOrder cX5_nextOrder 5 (some .int) 0 := ⟨gw_mem (tb4 157 rfl) rfl, gw_mem (tb1 6 rfl) rfl, by decide +kernel⟩
set_option maxRecDepth 20000 in
theorem mi_X5_nextOrder : MI yX5_nextOrder := ⟨gw_mem (tb4 156 rfl) rfl, gw_mem (sl6 6 rfl) rfl⟩
set_option maxRecDepth 20000 in
theorem my_X5_offer : MY yX5_offer cX5_offer 7 none 4 := ⟨gw_mem (tb4 94 rfl) rfl, gw_mem (tb1 6 rfl) rfl, by decide +kernel⟩
set_option maxRecDepth 20000 in
theorem mi_X5_offer : MI yX5_offer := ⟨gw_mem (tb4 93 rfl) rfl, gw_mem (sl5 11 rfl) rfl⟩
set_option maxRecDepth 20000 in
theorem my_X5_offerBlocks : MY yX5_offerBlocks cX5_offerBlocks 5 none 2 := ⟨gw_mem (tb4 71 rfl) rfl, gw_mem (tb1 6 rfl) rfl, by decide +kernel⟩
set_option maxRecDepth 20000 in
theorem mi_X5_offerBlocks : MI yX5_offerBlocks := ⟨gw_mem (tb4 70 rfl) rfl, gw_mem (sl5 6 rfl) rfl⟩
set_option maxRecDepth 20000 in
theorem my_X5_offerOne : MY yX5_offerOne cX5_offerOne 7 none 3 := ⟨gw_mem (tb4 75 rfl) rfl, gw_mem (tb1 6 rfl) rfl, by decide +kernel⟩
set_option maxRecDepth 20000 in
theorem mi_X5_offerOne : MI yX5_offerOne := ⟨gw_mem (tb4 74 rfl) rfl, gw_mem (sl5 7 rfl) rfl⟩
set_option maxRecDepth 20000 in
theorem my_X5_offerTwo : MY yX5_offerTwo cX5_offerTwo 11 none 4 := ⟨gw_mem (tb4 104 rfl) rfl, gw_mem (tb1 6 rfl) rfl, by decide +kernel⟩
set_option maxRecDepth 20000 in
theorem mi_X5_offerTwo : MI yX5_offerTwo := ⟨gw_mem (tb4 103 rfl) rfl, gw_mem (sl5 12 rfl) rfl⟩
set_option maxRecDepth 20000 in
theorem my_X5_orderNumber : MY yX5_orderNumber cX5_orderNumber 3 (some .int) 0 := ⟨gw_mem (tb4 149 rfl) rfl, gw_mem (tb1 6 rfl) rfl, by decide +kernel⟩
set_option maxRecDepth 20000 in
theorem mi_X5_orderNumber : MI yX5_orderNumber := ⟨gw_mem (tb4 148 rfl) rfl, gw_mem (sl6 4 rfl) rfl⟩
set_option maxRecDepth 20000 in
theorem my_X5_prepare : MY yX5_prepare cX5_prepare 6 none 3 := ⟨gw_mem (tb4 45 rfl) rfl, gw_mem (tb1 6 rfl) rfl, by decide +kernel⟩
set_option maxRecDepth 20000 in
theorem mi_X5_prepare : MI yX5_prepare := ⟨gw_mem (tb4 44 rfl) rfl, gw_mem (sl5 1 rfl) rfl⟩
set_option maxRecDepth 20000 in
theorem my_X5_readOrder : MY yX5_readOrder cX5_readOrder 6 (some .boolean) 1 := ⟨gw_mem (tb4 36 rfl) rfl, gw_mem (tb1 6 rfl) rfl, by decide +kernel⟩
set_option maxRecDepth 20000 in
theorem mi_X5_readOrder : MI yX5_readOrder := ⟨gw_mem (tb4 35 rfl) rfl, gw_mem (sl4 15 rfl) rfl⟩
set_option maxRecDepth 20000 in
theorem my_X5_search : MY yX5_search cX5_search 4 none 1 := ⟨gw_mem (tb4 143 rfl) rfl, gw_mem (tb1 6 rfl) rfl, by decide +kernel⟩
set_option maxRecDepth 20000 in
theorem mi_X5_search : MI yX5_search := ⟨gw_mem (tb4 142 rfl) rfl, gw_mem (sl6 3 rfl) rfl⟩
set_option maxRecDepth 20000 in
theorem my_X5_soonest : MY yX5_soonest cX5_soonest 3 (some .int) 2 := ⟨gw_mem (tb4 67 rfl) rfl, gw_mem (tb1 6 rfl) rfl, by decide +kernel⟩
set_option maxRecDepth 20000 in
theorem mi_X5_soonest : MI yX5_soonest := ⟨gw_mem (tb4 66 rfl) rfl, gw_mem (sl5 5 rfl) rfl⟩
set_option maxRecDepth 20000 in
theorem my_X5_spared : MY yX5_spared cX5_spared 4 (some .int) 2 := ⟨gw_mem (tb4 79 rfl) rfl, gw_mem (tb1 6 rfl) rfl, by decide +kernel⟩
set_option maxRecDepth 20000 in
theorem mi_X5_spared : MI yX5_spared := ⟨gw_mem (tb4 78 rfl) rfl, gw_mem (sl5 8 rfl) rfl⟩
set_option maxRecDepth 20000 in
theorem my_X5_swap : MY yX5_swap cX5_swap 4 none 2 := ⟨gw_mem (tb4 161 rfl) rfl, gw_mem (tb1 6 rfl) rfl, by decide +kernel⟩
set_option maxRecDepth 20000 in
theorem mi_X5_swap : MI yX5_swap := ⟨gw_mem (tb4 160 rfl) rfl, gw_mem (sl6 7 rfl) rfl⟩
set_option maxRecDepth 20000 in
theorem my_X5_trip : MY yX5_trip cX5_trip 5 (some .int) 3 := ⟨gw_mem (tb4 83 rfl) rfl, gw_mem (tb1 6 rfl) rfl, by decide +kernel⟩
set_option maxRecDepth 20000 in
theorem mi_X5_trip : MI yX5_trip := ⟨gw_mem (tb4 82 rfl) rfl, gw_mem (sl5 9 rfl) rfl⟩
set_option maxRecDepth 20000 in
theorem my_X5_writeBlock : MY yX5_writeBlock cX5_writeBlock 8 none 3 := ⟨gw_mem (tb4 125 rfl) rfl, gw_mem (tb1 6 rfl) rfl, by decide +kernel⟩
set_option maxRecDepth 20000 in
theorem mi_X5_writeBlock : MI yX5_writeBlock := ⟨gw_mem (tb4 124 rfl) rfl, gw_mem (sl6 0 rfl) rfl⟩
set_option maxRecDepth 20000 in
theorem my_X5_writePlan : MY yX5_writePlan cX5_writePlan 3 none 1 := ⟨gw_mem (tb4 116 rfl) rfl, gw_mem (tb1 6 rfl) rfl, by decide +kernel⟩
set_option maxRecDepth 20000 in
theorem mi_X5_writePlan : MI yX5_writePlan := ⟨gw_mem (tb4 115 rfl) rfl, gw_mem (sl5 14 rfl) rfl⟩
set_option maxRecDepth 20000 in
theorem my_X6_append : MY yX6_append cX6_append 3 none 1 := ⟨gw_mem (tb2 74 rfl) rfl, gw_mem (tb1 7 rfl) rfl, by decide +kernel⟩
set_option maxRecDepth 20000 in
theorem mi_X6_append : MI yX6_append := ⟨gw_mem (tb2 73 rfl) rfl, gw_mem (sl1 0 rfl) rfl⟩
set_option maxRecDepth 20000 in
theorem my_X6_byteAt : MY yX6_byteAt cX6_byteAt 2 (some .int) 1 := ⟨gw_mem (tb2 110 rfl) rfl, gw_mem (tb1 7 rfl) rfl, by decide +kernel⟩
set_option maxRecDepth 20000 in
theorem mi_X6_byteAt : MI yX6_byteAt := ⟨gw_mem (tb2 109 rfl) rfl, gw_mem (sl1 6 rfl) rfl⟩
set_option maxRecDepth 20000 in
theorem my_X6_hasBlankAt : MY yX6_hasBlankAt cX6_hasBlankAt 2 (some .boolean) 1 := ⟨gw_mem (tb2 106 rfl) rfl, gw_mem (tb1 7 rfl) rfl, by decide +kernel⟩
set_option maxRecDepth 20000 in
theorem mi_X6_hasBlankAt : MI yX6_hasBlankAt := ⟨gw_mem (tb2 105 rfl) rfl, gw_mem (sl1 5 rfl) rfl⟩
set_option maxRecDepth 20000 in
theorem my_X6_hasDigitAt : MY yX6_hasDigitAt cX6_hasDigitAt 2 (some .boolean) 1 := ⟨gw_mem (tb2 123 rfl) rfl, gw_mem (tb1 7 rfl) rfl, by decide +kernel⟩
set_option maxRecDepth 20000 in
theorem mi_X6_hasDigitAt : MI yX6_hasDigitAt := ⟨gw_mem (tb2 122 rfl) rfl, gw_mem (sl1 9 rfl) rfl⟩
set_option maxRecDepth 20000 in
theorem my_X6_hasLetterAt : MY yX6_hasLetterAt cX6_hasLetterAt 2 (some .boolean) 1 := ⟨gw_mem (tb2 115 rfl) rfl, gw_mem (tb1 7 rfl) rfl, by decide +kernel⟩
set_option maxRecDepth 20000 in
theorem mi_X6_hasLetterAt : MI yX6_hasLetterAt := ⟨gw_mem (tb2 114 rfl) rfl, gw_mem (sl1 7 rfl) rfl⟩
set_option maxRecDepth 20000 in
theorem my_X7_apply : MY yX7_apply cX7_apply 2 none 1 := ⟨gw_mem (tb2 216 rfl) rfl, gw_mem (tb1 8 rfl) rfl, by decide +kernel⟩
set_option maxRecDepth 20000 in
theorem mi_X7_apply : MI yX7_apply := ⟨gw_mem (tb2 215 rfl) rfl, gw_mem (sl2 1 rfl) rfl⟩
set_option maxRecDepth 20000 in
theorem my_X7_applyFacts : MY yX7_applyFacts cX7_applyFacts 3 none 1 := ⟨gw_mem (tb2 220 rfl) rfl, gw_mem (tb1 8 rfl) rfl, by decide +kernel⟩
set_option maxRecDepth 20000 in
theorem mi_X7_applyFacts : MI yX7_applyFacts := ⟨gw_mem (tb2 219 rfl) rfl, gw_mem (sl2 2 rfl) rfl⟩
set_option maxRecDepth 20000 in
theorem my_X7_applyRow : MY yX7_applyRow cX7_applyRow 2 none 0 := ⟨gw_mem (tb3 9 rfl) rfl, gw_mem (tb1 8 rfl) rfl, by decide +kernel⟩
set_option maxRecDepth 20000 in
theorem mi_X7_applyRow : MI yX7_applyRow := ⟨gw_mem (tb3 8 rfl) rfl, gw_mem (sl2 7 rfl) rfl⟩
set_option maxRecDepth 20000 in
theorem my_X7_isWord : MY yX7_isWord cX7_isWord 3 (some .boolean) 1 := ⟨gw_mem (tb2 136 rfl) rfl, gw_mem (tb1 8 rfl) rfl, by decide +kernel⟩
set_option maxRecDepth 20000 in
theorem mi_X7_isWord : MI yX7_isWord := ⟨gw_mem (tb2 135 rfl) rfl, gw_mem (sl1 12 rfl) rfl⟩
set_option maxRecDepth 20000 in
theorem my_X7_least : MY yX7_least cX7_least 2 (some .int) 1 := ⟨gw_mem (tb2 202 rfl) rfl, gw_mem (tb1 8 rfl) rfl, by decide +kernel⟩
set_option maxRecDepth 20000 in
theorem mi_X7_least : MI yX7_least := ⟨gw_mem (tb2 201 rfl) rfl, gw_mem (sl1 15 rfl) rfl⟩
set_option maxRecDepth 20000 in
theorem my_X7_most : MY yX7_most cX7_most 2 (some .int) 1 := ⟨gw_mem (tb2 208 rfl) rfl, gw_mem (tb1 8 rfl) rfl, by decide +kernel⟩
set_option maxRecDepth 20000 in
theorem mi_X7_most : MI yX7_most := ⟨gw_mem (tb2 207 rfl) rfl, gw_mem (sl2 0 rfl) rfl⟩
set_option maxRecDepth 20000 in
theorem my_X7_read : MY yX7_read cX7_read 5 (some .int) 2 := ⟨gw_mem (tb2 86 rfl) rfl, gw_mem (tb1 8 rfl) rfl, by decide +kernel⟩
set_option maxRecDepth 20000 in
theorem mi_X7_read : MI yX7_read := ⟨gw_mem (tb2 85 rfl) rfl, gw_mem (sl1 1 rfl) rfl⟩
set_option maxRecDepth 20000 in
theorem my_X7_readStatement : MY yX7_readStatement cX7_readStatement 3 (some .boolean) 1 := ⟨gw_mem (tb2 192 rfl) rfl, gw_mem (tb1 8 rfl) rfl, by decide +kernel⟩
set_option maxRecDepth 20000 in
theorem mi_X7_readStatement : MI yX7_readStatement := ⟨gw_mem (tb2 191 rfl) rfl, gw_mem (sl1 13 rfl) rfl⟩
set_option maxRecDepth 20000 in
theorem my_X7_refuse : MY yX7_refuse cX7_refuse 2 (some .boolean) 1 := ⟨gw_mem (tb2 196 rfl) rfl, gw_mem (tb1 8 rfl) rfl, by decide +kernel⟩
set_option maxRecDepth 20000 in
theorem mi_X7_refuse : MI yX7_refuse := ⟨gw_mem (tb2 195 rfl) rfl, gw_mem (sl1 14 rfl) rfl⟩
set_option maxRecDepth 20000 in
theorem my_X7_step : MY yX7_step cX7_step 1 none 0 := ⟨gw_mem (tb2 102 rfl) rfl, gw_mem (tb1 8 rfl) rfl, by decide +kernel⟩
set_option maxRecDepth 20000 in
theorem mi_X7_step : MI yX7_step := ⟨gw_mem (tb2 101 rfl) rfl, gw_mem (sl1 4 rfl) rfl⟩
set_option maxRecDepth 20000 in
theorem my_X7_stepInt : MY yX7_stepInt cX7_stepInt 5 none 2 := ⟨gw_mem (tb2 127 rfl) rfl, gw_mem (tb1 8 rfl) rfl, by decide +kernel⟩
set_option maxRecDepth 20000 in
theorem mi_X7_stepInt : MI yX7_stepInt := ⟨gw_mem (tb2 126 rfl) rfl, gw_mem (sl1 10 rfl) rfl⟩
set_option maxRecDepth 20000 in
theorem my_X7_stepWord : MY yX7_stepWord cX7_stepWord 1 none 0 := ⟨gw_mem (tb2 119 rfl) rfl, gw_mem (tb1 8 rfl) rfl, by decide +kernel⟩
set_option maxRecDepth 20000 in
theorem mi_X7_stepWord : MI yX7_stepWord := ⟨gw_mem (tb2 118 rfl) rfl, gw_mem (sl1 8 rfl) rfl⟩
set_option maxRecDepth 20000 in
theorem my_X7_whatIsTold : MY yX7_whatIsTold cX7_whatIsTold 1 (some .int) 0 := ⟨gw_mem (tb2 131 rfl) rfl, gw_mem (tb1 8 rfl) rfl, by decide +kernel⟩
set_option maxRecDepth 20000 in
theorem mi_X7_whatIsTold : MI yX7_whatIsTold := ⟨gw_mem (tb2 130 rfl) rfl, gw_mem (sl1 11 rfl) rfl⟩
set_option maxRecDepth 20000 in
theorem my_X8_bestWind : MY yX8_bestWind cX8_bestWind 5 (some .int) 0 := ⟨gw_mem (tb4 181 rfl) rfl, gw_mem (tb1 1 rfl) rfl, by decide +kernel⟩
set_option maxRecDepth 20000 in
theorem mi_X8_bestWind : MI yX8_bestWind := ⟨gw_mem (tb4 180 rfl) rfl, gw_mem (sl6 9 rfl) rfl⟩
set_option maxRecDepth 20000 in
theorem my_X8_endByWind : MY yX8_endByWind cX8_endByWind 2 (some .int) 1 := ⟨gw_mem (tb4 185 rfl) rfl, gw_mem (tb1 1 rfl) rfl, by decide +kernel⟩
set_option maxRecDepth 20000 in
theorem mi_X8_endByWind : MI yX8_endByWind := ⟨gw_mem (tb4 184 rfl) rfl, gw_mem (sl6 10 rfl) rfl⟩
set_option maxRecDepth 20000 in
theorem my_X8_fillTable : MY yX8_fillTable cX8_fillTable 1 none 0 := ⟨gw_mem (tb4 41 rfl) rfl, gw_mem (tb1 1 rfl) rfl, by decide +kernel⟩
set_option maxRecDepth 20000 in
theorem mi_X8_fillTable : MI yX8_fillTable := ⟨gw_mem (tb4 40 rfl) rfl, gw_mem (sl5 0 rfl) rfl⟩
set_option maxRecDepth 20000 in
theorem my_X8_forgetSearches : MY yX8_forgetSearches cX8_forgetSearches 1 none 0 := ⟨gw_mem (tb3 27 rfl) rfl, gw_mem (tb1 1 rfl) rfl, by decide +kernel⟩
set_option maxRecDepth 20000 in
theorem mi_X8_forgetSearches : MI yX8_forgetSearches := ⟨gw_mem (tb3 26 rfl) rfl, gw_mem (sl2 11 rfl) rfl⟩
set_option maxRecDepth 20000 in
theorem my_X8_searchAlone : MY yX8_searchAlone cX8_searchAlone 1 none 0 := ⟨gw_mem (tb4 173 rfl) rfl, gw_mem (tb1 1 rfl) rfl, by decide +kernel⟩
set_option maxRecDepth 20000 in
theorem mi_X8_searchAlone : MI yX8_searchAlone := ⟨gw_mem (tb4 172 rfl) rfl, gw_mem (sl6 8 rfl) rfl⟩
set_option maxRecDepth 20000 in
theorem my_X8_searchBest : MY yX8_searchBest cX8_searchBest 1 none 0 := ⟨gw_mem (tb4 139 rfl) rfl, gw_mem (tb1 1 rfl) rfl, by decide +kernel⟩
set_option maxRecDepth 20000 in
theorem mi_X8_searchBest : MI yX8_searchBest := ⟨gw_mem (tb4 138 rfl) rfl, gw_mem (sl6 2 rfl) rfl⟩
set_option maxRecDepth 20000 in
theorem my_X9_airOf : MY yX9_airOf cX9_airOf 2 (some .int) 1 := ⟨gw_mem (tb6 98 rfl) rfl, gw_mem (tb1 10 rfl) rfl, by decide +kernel⟩
set_option maxRecDepth 20000 in
theorem mi_X9_airOf : MI yX9_airOf := ⟨gw_mem (tb6 97 rfl) rfl, gw_mem (sl9 1 rfl) rfl⟩
set_option maxRecDepth 20000 in
theorem my_X9_bits : MY yX9_bits cX9_bits 3 (some .int) 1 := ⟨gw_mem (tb6 133 rfl) rfl, gw_mem (tb1 10 rfl) rfl, by decide +kernel⟩
set_option maxRecDepth 20000 in
theorem ms_X9_bits : Cond.static yX9_bits ∈ gw := gw_mem (tb6 132 rfl) rfl
set_option maxRecDepth 20000 in
theorem my_X9_clears : MY yX9_clears cX9_clears 1 none 0 := ⟨gw_mem (tb5 133 rfl) rfl, gw_mem (tb1 10 rfl) rfl, by decide +kernel⟩
set_option maxRecDepth 20000 in
theorem mi_X9_clears : MI yX9_clears := ⟨gw_mem (tb5 132 rfl) rfl, gw_mem (sl6 14 rfl) rfl⟩
set_option maxRecDepth 20000 in
theorem my_X9_crosses : MY yX9_crosses cX9_crosses 3 (some .boolean) 1 := ⟨gw_mem (tb6 66 rfl) rfl, gw_mem (tb1 10 rfl) rfl, by decide +kernel⟩
set_option maxRecDepth 20000 in
theorem mi_X9_crosses : MI yX9_crosses := ⟨gw_mem (tb6 65 rfl) rfl, gw_mem (sl8 9 rfl) rfl⟩
set_option maxRecDepth 20000 in
theorem my_X9_customers : MY yX9_customers cX9_customers 1 (some .int) 0 := ⟨gw_mem (tb5 121 rfl) rfl, gw_mem (tb1 10 rfl) rfl, by decide +kernel⟩
set_option maxRecDepth 20000 in
theorem mi_X9_customers : MI yX9_customers := ⟨gw_mem (tb5 120 rfl) rfl, gw_mem (sl6 12 rfl) rfl⟩
set_option maxRecDepth 20000 in
theorem my_X9_drive : MY yX9_drive cX9_drive 3 (some .int) 2 := ⟨gw_mem (tb5 215 rfl) rfl, gw_mem (tb1 10 rfl) rfl, by decide +kernel⟩
set_option maxRecDepth 20000 in
theorem mi_X9_drive : MI yX9_drive := ⟨gw_mem (tb5 214 rfl) rfl, gw_mem (sl7 9 rfl) rfl⟩
set_option maxRecDepth 20000 in
theorem my_X9_fails : MY yX9_fails cX9_fails 3 none 2 := ⟨gw_mem (tb6 30 rfl) rfl, gw_mem (tb1 10 rfl) rfl, by decide +kernel⟩
set_option maxRecDepth 20000 in
theorem mi_X9_fails : MI yX9_fails := ⟨gw_mem (tb6 29 rfl) rfl, gw_mem (sl8 2 rfl) rfl⟩
set_option maxRecDepth 20000 in
theorem my_X9_flight : MY yX9_flight cX9_flight 7 (some .int) 2 := ⟨gw_mem (tb5 208 rfl) rfl, gw_mem (tb1 10 rfl) rfl, by decide +kernel⟩
set_option maxRecDepth 20000 in
theorem mi_X9_flight : MI yX9_flight := ⟨gw_mem (tb5 207 rfl) rfl, gw_mem (sl7 8 rfl) rfl⟩
set_option maxRecDepth 20000 in
theorem my_X9_goes : MY yX9_goes cX9_goes 5 (some .boolean) 0 := ⟨gw_mem (tb6 70 rfl) rfl, gw_mem (tb1 10 rfl) rfl, by decide +kernel⟩
set_option maxRecDepth 20000 in
theorem mi_X9_goes : MI yX9_goes := ⟨gw_mem (tb6 69 rfl) rfl, gw_mem (sl8 10 rfl) rfl⟩
set_option maxRecDepth 20000 in
theorem my_X9_goesOn : MY yX9_goesOn cX9_goesOn 6 (some .boolean) 0 := ⟨gw_mem (tb6 161 rfl) rfl, gw_mem (tb1 10 rfl) rfl, by decide +kernel⟩
set_option maxRecDepth 20000 in
theorem mi_X9_goesOn : MI yX9_goesOn := ⟨gw_mem (tb6 160 rfl) rfl, gw_mem (sl9 8 rfl) rfl⟩
set_option maxRecDepth 20000 in
theorem my_X9_happens : MY yX9_happens cX9_happens 6 none 4 := ⟨gw_mem (tb6 74 rfl) rfl, gw_mem (tb1 10 rfl) rfl, by decide +kernel⟩
set_option maxRecDepth 20000 in
theorem mi_X9_happens : MI yX9_happens := ⟨gw_mem (tb6 73 rfl) rfl, gw_mem (sl8 11 rfl) rfl⟩
set_option maxRecDepth 20000 in
theorem my_X9_here : MY yX9_here cX9_here 1 (some .int) 0 := ⟨gw_mem (tb6 3 rfl) rfl, gw_mem (tb1 10 rfl) rfl, by decide +kernel⟩
set_option maxRecDepth 20000 in
theorem mi_X9_here : MI yX9_here := ⟨gw_mem (tb6 2 rfl) rfl, gw_mem (sl7 12 rfl) rfl⟩
set_option maxRecDepth 20000 in
theorem my_X9_isAhead : MY yX9_isAhead cX9_isAhead 4 (some .boolean) 2 := ⟨gw_mem (tb6 94 rfl) rfl, gw_mem (tb1 10 rfl) rfl, by decide +kernel⟩
set_option maxRecDepth 20000 in
theorem mi_X9_isAhead : MI yX9_isAhead := ⟨gw_mem (tb6 93 rfl) rfl, gw_mem (sl9 0 rfl) rfl⟩
set_option maxRecDepth 20000 in
theorem my_X9_isCustomer : MY yX9_isCustomer cX9_isCustomer 2 (some .boolean) 1 := ⟨gw_mem (tb5 152 rfl) rfl, gw_mem (tb1 10 rfl) rfl, by decide +kernel⟩
set_option maxRecDepth 20000 in
theorem mi_X9_isCustomer : MI yX9_isCustomer := ⟨gw_mem (tb5 151 rfl) rfl, gw_mem (sl7 0 rfl) rfl⟩
set_option maxRecDepth 20000 in
theorem my_X9_isDigitAt : MY yX9_isDigitAt cX9_isDigitAt 2 (some .boolean) 1 := ⟨gw_mem (tb6 26 rfl) rfl, gw_mem (tb1 10 rfl) rfl, by decide +kernel⟩
set_option maxRecDepth 20000 in
theorem mi_X9_isDigitAt : MI yX9_isDigitAt := ⟨gw_mem (tb6 25 rfl) rfl, gw_mem (sl8 1 rfl) rfl⟩
set_option maxRecDepth 20000 in
theorem my_X9_isIn : MY yX9_isIn cX9_isIn 3 (some .boolean) 3 := ⟨gw_mem (tb5 117 rfl) rfl, gw_mem (tb1 10 rfl) rfl, by decide +kernel⟩
set_option maxRecDepth 20000 in
theorem ms_X9_isIn : Cond.static yX9_isIn ∈ gw := gw_mem (tb5 116 rfl) rfl
set_option maxRecDepth 20000 in
theorem my_X9_isLight : MY yX9_isLight cX9_isLight 2 (some .boolean) 1 := ⟨gw_mem (tb6 62 rfl) rfl, gw_mem (tb1 10 rfl) rfl, by decide +kernel⟩
set_option maxRecDepth 20000 in
theorem mi_X9_isLight : MI yX9_isLight := ⟨gw_mem (tb6 61 rfl) rfl, gw_mem (sl8 8 rfl) rfl⟩
set_option maxRecDepth 20000 in
theorem my_X9_isLightSet : MY yX9_isLightSet cX9_isLightSet 4 (some .boolean) 2 := ⟨gw_mem (tb6 137 rfl) rfl, gw_mem (tb1 10 rfl) rfl, by decide +kernel⟩
set_option maxRecDepth 20000 in
theorem mi_X9_isLightSet : MI yX9_isLightSet := ⟨gw_mem (tb6 136 rfl) rfl, gw_mem (sl9 4 rfl) rfl⟩
set_option maxRecDepth 20000 in
theorem my_X9_isPlace : MY yX9_isPlace cX9_isPlace 2 (some .boolean) 1 := ⟨gw_mem (tb5 196 rfl) rfl, gw_mem (tb1 10 rfl) rfl, by decide +kernel⟩
set_option maxRecDepth 20000 in
theorem mi_X9_isPlace : MI yX9_isPlace := ⟨gw_mem (tb5 195 rfl) rfl, gw_mem (sl7 6 rfl) rfl⟩
set_option maxRecDepth 20000 in
theorem my_X9_lasts : MY yX9_lasts cX9_lasts 12 (some .int) 3 := ⟨gw_mem (tb6 141 rfl) rfl, gw_mem (tb1 10 rfl) rfl, by decide +kernel⟩
set_option maxRecDepth 20000 in
theorem mi_X9_lasts : MI yX9_lasts := ⟨gw_mem (tb6 140 rfl) rfl, gw_mem (sl9 5 rfl) rfl⟩
set_option maxRecDepth 20000 in
theorem my_X9_launches : MY yX9_launches cX9_launches 8 (some .int) 2 := ⟨gw_mem (tb6 86 rfl) rfl, gw_mem (tb1 10 rfl) rfl, by decide +kernel⟩
set_option maxRecDepth 20000 in
theorem mi_X9_launches : MI yX9_launches := ⟨gw_mem (tb6 85 rfl) rfl, gw_mem (sl8 14 rfl) rfl⟩
set_option maxRecDepth 20000 in
theorem my_X9_lays : MY yX9_lays cX9_lays 7 (some .boolean) 1 := ⟨gw_mem (tb6 126 rfl) rfl, gw_mem (tb1 10 rfl) rfl, by decide +kernel⟩
set_option maxRecDepth 20000 in
theorem mi_X9_lays : MI yX9_lays := ⟨gw_mem (tb6 125 rfl) rfl, gw_mem (sl9 2 rfl) rfl⟩
set_option maxRecDepth 20000 in
theorem my_X9_letters : MY yX9_letters cX9_letters 3 (some .int) 3 := ⟨gw_mem (tb6 14 rfl) rfl, gw_mem (tb1 10 rfl) rfl, by decide +kernel⟩
set_option maxRecDepth 20000 in
theorem ms_X9_letters : Cond.static yX9_letters ∈ gw := gw_mem (tb6 13 rfl) rfl
set_option maxRecDepth 20000 in
theorem my_X9_mayBe : MY yX9_mayBe cX9_mayBe 2 (some .boolean) 2 := ⟨gw_mem (tb5 114 rfl) rfl, gw_mem (tb1 10 rfl) rfl, by decide +kernel⟩
set_option maxRecDepth 20000 in
theorem ms_X9_mayBe : Cond.static yX9_mayBe ∈ gw := gw_mem (tb5 113 rfl) rfl
set_option maxRecDepth 20000 in
theorem my_X9_maySend : MY yX9_maySend cX9_maySend 5 (some .boolean) 4 := ⟨gw_mem (tb5 168 rfl) rfl, gw_mem (tb1 10 rfl) rfl, by decide +kernel⟩
set_option maxRecDepth 20000 in
theorem mi_X9_maySend : MI yX9_maySend := ⟨gw_mem (tb5 167 rfl) rfl, gw_mem (sl7 3 rfl) rfl⟩
set_option maxRecDepth 20000 in
theorem my_X9_maySet : MY yX9_maySet cX9_maySet 2 (some .boolean) 2 := ⟨gw_mem (tb5 140 rfl) rfl, gw_mem (tb1 10 rfl) rfl, by decide +kernel⟩
set_option maxRecDepth 20000 in
theorem ms_X9_maySet : Cond.static yX9_maySet ∈ gw := gw_mem (tb5 139 rfl) rfl
set_option maxRecDepth 20000 in
theorem my_X9_more : MY yX9_more cX9_more 7 none 5 := ⟨gw_mem (tb5 125 rfl) rfl, gw_mem (tb1 10 rfl) rfl, by decide +kernel⟩
set_option maxRecDepth 20000 in
theorem mi_X9_more : MI yX9_more := ⟨gw_mem (tb5 124 rfl) rfl, gw_mem (sl6 13 rfl) rfl⟩
set_option maxRecDepth 20000 in
theorem my_X9_nextCaught : MY yX9_nextCaught cX9_nextCaught 5 (some .int) 1 := ⟨gw_mem (tb6 82 rfl) rfl, gw_mem (tb1 10 rfl) rfl, by decide +kernel⟩
set_option maxRecDepth 20000 in
theorem mi_X9_nextCaught : MI yX9_nextCaught := ⟨gw_mem (tb6 81 rfl) rfl, gw_mem (sl8 13 rfl) rfl⟩
set_option maxRecDepth 20000 in
theorem my_X9_number : MY yX9_number cX9_number 5 (some .int) 0 := ⟨gw_mem (tb6 22 rfl) rfl, gw_mem (tb1 10 rfl) rfl, by decide +kernel⟩
set_option maxRecDepth 20000 in
theorem mi_X9_number : MI yX9_number := ⟨gw_mem (tb6 21 rfl) rfl, gw_mem (sl8 0 rfl) rfl⟩
set_option maxRecDepth 20000 in
theorem my_X9_numberIn : MY yX9_numberIn cX9_numberIn 4 (some .int) 2 := ⟨gw_mem (tb6 34 rfl) rfl, gw_mem (tb1 10 rfl) rfl, by decide +kernel⟩
set_option maxRecDepth 20000 in
theorem mi_X9_numberIn : MI yX9_numberIn := ⟨gw_mem (tb6 33 rfl) rfl, gw_mem (sl8 3 rfl) rfl⟩
set_option maxRecDepth 20000 in
theorem my_X9_numberOf : MY yX9_numberOf cX9_numberOf 3 (some .int) 1 := ⟨gw_mem (tb6 18 rfl) rfl, gw_mem (tb1 10 rfl) rfl, by decide +kernel⟩
set_option maxRecDepth 20000 in
theorem mi_X9_numberOf : MI yX9_numberOf := ⟨gw_mem (tb6 17 rfl) rfl, gw_mem (sl7 15 rfl) rfl⟩
set_option maxRecDepth 20000 in
theorem my_X9_of : MY yX9_of cX9_of 2 (some .int) 1 := ⟨gw_mem (tb5 144 rfl) rfl, gw_mem (tb1 10 rfl) rfl, by decide +kernel⟩
set_option maxRecDepth 20000 in
theorem mi_X9_of : MI yX9_of := ⟨gw_mem (tb5 143 rfl) rfl, gw_mem (sl6 15 rfl) rfl⟩
set_option maxRecDepth 20000 in
theorem my_X9_placeOf : MY yX9_placeOf cX9_placeOf 3 (some .int) 2 := ⟨gw_mem (tb5 200 rfl) rfl, gw_mem (tb1 10 rfl) rfl, by decide +kernel⟩
set_option maxRecDepth 20000 in
theorem mi_X9_placeOf : MI yX9_placeOf := ⟨gw_mem (tb5 199 rfl) rfl, gw_mem (sl7 7 rfl) rfl⟩
set_option maxRecDepth 20000 in
theorem my_X9_put : MY yX9_put cX9_put 3 none 1 := ⟨gw_mem (tb5 231 rfl) rfl, gw_mem (tb1 10 rfl) rfl, by decide +kernel⟩
set_option maxRecDepth 20000 in
theorem mi_X9_put : MI yX9_put := ⟨gw_mem (tb5 230 rfl) rfl, gw_mem (sl7 11 rfl) rfl⟩
set_option maxRecDepth 20000 in
theorem my_X9_rowGoesOn : MY yX9_rowGoesOn cX9_rowGoesOn 2 none 0 := ⟨gw_mem (tb6 38 rfl) rfl, gw_mem (tb1 10 rfl) rfl, by decide +kernel⟩
set_option maxRecDepth 20000 in
theorem mi_X9_rowGoesOn : MI yX9_rowGoesOn := ⟨gw_mem (tb6 37 rfl) rfl, gw_mem (sl8 4 rfl) rfl⟩
set_option maxRecDepth 20000 in
theorem my_X9_seeks : MY yX9_seeks cX9_seeks 3 none 1 := ⟨gw_mem (tb6 153 rfl) rfl, gw_mem (tb1 10 rfl) rfl, by decide +kernel⟩
set_option maxRecDepth 20000 in
theorem mi_X9_seeks : MI yX9_seeks := ⟨gw_mem (tb6 152 rfl) rfl, gw_mem (sl9 6 rfl) rfl⟩
set_option maxRecDepth 20000 in
theorem my_X9_sends : MY yX9_sends cX9_sends 6 none 4 := ⟨gw_mem (tb5 176 rfl) rfl, gw_mem (tb1 10 rfl) rfl, by decide +kernel⟩
set_option maxRecDepth 20000 in
theorem mi_X9_sends : MI yX9_sends := ⟨gw_mem (tb5 175 rfl) rfl, gw_mem (sl7 5 rfl) rfl⟩
set_option maxRecDepth 20000 in
theorem my_X9_servedBy : MY yX9_servedBy cX9_servedBy 4 (some .int) 1 := ⟨gw_mem (tb6 54 rfl) rfl, gw_mem (tb1 10 rfl) rfl, by decide +kernel⟩
set_option maxRecDepth 20000 in
theorem mi_X9_servedBy : MI yX9_servedBy := ⟨gw_mem (tb6 53 rfl) rfl, gw_mem (sl8 6 rfl) rfl⟩
set_option maxRecDepth 20000 in
theorem my_X9_service : MY yX9_service cX9_service 2 (some .int) 1 := ⟨gw_mem (tb6 78 rfl) rfl, gw_mem (tb1 10 rfl) rfl, by decide +kernel⟩
set_option maxRecDepth 20000 in
theorem mi_X9_service : MI yX9_service := ⟨gw_mem (tb6 77 rfl) rfl, gw_mem (sl8 12 rfl) rfl⟩
set_option maxRecDepth 20000 in
theorem my_X9_size : MY yX9_size cX9_size 1 (some .int) 1 := ⟨gw_mem (tb5 211 rfl) rfl, gw_mem (tb1 10 rfl) rfl, by decide +kernel⟩
set_option maxRecDepth 20000 in
theorem ms_X9_size : Cond.static yX9_size ∈ gw := gw_mem (tb5 210 rfl) rfl
set_option maxRecDepth 20000 in
theorem my_X9_sortieOf : MY yX9_sortieOf cX9_sortieOf 3 (some .int) 2 := ⟨gw_mem (tb5 223 rfl) rfl, gw_mem (tb1 10 rfl) rfl, by decide +kernel⟩
set_option maxRecDepth 20000 in
theorem mi_X9_sortieOf : MI yX9_sortieOf := ⟨gw_mem (tb5 222 rfl) rfl, gw_mem (sl7 10 rfl) rfl⟩
set_option maxRecDepth 20000 in
theorem my_X9_sorties : MY yX9_sorties cX9_sorties 1 (some .int) 0 := ⟨gw_mem (tb5 172 rfl) rfl, gw_mem (tb1 10 rfl) rfl, by decide +kernel⟩
set_option maxRecDepth 20000 in
theorem mi_X9_sorties : MI yX9_sorties := ⟨gw_mem (tb5 171 rfl) rfl, gw_mem (sl7 4 rfl) rfl⟩
set_option maxRecDepth 20000 in
theorem my_X9_sorts : MY yX9_sorts cX9_sorts 5 none 0 := ⟨gw_mem (tb6 90 rfl) rfl, gw_mem (tb1 10 rfl) rfl, by decide +kernel⟩
set_option maxRecDepth 20000 in
theorem mi_X9_sorts : MI yX9_sorts := ⟨gw_mem (tb6 89 rfl) rfl, gw_mem (sl8 15 rfl) rfl⟩
set_option maxRecDepth 20000 in
theorem my_X9_splitBy : MY yX9_splitBy cX9_splitBy 5 (some .int) 1 := ⟨gw_mem (tb6 181 rfl) rfl, gw_mem (tb1 10 rfl) rfl, by decide +kernel⟩
set_option maxRecDepth 20000 in
theorem mi_X9_splitBy : MI yX9_splitBy := ⟨gw_mem (tb6 180 rfl) rfl, gw_mem (sl9 10 rfl) rfl⟩
set_option maxRecDepth 20000 in
theorem my_X9_splits : MY yX9_splits cX9_splits 10 (some .int) 1 := ⟨gw_mem (tb6 130 rfl) rfl, gw_mem (tb1 10 rfl) rfl, by decide +kernel⟩
set_option maxRecDepth 20000 in
theorem mi_X9_splits : MI yX9_splits := ⟨gw_mem (tb6 129 rfl) rfl, gw_mem (sl9 3 rfl) rfl⟩
set_option maxRecDepth 20000 in
theorem my_X9_statement : MY yX9_statement cX9_statement 7 none 0 := ⟨gw_mem (tb6 7 rfl) rfl, gw_mem (tb1 10 rfl) rfl, by decide +kernel⟩
set_option maxRecDepth 20000 in
theorem mi_X9_statement : MI yX9_statement := ⟨gw_mem (tb6 6 rfl) rfl, gw_mem (sl7 13 rfl) rfl⟩
set_option maxRecDepth 20000 in
theorem my_X9_stopAt : MY yX9_stopAt cX9_stopAt 2 (some .int) 1 := ⟨gw_mem (tb6 58 rfl) rfl, gw_mem (tb1 10 rfl) rfl, by decide +kernel⟩
set_option maxRecDepth 20000 in
theorem mi_X9_stopAt : MI yX9_stopAt := ⟨gw_mem (tb6 57 rfl) rfl, gw_mem (sl8 7 rfl) rfl⟩
set_option maxRecDepth 20000 in
theorem my_X9_stops : MY yX9_stops cX9_stops 1 (some .int) 0 := ⟨gw_mem (tb5 156 rfl) rfl, gw_mem (tb1 10 rfl) rfl, by decide +kernel⟩
set_option maxRecDepth 20000 in
theorem mi_X9_stops : MI yX9_stops := ⟨gw_mem (tb5 155 rfl) rfl, gw_mem (sl7 1 rfl) rfl⟩
set_option maxRecDepth 20000 in
theorem my_X9_stopsAt : MY yX9_stopsAt cX9_stopsAt 2 none 1 := ⟨gw_mem (tb5 160 rfl) rfl, gw_mem (tb1 10 rfl) rfl, by decide +kernel⟩
set_option maxRecDepth 20000 in
theorem mi_X9_stopsAt : MI yX9_stopsAt := ⟨gw_mem (tb5 159 rfl) rfl, gw_mem (sl7 2 rfl) rfl⟩
set_option maxRecDepth 20000 in
theorem my_X9_swaps : MY yX9_swaps cX9_swaps 4 none 2 := ⟨gw_mem (tb6 165 rfl) rfl, gw_mem (tb1 10 rfl) rfl, by decide +kernel⟩
set_option maxRecDepth 20000 in
theorem mi_X9_swaps : MI yX9_swaps := ⟨gw_mem (tb6 164 rfl) rfl, gw_mem (sl9 9 rfl) rfl⟩
set_option maxRecDepth 20000 in
theorem my_X9_told : MY yX9_told cX9_told 3 (some .int) 0 := ⟨gw_mem (tb6 157 rfl) rfl, gw_mem (tb1 10 rfl) rfl, by decide +kernel⟩
set_option maxRecDepth 20000 in
theorem mi_X9_told : MI yX9_told := ⟨gw_mem (tb6 156 rfl) rfl, gw_mem (sl9 7 rfl) rfl⟩
set_option maxRecDepth 20000 in
theorem my_X9_word : MY yX9_word cX9_word 3 (some .int) 0 := ⟨gw_mem (tb6 11 rfl) rfl, gw_mem (tb1 10 rfl) rfl, by decide +kernel⟩
set_option maxRecDepth 20000 in
theorem mi_X9_word : MI yX9_word := ⟨gw_mem (tb6 10 rfl) rfl, gw_mem (sl7 14 rfl) rfl⟩
set_option maxRecDepth 20000 in
theorem my_X9_wrongPlan : MY yX9_wrongPlan cX9_wrongPlan 2 (some .int) 0 := ⟨gw_mem (tb6 50 rfl) rfl, gw_mem (tb1 10 rfl) rfl, by decide +kernel⟩
set_option maxRecDepth 20000 in
theorem mi_X9_wrongPlan : MI yX9_wrongPlan := ⟨gw_mem (tb6 49 rfl) rfl, gw_mem (sl8 5 rfl) rfl⟩
