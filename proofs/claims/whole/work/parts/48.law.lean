set_option maxRecDepth 20000 in
theorem lk_19 : Cond.methodLink RL 19 yX8_feed ∈ gw := gw_mem (tb2 67 rfl) rfl
set_option maxRecDepth 20000 in
theorem lmy_X8_feed : MY yX8_feed cX8_feed 6 (some .int) 5 := ⟨gw_mem (tb2 70 rfl) rfl, gw_mem (tb1 1 rfl) rfl, by decide +kernel⟩
set_option maxRecDepth 20000 in
theorem lmi_X8_feed : MI yX8_feed := ⟨gw_mem (tb2 68 rfl) rfl, gw_mem (tb2 69 rfl) rfl⟩
set_option maxRecDepth 20000 in
theorem lk_23 : Cond.methodLink RL 23 yX9_feed ∈ gw := gw_mem (tb5 224 rfl) rfl
set_option maxRecDepth 20000 in
theorem lmy_X9_feed : MY yX9_feed cX9_feed 6 (some .int) 5 := ⟨gw_mem (tb5 227 rfl) rfl, gw_mem (tb1 10 rfl) rfl, by decide +kernel⟩
set_option maxRecDepth 20000 in
theorem lmi_X9_feed : MI yX9_feed := ⟨gw_mem (tb5 225 rfl) rfl, gw_mem (tb5 226 rfl) rfl⟩
set_option maxRecDepth 20000 in
theorem lk_24 : Cond.methodLink RL 24 yX8_end ∈ gw := gw_mem (tb2 75 rfl) rfl
set_option maxRecDepth 20000 in
theorem lmy_X8_end : MY yX8_end cX8_end 2 (some .boolean) 1 := ⟨gw_mem (tb2 78 rfl) rfl, gw_mem (tb1 1 rfl) rfl, by decide +kernel⟩
set_option maxRecDepth 20000 in
theorem lmi_X8_end : MI yX8_end := ⟨gw_mem (tb2 76 rfl) rfl, gw_mem (tb2 77 rfl) rfl⟩
set_option maxRecDepth 20000 in
theorem lk_28 : Cond.methodLink RL 28 yX9_end ∈ gw := gw_mem (tb5 232 rfl) rfl
set_option maxRecDepth 20000 in
theorem lmy_X9_end : MY yX9_end cX9_end 2 (some .boolean) 1 := ⟨gw_mem (tb5 235 rfl) rfl, gw_mem (tb1 10 rfl) rfl, by decide +kernel⟩
set_option maxRecDepth 20000 in
theorem lmi_X9_end : MI yX9_end := ⟨gw_mem (tb5 233 rfl) rfl, gw_mem (tb5 234 rfl) rfl⟩
set_option maxRecDepth 20000 in
theorem lk_29 : Cond.methodLink RL 29 yX8_tell ∈ gw := gw_mem (tb2 79 rfl) rfl
set_option maxRecDepth 20000 in
theorem lmy_X8_tell : MY yX8_tell cX8_tell 2 (some .int) 0 := ⟨gw_mem (tb2 82 rfl) rfl, gw_mem (tb1 1 rfl) rfl, by decide +kernel⟩
set_option maxRecDepth 20000 in
theorem lmi_X8_tell : MI yX8_tell := ⟨gw_mem (tb2 80 rfl) rfl, gw_mem (tb2 81 rfl) rfl⟩
set_option maxRecDepth 20000 in
theorem lk_33 : Cond.methodLink RL 33 yX9_tell ∈ gw := gw_mem (tb5 236 rfl) rfl
set_option maxRecDepth 20000 in
theorem lmy_X9_tell : MY yX9_tell cX9_tell 3 (some .int) 0 := ⟨gw_mem (tb5 239 rfl) rfl, gw_mem (tb1 10 rfl) rfl, by decide +kernel⟩
set_option maxRecDepth 20000 in
theorem lmi_X9_tell : MI yX9_tell := ⟨gw_mem (tb5 237 rfl) rfl, gw_mem (tb5 238 rfl) rfl⟩
set_option maxRecDepth 20000 in
theorem lk_34 : Cond.methodLink RL 34 yX8_fault ∈ gw := gw_mem (tb3 29 rfl) rfl
set_option maxRecDepth 20000 in
theorem lmy_X8_fault : MY yX8_fault cX8_fault 1 (some .int) 0 := ⟨gw_mem (tb3 32 rfl) rfl, gw_mem (tb1 1 rfl) rfl, by decide +kernel⟩
set_option maxRecDepth 20000 in
theorem lmi_X8_fault : MI yX8_fault := ⟨gw_mem (tb3 30 rfl) rfl, gw_mem (tb3 31 rfl) rfl⟩
set_option maxRecDepth 20000 in
theorem lk_37 : Cond.methodLink RL 37 yX9_fault ∈ gw := gw_mem (tb6 39 rfl) rfl
set_option maxRecDepth 20000 in
theorem lmy_X9_fault : MY yX9_fault cX9_fault 1 (some .int) 0 := ⟨gw_mem (tb6 42 rfl) rfl, gw_mem (tb1 10 rfl) rfl, by decide +kernel⟩
set_option maxRecDepth 20000 in
theorem lmi_X9_fault : MI yX9_fault := ⟨gw_mem (tb6 40 rfl) rfl, gw_mem (tb6 41 rfl) rfl⟩
set_option maxRecDepth 20000 in
theorem lk_38 : Cond.methodLink RL 38 yX8_customer ∈ gw := gw_mem (tb3 33 rfl) rfl
set_option maxRecDepth 20000 in
theorem lmy_X8_customer : MY yX8_customer cX8_customer 6 (some .int) 5 := ⟨gw_mem (tb3 36 rfl) rfl, gw_mem (tb1 1 rfl) rfl, by decide +kernel⟩
set_option maxRecDepth 20000 in
theorem lmi_X8_customer : MI yX8_customer := ⟨gw_mem (tb3 34 rfl) rfl, gw_mem (tb3 35 rfl) rfl⟩
set_option maxRecDepth 20000 in
theorem lk_41 : Cond.methodLink RL 41 yX9_customer ∈ gw := gw_mem (tb5 108 rfl) rfl
set_option maxRecDepth 20000 in
theorem lmy_X9_customer : MY yX9_customer cX9_customer 6 (some .int) 5 := ⟨gw_mem (tb5 111 rfl) rfl, gw_mem (tb1 10 rfl) rfl, by decide +kernel⟩
set_option maxRecDepth 20000 in
theorem lmi_X9_customer : MI yX9_customer := ⟨gw_mem (tb5 109 rfl) rfl, gw_mem (tb5 110 rfl) rfl⟩
set_option maxRecDepth 20000 in
theorem lk_42 : Cond.methodLink RL 42 yX8_drop ∈ gw := gw_mem (tb3 40 rfl) rfl
set_option maxRecDepth 20000 in
theorem lmy_X8_drop : MY yX8_drop cX8_drop 1 (some .int) 0 := ⟨gw_mem (tb3 43 rfl) rfl, gw_mem (tb1 1 rfl) rfl, by decide +kernel⟩
set_option maxRecDepth 20000 in
theorem lmi_X8_drop : MI yX8_drop := ⟨gw_mem (tb3 41 rfl) rfl, gw_mem (tb3 42 rfl) rfl⟩
set_option maxRecDepth 20000 in
theorem lk_45 : Cond.methodLink RL 45 yX9_drop ∈ gw := gw_mem (tb5 126 rfl) rfl
set_option maxRecDepth 20000 in
theorem lmy_X9_drop : MY yX9_drop cX9_drop 1 (some .int) 0 := ⟨gw_mem (tb5 129 rfl) rfl, gw_mem (tb1 10 rfl) rfl, by decide +kernel⟩
set_option maxRecDepth 20000 in
theorem lmi_X9_drop : MI yX9_drop := ⟨gw_mem (tb5 127 rfl) rfl, gw_mem (tb5 128 rfl) rfl⟩
set_option maxRecDepth 20000 in
theorem lk_46 : Cond.methodLink RL 46 yX8_set ∈ gw := gw_mem (tb3 45 rfl) rfl
set_option maxRecDepth 20000 in
theorem lmy_X8_set : MY yX8_set cX8_set 3 (some .boolean) 2 := ⟨gw_mem (tb3 48 rfl) rfl, gw_mem (tb1 1 rfl) rfl, by decide +kernel⟩
set_option maxRecDepth 20000 in
theorem lmi_X8_set : MI yX8_set := ⟨gw_mem (tb3 46 rfl) rfl, gw_mem (tb3 47 rfl) rfl⟩
set_option maxRecDepth 20000 in
theorem lk_50 : Cond.methodLink RL 50 yX9_set ∈ gw := gw_mem (tb5 134 rfl) rfl
set_option maxRecDepth 20000 in
theorem lmy_X9_set : MY yX9_set cX9_set 3 (some .boolean) 2 := ⟨gw_mem (tb5 137 rfl) rfl, gw_mem (tb1 10 rfl) rfl, by decide +kernel⟩
set_option maxRecDepth 20000 in
theorem lmi_X9_set : MI yX9_set := ⟨gw_mem (tb5 135 rfl) rfl, gw_mem (tb5 136 rfl) rfl⟩
set_option maxRecDepth 20000 in
theorem lk_51 : Cond.methodLink RL 51 yX8_go ∈ gw := gw_mem (tb3 55 rfl) rfl
set_option maxRecDepth 20000 in
theorem lmy_X8_go : MY yX8_go cX8_go 2 (some .int) 1 := ⟨gw_mem (tb3 58 rfl) rfl, gw_mem (tb1 1 rfl) rfl, by decide +kernel⟩
set_option maxRecDepth 20000 in
theorem lmi_X8_go : MI yX8_go := ⟨gw_mem (tb3 56 rfl) rfl, gw_mem (tb3 57 rfl) rfl⟩
set_option maxRecDepth 20000 in
theorem lk_55 : Cond.methodLink RL 55 yX9_go ∈ gw := gw_mem (tb5 145 rfl) rfl
set_option maxRecDepth 20000 in
theorem lmy_X9_go : MY yX9_go cX9_go 2 (some .int) 1 := ⟨gw_mem (tb5 148 rfl) rfl, gw_mem (tb1 10 rfl) rfl, by decide +kernel⟩
set_option maxRecDepth 20000 in
theorem lmi_X9_go : MI yX9_go := ⟨gw_mem (tb5 146 rfl) rfl, gw_mem (tb5 147 rfl) rfl⟩
set_option maxRecDepth 20000 in
theorem lk_56 : Cond.methodLink RL 56 yX8_fly ∈ gw := gw_mem (tb3 68 rfl) rfl
set_option maxRecDepth 20000 in
theorem lmy_X8_fly : MY yX8_fly cX8_fly 5 (some .int) 4 := ⟨gw_mem (tb3 71 rfl) rfl, gw_mem (tb1 1 rfl) rfl, by decide +kernel⟩
set_option maxRecDepth 20000 in
theorem lmi_X8_fly : MI yX8_fly := ⟨gw_mem (tb3 69 rfl) rfl, gw_mem (tb3 70 rfl) rfl⟩
set_option maxRecDepth 20000 in
theorem lk_60 : Cond.methodLink RL 60 yX9_fly ∈ gw := gw_mem (tb5 161 rfl) rfl
set_option maxRecDepth 20000 in
theorem lmy_X9_fly : MY yX9_fly cX9_fly 5 (some .int) 4 := ⟨gw_mem (tb5 164 rfl) rfl, gw_mem (tb1 10 rfl) rfl, by decide +kernel⟩
set_option maxRecDepth 20000 in
theorem lmi_X9_fly : MI yX9_fly := ⟨gw_mem (tb5 162 rfl) rfl, gw_mem (tb5 163 rfl) rfl⟩
set_option maxRecDepth 20000 in
theorem lk_61 : Cond.methodLink RL 61 yX8_undo ∈ gw := gw_mem (tb3 79 rfl) rfl
set_option maxRecDepth 20000 in
theorem lmy_X8_undo : MY yX8_undo cX8_undo 2 (some .int) 1 := ⟨gw_mem (tb3 82 rfl) rfl, gw_mem (tb1 1 rfl) rfl, by decide +kernel⟩
set_option maxRecDepth 20000 in
theorem lmi_X8_undo : MI yX8_undo := ⟨gw_mem (tb3 80 rfl) rfl, gw_mem (tb3 81 rfl) rfl⟩
set_option maxRecDepth 20000 in
theorem lk_65 : Cond.methodLink RL 65 yX9_undo ∈ gw := gw_mem (tb5 177 rfl) rfl
set_option maxRecDepth 20000 in
theorem lmy_X9_undo : MY yX9_undo cX9_undo 3 (some .int) 1 := ⟨gw_mem (tb5 180 rfl) rfl, gw_mem (tb1 10 rfl) rfl, by decide +kernel⟩
set_option maxRecDepth 20000 in
theorem lmi_X9_undo : MI yX9_undo := ⟨gw_mem (tb5 178 rfl) rfl, gw_mem (tb5 179 rfl) rfl⟩
set_option maxRecDepth 20000 in
theorem lk_66 : Cond.methodLink RL 66 yX8_clear ∈ gw := gw_mem (tb3 83 rfl) rfl
set_option maxRecDepth 20000 in
theorem lmy_X8_clear : MY yX8_clear cX8_clear 1 none 0 := ⟨gw_mem (tb3 86 rfl) rfl, gw_mem (tb1 1 rfl) rfl, by decide +kernel⟩
set_option maxRecDepth 20000 in
theorem lmi_X8_clear : MI yX8_clear := ⟨gw_mem (tb3 84 rfl) rfl, gw_mem (tb3 85 rfl) rfl⟩
set_option maxRecDepth 20000 in
theorem lk_69 : Cond.methodLink RL 69 yX9_clear ∈ gw := gw_mem (tb5 181 rfl) rfl
set_option maxRecDepth 20000 in
theorem lmy_X9_clear : MY yX9_clear cX9_clear 1 none 0 := ⟨gw_mem (tb5 184 rfl) rfl, gw_mem (tb1 10 rfl) rfl, by decide +kernel⟩
set_option maxRecDepth 20000 in
theorem lmi_X9_clear : MI yX9_clear := ⟨gw_mem (tb5 182 rfl) rfl, gw_mem (tb5 183 rfl) rfl⟩
set_option maxRecDepth 20000 in
theorem lk_70 : Cond.methodLink RL 70 yX8_count ∈ gw := gw_mem (tb3 87 rfl) rfl
set_option maxRecDepth 20000 in
theorem lmy_X8_count : MY yX8_count cX8_count 2 (some .int) 1 := ⟨gw_mem (tb3 90 rfl) rfl, gw_mem (tb1 1 rfl) rfl, by decide +kernel⟩
set_option maxRecDepth 20000 in
theorem lmi_X8_count : MI yX8_count := ⟨gw_mem (tb3 88 rfl) rfl, gw_mem (tb3 89 rfl) rfl⟩
set_option maxRecDepth 20000 in
theorem lk_73 : Cond.methodLink RL 73 yX9_count ∈ gw := gw_mem (tb5 185 rfl) rfl
set_option maxRecDepth 20000 in
theorem lmy_X9_count : MY yX9_count cX9_count 2 (some .int) 1 := ⟨gw_mem (tb5 188 rfl) rfl, gw_mem (tb1 10 rfl) rfl, by decide +kernel⟩
set_option maxRecDepth 20000 in
theorem lmi_X9_count : MI yX9_count := ⟨gw_mem (tb5 186 rfl) rfl, gw_mem (tb5 187 rfl) rfl⟩
set_option maxRecDepth 20000 in
theorem lk_74 : Cond.methodLink RL 74 yX8_place ∈ gw := gw_mem (tb3 91 rfl) rfl
set_option maxRecDepth 20000 in
theorem lmy_X8_place : MY yX8_place cX8_place 3 (some .int) 2 := ⟨gw_mem (tb3 94 rfl) rfl, gw_mem (tb1 1 rfl) rfl, by decide +kernel⟩
set_option maxRecDepth 20000 in
theorem lmi_X8_place : MI yX8_place := ⟨gw_mem (tb3 92 rfl) rfl, gw_mem (tb3 93 rfl) rfl⟩
set_option maxRecDepth 20000 in
theorem lk_77 : Cond.methodLink RL 77 yX9_place ∈ gw := gw_mem (tb5 189 rfl) rfl
set_option maxRecDepth 20000 in
theorem lmy_X9_place : MY yX9_place cX9_place 3 (some .int) 2 := ⟨gw_mem (tb5 192 rfl) rfl, gw_mem (tb1 10 rfl) rfl, by decide +kernel⟩
set_option maxRecDepth 20000 in
theorem lmi_X9_place : MI yX9_place := ⟨gw_mem (tb5 190 rfl) rfl, gw_mem (tb5 191 rfl) rfl⟩
set_option maxRecDepth 20000 in
theorem lk_78 : Cond.methodLink RL 78 yX8_way ∈ gw := gw_mem (tb3 99 rfl) rfl
set_option maxRecDepth 20000 in
theorem lmy_X8_way : MY yX8_way cX8_way 4 (some .int) 3 := ⟨gw_mem (tb3 102 rfl) rfl, gw_mem (tb1 1 rfl) rfl, by decide +kernel⟩
set_option maxRecDepth 20000 in
theorem lmi_X8_way : MI yX8_way := ⟨gw_mem (tb3 100 rfl) rfl, gw_mem (tb3 101 rfl) rfl⟩
set_option maxRecDepth 20000 in
theorem lk_82 : Cond.methodLink RL 82 yX9_way ∈ gw := gw_mem (tb5 201 rfl) rfl
set_option maxRecDepth 20000 in
theorem lmy_X9_way : MY yX9_way cX9_way 4 (some .int) 3 := ⟨gw_mem (tb5 204 rfl) rfl, gw_mem (tb1 10 rfl) rfl, by decide +kernel⟩
set_option maxRecDepth 20000 in
theorem lmi_X9_way : MI yX9_way := ⟨gw_mem (tb5 202 rfl) rfl, gw_mem (tb5 203 rfl) rfl⟩
set_option maxRecDepth 20000 in
theorem lk_83 : Cond.methodLink RL 83 yL_sortie ∈ gw := gw_mem (tb4 186 rfl) rfl
set_option maxRecDepth 20000 in
theorem lk_88 : Cond.methodLink RL 88 yX9_sortie ∈ gw := gw_mem (tb5 216 rfl) rfl
set_option maxRecDepth 20000 in
theorem lmy_X9_sortie : MY yX9_sortie cX9_sortie 3 (some .int) 2 := ⟨gw_mem (tb5 219 rfl) rfl, gw_mem (tb1 10 rfl) rfl, by decide +kernel⟩
set_option maxRecDepth 20000 in
theorem lmi_X9_sortie : MI yX9_sortie := ⟨gw_mem (tb5 217 rfl) rfl, gw_mem (tb5 218 rfl) rfl⟩
set_option maxRecDepth 20000 in
theorem lk_89 : Cond.methodLink RL 89 yX9_thrown ∈ gw := gw_mem (tb5 104 rfl) rfl
set_option maxRecDepth 20000 in
theorem lmy_X9_thrown : MY yX9_thrown cX9_thrown 1 (some .int) 0 := ⟨gw_mem (tb5 107 rfl) rfl, gw_mem (tb1 10 rfl) rfl, by decide +kernel⟩
set_option maxRecDepth 20000 in
theorem lmi_X9_thrown : MI yX9_thrown := ⟨gw_mem (tb5 105 rfl) rfl, gw_mem (tb5 106 rfl) rfl⟩
set_option maxRecDepth 20000 in
theorem lk_92 : Cond.methodLink RL 92 yX8_wrong ∈ gw := gw_mem (tb3 120 rfl) rfl
set_option maxRecDepth 20000 in
theorem lmy_X8_wrong : MY yX8_wrong cX8_wrong 1 (some .int) 0 := ⟨gw_mem (tb3 123 rfl) rfl, gw_mem (tb1 1 rfl) rfl, by decide +kernel⟩
set_option maxRecDepth 20000 in
theorem lmi_X8_wrong : MI yX8_wrong := ⟨gw_mem (tb3 121 rfl) rfl, gw_mem (tb3 122 rfl) rfl⟩
set_option maxRecDepth 20000 in
theorem lk_95 : Cond.methodLink RL 95 yX9_wrong ∈ gw := gw_mem (tb6 43 rfl) rfl
set_option maxRecDepth 20000 in
theorem lmy_X9_wrong : MY yX9_wrong cX9_wrong 3 (some .int) 0 := ⟨gw_mem (tb6 46 rfl) rfl, gw_mem (tb1 10 rfl) rfl, by decide +kernel⟩
set_option maxRecDepth 20000 in
theorem lmi_X9_wrong : MI yX9_wrong := ⟨gw_mem (tb6 44 rfl) rfl, gw_mem (tb6 45 rfl) rfl⟩
set_option maxRecDepth 20000 in
theorem lk_96 : Cond.methodLink RL 96 yX8_ends ∈ gw := gw_mem (tb3 217 rfl) rfl
set_option maxRecDepth 20000 in
theorem lmy_X8_ends : MY yX8_ends cX8_ends 1 (some .int) 0 := ⟨gw_mem (tb3 220 rfl) rfl, gw_mem (tb1 1 rfl) rfl, by decide +kernel⟩
set_option maxRecDepth 20000 in
theorem lmi_X8_ends : MI yX8_ends := ⟨gw_mem (tb3 218 rfl) rfl, gw_mem (tb3 219 rfl) rfl⟩
set_option maxRecDepth 20000 in
theorem lk_99 : Cond.methodLink RL 99 yX9_ends ∈ gw := gw_mem (tb6 99 rfl) rfl
set_option maxRecDepth 20000 in
theorem lmy_X9_ends : MY yX9_ends cX9_ends 1 (some .int) 0 := ⟨gw_mem (tb6 102 rfl) rfl, gw_mem (tb1 10 rfl) rfl, by decide +kernel⟩
set_option maxRecDepth 20000 in
theorem lmi_X9_ends : MI yX9_ends := ⟨gw_mem (tb6 100 rfl) rfl, gw_mem (tb6 101 rfl) rfl⟩
set_option maxRecDepth 20000 in
theorem lk_100 : Cond.methodLink RL 100 yX8_stop ∈ gw := gw_mem (tb3 225 rfl) rfl
set_option maxRecDepth 20000 in
theorem lmy_X8_stop : MY yX8_stop cX8_stop 3 (some .int) 2 := ⟨gw_mem (tb3 228 rfl) rfl, gw_mem (tb1 1 rfl) rfl, by decide +kernel⟩
set_option maxRecDepth 20000 in
theorem lmi_X8_stop : MI yX8_stop := ⟨gw_mem (tb3 226 rfl) rfl, gw_mem (tb3 227 rfl) rfl⟩
set_option maxRecDepth 20000 in
theorem lk_103 : Cond.methodLink RL 103 yX9_stop ∈ gw := gw_mem (tb6 103 rfl) rfl
set_option maxRecDepth 20000 in
theorem lmy_X9_stop : MY yX9_stop cX9_stop 3 (some .int) 2 := ⟨gw_mem (tb6 106 rfl) rfl, gw_mem (tb1 10 rfl) rfl, by decide +kernel⟩
set_option maxRecDepth 20000 in
theorem lmi_X9_stop : MI yX9_stop := ⟨gw_mem (tb6 104 rfl) rfl, gw_mem (tb6 105 rfl) rfl⟩
set_option maxRecDepth 20000 in
theorem lk_104 : Cond.methodLink RL 104 yX8_flown ∈ gw := gw_mem (tb3 233 rfl) rfl
set_option maxRecDepth 20000 in
theorem lmy_X8_flown : MY yX8_flown cX8_flown 3 (some .int) 2 := ⟨gw_mem (tb3 236 rfl) rfl, gw_mem (tb1 1 rfl) rfl, by decide +kernel⟩
set_option maxRecDepth 20000 in
theorem lmi_X8_flown : MI yX8_flown := ⟨gw_mem (tb3 234 rfl) rfl, gw_mem (tb3 235 rfl) rfl⟩
set_option maxRecDepth 20000 in
theorem lk_107 : Cond.methodLink RL 107 yX9_flown ∈ gw := gw_mem (tb6 107 rfl) rfl
set_option maxRecDepth 20000 in
theorem lmy_X9_flown : MY yX9_flown cX9_flown 3 (some .int) 2 := ⟨gw_mem (tb6 110 rfl) rfl, gw_mem (tb1 10 rfl) rfl, by decide +kernel⟩
set_option maxRecDepth 20000 in
theorem lmi_X9_flown : MI yX9_flown := ⟨gw_mem (tb6 108 rfl) rfl, gw_mem (tb6 109 rfl) rfl⟩
set_option maxRecDepth 20000 in
theorem lk_108 : Cond.methodLink RL 108 yX8_event ∈ gw := gw_mem (tb4 5 rfl) rfl
set_option maxRecDepth 20000 in
theorem lmy_X8_event : MY yX8_event cX8_event 3 (some .int) 2 := ⟨gw_mem (tb4 8 rfl) rfl, gw_mem (tb1 1 rfl) rfl, by decide +kernel⟩
set_option maxRecDepth 20000 in
theorem lmi_X8_event : MI yX8_event := ⟨gw_mem (tb4 6 rfl) rfl, gw_mem (tb4 7 rfl) rfl⟩
set_option maxRecDepth 20000 in
theorem lk_111 : Cond.methodLink RL 111 yX9_event ∈ gw := gw_mem (tb6 111 rfl) rfl
set_option maxRecDepth 20000 in
theorem lmy_X9_event : MY yX9_event cX9_event 3 (some .int) 2 := ⟨gw_mem (tb6 114 rfl) rfl, gw_mem (tb1 10 rfl) rfl, by decide +kernel⟩
set_option maxRecDepth 20000 in
theorem lmi_X9_event : MI yX9_event := ⟨gw_mem (tb6 112 rfl) rfl, gw_mem (tb6 113 rfl) rfl⟩
set_option maxRecDepth 20000 in
theorem lk_112 : Cond.methodLink RL 112 yX8_sum ∈ gw := gw_mem (tb4 13 rfl) rfl
set_option maxRecDepth 20000 in
theorem lmy_X8_sum : MY yX8_sum cX8_sum 2 (some .int) 1 := ⟨gw_mem (tb4 16 rfl) rfl, gw_mem (tb1 1 rfl) rfl, by decide +kernel⟩
set_option maxRecDepth 20000 in
theorem lmi_X8_sum : MI yX8_sum := ⟨gw_mem (tb4 14 rfl) rfl, gw_mem (tb4 15 rfl) rfl⟩
set_option maxRecDepth 20000 in
theorem lk_115 : Cond.methodLink RL 115 yX9_sum ∈ gw := gw_mem (tb6 115 rfl) rfl
set_option maxRecDepth 20000 in
theorem lmy_X9_sum : MY yX9_sum cX9_sum 4 (some .int) 1 := ⟨gw_mem (tb6 118 rfl) rfl, gw_mem (tb1 10 rfl) rfl, by decide +kernel⟩
set_option maxRecDepth 20000 in
theorem lmi_X9_sum : MI yX9_sum := ⟨gw_mem (tb6 116 rfl) rfl, gw_mem (tb6 117 rfl) rfl⟩
set_option maxRecDepth 20000 in
theorem lk_116 : Cond.methodLink RL 116 yX8_split ∈ gw := gw_mem (tb4 29 rfl) rfl
set_option maxRecDepth 20000 in
theorem lmy_X8_split : MY yX8_split cX8_split 2 (some .int) 1 := ⟨gw_mem (tb4 32 rfl) rfl, gw_mem (tb1 1 rfl) rfl, by decide +kernel⟩
set_option maxRecDepth 20000 in
theorem lmi_X8_split : MI yX8_split := ⟨gw_mem (tb4 30 rfl) rfl, gw_mem (tb4 31 rfl) rfl⟩
set_option maxRecDepth 20000 in
theorem lk_119 : Cond.methodLink RL 119 yX9_split ∈ gw := gw_mem (tb6 119 rfl) rfl
set_option maxRecDepth 20000 in
theorem lmy_X9_split : MY yX9_split cX9_split 2 (some .int) 1 := ⟨gw_mem (tb6 122 rfl) rfl, gw_mem (tb1 10 rfl) rfl, by decide +kernel⟩
set_option maxRecDepth 20000 in
theorem lmi_X9_split : MI yX9_split := ⟨gw_mem (tb6 120 rfl) rfl, gw_mem (tb6 121 rfl) rfl⟩
set_option maxRecDepth 20000 in
theorem lk_120 : Cond.methodLink RL 120 yX8_take ∈ gw := gw_mem (tb4 109 rfl) rfl
set_option maxRecDepth 20000 in
theorem lmy_X8_take : MY yX8_take cX8_take 2 (some .int) 1 := ⟨gw_mem (tb4 112 rfl) rfl, gw_mem (tb1 1 rfl) rfl, by decide +kernel⟩
set_option maxRecDepth 20000 in
theorem lmi_X8_take : MI yX8_take := ⟨gw_mem (tb4 110 rfl) rfl, gw_mem (tb4 111 rfl) rfl⟩
set_option maxRecDepth 20000 in
theorem lk_123 : Cond.methodLink RL 123 yX9_take ∈ gw := gw_mem (tb6 142 rfl) rfl
set_option maxRecDepth 20000 in
theorem lmy_X9_take : MY yX9_take cX9_take 10 (some .int) 1 := ⟨gw_mem (tb6 145 rfl) rfl, gw_mem (tb1 10 rfl) rfl, by decide +kernel⟩
set_option maxRecDepth 20000 in
theorem lmi_X9_take : MI yX9_take := ⟨gw_mem (tb6 143 rfl) rfl, gw_mem (tb6 144 rfl) rfl⟩
set_option maxRecDepth 20000 in
theorem lk_124 : Cond.methodLink RL 124 yX8_best ∈ gw := gw_mem (tb4 132 rfl) rfl
set_option maxRecDepth 20000 in
theorem lmy_X8_best : MY yX8_best cX8_best 1 (some .int) 0 := ⟨gw_mem (tb4 135 rfl) rfl, gw_mem (tb1 1 rfl) rfl, by decide +kernel⟩
set_option maxRecDepth 20000 in
theorem lmi_X8_best : MI yX8_best := ⟨gw_mem (tb4 133 rfl) rfl, gw_mem (tb4 134 rfl) rfl⟩
set_option maxRecDepth 20000 in
theorem lk_127 : Cond.methodLink RL 127 yX9_best ∈ gw := gw_mem (tb6 146 rfl) rfl
set_option maxRecDepth 20000 in
theorem lmy_X9_best : MY yX9_best cX9_best 1 (some .int) 0 := ⟨gw_mem (tb6 149 rfl) rfl, gw_mem (tb1 10 rfl) rfl, by decide +kernel⟩
set_option maxRecDepth 20000 in
theorem lmi_X9_best : MI yX9_best := ⟨gw_mem (tb6 147 rfl) rfl, gw_mem (tb6 148 rfl) rfl⟩
set_option maxRecDepth 20000 in
theorem lk_128 : Cond.methodLink RL 128 yX8_bestOrder ∈ gw := gw_mem (tb4 162 rfl) rfl
set_option maxRecDepth 20000 in
theorem lmy_X8_bestOrder : MY yX8_bestOrder cX8_bestOrder 1 (some .int) 0 := ⟨gw_mem (tb4 165 rfl) rfl, gw_mem (tb1 1 rfl) rfl, by decide +kernel⟩
set_option maxRecDepth 20000 in
theorem lmi_X8_bestOrder : MI yX8_bestOrder := ⟨gw_mem (tb4 163 rfl) rfl, gw_mem (tb4 164 rfl) rfl⟩
set_option maxRecDepth 20000 in
theorem lk_131 : Cond.methodLink RL 131 yX9_bestOrder ∈ gw := gw_mem (tb6 166 rfl) rfl
set_option maxRecDepth 20000 in
theorem lmy_X9_bestOrder : MY yX9_bestOrder cX9_bestOrder 1 (some .int) 0 := ⟨gw_mem (tb6 169 rfl) rfl, gw_mem (tb1 10 rfl) rfl, by decide +kernel⟩
set_option maxRecDepth 20000 in
theorem lmi_X9_bestOrder : MI yX9_bestOrder := ⟨gw_mem (tb6 167 rfl) rfl, gw_mem (tb6 168 rfl) rfl⟩
set_option maxRecDepth 20000 in
theorem lk_132 : Cond.methodLink RL 132 yX8_alone ∈ gw := gw_mem (tb4 166 rfl) rfl
set_option maxRecDepth 20000 in
theorem lmy_X8_alone : MY yX8_alone cX8_alone 2 (some .int) 1 := ⟨gw_mem (tb4 169 rfl) rfl, gw_mem (tb1 1 rfl) rfl, by decide +kernel⟩
set_option maxRecDepth 20000 in
theorem lmi_X8_alone : MI yX8_alone := ⟨gw_mem (tb4 167 rfl) rfl, gw_mem (tb4 168 rfl) rfl⟩
set_option maxRecDepth 20000 in
theorem lk_135 : Cond.methodLink RL 135 yX9_alone ∈ gw := gw_mem (tb6 170 rfl) rfl
set_option maxRecDepth 20000 in
theorem lmy_X9_alone : MY yX9_alone cX9_alone 2 (some .int) 1 := ⟨gw_mem (tb6 173 rfl) rfl, gw_mem (tb1 10 rfl) rfl, by decide +kernel⟩
set_option maxRecDepth 20000 in
theorem lmi_X9_alone : MI yX9_alone := ⟨gw_mem (tb6 171 rfl) rfl, gw_mem (tb6 172 rfl) rfl⟩
set_option maxRecDepth 20000 in
theorem lk_136 : Cond.methodLink RL 136 yX8_wind ∈ gw := gw_mem (tb4 174 rfl) rfl
set_option maxRecDepth 20000 in
theorem lmy_X8_wind : MY yX8_wind cX8_wind 3 (some .int) 2 := ⟨gw_mem (tb4 177 rfl) rfl, gw_mem (tb1 1 rfl) rfl, by decide +kernel⟩
set_option maxRecDepth 20000 in
theorem lmi_X8_wind : MI yX8_wind := ⟨gw_mem (tb4 175 rfl) rfl, gw_mem (tb4 176 rfl) rfl⟩
set_option maxRecDepth 20000 in
theorem lk_139 : Cond.methodLink RL 139 yX9_wind ∈ gw := gw_mem (tb6 174 rfl) rfl
set_option maxRecDepth 20000 in
theorem lmy_X9_wind : MY yX9_wind cX9_wind 5 (some .int) 2 := ⟨gw_mem (tb6 177 rfl) rfl, gw_mem (tb1 10 rfl) rfl, by decide +kernel⟩
set_option maxRecDepth 20000 in
theorem lmi_X9_wind : MI yX9_wind := ⟨gw_mem (tb6 175 rfl) rfl, gw_mem (tb6 176 rfl) rfl⟩
set_option maxRecDepth 20000 in
theorem lst_sortie : Cond.static yL_sortie ∈ gw := gw_mem (tb4 187 rfl) rfl
set_option maxRecDepth 100000 in
set_option maxHeartbeats 4000000 in
theorem law_0 {Rel : Mm → Mm → Prop} (hPR : Pairs Rel) {K : Pk} {V : Lz} (C : Lx K V) {M1 M2 : Mm} {f : Nat → Int64} {nc ns Nc Ns : Nat} {x4 : Int32} (hR : Rel M1 M2) (hnc : nc + 1 ≤ Nc) (hns : ns + 6 ≤ Ns) (hNc : Nc ≤ 601024) (hNs : Ns ≤ 7293034) (h1 : vp_in (x4 + 1) (lL V)) (h2 : vp_in (x4 + 2) (lL V)) (h3 : vp_in (x4 + 3) (lL V)) (h4 : vp_in (x4 + 4) (lL V)) (h5 : vp_in (x4 + 5) (lL V)) (E : ∀ M1 M2 f nc ns, Rel M1 M2 → nc ≤ Nc → ns ≤ Ns → Wl K V M1 M2 f nc ns 1044 [(0, .ref (lb V)), (1, .ref (adr (lA V) 0)), (2, .ref (adr (lB V) 0)), (3, .ref (lo V)), (4, .int x4)] []) : Wl K V M1 M2 f nc ns 164 [(0, .ref (lb V)), (1, .ref (adr (lA V) 0)), (2, .ref (adr (lB V) 0)), (3, .ref (lo V)), (4, .int x4)] [] := by
  refine l_aload_n C (pc := 164) dL_law_164 1 rfl ?_
  refine l_aload_n C (pc := 165) dL_law_165 0 rfl ?_
  refine l_iload C (pc := 166) dL_law_166 4 rfl ?_
  refine l_iconst C (pc := 168) dL_law_168 (v := 1) (by decide) ?_
  refine l_iadd C (pc := 169) dL_law_169 ?_
  refine l_sld C (pc := 170) dL_law_170 h1 ?_
  refine l_aload_n C (pc := 171) dL_law_171 0 rfl ?_
  refine l_iload C (pc := 172) dL_law_172 4 rfl ?_
  refine l_iconst C (pc := 174) dL_law_174 (v := 2) (by decide) ?_
  refine l_iadd C (pc := 175) dL_law_175 ?_
  refine l_sld C (pc := 176) dL_law_176 h2 ?_
  refine l_aload_n C (pc := 177) dL_law_177 0 rfl ?_
  refine l_iload C (pc := 178) dL_law_178 4 rfl ?_
  refine l_iconst C (pc := 180) dL_law_180 (v := 3) (by decide) ?_
  refine l_iadd C (pc := 181) dL_law_181 ?_
  refine l_sld C (pc := 182) dL_law_182 h3 ?_
  refine l_aload_n C (pc := 183) dL_law_183 0 rfl ?_
  refine l_iload C (pc := 184) dL_law_184 4 rfl ?_
  refine l_iconst C (pc := 186) dL_law_186 (v := 4) (by decide) ?_
  refine l_iadd C (pc := 187) dL_law_187 ?_
  refine l_sld C (pc := 188) dL_law_188 h4 ?_
  refine l_aload_n C (pc := 189) dL_law_189 0 rfl ?_
  refine l_iload C (pc := 190) dL_law_190 4 rfl ?_
  refine l_iconst C (pc := 192) dL_law_192 (v := 5) (by decide) ?_
  refine l_iadd C (pc := 193) dL_law_193 ?_
  refine l_sld C (pc := 194) dL_law_194 h5 ?_
  obtain ⟨r, M1', M2', eA, eB, hR'⟩ := hPR.1 M1 M2 (lxs V (x4 + 1).toNatClampNeg) (lxs V (x4 + 2).toNatClampNeg) (lxs V (x4 + 3).toNatClampNeg) (lxs V (x4 + 4).toNatClampNeg) (lxs V (x4 + 5).toNatClampNeg) hR
  refine l_callA C (pc := 195) dL_law_195 lmy_X8_feed lmi_X8_feed lk_19 rfl rfl rfl (by omega) (by omega) [.int (lxs V (x4 + 1).toNatClampNeg), .int (lxs V (x4 + 2).toNatClampNeg), .int (lxs V (x4 + 3).toNatClampNeg), .int (lxs V (x4 + 4).toNatClampNeg), .int (lxs V (x4 + 5).toNatClampNeg)] rfl rfl (Nat.le_of_ble_eq_true rfl) (tX8_feed (q := (r, M1')) C.2.2.2.2.2.2.2.2.2.2.2.1.1 eA) ?_
  change Wl K V M1' M2 f _ _ 198 [(0, .ref (lb V)), (1, .ref (adr (lA V) 0)), (2, .ref (adr (lB V) 0)), (3, .ref (lo V)), (4, .int x4)] [.int r]
  refine l_aload_n C (pc := 198) dL_law_198 2 rfl ?_
  refine l_aload_n C (pc := 199) dL_law_199 0 rfl ?_
  refine l_iload C (pc := 200) dL_law_200 4 rfl ?_
  refine l_iconst C (pc := 202) dL_law_202 (v := 1) (by decide) ?_
  refine l_iadd C (pc := 203) dL_law_203 ?_
  refine l_sld C (pc := 204) dL_law_204 h1 ?_
  refine l_aload_n C (pc := 205) dL_law_205 0 rfl ?_
  refine l_iload C (pc := 206) dL_law_206 4 rfl ?_
  refine l_iconst C (pc := 208) dL_law_208 (v := 2) (by decide) ?_
  refine l_iadd C (pc := 209) dL_law_209 ?_
  refine l_sld C (pc := 210) dL_law_210 h2 ?_
  refine l_aload_n C (pc := 211) dL_law_211 0 rfl ?_
  refine l_iload C (pc := 212) dL_law_212 4 rfl ?_
  refine l_iconst C (pc := 214) dL_law_214 (v := 3) (by decide) ?_
  refine l_iadd C (pc := 215) dL_law_215 ?_
  refine l_sld C (pc := 216) dL_law_216 h3 ?_
  refine l_aload_n C (pc := 217) dL_law_217 0 rfl ?_
  refine l_iload C (pc := 218) dL_law_218 4 rfl ?_
  refine l_iconst C (pc := 220) dL_law_220 (v := 4) (by decide) ?_
  refine l_iadd C (pc := 221) dL_law_221 ?_
  refine l_sld C (pc := 222) dL_law_222 h4 ?_
  refine l_aload_n C (pc := 223) dL_law_223 0 rfl ?_
  refine l_iload C (pc := 224) dL_law_224 4 rfl ?_
  refine l_iconst C (pc := 226) dL_law_226 (v := 5) (by decide) ?_
  refine l_iadd C (pc := 227) dL_law_227 ?_
  refine l_sld C (pc := 228) dL_law_228 h5 ?_
  refine l_callB C (pc := 229) dL_law_229 lmy_X9_feed lmi_X9_feed lk_23 rfl rfl rfl (by omega) (by omega) [.int (lxs V (x4 + 1).toNatClampNeg), .int (lxs V (x4 + 2).toNatClampNeg), .int (lxs V (x4 + 3).toNatClampNeg), .int (lxs V (x4 + 4).toNatClampNeg), .int (lxs V (x4 + 5).toNatClampNeg)] rfl rfl (Nat.le_of_ble_eq_true rfl) (tX9_feed (q := (r, M2')) C.2.2.2.2.2.2.2.2.2.2.2.1.2 eB) ?_
  change Wl K V M1' M2' f _ _ 232 [(0, .ref (lb V)), (1, .ref (adr (lA V) 0)), (2, .ref (adr (lB V) 0)), (3, .ref (lo V)), (4, .int x4)] [.int r, .int r]
  refine l_iceq C (pc := 232) 1044 dL_law_232 (by decide) rfl ?_
  exact E M1' M2' f _ _ hR' (by omega) (by omega)
set_option maxRecDepth 100000 in
set_option maxHeartbeats 4000000 in
theorem law_1 {Rel : Mm → Mm → Prop} (hPR : Pairs Rel) {K : Pk} {V : Lz} (C : Lx K V) {M1 M2 : Mm} {f : Nat → Int64} {nc ns Nc Ns : Nat} {x4 : Int32} (hR : Rel M1 M2) (hnc : nc + 1 ≤ Nc) (hns : ns + 6 ≤ Ns) (hNc : Nc ≤ 601024) (hNs : Ns ≤ 7293034) (h1 : vp_in (x4 + 1) (lL V)) (h2 : vp_in (x4 + 2) (lL V)) (h3 : vp_in (x4 + 3) (lL V)) (h4 : vp_in (x4 + 4) (lL V)) (h5 : vp_in (x4 + 5) (lL V)) (E : ∀ M1 M2 f nc ns, Rel M1 M2 → nc ≤ Nc → ns ≤ Ns → Wl K V M1 M2 f nc ns 1044 [(0, .ref (lb V)), (1, .ref (adr (lA V) 0)), (2, .ref (adr (lB V) 0)), (3, .ref (lo V)), (4, .int x4)] []) : Wl K V M1 M2 f nc ns 237 [(0, .ref (lb V)), (1, .ref (adr (lA V) 0)), (2, .ref (adr (lB V) 0)), (3, .ref (lo V)), (4, .int x4)] [] := by
  refine l_aload_n C (pc := 237) dL_law_237 1 rfl ?_
  refine l_aload_n C (pc := 238) dL_law_238 0 rfl ?_
  refine l_iload C (pc := 239) dL_law_239 4 rfl ?_
  refine l_iconst C (pc := 241) dL_law_241 (v := 1) (by decide) ?_
  refine l_iadd C (pc := 242) dL_law_242 ?_
  refine l_sld C (pc := 243) dL_law_243 h1 ?_
  obtain ⟨r, M1', M2', eA, eB, hR'⟩ := hPR.2.1 M1 M2 (lxs V (x4 + 1).toNatClampNeg) hR
  refine l_callA C (pc := 244) dL_law_244 lmy_X8_end lmi_X8_end lk_24 rfl rfl rfl (by omega) (by omega) [.int (lxs V (x4 + 1).toNatClampNeg)] rfl rfl (Nat.le_of_ble_eq_true rfl) (tX8_end (q := (r, M1')) C.2.2.2.2.2.2.2.2.2.2.2.1.1 eA) ?_
  change Wl K V M1' M2 f _ _ 247 [(0, .ref (lb V)), (1, .ref (adr (lA V) 0)), (2, .ref (adr (lB V) 0)), (3, .ref (lo V)), (4, .int x4)] [.int r]
  refine l_aload_n C (pc := 247) dL_law_247 2 rfl ?_
  refine l_aload_n C (pc := 248) dL_law_248 0 rfl ?_
  refine l_iload C (pc := 249) dL_law_249 4 rfl ?_
  refine l_iconst C (pc := 251) dL_law_251 (v := 1) (by decide) ?_
  refine l_iadd C (pc := 252) dL_law_252 ?_
  refine l_sld C (pc := 253) dL_law_253 h1 ?_
  refine l_callB C (pc := 254) dL_law_254 lmy_X9_end lmi_X9_end lk_28 rfl rfl rfl (by omega) (by omega) [.int (lxs V (x4 + 1).toNatClampNeg)] rfl rfl (Nat.le_of_ble_eq_true rfl) (tX9_end (q := (r, M2')) C.2.2.2.2.2.2.2.2.2.2.2.1.2 eB) ?_
  change Wl K V M1' M2' f _ _ 257 [(0, .ref (lb V)), (1, .ref (adr (lA V) 0)), (2, .ref (adr (lB V) 0)), (3, .ref (lo V)), (4, .int x4)] [.int r, .int r]
  refine l_iceq C (pc := 257) 1044 dL_law_257 (by decide) rfl ?_
  exact E M1' M2' f _ _ hR' (by omega) (by omega)
set_option maxRecDepth 100000 in
set_option maxHeartbeats 4000000 in
theorem law_2 {Rel : Mm → Mm → Prop} (hPR : Pairs Rel) {K : Pk} {V : Lz} (C : Lx K V) {M1 M2 : Mm} {f : Nat → Int64} {nc ns Nc Ns : Nat} {x4 : Int32} (hR : Rel M1 M2) (hnc : nc + 1 ≤ Nc) (hns : ns + 6 ≤ Ns) (hNc : Nc ≤ 601024) (hNs : Ns ≤ 7293034) (h1 : vp_in (x4 + 1) (lL V)) (h2 : vp_in (x4 + 2) (lL V)) (h3 : vp_in (x4 + 3) (lL V)) (h4 : vp_in (x4 + 4) (lL V)) (h5 : vp_in (x4 + 5) (lL V)) (E : ∀ M1 M2 f nc ns, Rel M1 M2 → nc ≤ Nc → ns ≤ Ns → Wl K V M1 M2 f nc ns 1044 [(0, .ref (lb V)), (1, .ref (adr (lA V) 0)), (2, .ref (adr (lB V) 0)), (3, .ref (lo V)), (4, .int x4)] []) : Wl K V M1 M2 f nc ns 262 [(0, .ref (lb V)), (1, .ref (adr (lA V) 0)), (2, .ref (adr (lB V) 0)), (3, .ref (lo V)), (4, .int x4)] [] := by
  refine l_aload_n C (pc := 262) dL_law_262 1 rfl ?_
  obtain ⟨r, M1', M2', eA, eB, hR'⟩ := hPR.2.2.1 M1 M2  hR
  refine l_callA C (pc := 263) dL_law_263 lmy_X8_tell lmi_X8_tell lk_29 rfl rfl rfl (by omega) (by omega) [] rfl rfl (Nat.le_of_ble_eq_true rfl) (tX8_tell (q := (r, M1')) C.2.2.2.2.2.2.2.2.2.2.2.1.1 eA) ?_
  change Wl K V M1' M2 f _ _ 266 [(0, .ref (lb V)), (1, .ref (adr (lA V) 0)), (2, .ref (adr (lB V) 0)), (3, .ref (lo V)), (4, .int x4)] [.int r]
  refine l_aload_n C (pc := 266) dL_law_266 2 rfl ?_
  refine l_callB C (pc := 267) dL_law_267 lmy_X9_tell lmi_X9_tell lk_33 rfl rfl rfl (by omega) (by omega) [] rfl rfl (Nat.le_of_ble_eq_true rfl) (tX9_tell (q := (r, M2')) C.2.2.2.2.2.2.2.2.2.2.2.1.2 eB) ?_
  change Wl K V M1' M2' f _ _ 270 [(0, .ref (lb V)), (1, .ref (adr (lA V) 0)), (2, .ref (adr (lB V) 0)), (3, .ref (lo V)), (4, .int x4)] [.int r, .int r]
  refine l_iceq C (pc := 270) 1044 dL_law_270 (by decide) rfl ?_
  exact E M1' M2' f _ _ hR' (by omega) (by omega)
set_option maxRecDepth 100000 in
set_option maxHeartbeats 4000000 in
theorem law_3 {Rel : Mm → Mm → Prop} (hPR : Pairs Rel) {K : Pk} {V : Lz} (C : Lx K V) {M1 M2 : Mm} {f : Nat → Int64} {nc ns Nc Ns : Nat} {x4 : Int32} (hR : Rel M1 M2) (hnc : nc + 1 ≤ Nc) (hns : ns + 6 ≤ Ns) (hNc : Nc ≤ 601024) (hNs : Ns ≤ 7293034) (h1 : vp_in (x4 + 1) (lL V)) (h2 : vp_in (x4 + 2) (lL V)) (h3 : vp_in (x4 + 3) (lL V)) (h4 : vp_in (x4 + 4) (lL V)) (h5 : vp_in (x4 + 5) (lL V)) (E : ∀ M1 M2 f nc ns, Rel M1 M2 → nc ≤ Nc → ns ≤ Ns → Wl K V M1 M2 f nc ns 1044 [(0, .ref (lb V)), (1, .ref (adr (lA V) 0)), (2, .ref (adr (lB V) 0)), (3, .ref (lo V)), (4, .int x4)] []) : Wl K V M1 M2 f nc ns 275 [(0, .ref (lb V)), (1, .ref (adr (lA V) 0)), (2, .ref (adr (lB V) 0)), (3, .ref (lo V)), (4, .int x4)] [] := by
  refine l_aload_n C (pc := 275) dL_law_275 1 rfl ?_
  obtain ⟨r, M1', M2', eA, eB, hR'⟩ := hPR.2.2.2.1 M1 M2  hR
  obtain ⟨eA, eAm⟩ := eA
  rw [eAm] at hR'
  refine l_callA C (pc := 276) dL_law_276 lmy_X8_fault lmi_X8_fault lk_34 rfl rfl rfl (by omega) (by omega) [] rfl rfl (Nat.le_of_ble_eq_true rfl) (tX8_fault (q := r) C.2.2.2.2.2.2.2.2.2.2.2.1.1 eA) ?_
  change Wl K V M1 M2 f _ _ 279 [(0, .ref (lb V)), (1, .ref (adr (lA V) 0)), (2, .ref (adr (lB V) 0)), (3, .ref (lo V)), (4, .int x4)] [.int r]
  refine l_aload_n C (pc := 279) dL_law_279 2 rfl ?_
  refine l_callB C (pc := 280) dL_law_280 lmy_X9_fault lmi_X9_fault lk_37 rfl rfl rfl (by omega) (by omega) [] rfl rfl (Nat.le_of_ble_eq_true rfl) (tX9_fault (q := (r, M2')) C.2.2.2.2.2.2.2.2.2.2.2.1.2 eB) ?_
  change Wl K V M1 M2' f _ _ 283 [(0, .ref (lb V)), (1, .ref (adr (lA V) 0)), (2, .ref (adr (lB V) 0)), (3, .ref (lo V)), (4, .int x4)] [.int r, .int r]
  refine l_iceq C (pc := 283) 1044 dL_law_283 (by decide) rfl ?_
  exact E M1 M2' f _ _ hR' (by omega) (by omega)
set_option maxRecDepth 100000 in
set_option maxHeartbeats 4000000 in
theorem law_4 {Rel : Mm → Mm → Prop} (hPR : Pairs Rel) {K : Pk} {V : Lz} (C : Lx K V) {M1 M2 : Mm} {f : Nat → Int64} {nc ns Nc Ns : Nat} {x4 : Int32} (hR : Rel M1 M2) (hnc : nc + 1 ≤ Nc) (hns : ns + 6 ≤ Ns) (hNc : Nc ≤ 601024) (hNs : Ns ≤ 7293034) (h1 : vp_in (x4 + 1) (lL V)) (h2 : vp_in (x4 + 2) (lL V)) (h3 : vp_in (x4 + 3) (lL V)) (h4 : vp_in (x4 + 4) (lL V)) (h5 : vp_in (x4 + 5) (lL V)) (E : ∀ M1 M2 f nc ns, Rel M1 M2 → nc ≤ Nc → ns ≤ Ns → Wl K V M1 M2 f nc ns 1044 [(0, .ref (lb V)), (1, .ref (adr (lA V) 0)), (2, .ref (adr (lB V) 0)), (3, .ref (lo V)), (4, .int x4)] []) : Wl K V M1 M2 f nc ns 288 [(0, .ref (lb V)), (1, .ref (adr (lA V) 0)), (2, .ref (adr (lB V) 0)), (3, .ref (lo V)), (4, .int x4)] [] := by
  refine l_aload_n C (pc := 288) dL_law_288 1 rfl ?_
  refine l_aload_n C (pc := 289) dL_law_289 0 rfl ?_
  refine l_iload C (pc := 290) dL_law_290 4 rfl ?_
  refine l_iconst C (pc := 292) dL_law_292 (v := 1) (by decide) ?_
  refine l_iadd C (pc := 293) dL_law_293 ?_
  refine l_sld C (pc := 294) dL_law_294 h1 ?_
  refine l_aload_n C (pc := 295) dL_law_295 0 rfl ?_
  refine l_iload C (pc := 296) dL_law_296 4 rfl ?_
  refine l_iconst C (pc := 298) dL_law_298 (v := 2) (by decide) ?_
  refine l_iadd C (pc := 299) dL_law_299 ?_
  refine l_sld C (pc := 300) dL_law_300 h2 ?_
  refine l_aload_n C (pc := 301) dL_law_301 0 rfl ?_
  refine l_iload C (pc := 302) dL_law_302 4 rfl ?_
  refine l_iconst C (pc := 304) dL_law_304 (v := 3) (by decide) ?_
  refine l_iadd C (pc := 305) dL_law_305 ?_
  refine l_sld C (pc := 306) dL_law_306 h3 ?_
  refine l_aload_n C (pc := 307) dL_law_307 0 rfl ?_
  refine l_iload C (pc := 308) dL_law_308 4 rfl ?_
  refine l_iconst C (pc := 310) dL_law_310 (v := 4) (by decide) ?_
  refine l_iadd C (pc := 311) dL_law_311 ?_
  refine l_sld C (pc := 312) dL_law_312 h4 ?_
  refine l_aload_n C (pc := 313) dL_law_313 0 rfl ?_
  refine l_iload C (pc := 314) dL_law_314 4 rfl ?_
  refine l_iconst C (pc := 316) dL_law_316 (v := 5) (by decide) ?_
  refine l_iadd C (pc := 317) dL_law_317 ?_
  refine l_sld C (pc := 318) dL_law_318 h5 ?_
  obtain ⟨r, M1', M2', eA, eB, hR'⟩ := hPR.2.2.2.2.1 M1 M2 (lxs V (x4 + 1).toNatClampNeg) (lxs V (x4 + 2).toNatClampNeg) (lxs V (x4 + 3).toNatClampNeg) (lxs V (x4 + 4).toNatClampNeg) (lxs V (x4 + 5).toNatClampNeg) hR
  refine l_callA C (pc := 319) dL_law_319 lmy_X8_customer lmi_X8_customer lk_38 rfl rfl rfl (by omega) (by omega) [.int (lxs V (x4 + 1).toNatClampNeg), .int (lxs V (x4 + 2).toNatClampNeg), .int (lxs V (x4 + 3).toNatClampNeg), .int (lxs V (x4 + 4).toNatClampNeg), .int (lxs V (x4 + 5).toNatClampNeg)] rfl rfl (Nat.le_of_ble_eq_true rfl) (tX8_customer (q := (r, M1')) C.2.2.2.2.2.2.2.2.2.2.2.1.1 eA) ?_
  change Wl K V M1' M2 f _ _ 322 [(0, .ref (lb V)), (1, .ref (adr (lA V) 0)), (2, .ref (adr (lB V) 0)), (3, .ref (lo V)), (4, .int x4)] [.int r]
  refine l_aload_n C (pc := 322) dL_law_322 2 rfl ?_
  refine l_aload_n C (pc := 323) dL_law_323 0 rfl ?_
  refine l_iload C (pc := 324) dL_law_324 4 rfl ?_
  refine l_iconst C (pc := 326) dL_law_326 (v := 1) (by decide) ?_
  refine l_iadd C (pc := 327) dL_law_327 ?_
  refine l_sld C (pc := 328) dL_law_328 h1 ?_
  refine l_aload_n C (pc := 329) dL_law_329 0 rfl ?_
  refine l_iload C (pc := 330) dL_law_330 4 rfl ?_
  refine l_iconst C (pc := 332) dL_law_332 (v := 2) (by decide) ?_
  refine l_iadd C (pc := 333) dL_law_333 ?_
  refine l_sld C (pc := 334) dL_law_334 h2 ?_
  refine l_aload_n C (pc := 335) dL_law_335 0 rfl ?_
  refine l_iload C (pc := 336) dL_law_336 4 rfl ?_
  refine l_iconst C (pc := 338) dL_law_338 (v := 3) (by decide) ?_
  refine l_iadd C (pc := 339) dL_law_339 ?_
  refine l_sld C (pc := 340) dL_law_340 h3 ?_
  refine l_aload_n C (pc := 341) dL_law_341 0 rfl ?_
  refine l_iload C (pc := 342) dL_law_342 4 rfl ?_
  refine l_iconst C (pc := 344) dL_law_344 (v := 4) (by decide) ?_
  refine l_iadd C (pc := 345) dL_law_345 ?_
  refine l_sld C (pc := 346) dL_law_346 h4 ?_
  refine l_aload_n C (pc := 347) dL_law_347 0 rfl ?_
  refine l_iload C (pc := 348) dL_law_348 4 rfl ?_
  refine l_iconst C (pc := 350) dL_law_350 (v := 5) (by decide) ?_
  refine l_iadd C (pc := 351) dL_law_351 ?_
  refine l_sld C (pc := 352) dL_law_352 h5 ?_
  refine l_callB C (pc := 353) dL_law_353 lmy_X9_customer lmi_X9_customer lk_41 rfl rfl rfl (by omega) (by omega) [.int (lxs V (x4 + 1).toNatClampNeg), .int (lxs V (x4 + 2).toNatClampNeg), .int (lxs V (x4 + 3).toNatClampNeg), .int (lxs V (x4 + 4).toNatClampNeg), .int (lxs V (x4 + 5).toNatClampNeg)] rfl rfl (Nat.le_of_ble_eq_true rfl) (tX9_customer (q := (r, M2')) C.2.2.2.2.2.2.2.2.2.2.2.1.2 eB) ?_
  change Wl K V M1' M2' f _ _ 356 [(0, .ref (lb V)), (1, .ref (adr (lA V) 0)), (2, .ref (adr (lB V) 0)), (3, .ref (lo V)), (4, .int x4)] [.int r, .int r]
  refine l_iceq C (pc := 356) 1044 dL_law_356 (by decide) rfl ?_
  exact E M1' M2' f _ _ hR' (by omega) (by omega)
set_option maxRecDepth 100000 in
set_option maxHeartbeats 4000000 in
theorem law_5 {Rel : Mm → Mm → Prop} (hPR : Pairs Rel) {K : Pk} {V : Lz} (C : Lx K V) {M1 M2 : Mm} {f : Nat → Int64} {nc ns Nc Ns : Nat} {x4 : Int32} (hR : Rel M1 M2) (hnc : nc + 1 ≤ Nc) (hns : ns + 6 ≤ Ns) (hNc : Nc ≤ 601024) (hNs : Ns ≤ 7293034) (h1 : vp_in (x4 + 1) (lL V)) (h2 : vp_in (x4 + 2) (lL V)) (h3 : vp_in (x4 + 3) (lL V)) (h4 : vp_in (x4 + 4) (lL V)) (h5 : vp_in (x4 + 5) (lL V)) (E : ∀ M1 M2 f nc ns, Rel M1 M2 → nc ≤ Nc → ns ≤ Ns → Wl K V M1 M2 f nc ns 1044 [(0, .ref (lb V)), (1, .ref (adr (lA V) 0)), (2, .ref (adr (lB V) 0)), (3, .ref (lo V)), (4, .int x4)] []) : Wl K V M1 M2 f nc ns 361 [(0, .ref (lb V)), (1, .ref (adr (lA V) 0)), (2, .ref (adr (lB V) 0)), (3, .ref (lo V)), (4, .int x4)] [] := by
  refine l_aload_n C (pc := 361) dL_law_361 1 rfl ?_
  obtain ⟨r, M1', M2', eA, eB, hR'⟩ := hPR.2.2.2.2.2.1 M1 M2  hR
  refine l_callA C (pc := 362) dL_law_362 lmy_X8_drop lmi_X8_drop lk_42 rfl rfl rfl (by omega) (by omega) [] rfl rfl (Nat.le_of_ble_eq_true rfl) (tX8_drop (q := (r, M1')) C.2.2.2.2.2.2.2.2.2.2.2.1.1 eA) ?_
  change Wl K V M1' M2 f _ _ 365 [(0, .ref (lb V)), (1, .ref (adr (lA V) 0)), (2, .ref (adr (lB V) 0)), (3, .ref (lo V)), (4, .int x4)] [.int r]
  refine l_aload_n C (pc := 365) dL_law_365 2 rfl ?_
  refine l_callB C (pc := 366) dL_law_366 lmy_X9_drop lmi_X9_drop lk_45 rfl rfl rfl (by omega) (by omega) [] rfl rfl (Nat.le_of_ble_eq_true rfl) (tX9_drop (q := (r, M2')) C.2.2.2.2.2.2.2.2.2.2.2.1.2 eB) ?_
  change Wl K V M1' M2' f _ _ 369 [(0, .ref (lb V)), (1, .ref (adr (lA V) 0)), (2, .ref (adr (lB V) 0)), (3, .ref (lo V)), (4, .int x4)] [.int r, .int r]
  refine l_iceq C (pc := 369) 1044 dL_law_369 (by decide) rfl ?_
  exact E M1' M2' f _ _ hR' (by omega) (by omega)
set_option maxRecDepth 100000 in
set_option maxHeartbeats 4000000 in
theorem law_6 {Rel : Mm → Mm → Prop} (hPR : Pairs Rel) {K : Pk} {V : Lz} (C : Lx K V) {M1 M2 : Mm} {f : Nat → Int64} {nc ns Nc Ns : Nat} {x4 : Int32} (hR : Rel M1 M2) (hnc : nc + 1 ≤ Nc) (hns : ns + 6 ≤ Ns) (hNc : Nc ≤ 601024) (hNs : Ns ≤ 7293034) (h1 : vp_in (x4 + 1) (lL V)) (h2 : vp_in (x4 + 2) (lL V)) (h3 : vp_in (x4 + 3) (lL V)) (h4 : vp_in (x4 + 4) (lL V)) (h5 : vp_in (x4 + 5) (lL V)) (E : ∀ M1 M2 f nc ns, Rel M1 M2 → nc ≤ Nc → ns ≤ Ns → Wl K V M1 M2 f nc ns 1044 [(0, .ref (lb V)), (1, .ref (adr (lA V) 0)), (2, .ref (adr (lB V) 0)), (3, .ref (lo V)), (4, .int x4)] []) : Wl K V M1 M2 f nc ns 374 [(0, .ref (lb V)), (1, .ref (adr (lA V) 0)), (2, .ref (adr (lB V) 0)), (3, .ref (lo V)), (4, .int x4)] [] := by
  refine l_aload_n C (pc := 374) dL_law_374 1 rfl ?_
  refine l_aload_n C (pc := 375) dL_law_375 0 rfl ?_
  refine l_iload C (pc := 376) dL_law_376 4 rfl ?_
  refine l_iconst C (pc := 378) dL_law_378 (v := 1) (by decide) ?_
  refine l_iadd C (pc := 379) dL_law_379 ?_
  refine l_sld C (pc := 380) dL_law_380 h1 ?_
  refine l_aload_n C (pc := 381) dL_law_381 0 rfl ?_
  refine l_iload C (pc := 382) dL_law_382 4 rfl ?_
  refine l_iconst C (pc := 384) dL_law_384 (v := 2) (by decide) ?_
  refine l_iadd C (pc := 385) dL_law_385 ?_
  refine l_sld C (pc := 386) dL_law_386 h2 ?_
  obtain ⟨r, M1', M2', eA, eB, hR'⟩ := hPR.2.2.2.2.2.2.1 M1 M2 (lxs V (x4 + 1).toNatClampNeg) (lxs V (x4 + 2).toNatClampNeg) hR
  refine l_callA C (pc := 387) dL_law_387 lmy_X8_set lmi_X8_set lk_46 rfl rfl rfl (by omega) (by omega) [.int (lxs V (x4 + 1).toNatClampNeg), .int (lxs V (x4 + 2).toNatClampNeg)] rfl rfl (Nat.le_of_ble_eq_true rfl) (tX8_set (q := (r, M1')) C.2.2.2.2.2.2.2.2.2.2.2.1.1 eA) ?_
  change Wl K V M1' M2 f _ _ 390 [(0, .ref (lb V)), (1, .ref (adr (lA V) 0)), (2, .ref (adr (lB V) 0)), (3, .ref (lo V)), (4, .int x4)] [.int r]
  refine l_aload_n C (pc := 390) dL_law_390 2 rfl ?_
  refine l_aload_n C (pc := 391) dL_law_391 0 rfl ?_
  refine l_iload C (pc := 392) dL_law_392 4 rfl ?_
  refine l_iconst C (pc := 394) dL_law_394 (v := 1) (by decide) ?_
  refine l_iadd C (pc := 395) dL_law_395 ?_
  refine l_sld C (pc := 396) dL_law_396 h1 ?_
  refine l_aload_n C (pc := 397) dL_law_397 0 rfl ?_
  refine l_iload C (pc := 398) dL_law_398 4 rfl ?_
  refine l_iconst C (pc := 400) dL_law_400 (v := 2) (by decide) ?_
  refine l_iadd C (pc := 401) dL_law_401 ?_
  refine l_sld C (pc := 402) dL_law_402 h2 ?_
  refine l_callB C (pc := 403) dL_law_403 lmy_X9_set lmi_X9_set lk_50 rfl rfl rfl (by omega) (by omega) [.int (lxs V (x4 + 1).toNatClampNeg), .int (lxs V (x4 + 2).toNatClampNeg)] rfl rfl (Nat.le_of_ble_eq_true rfl) (tX9_set (q := (r, M2')) C.2.2.2.2.2.2.2.2.2.2.2.1.2 eB) ?_
  change Wl K V M1' M2' f _ _ 406 [(0, .ref (lb V)), (1, .ref (adr (lA V) 0)), (2, .ref (adr (lB V) 0)), (3, .ref (lo V)), (4, .int x4)] [.int r, .int r]
  refine l_iceq C (pc := 406) 1044 dL_law_406 (by decide) rfl ?_
  exact E M1' M2' f _ _ hR' (by omega) (by omega)
set_option maxRecDepth 100000 in
set_option maxHeartbeats 4000000 in
theorem law_7 {Rel : Mm → Mm → Prop} (hPR : Pairs Rel) {K : Pk} {V : Lz} (C : Lx K V) {M1 M2 : Mm} {f : Nat → Int64} {nc ns Nc Ns : Nat} {x4 : Int32} (hR : Rel M1 M2) (hnc : nc + 1 ≤ Nc) (hns : ns + 6 ≤ Ns) (hNc : Nc ≤ 601024) (hNs : Ns ≤ 7293034) (h1 : vp_in (x4 + 1) (lL V)) (h2 : vp_in (x4 + 2) (lL V)) (h3 : vp_in (x4 + 3) (lL V)) (h4 : vp_in (x4 + 4) (lL V)) (h5 : vp_in (x4 + 5) (lL V)) (E : ∀ M1 M2 f nc ns, Rel M1 M2 → nc ≤ Nc → ns ≤ Ns → Wl K V M1 M2 f nc ns 1044 [(0, .ref (lb V)), (1, .ref (adr (lA V) 0)), (2, .ref (adr (lB V) 0)), (3, .ref (lo V)), (4, .int x4)] []) : Wl K V M1 M2 f nc ns 411 [(0, .ref (lb V)), (1, .ref (adr (lA V) 0)), (2, .ref (adr (lB V) 0)), (3, .ref (lo V)), (4, .int x4)] [] := by
  refine l_aload_n C (pc := 411) dL_law_411 1 rfl ?_
  refine l_aload_n C (pc := 412) dL_law_412 0 rfl ?_
  refine l_iload C (pc := 413) dL_law_413 4 rfl ?_
  refine l_iconst C (pc := 415) dL_law_415 (v := 1) (by decide) ?_
  refine l_iadd C (pc := 416) dL_law_416 ?_
  refine l_sld C (pc := 417) dL_law_417 h1 ?_
  obtain ⟨r, M1', M2', eA, eB, hR'⟩ := hPR.2.2.2.2.2.2.2.1 M1 M2 (lxs V (x4 + 1).toNatClampNeg) hR
  refine l_callA C (pc := 418) dL_law_418 lmy_X8_go lmi_X8_go lk_51 rfl rfl rfl (by omega) (by omega) [.int (lxs V (x4 + 1).toNatClampNeg)] rfl rfl (Nat.le_of_ble_eq_true rfl) (tX8_go (q := (r, M1')) C.2.2.2.2.2.2.2.2.2.2.2.1.1 eA) ?_
  change Wl K V M1' M2 f _ _ 421 [(0, .ref (lb V)), (1, .ref (adr (lA V) 0)), (2, .ref (adr (lB V) 0)), (3, .ref (lo V)), (4, .int x4)] [.int r]
  refine l_aload_n C (pc := 421) dL_law_421 2 rfl ?_
  refine l_aload_n C (pc := 422) dL_law_422 0 rfl ?_
  refine l_iload C (pc := 423) dL_law_423 4 rfl ?_
  refine l_iconst C (pc := 425) dL_law_425 (v := 1) (by decide) ?_
  refine l_iadd C (pc := 426) dL_law_426 ?_
  refine l_sld C (pc := 427) dL_law_427 h1 ?_
  refine l_callB C (pc := 428) dL_law_428 lmy_X9_go lmi_X9_go lk_55 rfl rfl rfl (by omega) (by omega) [.int (lxs V (x4 + 1).toNatClampNeg)] rfl rfl (Nat.le_of_ble_eq_true rfl) (tX9_go (q := (r, M2')) C.2.2.2.2.2.2.2.2.2.2.2.1.2 eB) ?_
  change Wl K V M1' M2' f _ _ 431 [(0, .ref (lb V)), (1, .ref (adr (lA V) 0)), (2, .ref (adr (lB V) 0)), (3, .ref (lo V)), (4, .int x4)] [.int r, .int r]
  refine l_iceq C (pc := 431) 1044 dL_law_431 (by decide) rfl ?_
  exact E M1' M2' f _ _ hR' (by omega) (by omega)
set_option maxRecDepth 100000 in
set_option maxHeartbeats 4000000 in
theorem law_8 {Rel : Mm → Mm → Prop} (hPR : Pairs Rel) {K : Pk} {V : Lz} (C : Lx K V) {M1 M2 : Mm} {f : Nat → Int64} {nc ns Nc Ns : Nat} {x4 : Int32} (hR : Rel M1 M2) (hnc : nc + 1 ≤ Nc) (hns : ns + 6 ≤ Ns) (hNc : Nc ≤ 601024) (hNs : Ns ≤ 7293034) (h1 : vp_in (x4 + 1) (lL V)) (h2 : vp_in (x4 + 2) (lL V)) (h3 : vp_in (x4 + 3) (lL V)) (h4 : vp_in (x4 + 4) (lL V)) (h5 : vp_in (x4 + 5) (lL V)) (E : ∀ M1 M2 f nc ns, Rel M1 M2 → nc ≤ Nc → ns ≤ Ns → Wl K V M1 M2 f nc ns 1044 [(0, .ref (lb V)), (1, .ref (adr (lA V) 0)), (2, .ref (adr (lB V) 0)), (3, .ref (lo V)), (4, .int x4)] []) : Wl K V M1 M2 f nc ns 436 [(0, .ref (lb V)), (1, .ref (adr (lA V) 0)), (2, .ref (adr (lB V) 0)), (3, .ref (lo V)), (4, .int x4)] [] := by
  refine l_aload_n C (pc := 436) dL_law_436 1 rfl ?_
  refine l_aload_n C (pc := 437) dL_law_437 0 rfl ?_
  refine l_iload C (pc := 438) dL_law_438 4 rfl ?_
  refine l_iconst C (pc := 440) dL_law_440 (v := 1) (by decide) ?_
  refine l_iadd C (pc := 441) dL_law_441 ?_
  refine l_sld C (pc := 442) dL_law_442 h1 ?_
  refine l_aload_n C (pc := 443) dL_law_443 0 rfl ?_
  refine l_iload C (pc := 444) dL_law_444 4 rfl ?_
  refine l_iconst C (pc := 446) dL_law_446 (v := 2) (by decide) ?_
  refine l_iadd C (pc := 447) dL_law_447 ?_
  refine l_sld C (pc := 448) dL_law_448 h2 ?_
  refine l_aload_n C (pc := 449) dL_law_449 0 rfl ?_
  refine l_iload C (pc := 450) dL_law_450 4 rfl ?_
  refine l_iconst C (pc := 452) dL_law_452 (v := 3) (by decide) ?_
  refine l_iadd C (pc := 453) dL_law_453 ?_
  refine l_sld C (pc := 454) dL_law_454 h3 ?_
  refine l_aload_n C (pc := 455) dL_law_455 0 rfl ?_
  refine l_iload C (pc := 456) dL_law_456 4 rfl ?_
  refine l_iconst C (pc := 458) dL_law_458 (v := 4) (by decide) ?_
  refine l_iadd C (pc := 459) dL_law_459 ?_
  refine l_sld C (pc := 460) dL_law_460 h4 ?_
  obtain ⟨r, M1', M2', eA, eB, hR'⟩ := hPR.2.2.2.2.2.2.2.2.1 M1 M2 (lxs V (x4 + 1).toNatClampNeg) (lxs V (x4 + 2).toNatClampNeg) (lxs V (x4 + 3).toNatClampNeg) (lxs V (x4 + 4).toNatClampNeg) hR
  refine l_callA C (pc := 461) dL_law_461 lmy_X8_fly lmi_X8_fly lk_56 rfl rfl rfl (by omega) (by omega) [.int (lxs V (x4 + 1).toNatClampNeg), .int (lxs V (x4 + 2).toNatClampNeg), .int (lxs V (x4 + 3).toNatClampNeg), .int (lxs V (x4 + 4).toNatClampNeg)] rfl rfl (Nat.le_of_ble_eq_true rfl) (tX8_fly (q := (r, M1')) C.2.2.2.2.2.2.2.2.2.2.2.1.1 eA) ?_
  change Wl K V M1' M2 f _ _ 464 [(0, .ref (lb V)), (1, .ref (adr (lA V) 0)), (2, .ref (adr (lB V) 0)), (3, .ref (lo V)), (4, .int x4)] [.int r]
  refine l_aload_n C (pc := 464) dL_law_464 2 rfl ?_
  refine l_aload_n C (pc := 465) dL_law_465 0 rfl ?_
  refine l_iload C (pc := 466) dL_law_466 4 rfl ?_
  refine l_iconst C (pc := 468) dL_law_468 (v := 1) (by decide) ?_
  refine l_iadd C (pc := 469) dL_law_469 ?_
  refine l_sld C (pc := 470) dL_law_470 h1 ?_
  refine l_aload_n C (pc := 471) dL_law_471 0 rfl ?_
  refine l_iload C (pc := 472) dL_law_472 4 rfl ?_
  refine l_iconst C (pc := 474) dL_law_474 (v := 2) (by decide) ?_
  refine l_iadd C (pc := 475) dL_law_475 ?_
  refine l_sld C (pc := 476) dL_law_476 h2 ?_
  refine l_aload_n C (pc := 477) dL_law_477 0 rfl ?_
  refine l_iload C (pc := 478) dL_law_478 4 rfl ?_
  refine l_iconst C (pc := 480) dL_law_480 (v := 3) (by decide) ?_
  refine l_iadd C (pc := 481) dL_law_481 ?_
  refine l_sld C (pc := 482) dL_law_482 h3 ?_
  refine l_aload_n C (pc := 483) dL_law_483 0 rfl ?_
  refine l_iload C (pc := 484) dL_law_484 4 rfl ?_
  refine l_iconst C (pc := 486) dL_law_486 (v := 4) (by decide) ?_
  refine l_iadd C (pc := 487) dL_law_487 ?_
  refine l_sld C (pc := 488) dL_law_488 h4 ?_
  refine l_callB C (pc := 489) dL_law_489 lmy_X9_fly lmi_X9_fly lk_60 rfl rfl rfl (by omega) (by omega) [.int (lxs V (x4 + 1).toNatClampNeg), .int (lxs V (x4 + 2).toNatClampNeg), .int (lxs V (x4 + 3).toNatClampNeg), .int (lxs V (x4 + 4).toNatClampNeg)] rfl rfl (Nat.le_of_ble_eq_true rfl) (tX9_fly (q := (r, M2')) C.2.2.2.2.2.2.2.2.2.2.2.1.2 eB) ?_
  change Wl K V M1' M2' f _ _ 492 [(0, .ref (lb V)), (1, .ref (adr (lA V) 0)), (2, .ref (adr (lB V) 0)), (3, .ref (lo V)), (4, .int x4)] [.int r, .int r]
  refine l_iceq C (pc := 492) 1044 dL_law_492 (by decide) rfl ?_
  exact E M1' M2' f _ _ hR' (by omega) (by omega)
set_option maxRecDepth 100000 in
set_option maxHeartbeats 4000000 in
theorem law_9 {Rel : Mm → Mm → Prop} (hPR : Pairs Rel) {K : Pk} {V : Lz} (C : Lx K V) {M1 M2 : Mm} {f : Nat → Int64} {nc ns Nc Ns : Nat} {x4 : Int32} (hR : Rel M1 M2) (hnc : nc + 1 ≤ Nc) (hns : ns + 6 ≤ Ns) (hNc : Nc ≤ 601024) (hNs : Ns ≤ 7293034) (h1 : vp_in (x4 + 1) (lL V)) (h2 : vp_in (x4 + 2) (lL V)) (h3 : vp_in (x4 + 3) (lL V)) (h4 : vp_in (x4 + 4) (lL V)) (h5 : vp_in (x4 + 5) (lL V)) (E : ∀ M1 M2 f nc ns, Rel M1 M2 → nc ≤ Nc → ns ≤ Ns → Wl K V M1 M2 f nc ns 1044 [(0, .ref (lb V)), (1, .ref (adr (lA V) 0)), (2, .ref (adr (lB V) 0)), (3, .ref (lo V)), (4, .int x4)] []) : Wl K V M1 M2 f nc ns 497 [(0, .ref (lb V)), (1, .ref (adr (lA V) 0)), (2, .ref (adr (lB V) 0)), (3, .ref (lo V)), (4, .int x4)] [] := by
  refine l_aload_n C (pc := 497) dL_law_497 1 rfl ?_
  refine l_aload_n C (pc := 498) dL_law_498 0 rfl ?_
  refine l_iload C (pc := 499) dL_law_499 4 rfl ?_
  refine l_iconst C (pc := 501) dL_law_501 (v := 1) (by decide) ?_
  refine l_iadd C (pc := 502) dL_law_502 ?_
  refine l_sld C (pc := 503) dL_law_503 h1 ?_
  refine l_ifeq C (pc := 504) 511 dL_law_504 (by decide) (fun c => ?_) (fun c => ?_)
  · have bc := c
    refine l_iconst C (pc := 511) dL_law_511 (v := 0) (by decide) ?_
    obtain ⟨r, M1', M2', eA, eB, hR'⟩ := hPR.2.2.2.2.2.2.2.2.2.1 M1 M2 0 hR (Or.inl rfl)
    refine l_callA C (pc := 512) dL_law_512 lmy_X8_undo lmi_X8_undo lk_61 rfl rfl rfl (by omega) (by omega) [.int 0] rfl rfl (Nat.le_of_ble_eq_true rfl) (tX8_undo (q := (r, M1')) C.2.2.2.2.2.2.2.2.2.2.2.1.1 eA) ?_
    change Wl K V M1' M2 f _ _ 515 [(0, .ref (lb V)), (1, .ref (adr (lA V) 0)), (2, .ref (adr (lB V) 0)), (3, .ref (lo V)), (4, .int x4)] [.int r]
    refine l_aload_n C (pc := 515) dL_law_515 2 rfl ?_
    refine l_aload_n C (pc := 516) dL_law_516 0 rfl ?_
    refine l_iload C (pc := 517) dL_law_517 4 rfl ?_
    refine l_iconst C (pc := 519) dL_law_519 (v := 1) (by decide) ?_
    refine l_iadd C (pc := 520) dL_law_520 ?_
    refine l_sld C (pc := 521) dL_law_521 h1 ?_
    refine l_ifeq C (pc := 522) 529 dL_law_522 (by decide) (fun c => ?_) (fun c => ?_)
    · skip
      refine l_iconst C (pc := 529) dL_law_529 (v := 0) (by decide) ?_
      refine l_callB C (pc := 530) dL_law_530 lmy_X9_undo lmi_X9_undo lk_65 rfl rfl rfl (by omega) (by omega) [.int 0] rfl rfl (Nat.le_of_ble_eq_true rfl) (tX9_undo (q := (r, M2')) C.2.2.2.2.2.2.2.2.2.2.2.1.2 eB) ?_
      change Wl K V M1' M2' f _ _ 533 [(0, .ref (lb V)), (1, .ref (adr (lA V) 0)), (2, .ref (adr (lB V) 0)), (3, .ref (lo V)), (4, .int x4)] [.int r, .int r]
      refine l_iceq C (pc := 533) 1044 dL_law_533 (by decide) rfl ?_
      exact E M1' M2' f _ _ hR' (by omega) (by omega)
    · exact absurd bc c
  · have bc := c
    refine l_iconst C (pc := 507) dL_law_507 (v := 1) (by decide) ?_
    refine l_goto C (pc := 508) 512 dL_law_508 (by decide) ?_
    obtain ⟨r, M1', M2', eA, eB, hR'⟩ := hPR.2.2.2.2.2.2.2.2.2.1 M1 M2 1 hR (Or.inr rfl)
    refine l_callA C (pc := 512) dL_law_512 lmy_X8_undo lmi_X8_undo lk_61 rfl rfl rfl (by omega) (by omega) [.int 1] rfl rfl (Nat.le_of_ble_eq_true rfl) (tX8_undo (q := (r, M1')) C.2.2.2.2.2.2.2.2.2.2.2.1.1 eA) ?_
    change Wl K V M1' M2 f _ _ 515 [(0, .ref (lb V)), (1, .ref (adr (lA V) 0)), (2, .ref (adr (lB V) 0)), (3, .ref (lo V)), (4, .int x4)] [.int r]
    refine l_aload_n C (pc := 515) dL_law_515 2 rfl ?_
    refine l_aload_n C (pc := 516) dL_law_516 0 rfl ?_
    refine l_iload C (pc := 517) dL_law_517 4 rfl ?_
    refine l_iconst C (pc := 519) dL_law_519 (v := 1) (by decide) ?_
    refine l_iadd C (pc := 520) dL_law_520 ?_
    refine l_sld C (pc := 521) dL_law_521 h1 ?_
    refine l_ifeq C (pc := 522) 529 dL_law_522 (by decide) (fun c => ?_) (fun c => ?_)
    · exact absurd c bc
    · skip
      refine l_iconst C (pc := 525) dL_law_525 (v := 1) (by decide) ?_
      refine l_goto C (pc := 526) 530 dL_law_526 (by decide) ?_
      refine l_callB C (pc := 530) dL_law_530 lmy_X9_undo lmi_X9_undo lk_65 rfl rfl rfl (by omega) (by omega) [.int 1] rfl rfl (Nat.le_of_ble_eq_true rfl) (tX9_undo (q := (r, M2')) C.2.2.2.2.2.2.2.2.2.2.2.1.2 eB) ?_
      change Wl K V M1' M2' f _ _ 533 [(0, .ref (lb V)), (1, .ref (adr (lA V) 0)), (2, .ref (adr (lB V) 0)), (3, .ref (lo V)), (4, .int x4)] [.int r, .int r]
      refine l_iceq C (pc := 533) 1044 dL_law_533 (by decide) rfl ?_
      exact E M1' M2' f _ _ hR' (by omega) (by omega)
set_option maxRecDepth 100000 in
set_option maxHeartbeats 4000000 in
theorem law_10 {Rel : Mm → Mm → Prop} (hPR : Pairs Rel) {K : Pk} {V : Lz} (C : Lx K V) {M1 M2 : Mm} {f : Nat → Int64} {nc ns Nc Ns : Nat} {x4 : Int32} (hR : Rel M1 M2) (hnc : nc + 1 ≤ Nc) (hns : ns + 6 ≤ Ns) (hNc : Nc ≤ 601024) (hNs : Ns ≤ 7293034) (h1 : vp_in (x4 + 1) (lL V)) (h2 : vp_in (x4 + 2) (lL V)) (h3 : vp_in (x4 + 3) (lL V)) (h4 : vp_in (x4 + 4) (lL V)) (h5 : vp_in (x4 + 5) (lL V)) (E : ∀ M1 M2 f nc ns, Rel M1 M2 → nc ≤ Nc → ns ≤ Ns → Wl K V M1 M2 f nc ns 1044 [(0, .ref (lb V)), (1, .ref (adr (lA V) 0)), (2, .ref (adr (lB V) 0)), (3, .ref (lo V)), (4, .int x4)] []) : Wl K V M1 M2 f nc ns 538 [(0, .ref (lb V)), (1, .ref (adr (lA V) 0)), (2, .ref (adr (lB V) 0)), (3, .ref (lo V)), (4, .int x4)] [] := by
  refine l_aload_n C (pc := 538) dL_law_538 1 rfl ?_
  obtain ⟨M1', M2', eA, eB, hR'⟩ := hPR.2.2.2.2.2.2.2.2.2.2.1 M1 M2  hR
  refine l_callA C (pc := 539) dL_law_539 lmy_X8_clear lmi_X8_clear lk_66 rfl rfl rfl (by omega) (by omega) [] rfl rfl (Nat.le_of_ble_eq_true rfl) (tX8_clear (q := M1') C.2.2.2.2.2.2.2.2.2.2.2.1.1 eA) ?_
  change Wl K V M1' M2 f _ _ 542 [(0, .ref (lb V)), (1, .ref (adr (lA V) 0)), (2, .ref (adr (lB V) 0)), (3, .ref (lo V)), (4, .int x4)] []
  refine l_aload_n C (pc := 542) dL_law_542 2 rfl ?_
  refine l_callB C (pc := 543) dL_law_543 lmy_X9_clear lmi_X9_clear lk_69 rfl rfl rfl (by omega) (by omega) [] rfl rfl (Nat.le_of_ble_eq_true rfl) (tX9_clear (q := M2') C.2.2.2.2.2.2.2.2.2.2.2.1.2 eB) ?_
  change Wl K V M1' M2' f _ _ 546 [(0, .ref (lb V)), (1, .ref (adr (lA V) 0)), (2, .ref (adr (lB V) 0)), (3, .ref (lo V)), (4, .int x4)] []
  refine l_goto C (pc := 546) 1044 dL_law_546 (by decide) ?_
  exact E M1' M2' f _ _ hR' (by omega) (by omega)
set_option maxRecDepth 100000 in
set_option maxHeartbeats 4000000 in
theorem law_11 {Rel : Mm → Mm → Prop} (hPR : Pairs Rel) {K : Pk} {V : Lz} (C : Lx K V) {M1 M2 : Mm} {f : Nat → Int64} {nc ns Nc Ns : Nat} {x4 : Int32} (hR : Rel M1 M2) (hnc : nc + 1 ≤ Nc) (hns : ns + 6 ≤ Ns) (hNc : Nc ≤ 601024) (hNs : Ns ≤ 7293034) (h1 : vp_in (x4 + 1) (lL V)) (h2 : vp_in (x4 + 2) (lL V)) (h3 : vp_in (x4 + 3) (lL V)) (h4 : vp_in (x4 + 4) (lL V)) (h5 : vp_in (x4 + 5) (lL V)) (E : ∀ M1 M2 f nc ns, Rel M1 M2 → nc ≤ Nc → ns ≤ Ns → Wl K V M1 M2 f nc ns 1044 [(0, .ref (lb V)), (1, .ref (adr (lA V) 0)), (2, .ref (adr (lB V) 0)), (3, .ref (lo V)), (4, .int x4)] []) : Wl K V M1 M2 f nc ns 549 [(0, .ref (lb V)), (1, .ref (adr (lA V) 0)), (2, .ref (adr (lB V) 0)), (3, .ref (lo V)), (4, .int x4)] [] := by
  refine l_aload_n C (pc := 549) dL_law_549 1 rfl ?_
  refine l_aload_n C (pc := 550) dL_law_550 0 rfl ?_
  refine l_iload C (pc := 551) dL_law_551 4 rfl ?_
  refine l_iconst C (pc := 553) dL_law_553 (v := 1) (by decide) ?_
  refine l_iadd C (pc := 554) dL_law_554 ?_
  refine l_sld C (pc := 555) dL_law_555 h1 ?_
  obtain ⟨r, M1', M2', eA, eB, hR'⟩ := hPR.2.2.2.2.2.2.2.2.2.2.2.1 M1 M2 (lxs V (x4 + 1).toNatClampNeg) hR
  obtain ⟨eA, eAm⟩ := eA
  rw [eAm] at hR'
  refine l_callA C (pc := 556) dL_law_556 lmy_X8_count lmi_X8_count lk_70 rfl rfl rfl (by omega) (by omega) [.int (lxs V (x4 + 1).toNatClampNeg)] rfl rfl (Nat.le_of_ble_eq_true rfl) (tX8_count (q := r) C.2.2.2.2.2.2.2.2.2.2.2.1.1 eA) ?_
  change Wl K V M1 M2 f _ _ 559 [(0, .ref (lb V)), (1, .ref (adr (lA V) 0)), (2, .ref (adr (lB V) 0)), (3, .ref (lo V)), (4, .int x4)] [.int r]
  refine l_aload_n C (pc := 559) dL_law_559 2 rfl ?_
  refine l_aload_n C (pc := 560) dL_law_560 0 rfl ?_
  refine l_iload C (pc := 561) dL_law_561 4 rfl ?_
  refine l_iconst C (pc := 563) dL_law_563 (v := 1) (by decide) ?_
  refine l_iadd C (pc := 564) dL_law_564 ?_
  refine l_sld C (pc := 565) dL_law_565 h1 ?_
  refine l_callB C (pc := 566) dL_law_566 lmy_X9_count lmi_X9_count lk_73 rfl rfl rfl (by omega) (by omega) [.int (lxs V (x4 + 1).toNatClampNeg)] rfl rfl (Nat.le_of_ble_eq_true rfl) (tX9_count (q := (r, M2')) C.2.2.2.2.2.2.2.2.2.2.2.1.2 eB) ?_
  change Wl K V M1 M2' f _ _ 569 [(0, .ref (lb V)), (1, .ref (adr (lA V) 0)), (2, .ref (adr (lB V) 0)), (3, .ref (lo V)), (4, .int x4)] [.int r, .int r]
  refine l_iceq C (pc := 569) 1044 dL_law_569 (by decide) rfl ?_
  exact E M1 M2' f _ _ hR' (by omega) (by omega)
set_option maxRecDepth 100000 in
set_option maxHeartbeats 4000000 in
theorem law_12 {Rel : Mm → Mm → Prop} (hPR : Pairs Rel) {K : Pk} {V : Lz} (C : Lx K V) {M1 M2 : Mm} {f : Nat → Int64} {nc ns Nc Ns : Nat} {x4 : Int32} (hR : Rel M1 M2) (hnc : nc + 1 ≤ Nc) (hns : ns + 6 ≤ Ns) (hNc : Nc ≤ 601024) (hNs : Ns ≤ 7293034) (h1 : vp_in (x4 + 1) (lL V)) (h2 : vp_in (x4 + 2) (lL V)) (h3 : vp_in (x4 + 3) (lL V)) (h4 : vp_in (x4 + 4) (lL V)) (h5 : vp_in (x4 + 5) (lL V)) (E : ∀ M1 M2 f nc ns, Rel M1 M2 → nc ≤ Nc → ns ≤ Ns → Wl K V M1 M2 f nc ns 1044 [(0, .ref (lb V)), (1, .ref (adr (lA V) 0)), (2, .ref (adr (lB V) 0)), (3, .ref (lo V)), (4, .int x4)] []) : Wl K V M1 M2 f nc ns 574 [(0, .ref (lb V)), (1, .ref (adr (lA V) 0)), (2, .ref (adr (lB V) 0)), (3, .ref (lo V)), (4, .int x4)] [] := by
  refine l_aload_n C (pc := 574) dL_law_574 1 rfl ?_
  refine l_aload_n C (pc := 575) dL_law_575 0 rfl ?_
  refine l_iload C (pc := 576) dL_law_576 4 rfl ?_
  refine l_iconst C (pc := 578) dL_law_578 (v := 1) (by decide) ?_
  refine l_iadd C (pc := 579) dL_law_579 ?_
  refine l_sld C (pc := 580) dL_law_580 h1 ?_
  refine l_aload_n C (pc := 581) dL_law_581 0 rfl ?_
  refine l_iload C (pc := 582) dL_law_582 4 rfl ?_
  refine l_iconst C (pc := 584) dL_law_584 (v := 2) (by decide) ?_
  refine l_iadd C (pc := 585) dL_law_585 ?_
  refine l_sld C (pc := 586) dL_law_586 h2 ?_
  obtain ⟨r, M1', M2', eA, eB, hR'⟩ := hPR.2.2.2.2.2.2.2.2.2.2.2.2.1 M1 M2 (lxs V (x4 + 1).toNatClampNeg) (lxs V (x4 + 2).toNatClampNeg) hR
  obtain ⟨eA, eAm⟩ := eA
  rw [eAm] at hR'
  refine l_callA C (pc := 587) dL_law_587 lmy_X8_place lmi_X8_place lk_74 rfl rfl rfl (by omega) (by omega) [.int (lxs V (x4 + 1).toNatClampNeg), .int (lxs V (x4 + 2).toNatClampNeg)] rfl rfl (Nat.le_of_ble_eq_true rfl) (tX8_place (q := r) C.2.2.2.2.2.2.2.2.2.2.2.1.1 eA) ?_
  change Wl K V M1 M2 f _ _ 590 [(0, .ref (lb V)), (1, .ref (adr (lA V) 0)), (2, .ref (adr (lB V) 0)), (3, .ref (lo V)), (4, .int x4)] [.int r]
  refine l_aload_n C (pc := 590) dL_law_590 2 rfl ?_
  refine l_aload_n C (pc := 591) dL_law_591 0 rfl ?_
  refine l_iload C (pc := 592) dL_law_592 4 rfl ?_
  refine l_iconst C (pc := 594) dL_law_594 (v := 1) (by decide) ?_
  refine l_iadd C (pc := 595) dL_law_595 ?_
  refine l_sld C (pc := 596) dL_law_596 h1 ?_
  refine l_aload_n C (pc := 597) dL_law_597 0 rfl ?_
  refine l_iload C (pc := 598) dL_law_598 4 rfl ?_
  refine l_iconst C (pc := 600) dL_law_600 (v := 2) (by decide) ?_
  refine l_iadd C (pc := 601) dL_law_601 ?_
  refine l_sld C (pc := 602) dL_law_602 h2 ?_
  refine l_callB C (pc := 603) dL_law_603 lmy_X9_place lmi_X9_place lk_77 rfl rfl rfl (by omega) (by omega) [.int (lxs V (x4 + 1).toNatClampNeg), .int (lxs V (x4 + 2).toNatClampNeg)] rfl rfl (Nat.le_of_ble_eq_true rfl) (tX9_place (q := (r, M2')) C.2.2.2.2.2.2.2.2.2.2.2.1.2 eB) ?_
  change Wl K V M1 M2' f _ _ 606 [(0, .ref (lb V)), (1, .ref (adr (lA V) 0)), (2, .ref (adr (lB V) 0)), (3, .ref (lo V)), (4, .int x4)] [.int r, .int r]
  refine l_iceq C (pc := 606) 1044 dL_law_606 (by decide) rfl ?_
  exact E M1 M2' f _ _ hR' (by omega) (by omega)
set_option maxRecDepth 100000 in
set_option maxHeartbeats 4000000 in
theorem law_13 {Rel : Mm → Mm → Prop} (hPR : Pairs Rel) {K : Pk} {V : Lz} (C : Lx K V) {M1 M2 : Mm} {f : Nat → Int64} {nc ns Nc Ns : Nat} {x4 : Int32} (hR : Rel M1 M2) (hnc : nc + 1 ≤ Nc) (hns : ns + 6 ≤ Ns) (hNc : Nc ≤ 601024) (hNs : Ns ≤ 7293034) (h1 : vp_in (x4 + 1) (lL V)) (h2 : vp_in (x4 + 2) (lL V)) (h3 : vp_in (x4 + 3) (lL V)) (h4 : vp_in (x4 + 4) (lL V)) (h5 : vp_in (x4 + 5) (lL V)) (E : ∀ M1 M2 f nc ns, Rel M1 M2 → nc ≤ Nc → ns ≤ Ns → Wl K V M1 M2 f nc ns 1044 [(0, .ref (lb V)), (1, .ref (adr (lA V) 0)), (2, .ref (adr (lB V) 0)), (3, .ref (lo V)), (4, .int x4)] []) : Wl K V M1 M2 f nc ns 611 [(0, .ref (lb V)), (1, .ref (adr (lA V) 0)), (2, .ref (adr (lB V) 0)), (3, .ref (lo V)), (4, .int x4)] [] := by
  refine l_aload_n C (pc := 611) dL_law_611 1 rfl ?_
  refine l_aload_n C (pc := 612) dL_law_612 0 rfl ?_
  refine l_iload C (pc := 613) dL_law_613 4 rfl ?_
  refine l_iconst C (pc := 615) dL_law_615 (v := 1) (by decide) ?_
  refine l_iadd C (pc := 616) dL_law_616 ?_
  refine l_sld C (pc := 617) dL_law_617 h1 ?_
  refine l_aload_n C (pc := 618) dL_law_618 0 rfl ?_
  refine l_iload C (pc := 619) dL_law_619 4 rfl ?_
  refine l_iconst C (pc := 621) dL_law_621 (v := 2) (by decide) ?_
  refine l_iadd C (pc := 622) dL_law_622 ?_
  refine l_sld C (pc := 623) dL_law_623 h2 ?_
  refine l_aload_n C (pc := 624) dL_law_624 0 rfl ?_
  refine l_iload C (pc := 625) dL_law_625 4 rfl ?_
  refine l_iconst C (pc := 627) dL_law_627 (v := 3) (by decide) ?_
  refine l_iadd C (pc := 628) dL_law_628 ?_
  refine l_sld C (pc := 629) dL_law_629 h3 ?_
  refine l_ifeq C (pc := 630) 637 dL_law_630 (by decide) (fun c => ?_) (fun c => ?_)
  · have bc := c
    refine l_iconst C (pc := 637) dL_law_637 (v := 0) (by decide) ?_
    obtain ⟨r, M1', M2', eA, eB, hR'⟩ := hPR.2.2.2.2.2.2.2.2.2.2.2.2.2.1 M1 M2 (lxs V (x4 + 1).toNatClampNeg) (lxs V (x4 + 2).toNatClampNeg) 0 hR (Or.inl rfl)
    obtain ⟨eA, eAm⟩ := eA
    rw [eAm] at hR'
    refine l_callA C (pc := 638) dL_law_638 lmy_X8_way lmi_X8_way lk_78 rfl rfl rfl (by omega) (by omega) [.int (lxs V (x4 + 1).toNatClampNeg), .int (lxs V (x4 + 2).toNatClampNeg), .int 0] rfl rfl (Nat.le_of_ble_eq_true rfl) (tX8_way (q := r) C.2.2.2.2.2.2.2.2.2.2.2.1.1 eA) ?_
    change Wl K V M1 M2 f _ _ 641 [(0, .ref (lb V)), (1, .ref (adr (lA V) 0)), (2, .ref (adr (lB V) 0)), (3, .ref (lo V)), (4, .int x4)] [.int r]
    refine l_aload_n C (pc := 641) dL_law_641 2 rfl ?_
    refine l_aload_n C (pc := 642) dL_law_642 0 rfl ?_
    refine l_iload C (pc := 643) dL_law_643 4 rfl ?_
    refine l_iconst C (pc := 645) dL_law_645 (v := 1) (by decide) ?_
    refine l_iadd C (pc := 646) dL_law_646 ?_
    refine l_sld C (pc := 647) dL_law_647 h1 ?_
    refine l_aload_n C (pc := 648) dL_law_648 0 rfl ?_
    refine l_iload C (pc := 649) dL_law_649 4 rfl ?_
    refine l_iconst C (pc := 651) dL_law_651 (v := 2) (by decide) ?_
    refine l_iadd C (pc := 652) dL_law_652 ?_
    refine l_sld C (pc := 653) dL_law_653 h2 ?_
    refine l_aload_n C (pc := 654) dL_law_654 0 rfl ?_
    refine l_iload C (pc := 655) dL_law_655 4 rfl ?_
    refine l_iconst C (pc := 657) dL_law_657 (v := 3) (by decide) ?_
    refine l_iadd C (pc := 658) dL_law_658 ?_
    refine l_sld C (pc := 659) dL_law_659 h3 ?_
    refine l_ifeq C (pc := 660) 667 dL_law_660 (by decide) (fun c => ?_) (fun c => ?_)
    · skip
      refine l_iconst C (pc := 667) dL_law_667 (v := 0) (by decide) ?_
      refine l_callB C (pc := 668) dL_law_668 lmy_X9_way lmi_X9_way lk_82 rfl rfl rfl (by omega) (by omega) [.int (lxs V (x4 + 1).toNatClampNeg), .int (lxs V (x4 + 2).toNatClampNeg), .int 0] rfl rfl (Nat.le_of_ble_eq_true rfl) (tX9_way (q := (r, M2')) C.2.2.2.2.2.2.2.2.2.2.2.1.2 eB) ?_
      change Wl K V M1 M2' f _ _ 671 [(0, .ref (lb V)), (1, .ref (adr (lA V) 0)), (2, .ref (adr (lB V) 0)), (3, .ref (lo V)), (4, .int x4)] [.int r, .int r]
      refine l_iceq C (pc := 671) 1044 dL_law_671 (by decide) rfl ?_
      exact E M1 M2' f _ _ hR' (by omega) (by omega)
    · exact absurd bc c
  · have bc := c
    refine l_iconst C (pc := 633) dL_law_633 (v := 1) (by decide) ?_
    refine l_goto C (pc := 634) 638 dL_law_634 (by decide) ?_
    obtain ⟨r, M1', M2', eA, eB, hR'⟩ := hPR.2.2.2.2.2.2.2.2.2.2.2.2.2.1 M1 M2 (lxs V (x4 + 1).toNatClampNeg) (lxs V (x4 + 2).toNatClampNeg) 1 hR (Or.inr rfl)
    obtain ⟨eA, eAm⟩ := eA
    rw [eAm] at hR'
    refine l_callA C (pc := 638) dL_law_638 lmy_X8_way lmi_X8_way lk_78 rfl rfl rfl (by omega) (by omega) [.int (lxs V (x4 + 1).toNatClampNeg), .int (lxs V (x4 + 2).toNatClampNeg), .int 1] rfl rfl (Nat.le_of_ble_eq_true rfl) (tX8_way (q := r) C.2.2.2.2.2.2.2.2.2.2.2.1.1 eA) ?_
    change Wl K V M1 M2 f _ _ 641 [(0, .ref (lb V)), (1, .ref (adr (lA V) 0)), (2, .ref (adr (lB V) 0)), (3, .ref (lo V)), (4, .int x4)] [.int r]
    refine l_aload_n C (pc := 641) dL_law_641 2 rfl ?_
    refine l_aload_n C (pc := 642) dL_law_642 0 rfl ?_
    refine l_iload C (pc := 643) dL_law_643 4 rfl ?_
    refine l_iconst C (pc := 645) dL_law_645 (v := 1) (by decide) ?_
    refine l_iadd C (pc := 646) dL_law_646 ?_
    refine l_sld C (pc := 647) dL_law_647 h1 ?_
    refine l_aload_n C (pc := 648) dL_law_648 0 rfl ?_
    refine l_iload C (pc := 649) dL_law_649 4 rfl ?_
    refine l_iconst C (pc := 651) dL_law_651 (v := 2) (by decide) ?_
    refine l_iadd C (pc := 652) dL_law_652 ?_
    refine l_sld C (pc := 653) dL_law_653 h2 ?_
    refine l_aload_n C (pc := 654) dL_law_654 0 rfl ?_
    refine l_iload C (pc := 655) dL_law_655 4 rfl ?_
    refine l_iconst C (pc := 657) dL_law_657 (v := 3) (by decide) ?_
    refine l_iadd C (pc := 658) dL_law_658 ?_
    refine l_sld C (pc := 659) dL_law_659 h3 ?_
    refine l_ifeq C (pc := 660) 667 dL_law_660 (by decide) (fun c => ?_) (fun c => ?_)
    · exact absurd c bc
    · skip
      refine l_iconst C (pc := 663) dL_law_663 (v := 1) (by decide) ?_
      refine l_goto C (pc := 664) 668 dL_law_664 (by decide) ?_
      refine l_callB C (pc := 668) dL_law_668 lmy_X9_way lmi_X9_way lk_82 rfl rfl rfl (by omega) (by omega) [.int (lxs V (x4 + 1).toNatClampNeg), .int (lxs V (x4 + 2).toNatClampNeg), .int 1] rfl rfl (Nat.le_of_ble_eq_true rfl) (tX9_way (q := (r, M2')) C.2.2.2.2.2.2.2.2.2.2.2.1.2 eB) ?_
      change Wl K V M1 M2' f _ _ 671 [(0, .ref (lb V)), (1, .ref (adr (lA V) 0)), (2, .ref (adr (lB V) 0)), (3, .ref (lo V)), (4, .int x4)] [.int r, .int r]
      refine l_iceq C (pc := 671) 1044 dL_law_671 (by decide) rfl ?_
      exact E M1 M2' f _ _ hR' (by omega) (by omega)
set_option maxRecDepth 100000 in
set_option maxHeartbeats 4000000 in
theorem law_14 {Rel : Mm → Mm → Prop} (hPR : Pairs Rel) {K : Pk} {V : Lz} (C : Lx K V) {M1 M2 : Mm} {f : Nat → Int64} {nc ns Nc Ns : Nat} {x4 : Int32} (hR : Rel M1 M2) (hnc : nc + 1 ≤ Nc) (hns : ns + 6 ≤ Ns) (hNc : Nc ≤ 601024) (hNs : Ns ≤ 7293034) (h1 : vp_in (x4 + 1) (lL V)) (h2 : vp_in (x4 + 2) (lL V)) (h3 : vp_in (x4 + 3) (lL V)) (h4 : vp_in (x4 + 4) (lL V)) (h5 : vp_in (x4 + 5) (lL V)) (E : ∀ M1 M2 f nc ns, Rel M1 M2 → nc ≤ Nc → ns ≤ Ns → Wl K V M1 M2 f nc ns 1044 [(0, .ref (lb V)), (1, .ref (adr (lA V) 0)), (2, .ref (adr (lB V) 0)), (3, .ref (lo V)), (4, .int x4)] []) : Wl K V M1 M2 f nc ns 676 [(0, .ref (lb V)), (1, .ref (adr (lA V) 0)), (2, .ref (adr (lB V) 0)), (3, .ref (lo V)), (4, .int x4)] [] := by
  refine l_aload_n C (pc := 676) dL_law_676 1 rfl ?_
  refine l_aload_n C (pc := 677) dL_law_677 0 rfl ?_
  refine l_iload C (pc := 678) dL_law_678 4 rfl ?_
  refine l_iconst C (pc := 680) dL_law_680 (v := 1) (by decide) ?_
  refine l_iadd C (pc := 681) dL_law_681 ?_
  refine l_sld C (pc := 682) dL_law_682 h1 ?_
  refine l_aload_n C (pc := 683) dL_law_683 0 rfl ?_
  refine l_iload C (pc := 684) dL_law_684 4 rfl ?_
  refine l_iconst C (pc := 686) dL_law_686 (v := 2) (by decide) ?_
  refine l_iadd C (pc := 687) dL_law_687 ?_
  refine l_sld C (pc := 688) dL_law_688 h2 ?_
  refine l_aload_n C (pc := 689) dL_law_689 3 rfl ?_
  obtain ⟨q, r2, M2', eA, eB, hq1, hq2, hR'⟩ := hPR.2.2.2.2.2.2.2.2.2.2.2.2.2.2.1 M1 M2 (lxs V (x4 + 1).toNatClampNeg) (lxs V (x4 + 2).toNatClampNeg) hR
  refine l_callH C (pc := 690) dL_law_690 lk_83 lst_sortie (by omega) (by omega) rfl eA (fun r f9 g1 g2 => ?_)
  refine l_istore C (pc := 693) dL_law_693 (lv' := [(0, .ref (lb V)), (1, .ref (adr (lA V) 0)), (2, .ref (adr (lB V) 0)), (3, .ref (lo V)), (4, .int x4), (5, .int r)]) rfl rfl rfl ?_
  refine l_aload_n C (pc := 695) dL_law_695 2 rfl ?_
  refine l_aload_n C (pc := 696) dL_law_696 0 rfl ?_
  refine l_iload C (pc := 697) dL_law_697 4 rfl ?_
  refine l_iconst C (pc := 699) dL_law_699 (v := 1) (by decide) ?_
  refine l_iadd C (pc := 700) dL_law_700 ?_
  refine l_sld C (pc := 701) dL_law_701 h1 ?_
  refine l_aload_n C (pc := 702) dL_law_702 0 rfl ?_
  refine l_iload C (pc := 703) dL_law_703 4 rfl ?_
  refine l_iconst C (pc := 705) dL_law_705 (v := 2) (by decide) ?_
  refine l_iadd C (pc := 706) dL_law_706 ?_
  refine l_sld C (pc := 707) dL_law_707 h2 ?_
  refine l_callB C (pc := 708) dL_law_708 lmy_X9_sortie lmi_X9_sortie lk_88 rfl rfl rfl (by omega) (by omega) [.int (lxs V (x4 + 1).toNatClampNeg), .int (lxs V (x4 + 2).toNatClampNeg)] rfl rfl (Nat.le_of_ble_eq_true rfl) (tX9_sortie (q := (r2, M2')) C.2.2.2.2.2.2.2.2.2.2.2.1.2 eB) ?_
  change Wl K V M1 M2' f9 _ _ 711 [(0, .ref (lb V)), (1, .ref (adr (lA V) 0)), (2, .ref (adr (lB V) 0)), (3, .ref (lo V)), (4, .int x4), (5, .int r)] [.int r2]
  refine l_istore C (pc := 711) dL_law_711 (lv' := [(0, .ref (lb V)), (1, .ref (adr (lA V) 0)), (2, .ref (adr (lB V) 0)), (3, .ref (lo V)), (4, .int x4), (5, .int r), (6, .int r2)]) rfl rfl rfl ?_
  refine l_aload_n C (pc := 713) dL_law_713 2 rfl ?_
  refine l_callB C (pc := 714) dL_law_714 lmy_X9_thrown lmi_X9_thrown lk_89 rfl rfl rfl (by omega) (by omega) [] rfl rfl (Nat.le_of_ble_eq_true rfl) (tX9_thrown C.2.2.2.2.2.2.2.2.2.2.2.1.2 rfl) ?_
  change Wl K V M1 M2' f9 _ _ 717 [(0, .ref (lb V)), (1, .ref (adr (lA V) 0)), (2, .ref (adr (lB V) 0)), (3, .ref (lo V)), (4, .int x4), (5, .int r), (6, .int r2)] [.int (M2' 0 0)]
  refine l_iload C (pc := 717) dL_law_717 5 rfl ?_
  have hkt : M2' 0 0 = r := by
    cases q with
    | none => rw [hq2 rfl, g2 rfl]
    | some v => rw [(hq1 v rfl).1, (g1 v rfl).1]
  refine l_iceq C (pc := 719) 724 dL_law_719 (by decide) hkt ?_
  refine l_iload C (pc := 724) dL_law_724 5 rfl ?_
  refine l_ifne C (pc := 726) 741 dL_law_726 (by decide) (fun c => ?_) (fun c => ?_)
  · skip
    refine l_aload_n C (pc := 729) dL_law_729 3 rfl ?_
    refine l_iconst C (pc := 730) dL_law_730 (v := 0) (by decide) ?_
    refine l_lald C (pc := 731) dL_law_731 ?_
    refine l_iload C (pc := 732) dL_law_732 6 rfl ?_
    refine l_i2l C (pc := 734) dL_law_734 ?_
    have hlc : f9 0 = r2.toInt64 := by
      cases q with
      | none => rw [g2 rfl] at c; exact absurd c (by decide)
      | some v => rw [(hq1 v rfl).2, (g1 v rfl).2]
    refine lcmp_eq C (pc := 735) dL_law_735 hlc ?_
    refine l_ifeq C (pc := 736) 741 dL_law_736 (by decide) (fun _ => ?_) (fun c => absurd rfl c)
    refine l_goto C (pc := 741) 1044 dL_law_741 (by decide) ?_
    refine l_lv [0, 1, 2, 3, 4] rfl ?_
    exact E M1 M2' f9 _ _ hR' (by omega) (by omega)
  · skip
    refine l_goto C (pc := 741) 1044 dL_law_741 (by decide) ?_
    refine l_lv [0, 1, 2, 3, 4] rfl ?_
    exact E M1 M2' f9 _ _ hR' (by omega) (by omega)
set_option maxRecDepth 100000 in
set_option maxHeartbeats 4000000 in
theorem law_15 {Rel : Mm → Mm → Prop} (hPR : Pairs Rel) {K : Pk} {V : Lz} (C : Lx K V) {M1 M2 : Mm} {f : Nat → Int64} {nc ns Nc Ns : Nat} {x4 : Int32} (hR : Rel M1 M2) (hnc : nc + 1 ≤ Nc) (hns : ns + 6 ≤ Ns) (hNc : Nc ≤ 601024) (hNs : Ns ≤ 7293034) (h1 : vp_in (x4 + 1) (lL V)) (h2 : vp_in (x4 + 2) (lL V)) (h3 : vp_in (x4 + 3) (lL V)) (h4 : vp_in (x4 + 4) (lL V)) (h5 : vp_in (x4 + 5) (lL V)) (E : ∀ M1 M2 f nc ns, Rel M1 M2 → nc ≤ Nc → ns ≤ Ns → Wl K V M1 M2 f nc ns 1044 [(0, .ref (lb V)), (1, .ref (adr (lA V) 0)), (2, .ref (adr (lB V) 0)), (3, .ref (lo V)), (4, .int x4)] []) : Wl K V M1 M2 f nc ns 744 [(0, .ref (lb V)), (1, .ref (adr (lA V) 0)), (2, .ref (adr (lB V) 0)), (3, .ref (lo V)), (4, .int x4)] [] := by
  refine l_aload_n C (pc := 744) dL_law_744 1 rfl ?_
  obtain ⟨r, M1', M2', eA, eB, hR'⟩ := hPR.2.2.2.2.2.2.2.2.2.2.2.2.2.2.2.1 M1 M2  hR
  refine l_callA C (pc := 745) dL_law_745 lmy_X8_wrong lmi_X8_wrong lk_92 rfl rfl rfl (by omega) (by omega) [] rfl rfl (Nat.le_of_ble_eq_true rfl) (tX8_wrong (q := (r, M1')) C.2.2.2.2.2.2.2.2.2.2.2.1.1 eA) ?_
  change Wl K V M1' M2 f _ _ 748 [(0, .ref (lb V)), (1, .ref (adr (lA V) 0)), (2, .ref (adr (lB V) 0)), (3, .ref (lo V)), (4, .int x4)] [.int r]
  refine l_aload_n C (pc := 748) dL_law_748 2 rfl ?_
  refine l_callB C (pc := 749) dL_law_749 lmy_X9_wrong lmi_X9_wrong lk_95 rfl rfl rfl (by omega) (by omega) [] rfl rfl (Nat.le_of_ble_eq_true rfl) (tX9_wrong (q := (r, M2')) C.2.2.2.2.2.2.2.2.2.2.2.1.2 eB) ?_
  change Wl K V M1' M2' f _ _ 752 [(0, .ref (lb V)), (1, .ref (adr (lA V) 0)), (2, .ref (adr (lB V) 0)), (3, .ref (lo V)), (4, .int x4)] [.int r, .int r]
  refine l_iceq C (pc := 752) 1044 dL_law_752 (by decide) rfl ?_
  exact E M1' M2' f _ _ hR' (by omega) (by omega)
set_option maxRecDepth 100000 in
set_option maxHeartbeats 4000000 in
theorem law_16 {Rel : Mm → Mm → Prop} (hPR : Pairs Rel) {K : Pk} {V : Lz} (C : Lx K V) {M1 M2 : Mm} {f : Nat → Int64} {nc ns Nc Ns : Nat} {x4 : Int32} (hR : Rel M1 M2) (hnc : nc + 1 ≤ Nc) (hns : ns + 6 ≤ Ns) (hNc : Nc ≤ 601024) (hNs : Ns ≤ 7293034) (h1 : vp_in (x4 + 1) (lL V)) (h2 : vp_in (x4 + 2) (lL V)) (h3 : vp_in (x4 + 3) (lL V)) (h4 : vp_in (x4 + 4) (lL V)) (h5 : vp_in (x4 + 5) (lL V)) (E : ∀ M1 M2 f nc ns, Rel M1 M2 → nc ≤ Nc → ns ≤ Ns → Wl K V M1 M2 f nc ns 1044 [(0, .ref (lb V)), (1, .ref (adr (lA V) 0)), (2, .ref (adr (lB V) 0)), (3, .ref (lo V)), (4, .int x4)] []) : Wl K V M1 M2 f nc ns 757 [(0, .ref (lb V)), (1, .ref (adr (lA V) 0)), (2, .ref (adr (lB V) 0)), (3, .ref (lo V)), (4, .int x4)] [] := by
  refine l_aload_n C (pc := 757) dL_law_757 1 rfl ?_
  obtain ⟨r, M1', M2', eA, eB, hR'⟩ := hPR.2.2.2.2.2.2.2.2.2.2.2.2.2.2.2.2.1 M1 M2  hR
  refine l_callA C (pc := 758) dL_law_758 lmy_X8_ends lmi_X8_ends lk_96 rfl rfl rfl (by omega) (by omega) [] rfl rfl (Nat.le_of_ble_eq_true rfl) (tX8_ends (q := (r, M1')) C.2.2.2.2.2.2.2.2.2.2.2.1.1 eA) ?_
  change Wl K V M1' M2 f _ _ 761 [(0, .ref (lb V)), (1, .ref (adr (lA V) 0)), (2, .ref (adr (lB V) 0)), (3, .ref (lo V)), (4, .int x4)] [.int r]
  refine l_aload_n C (pc := 761) dL_law_761 2 rfl ?_
  refine l_callB C (pc := 762) dL_law_762 lmy_X9_ends lmi_X9_ends lk_99 rfl rfl rfl (by omega) (by omega) [] rfl rfl (Nat.le_of_ble_eq_true rfl) (tX9_ends (q := (r, M2')) C.2.2.2.2.2.2.2.2.2.2.2.1.2 eB) ?_
  change Wl K V M1' M2' f _ _ 765 [(0, .ref (lb V)), (1, .ref (adr (lA V) 0)), (2, .ref (adr (lB V) 0)), (3, .ref (lo V)), (4, .int x4)] [.int r, .int r]
  refine l_iceq C (pc := 765) 1044 dL_law_765 (by decide) rfl ?_
  exact E M1' M2' f _ _ hR' (by omega) (by omega)
set_option maxRecDepth 100000 in
set_option maxHeartbeats 4000000 in
theorem law_17 {Rel : Mm → Mm → Prop} (hPR : Pairs Rel) {K : Pk} {V : Lz} (C : Lx K V) {M1 M2 : Mm} {f : Nat → Int64} {nc ns Nc Ns : Nat} {x4 : Int32} (hR : Rel M1 M2) (hnc : nc + 1 ≤ Nc) (hns : ns + 6 ≤ Ns) (hNc : Nc ≤ 601024) (hNs : Ns ≤ 7293034) (h1 : vp_in (x4 + 1) (lL V)) (h2 : vp_in (x4 + 2) (lL V)) (h3 : vp_in (x4 + 3) (lL V)) (h4 : vp_in (x4 + 4) (lL V)) (h5 : vp_in (x4 + 5) (lL V)) (E : ∀ M1 M2 f nc ns, Rel M1 M2 → nc ≤ Nc → ns ≤ Ns → Wl K V M1 M2 f nc ns 1044 [(0, .ref (lb V)), (1, .ref (adr (lA V) 0)), (2, .ref (adr (lB V) 0)), (3, .ref (lo V)), (4, .int x4)] []) : Wl K V M1 M2 f nc ns 770 [(0, .ref (lb V)), (1, .ref (adr (lA V) 0)), (2, .ref (adr (lB V) 0)), (3, .ref (lo V)), (4, .int x4)] [] := by
  refine l_aload_n C (pc := 770) dL_law_770 1 rfl ?_
  refine l_aload_n C (pc := 771) dL_law_771 0 rfl ?_
  refine l_iload C (pc := 772) dL_law_772 4 rfl ?_
  refine l_iconst C (pc := 774) dL_law_774 (v := 1) (by decide) ?_
  refine l_iadd C (pc := 775) dL_law_775 ?_
  refine l_sld C (pc := 776) dL_law_776 h1 ?_
  refine l_aload_n C (pc := 777) dL_law_777 0 rfl ?_
  refine l_iload C (pc := 778) dL_law_778 4 rfl ?_
  refine l_iconst C (pc := 780) dL_law_780 (v := 2) (by decide) ?_
  refine l_iadd C (pc := 781) dL_law_781 ?_
  refine l_sld C (pc := 782) dL_law_782 h2 ?_
  obtain ⟨r, M1', M2', eA, eB, hR'⟩ := hPR.2.2.2.2.2.2.2.2.2.2.2.2.2.2.2.2.2.1 M1 M2 (lxs V (x4 + 1).toNatClampNeg) (lxs V (x4 + 2).toNatClampNeg) hR
  refine l_callA C (pc := 783) dL_law_783 lmy_X8_stop lmi_X8_stop lk_100 rfl rfl rfl (by omega) (by omega) [.int (lxs V (x4 + 1).toNatClampNeg), .int (lxs V (x4 + 2).toNatClampNeg)] rfl rfl (Nat.le_of_ble_eq_true rfl) (tX8_stop (q := (r, M1')) C.2.2.2.2.2.2.2.2.2.2.2.1.1 eA) ?_
  change Wl K V M1' M2 f _ _ 786 [(0, .ref (lb V)), (1, .ref (adr (lA V) 0)), (2, .ref (adr (lB V) 0)), (3, .ref (lo V)), (4, .int x4)] [.int r]
  refine l_aload_n C (pc := 786) dL_law_786 2 rfl ?_
  refine l_aload_n C (pc := 787) dL_law_787 0 rfl ?_
  refine l_iload C (pc := 788) dL_law_788 4 rfl ?_
  refine l_iconst C (pc := 790) dL_law_790 (v := 1) (by decide) ?_
  refine l_iadd C (pc := 791) dL_law_791 ?_
  refine l_sld C (pc := 792) dL_law_792 h1 ?_
  refine l_aload_n C (pc := 793) dL_law_793 0 rfl ?_
  refine l_iload C (pc := 794) dL_law_794 4 rfl ?_
  refine l_iconst C (pc := 796) dL_law_796 (v := 2) (by decide) ?_
  refine l_iadd C (pc := 797) dL_law_797 ?_
  refine l_sld C (pc := 798) dL_law_798 h2 ?_
  refine l_callB C (pc := 799) dL_law_799 lmy_X9_stop lmi_X9_stop lk_103 rfl rfl rfl (by omega) (by omega) [.int (lxs V (x4 + 1).toNatClampNeg), .int (lxs V (x4 + 2).toNatClampNeg)] rfl rfl (Nat.le_of_ble_eq_true rfl) (tX9_stop (q := (r, M2')) C.2.2.2.2.2.2.2.2.2.2.2.1.2 eB) ?_
  change Wl K V M1' M2' f _ _ 802 [(0, .ref (lb V)), (1, .ref (adr (lA V) 0)), (2, .ref (adr (lB V) 0)), (3, .ref (lo V)), (4, .int x4)] [.int r, .int r]
  refine l_iceq C (pc := 802) 1044 dL_law_802 (by decide) rfl ?_
  exact E M1' M2' f _ _ hR' (by omega) (by omega)
set_option maxRecDepth 100000 in
set_option maxHeartbeats 4000000 in
theorem law_18 {Rel : Mm → Mm → Prop} (hPR : Pairs Rel) {K : Pk} {V : Lz} (C : Lx K V) {M1 M2 : Mm} {f : Nat → Int64} {nc ns Nc Ns : Nat} {x4 : Int32} (hR : Rel M1 M2) (hnc : nc + 1 ≤ Nc) (hns : ns + 6 ≤ Ns) (hNc : Nc ≤ 601024) (hNs : Ns ≤ 7293034) (h1 : vp_in (x4 + 1) (lL V)) (h2 : vp_in (x4 + 2) (lL V)) (h3 : vp_in (x4 + 3) (lL V)) (h4 : vp_in (x4 + 4) (lL V)) (h5 : vp_in (x4 + 5) (lL V)) (E : ∀ M1 M2 f nc ns, Rel M1 M2 → nc ≤ Nc → ns ≤ Ns → Wl K V M1 M2 f nc ns 1044 [(0, .ref (lb V)), (1, .ref (adr (lA V) 0)), (2, .ref (adr (lB V) 0)), (3, .ref (lo V)), (4, .int x4)] []) : Wl K V M1 M2 f nc ns 807 [(0, .ref (lb V)), (1, .ref (adr (lA V) 0)), (2, .ref (adr (lB V) 0)), (3, .ref (lo V)), (4, .int x4)] [] := by
  refine l_aload_n C (pc := 807) dL_law_807 1 rfl ?_
  refine l_aload_n C (pc := 808) dL_law_808 0 rfl ?_
  refine l_iload C (pc := 809) dL_law_809 4 rfl ?_
  refine l_iconst C (pc := 811) dL_law_811 (v := 1) (by decide) ?_
  refine l_iadd C (pc := 812) dL_law_812 ?_
  refine l_sld C (pc := 813) dL_law_813 h1 ?_
  refine l_aload_n C (pc := 814) dL_law_814 0 rfl ?_
  refine l_iload C (pc := 815) dL_law_815 4 rfl ?_
  refine l_iconst C (pc := 817) dL_law_817 (v := 2) (by decide) ?_
  refine l_iadd C (pc := 818) dL_law_818 ?_
  refine l_sld C (pc := 819) dL_law_819 h2 ?_
  obtain ⟨r, M1', M2', eA, eB, hR'⟩ := hPR.2.2.2.2.2.2.2.2.2.2.2.2.2.2.2.2.2.2.1 M1 M2 (lxs V (x4 + 1).toNatClampNeg) (lxs V (x4 + 2).toNatClampNeg) hR
  refine l_callA C (pc := 820) dL_law_820 lmy_X8_flown lmi_X8_flown lk_104 rfl rfl rfl (by omega) (by omega) [.int (lxs V (x4 + 1).toNatClampNeg), .int (lxs V (x4 + 2).toNatClampNeg)] rfl rfl (Nat.le_of_ble_eq_true rfl) (tX8_flown (q := (r, M1')) C.2.2.2.2.2.2.2.2.2.2.2.1.1 eA) ?_
  change Wl K V M1' M2 f _ _ 823 [(0, .ref (lb V)), (1, .ref (adr (lA V) 0)), (2, .ref (adr (lB V) 0)), (3, .ref (lo V)), (4, .int x4)] [.int r]
  refine l_aload_n C (pc := 823) dL_law_823 2 rfl ?_
  refine l_aload_n C (pc := 824) dL_law_824 0 rfl ?_
  refine l_iload C (pc := 825) dL_law_825 4 rfl ?_
  refine l_iconst C (pc := 827) dL_law_827 (v := 1) (by decide) ?_
  refine l_iadd C (pc := 828) dL_law_828 ?_
  refine l_sld C (pc := 829) dL_law_829 h1 ?_
  refine l_aload_n C (pc := 830) dL_law_830 0 rfl ?_
  refine l_iload C (pc := 831) dL_law_831 4 rfl ?_
  refine l_iconst C (pc := 833) dL_law_833 (v := 2) (by decide) ?_
  refine l_iadd C (pc := 834) dL_law_834 ?_
  refine l_sld C (pc := 835) dL_law_835 h2 ?_
  refine l_callB C (pc := 836) dL_law_836 lmy_X9_flown lmi_X9_flown lk_107 rfl rfl rfl (by omega) (by omega) [.int (lxs V (x4 + 1).toNatClampNeg), .int (lxs V (x4 + 2).toNatClampNeg)] rfl rfl (Nat.le_of_ble_eq_true rfl) (tX9_flown (q := (r, M2')) C.2.2.2.2.2.2.2.2.2.2.2.1.2 eB) ?_
  change Wl K V M1' M2' f _ _ 839 [(0, .ref (lb V)), (1, .ref (adr (lA V) 0)), (2, .ref (adr (lB V) 0)), (3, .ref (lo V)), (4, .int x4)] [.int r, .int r]
  refine l_iceq C (pc := 839) 1044 dL_law_839 (by decide) rfl ?_
  exact E M1' M2' f _ _ hR' (by omega) (by omega)
set_option maxRecDepth 100000 in
set_option maxHeartbeats 4000000 in
theorem law_19 {Rel : Mm → Mm → Prop} (hPR : Pairs Rel) {K : Pk} {V : Lz} (C : Lx K V) {M1 M2 : Mm} {f : Nat → Int64} {nc ns Nc Ns : Nat} {x4 : Int32} (hR : Rel M1 M2) (hnc : nc + 1 ≤ Nc) (hns : ns + 6 ≤ Ns) (hNc : Nc ≤ 601024) (hNs : Ns ≤ 7293034) (h1 : vp_in (x4 + 1) (lL V)) (h2 : vp_in (x4 + 2) (lL V)) (h3 : vp_in (x4 + 3) (lL V)) (h4 : vp_in (x4 + 4) (lL V)) (h5 : vp_in (x4 + 5) (lL V)) (E : ∀ M1 M2 f nc ns, Rel M1 M2 → nc ≤ Nc → ns ≤ Ns → Wl K V M1 M2 f nc ns 1044 [(0, .ref (lb V)), (1, .ref (adr (lA V) 0)), (2, .ref (adr (lB V) 0)), (3, .ref (lo V)), (4, .int x4)] []) : Wl K V M1 M2 f nc ns 844 [(0, .ref (lb V)), (1, .ref (adr (lA V) 0)), (2, .ref (adr (lB V) 0)), (3, .ref (lo V)), (4, .int x4)] [] := by
  refine l_aload_n C (pc := 844) dL_law_844 1 rfl ?_
  refine l_aload_n C (pc := 845) dL_law_845 0 rfl ?_
  refine l_iload C (pc := 846) dL_law_846 4 rfl ?_
  refine l_iconst C (pc := 848) dL_law_848 (v := 1) (by decide) ?_
  refine l_iadd C (pc := 849) dL_law_849 ?_
  refine l_sld C (pc := 850) dL_law_850 h1 ?_
  refine l_aload_n C (pc := 851) dL_law_851 0 rfl ?_
  refine l_iload C (pc := 852) dL_law_852 4 rfl ?_
  refine l_iconst C (pc := 854) dL_law_854 (v := 2) (by decide) ?_
  refine l_iadd C (pc := 855) dL_law_855 ?_
  refine l_sld C (pc := 856) dL_law_856 h2 ?_
  obtain ⟨r, M1', M2', eA, eB, hR'⟩ := hPR.2.2.2.2.2.2.2.2.2.2.2.2.2.2.2.2.2.2.2.1 M1 M2 (lxs V (x4 + 1).toNatClampNeg) (lxs V (x4 + 2).toNatClampNeg) hR
  refine l_callA C (pc := 857) dL_law_857 lmy_X8_event lmi_X8_event lk_108 rfl rfl rfl (by omega) (by omega) [.int (lxs V (x4 + 1).toNatClampNeg), .int (lxs V (x4 + 2).toNatClampNeg)] rfl rfl (Nat.le_of_ble_eq_true rfl) (tX8_event (q := (r, M1')) C.2.2.2.2.2.2.2.2.2.2.2.1.1 eA) ?_
  change Wl K V M1' M2 f _ _ 860 [(0, .ref (lb V)), (1, .ref (adr (lA V) 0)), (2, .ref (adr (lB V) 0)), (3, .ref (lo V)), (4, .int x4)] [.int r]
  refine l_aload_n C (pc := 860) dL_law_860 2 rfl ?_
  refine l_aload_n C (pc := 861) dL_law_861 0 rfl ?_
  refine l_iload C (pc := 862) dL_law_862 4 rfl ?_
  refine l_iconst C (pc := 864) dL_law_864 (v := 1) (by decide) ?_
  refine l_iadd C (pc := 865) dL_law_865 ?_
  refine l_sld C (pc := 866) dL_law_866 h1 ?_
  refine l_aload_n C (pc := 867) dL_law_867 0 rfl ?_
  refine l_iload C (pc := 868) dL_law_868 4 rfl ?_
  refine l_iconst C (pc := 870) dL_law_870 (v := 2) (by decide) ?_
  refine l_iadd C (pc := 871) dL_law_871 ?_
  refine l_sld C (pc := 872) dL_law_872 h2 ?_
  refine l_callB C (pc := 873) dL_law_873 lmy_X9_event lmi_X9_event lk_111 rfl rfl rfl (by omega) (by omega) [.int (lxs V (x4 + 1).toNatClampNeg), .int (lxs V (x4 + 2).toNatClampNeg)] rfl rfl (Nat.le_of_ble_eq_true rfl) (tX9_event (q := (r, M2')) C.2.2.2.2.2.2.2.2.2.2.2.1.2 eB) ?_
  change Wl K V M1' M2' f _ _ 876 [(0, .ref (lb V)), (1, .ref (adr (lA V) 0)), (2, .ref (adr (lB V) 0)), (3, .ref (lo V)), (4, .int x4)] [.int r, .int r]
  refine l_iceq C (pc := 876) 1044 dL_law_876 (by decide) rfl ?_
  exact E M1' M2' f _ _ hR' (by omega) (by omega)
set_option maxRecDepth 100000 in
set_option maxHeartbeats 4000000 in
theorem law_20 {Rel : Mm → Mm → Prop} (hPR : Pairs Rel) {K : Pk} {V : Lz} (C : Lx K V) {M1 M2 : Mm} {f : Nat → Int64} {nc ns Nc Ns : Nat} {x4 : Int32} (hR : Rel M1 M2) (hnc : nc + 1 ≤ Nc) (hns : ns + 6 ≤ Ns) (hNc : Nc ≤ 601024) (hNs : Ns ≤ 7293034) (h1 : vp_in (x4 + 1) (lL V)) (h2 : vp_in (x4 + 2) (lL V)) (h3 : vp_in (x4 + 3) (lL V)) (h4 : vp_in (x4 + 4) (lL V)) (h5 : vp_in (x4 + 5) (lL V)) (E : ∀ M1 M2 f nc ns, Rel M1 M2 → nc ≤ Nc → ns ≤ Ns → Wl K V M1 M2 f nc ns 1044 [(0, .ref (lb V)), (1, .ref (adr (lA V) 0)), (2, .ref (adr (lB V) 0)), (3, .ref (lo V)), (4, .int x4)] []) : Wl K V M1 M2 f nc ns 881 [(0, .ref (lb V)), (1, .ref (adr (lA V) 0)), (2, .ref (adr (lB V) 0)), (3, .ref (lo V)), (4, .int x4)] [] := by
  refine l_aload_n C (pc := 881) dL_law_881 1 rfl ?_
  refine l_aload_n C (pc := 882) dL_law_882 0 rfl ?_
  refine l_iload C (pc := 883) dL_law_883 4 rfl ?_
  refine l_iconst C (pc := 885) dL_law_885 (v := 1) (by decide) ?_
  refine l_iadd C (pc := 886) dL_law_886 ?_
  refine l_sld C (pc := 887) dL_law_887 h1 ?_
  obtain ⟨r, M1', M2', eA, eB, hR'⟩ := hPR.2.2.2.2.2.2.2.2.2.2.2.2.2.2.2.2.2.2.2.2.1 M1 M2 (lxs V (x4 + 1).toNatClampNeg) hR
  refine l_callA C (pc := 888) dL_law_888 lmy_X8_sum lmi_X8_sum lk_112 rfl rfl rfl (by omega) (by omega) [.int (lxs V (x4 + 1).toNatClampNeg)] rfl rfl (Nat.le_of_ble_eq_true rfl) (tX8_sum (q := (r, M1')) C.2.2.2.2.2.2.2.2.2.2.2.1.1 eA) ?_
  change Wl K V M1' M2 f _ _ 891 [(0, .ref (lb V)), (1, .ref (adr (lA V) 0)), (2, .ref (adr (lB V) 0)), (3, .ref (lo V)), (4, .int x4)] [.int r]
  refine l_aload_n C (pc := 891) dL_law_891 2 rfl ?_
  refine l_aload_n C (pc := 892) dL_law_892 0 rfl ?_
  refine l_iload C (pc := 893) dL_law_893 4 rfl ?_
  refine l_iconst C (pc := 895) dL_law_895 (v := 1) (by decide) ?_
  refine l_iadd C (pc := 896) dL_law_896 ?_
  refine l_sld C (pc := 897) dL_law_897 h1 ?_
  refine l_callB C (pc := 898) dL_law_898 lmy_X9_sum lmi_X9_sum lk_115 rfl rfl rfl (by omega) (by omega) [.int (lxs V (x4 + 1).toNatClampNeg)] rfl rfl (Nat.le_of_ble_eq_true rfl) (tX9_sum (q := (r, M2')) C.2.2.2.2.2.2.2.2.2.2.2.1.2 eB) ?_
  change Wl K V M1' M2' f _ _ 901 [(0, .ref (lb V)), (1, .ref (adr (lA V) 0)), (2, .ref (adr (lB V) 0)), (3, .ref (lo V)), (4, .int x4)] [.int r, .int r]
  refine l_iceq C (pc := 901) 1044 dL_law_901 (by decide) rfl ?_
  exact E M1' M2' f _ _ hR' (by omega) (by omega)
set_option maxRecDepth 100000 in
set_option maxHeartbeats 4000000 in
theorem law_21 {Rel : Mm → Mm → Prop} (hPR : Pairs Rel) {K : Pk} {V : Lz} (C : Lx K V) {M1 M2 : Mm} {f : Nat → Int64} {nc ns Nc Ns : Nat} {x4 : Int32} (hR : Rel M1 M2) (hnc : nc + 1 ≤ Nc) (hns : ns + 6 ≤ Ns) (hNc : Nc ≤ 601024) (hNs : Ns ≤ 7293034) (h1 : vp_in (x4 + 1) (lL V)) (h2 : vp_in (x4 + 2) (lL V)) (h3 : vp_in (x4 + 3) (lL V)) (h4 : vp_in (x4 + 4) (lL V)) (h5 : vp_in (x4 + 5) (lL V)) (E : ∀ M1 M2 f nc ns, Rel M1 M2 → nc ≤ Nc → ns ≤ Ns → Wl K V M1 M2 f nc ns 1044 [(0, .ref (lb V)), (1, .ref (adr (lA V) 0)), (2, .ref (adr (lB V) 0)), (3, .ref (lo V)), (4, .int x4)] []) : Wl K V M1 M2 f nc ns 906 [(0, .ref (lb V)), (1, .ref (adr (lA V) 0)), (2, .ref (adr (lB V) 0)), (3, .ref (lo V)), (4, .int x4)] [] := by
  refine l_aload_n C (pc := 906) dL_law_906 1 rfl ?_
  refine l_aload_n C (pc := 907) dL_law_907 0 rfl ?_
  refine l_iload C (pc := 908) dL_law_908 4 rfl ?_
  refine l_iconst C (pc := 910) dL_law_910 (v := 1) (by decide) ?_
  refine l_iadd C (pc := 911) dL_law_911 ?_
  refine l_sld C (pc := 912) dL_law_912 h1 ?_
  obtain ⟨r, M1', M2', eA, eB, hR'⟩ := hPR.2.2.2.2.2.2.2.2.2.2.2.2.2.2.2.2.2.2.2.2.2.1 M1 M2 (lxs V (x4 + 1).toNatClampNeg) hR
  refine l_callA C (pc := 913) dL_law_913 lmy_X8_split lmi_X8_split lk_116 rfl rfl rfl (by omega) (by omega) [.int (lxs V (x4 + 1).toNatClampNeg)] rfl rfl (Nat.le_of_ble_eq_true rfl) (tX8_split (q := (r, M1')) C.2.2.2.2.2.2.2.2.2.2.2.1.1 eA) ?_
  change Wl K V M1' M2 f _ _ 916 [(0, .ref (lb V)), (1, .ref (adr (lA V) 0)), (2, .ref (adr (lB V) 0)), (3, .ref (lo V)), (4, .int x4)] [.int r]
  refine l_aload_n C (pc := 916) dL_law_916 2 rfl ?_
  refine l_aload_n C (pc := 917) dL_law_917 0 rfl ?_
  refine l_iload C (pc := 918) dL_law_918 4 rfl ?_
  refine l_iconst C (pc := 920) dL_law_920 (v := 1) (by decide) ?_
  refine l_iadd C (pc := 921) dL_law_921 ?_
  refine l_sld C (pc := 922) dL_law_922 h1 ?_
  refine l_callB C (pc := 923) dL_law_923 lmy_X9_split lmi_X9_split lk_119 rfl rfl rfl (by omega) (by omega) [.int (lxs V (x4 + 1).toNatClampNeg)] rfl rfl (Nat.le_of_ble_eq_true rfl) (tX9_split (q := (r, M2')) C.2.2.2.2.2.2.2.2.2.2.2.1.2 eB) ?_
  change Wl K V M1' M2' f _ _ 926 [(0, .ref (lb V)), (1, .ref (adr (lA V) 0)), (2, .ref (adr (lB V) 0)), (3, .ref (lo V)), (4, .int x4)] [.int r, .int r]
  refine l_iceq C (pc := 926) 1044 dL_law_926 (by decide) rfl ?_
  exact E M1' M2' f _ _ hR' (by omega) (by omega)
set_option maxRecDepth 100000 in
set_option maxHeartbeats 4000000 in
theorem law_22 {Rel : Mm → Mm → Prop} (hPR : Pairs Rel) {K : Pk} {V : Lz} (C : Lx K V) {M1 M2 : Mm} {f : Nat → Int64} {nc ns Nc Ns : Nat} {x4 : Int32} (hR : Rel M1 M2) (hnc : nc + 1 ≤ Nc) (hns : ns + 6 ≤ Ns) (hNc : Nc ≤ 601024) (hNs : Ns ≤ 7293034) (h1 : vp_in (x4 + 1) (lL V)) (h2 : vp_in (x4 + 2) (lL V)) (h3 : vp_in (x4 + 3) (lL V)) (h4 : vp_in (x4 + 4) (lL V)) (h5 : vp_in (x4 + 5) (lL V)) (E : ∀ M1 M2 f nc ns, Rel M1 M2 → nc ≤ Nc → ns ≤ Ns → Wl K V M1 M2 f nc ns 1044 [(0, .ref (lb V)), (1, .ref (adr (lA V) 0)), (2, .ref (adr (lB V) 0)), (3, .ref (lo V)), (4, .int x4)] []) : Wl K V M1 M2 f nc ns 931 [(0, .ref (lb V)), (1, .ref (adr (lA V) 0)), (2, .ref (adr (lB V) 0)), (3, .ref (lo V)), (4, .int x4)] [] := by
  refine l_aload_n C (pc := 931) dL_law_931 1 rfl ?_
  refine l_aload_n C (pc := 932) dL_law_932 0 rfl ?_
  refine l_iload C (pc := 933) dL_law_933 4 rfl ?_
  refine l_iconst C (pc := 935) dL_law_935 (v := 1) (by decide) ?_
  refine l_iadd C (pc := 936) dL_law_936 ?_
  refine l_sld C (pc := 937) dL_law_937 h1 ?_
  obtain ⟨r, M1', M2', eA, eB, hR'⟩ := hPR.2.2.2.2.2.2.2.2.2.2.2.2.2.2.2.2.2.2.2.2.2.2.1 M1 M2 (lxs V (x4 + 1).toNatClampNeg) hR
  refine l_callA C (pc := 938) dL_law_938 lmy_X8_take lmi_X8_take lk_120 rfl rfl rfl (by omega) (by omega) [.int (lxs V (x4 + 1).toNatClampNeg)] rfl rfl (Nat.le_of_ble_eq_true rfl) (tX8_take (q := (r, M1')) C.2.2.2.2.2.2.2.2.2.2.2.1.1 eA) ?_
  change Wl K V M1' M2 f _ _ 941 [(0, .ref (lb V)), (1, .ref (adr (lA V) 0)), (2, .ref (adr (lB V) 0)), (3, .ref (lo V)), (4, .int x4)] [.int r]
  refine l_aload_n C (pc := 941) dL_law_941 2 rfl ?_
  refine l_aload_n C (pc := 942) dL_law_942 0 rfl ?_
  refine l_iload C (pc := 943) dL_law_943 4 rfl ?_
  refine l_iconst C (pc := 945) dL_law_945 (v := 1) (by decide) ?_
  refine l_iadd C (pc := 946) dL_law_946 ?_
  refine l_sld C (pc := 947) dL_law_947 h1 ?_
  refine l_callB C (pc := 948) dL_law_948 lmy_X9_take lmi_X9_take lk_123 rfl rfl rfl (by omega) (by omega) [.int (lxs V (x4 + 1).toNatClampNeg)] rfl rfl (Nat.le_of_ble_eq_true rfl) (tX9_take (q := (r, M2')) C.2.2.2.2.2.2.2.2.2.2.2.1.2 eB) ?_
  change Wl K V M1' M2' f _ _ 951 [(0, .ref (lb V)), (1, .ref (adr (lA V) 0)), (2, .ref (adr (lB V) 0)), (3, .ref (lo V)), (4, .int x4)] [.int r, .int r]
  refine l_iceq C (pc := 951) 1044 dL_law_951 (by decide) rfl ?_
  exact E M1' M2' f _ _ hR' (by omega) (by omega)
set_option maxRecDepth 100000 in
set_option maxHeartbeats 4000000 in
theorem law_23 {Rel : Mm → Mm → Prop} (hPR : Pairs Rel) {K : Pk} {V : Lz} (C : Lx K V) {M1 M2 : Mm} {f : Nat → Int64} {nc ns Nc Ns : Nat} {x4 : Int32} (hR : Rel M1 M2) (hnc : nc + 1 ≤ Nc) (hns : ns + 6 ≤ Ns) (hNc : Nc ≤ 601024) (hNs : Ns ≤ 7293034) (h1 : vp_in (x4 + 1) (lL V)) (h2 : vp_in (x4 + 2) (lL V)) (h3 : vp_in (x4 + 3) (lL V)) (h4 : vp_in (x4 + 4) (lL V)) (h5 : vp_in (x4 + 5) (lL V)) (E : ∀ M1 M2 f nc ns, Rel M1 M2 → nc ≤ Nc → ns ≤ Ns → Wl K V M1 M2 f nc ns 1044 [(0, .ref (lb V)), (1, .ref (adr (lA V) 0)), (2, .ref (adr (lB V) 0)), (3, .ref (lo V)), (4, .int x4)] []) : Wl K V M1 M2 f nc ns 956 [(0, .ref (lb V)), (1, .ref (adr (lA V) 0)), (2, .ref (adr (lB V) 0)), (3, .ref (lo V)), (4, .int x4)] [] := by
  refine l_aload_n C (pc := 956) dL_law_956 1 rfl ?_
  obtain ⟨r, M1', M2', eA, eB, hR'⟩ := hPR.2.2.2.2.2.2.2.2.2.2.2.2.2.2.2.2.2.2.2.2.2.2.2.1 M1 M2  hR
  refine l_callA C (pc := 957) dL_law_957 lmy_X8_best lmi_X8_best lk_124 rfl rfl rfl (by omega) (by omega) [] rfl rfl (Nat.le_of_ble_eq_true rfl) (tX8_best (q := (r, M1')) C.2.2.2.2.2.2.2.2.2.2.2.1.1 eA) ?_
  change Wl K V M1' M2 f _ _ 960 [(0, .ref (lb V)), (1, .ref (adr (lA V) 0)), (2, .ref (adr (lB V) 0)), (3, .ref (lo V)), (4, .int x4)] [.int r]
  refine l_aload_n C (pc := 960) dL_law_960 2 rfl ?_
  refine l_callB C (pc := 961) dL_law_961 lmy_X9_best lmi_X9_best lk_127 rfl rfl rfl (by omega) (by omega) [] rfl rfl (Nat.le_of_ble_eq_true rfl) (tX9_best (q := (r, M2')) C.2.2.2.2.2.2.2.2.2.2.2.1.2 eB) ?_
  change Wl K V M1' M2' f _ _ 964 [(0, .ref (lb V)), (1, .ref (adr (lA V) 0)), (2, .ref (adr (lB V) 0)), (3, .ref (lo V)), (4, .int x4)] [.int r, .int r]
  refine l_iceq C (pc := 964) 1044 dL_law_964 (by decide) rfl ?_
  exact E M1' M2' f _ _ hR' (by omega) (by omega)
set_option maxRecDepth 100000 in
set_option maxHeartbeats 4000000 in
theorem law_24 {Rel : Mm → Mm → Prop} (hPR : Pairs Rel) {K : Pk} {V : Lz} (C : Lx K V) {M1 M2 : Mm} {f : Nat → Int64} {nc ns Nc Ns : Nat} {x4 : Int32} (hR : Rel M1 M2) (hnc : nc + 1 ≤ Nc) (hns : ns + 6 ≤ Ns) (hNc : Nc ≤ 601024) (hNs : Ns ≤ 7293034) (h1 : vp_in (x4 + 1) (lL V)) (h2 : vp_in (x4 + 2) (lL V)) (h3 : vp_in (x4 + 3) (lL V)) (h4 : vp_in (x4 + 4) (lL V)) (h5 : vp_in (x4 + 5) (lL V)) (E : ∀ M1 M2 f nc ns, Rel M1 M2 → nc ≤ Nc → ns ≤ Ns → Wl K V M1 M2 f nc ns 1044 [(0, .ref (lb V)), (1, .ref (adr (lA V) 0)), (2, .ref (adr (lB V) 0)), (3, .ref (lo V)), (4, .int x4)] []) : Wl K V M1 M2 f nc ns 969 [(0, .ref (lb V)), (1, .ref (adr (lA V) 0)), (2, .ref (adr (lB V) 0)), (3, .ref (lo V)), (4, .int x4)] [] := by
  refine l_aload_n C (pc := 969) dL_law_969 1 rfl ?_
  obtain ⟨r, M1', M2', eA, eB, hR'⟩ := hPR.2.2.2.2.2.2.2.2.2.2.2.2.2.2.2.2.2.2.2.2.2.2.2.2.1 M1 M2  hR
  refine l_callA C (pc := 970) dL_law_970 lmy_X8_bestOrder lmi_X8_bestOrder lk_128 rfl rfl rfl (by omega) (by omega) [] rfl rfl (Nat.le_of_ble_eq_true rfl) (tX8_bestOrder (q := (r, M1')) C.2.2.2.2.2.2.2.2.2.2.2.1.1 eA) ?_
  change Wl K V M1' M2 f _ _ 973 [(0, .ref (lb V)), (1, .ref (adr (lA V) 0)), (2, .ref (adr (lB V) 0)), (3, .ref (lo V)), (4, .int x4)] [.int r]
  refine l_aload_n C (pc := 973) dL_law_973 2 rfl ?_
  refine l_callB C (pc := 974) dL_law_974 lmy_X9_bestOrder lmi_X9_bestOrder lk_131 rfl rfl rfl (by omega) (by omega) [] rfl rfl (Nat.le_of_ble_eq_true rfl) (tX9_bestOrder (q := (r, M2')) C.2.2.2.2.2.2.2.2.2.2.2.1.2 eB) ?_
  change Wl K V M1' M2' f _ _ 977 [(0, .ref (lb V)), (1, .ref (adr (lA V) 0)), (2, .ref (adr (lB V) 0)), (3, .ref (lo V)), (4, .int x4)] [.int r, .int r]
  refine l_iceq C (pc := 977) 1044 dL_law_977 (by decide) rfl ?_
  exact E M1' M2' f _ _ hR' (by omega) (by omega)
set_option maxRecDepth 100000 in
set_option maxHeartbeats 4000000 in
theorem law_25 {Rel : Mm → Mm → Prop} (hPR : Pairs Rel) {K : Pk} {V : Lz} (C : Lx K V) {M1 M2 : Mm} {f : Nat → Int64} {nc ns Nc Ns : Nat} {x4 : Int32} (hR : Rel M1 M2) (hnc : nc + 1 ≤ Nc) (hns : ns + 6 ≤ Ns) (hNc : Nc ≤ 601024) (hNs : Ns ≤ 7293034) (h1 : vp_in (x4 + 1) (lL V)) (h2 : vp_in (x4 + 2) (lL V)) (h3 : vp_in (x4 + 3) (lL V)) (h4 : vp_in (x4 + 4) (lL V)) (h5 : vp_in (x4 + 5) (lL V)) (E : ∀ M1 M2 f nc ns, Rel M1 M2 → nc ≤ Nc → ns ≤ Ns → Wl K V M1 M2 f nc ns 1044 [(0, .ref (lb V)), (1, .ref (adr (lA V) 0)), (2, .ref (adr (lB V) 0)), (3, .ref (lo V)), (4, .int x4)] []) : Wl K V M1 M2 f nc ns 982 [(0, .ref (lb V)), (1, .ref (adr (lA V) 0)), (2, .ref (adr (lB V) 0)), (3, .ref (lo V)), (4, .int x4)] [] := by
  refine l_aload_n C (pc := 982) dL_law_982 1 rfl ?_
  refine l_aload_n C (pc := 983) dL_law_983 0 rfl ?_
  refine l_iload C (pc := 984) dL_law_984 4 rfl ?_
  refine l_iconst C (pc := 986) dL_law_986 (v := 1) (by decide) ?_
  refine l_iadd C (pc := 987) dL_law_987 ?_
  refine l_sld C (pc := 988) dL_law_988 h1 ?_
  obtain ⟨r, M1', M2', eA, eB, hR'⟩ := hPR.2.2.2.2.2.2.2.2.2.2.2.2.2.2.2.2.2.2.2.2.2.2.2.2.2.1 M1 M2 (lxs V (x4 + 1).toNatClampNeg) hR
  refine l_callA C (pc := 989) dL_law_989 lmy_X8_alone lmi_X8_alone lk_132 rfl rfl rfl (by omega) (by omega) [.int (lxs V (x4 + 1).toNatClampNeg)] rfl rfl (Nat.le_of_ble_eq_true rfl) (tX8_alone (q := (r, M1')) C.2.2.2.2.2.2.2.2.2.2.2.1.1 eA) ?_
  change Wl K V M1' M2 f _ _ 992 [(0, .ref (lb V)), (1, .ref (adr (lA V) 0)), (2, .ref (adr (lB V) 0)), (3, .ref (lo V)), (4, .int x4)] [.int r]
  refine l_aload_n C (pc := 992) dL_law_992 2 rfl ?_
  refine l_aload_n C (pc := 993) dL_law_993 0 rfl ?_
  refine l_iload C (pc := 994) dL_law_994 4 rfl ?_
  refine l_iconst C (pc := 996) dL_law_996 (v := 1) (by decide) ?_
  refine l_iadd C (pc := 997) dL_law_997 ?_
  refine l_sld C (pc := 998) dL_law_998 h1 ?_
  refine l_callB C (pc := 999) dL_law_999 lmy_X9_alone lmi_X9_alone lk_135 rfl rfl rfl (by omega) (by omega) [.int (lxs V (x4 + 1).toNatClampNeg)] rfl rfl (Nat.le_of_ble_eq_true rfl) (tX9_alone (q := (r, M2')) C.2.2.2.2.2.2.2.2.2.2.2.1.2 eB) ?_
  change Wl K V M1' M2' f _ _ 1002 [(0, .ref (lb V)), (1, .ref (adr (lA V) 0)), (2, .ref (adr (lB V) 0)), (3, .ref (lo V)), (4, .int x4)] [.int r, .int r]
  refine l_iceq C (pc := 1002) 1044 dL_law_1002 (by decide) rfl ?_
  exact E M1' M2' f _ _ hR' (by omega) (by omega)
set_option maxRecDepth 100000 in
set_option maxHeartbeats 4000000 in
theorem law_26 {Rel : Mm → Mm → Prop} (hPR : Pairs Rel) {K : Pk} {V : Lz} (C : Lx K V) {M1 M2 : Mm} {f : Nat → Int64} {nc ns Nc Ns : Nat} {x4 : Int32} (hR : Rel M1 M2) (hnc : nc + 1 ≤ Nc) (hns : ns + 6 ≤ Ns) (hNc : Nc ≤ 601024) (hNs : Ns ≤ 7293034) (h1 : vp_in (x4 + 1) (lL V)) (h2 : vp_in (x4 + 2) (lL V)) (h3 : vp_in (x4 + 3) (lL V)) (h4 : vp_in (x4 + 4) (lL V)) (h5 : vp_in (x4 + 5) (lL V)) (E : ∀ M1 M2 f nc ns, Rel M1 M2 → nc ≤ Nc → ns ≤ Ns → Wl K V M1 M2 f nc ns 1044 [(0, .ref (lb V)), (1, .ref (adr (lA V) 0)), (2, .ref (adr (lB V) 0)), (3, .ref (lo V)), (4, .int x4)] []) : Wl K V M1 M2 f nc ns 1007 [(0, .ref (lb V)), (1, .ref (adr (lA V) 0)), (2, .ref (adr (lB V) 0)), (3, .ref (lo V)), (4, .int x4)] [] := by
  refine l_aload_n C (pc := 1007) dL_law_1007 1 rfl ?_
  refine l_aload_n C (pc := 1008) dL_law_1008 0 rfl ?_
  refine l_iload C (pc := 1009) dL_law_1009 4 rfl ?_
  refine l_iconst C (pc := 1011) dL_law_1011 (v := 1) (by decide) ?_
  refine l_iadd C (pc := 1012) dL_law_1012 ?_
  refine l_sld C (pc := 1013) dL_law_1013 h1 ?_
  refine l_aload_n C (pc := 1014) dL_law_1014 0 rfl ?_
  refine l_iload C (pc := 1015) dL_law_1015 4 rfl ?_
  refine l_iconst C (pc := 1017) dL_law_1017 (v := 2) (by decide) ?_
  refine l_iadd C (pc := 1018) dL_law_1018 ?_
  refine l_sld C (pc := 1019) dL_law_1019 h2 ?_
  obtain ⟨r, M1', M2', eA, eB, hR'⟩ := hPR.2.2.2.2.2.2.2.2.2.2.2.2.2.2.2.2.2.2.2.2.2.2.2.2.2.2 M1 M2 (lxs V (x4 + 1).toNatClampNeg) (lxs V (x4 + 2).toNatClampNeg) hR
  refine l_callA C (pc := 1020) dL_law_1020 lmy_X8_wind lmi_X8_wind lk_136 rfl rfl rfl (by omega) (by omega) [.int (lxs V (x4 + 1).toNatClampNeg), .int (lxs V (x4 + 2).toNatClampNeg)] rfl rfl (Nat.le_of_ble_eq_true rfl) (tX8_wind (q := (r, M1')) C.2.2.2.2.2.2.2.2.2.2.2.1.1 eA) ?_
  change Wl K V M1' M2 f _ _ 1023 [(0, .ref (lb V)), (1, .ref (adr (lA V) 0)), (2, .ref (adr (lB V) 0)), (3, .ref (lo V)), (4, .int x4)] [.int r]
  refine l_aload_n C (pc := 1023) dL_law_1023 2 rfl ?_
  refine l_aload_n C (pc := 1024) dL_law_1024 0 rfl ?_
  refine l_iload C (pc := 1025) dL_law_1025 4 rfl ?_
  refine l_iconst C (pc := 1027) dL_law_1027 (v := 1) (by decide) ?_
  refine l_iadd C (pc := 1028) dL_law_1028 ?_
  refine l_sld C (pc := 1029) dL_law_1029 h1 ?_
  refine l_aload_n C (pc := 1030) dL_law_1030 0 rfl ?_
  refine l_iload C (pc := 1031) dL_law_1031 4 rfl ?_
  refine l_iconst C (pc := 1033) dL_law_1033 (v := 2) (by decide) ?_
  refine l_iadd C (pc := 1034) dL_law_1034 ?_
  refine l_sld C (pc := 1035) dL_law_1035 h2 ?_
  refine l_callB C (pc := 1036) dL_law_1036 lmy_X9_wind lmi_X9_wind lk_139 rfl rfl rfl (by omega) (by omega) [.int (lxs V (x4 + 1).toNatClampNeg), .int (lxs V (x4 + 2).toNatClampNeg)] rfl rfl (Nat.le_of_ble_eq_true rfl) (tX9_wind (q := (r, M2')) C.2.2.2.2.2.2.2.2.2.2.2.1.2 eB) ?_
  change Wl K V M1' M2' f _ _ 1039 [(0, .ref (lb V)), (1, .ref (adr (lA V) 0)), (2, .ref (adr (lB V) 0)), (3, .ref (lo V)), (4, .int x4)] [.int r, .int r]
  refine l_iceq C (pc := 1039) 1044 dL_law_1039 (by decide) rfl ?_
  exact E M1' M2' f _ _ hR' (by omega) (by omega)
