theorem w_1506 : Cond.fieldLink RX12 182 "WidowRowModel" "isBegun" "Z" ∈ WS := ws_in (tk_7 (List.mem_of_getElem? (i := 66) rfl)) rfl
theorem g_RX12_182 : JFld RX12 182 12 23 3 false := ⟨RX12, TX12, 52, _, jc_12, by decide, w_1506, rfl, rfl⟩
theorem w_1497 : Cond.fieldLink RX12 13 "WidowRowModel" "now" "[I" ∈ WS := ws_in (tk_7 (List.mem_of_getElem? (i := 57) rfl)) rfl
theorem g_RX12_13 : JFld RX12 13 12 14 2 true := ⟨RX12, TX12, 52, _, jc_12, by decide, w_1497, rfl, rfl⟩
theorem w_1483 : Cond.fieldLink RX12 87 "WidowRowModel" "thrown" "I" ∈ WS := ws_in (tk_7 (List.mem_of_getElem? (i := 43) rfl)) rfl
theorem g_RX12_87 : JFld RX12 87 12 0 0 false := ⟨RX12, TX12, 52, _, jc_12, by decide, w_1483, rfl, rfl⟩
theorem w_1665 : Cond.methodLink RX12 175 yX12_layAll ∈ WS := ws_in (tk_7 (List.mem_of_getElem? (i := 225) rfl)) rfl
theorem w_1668 : Cond.code yX12_layAll cX12_layAll 1 none ∈ WS := ws_in (tk_7 (List.mem_of_getElem? (i := 228) rfl)) rfl
theorem w_13 : Cond.initialized RX12 ∈ WS := ws_in (tk_1 (List.mem_of_getElem? (i := 13) rfl)) rfl
theorem l_RX12_175 : JLnk RX12 175 yX12_layAll cX12_layAll 1 none 0 := ⟨w_1665, w_1668, w_13, by decide +kernel⟩
theorem w_1667 : Cond.instanceMethod yX12_layAll ∈ WS := ws_in (tk_7 (List.mem_of_getElem? (i := 227) rfl)) rfl
theorem wp_70 : Cond.selects RX12 yX12_layAll yX12_layAll ∈ WS := ws_in (List.mem_append_left tables_1 (List.mem_of_getElem? (i := 70) (by decide +kernel))) rfl
theorem v_RX12_175 : JVir RX12 175 yX12_layAll cX12_layAll 1 none 0 12 := ⟨l_RX12_175, w_1667, wp_70, TX12, 52, rfl⟩
theorem w_1810 : Cond.methodLink RX12 237 yX12_widows ∈ WS := ws_in (tk_8 (List.mem_of_getElem? (i := 130) rfl)) rfl
theorem w_1813 : Cond.code yX12_widows cX12_widows 1 (some .int) ∈ WS := ws_in (tk_8 (List.mem_of_getElem? (i := 133) rfl)) rfl
theorem l_RX12_237 : JLnk RX12 237 yX12_widows cX12_widows 1 (some .int) 0 := ⟨w_1810, w_1813, w_13, by decide +kernel⟩
theorem w_1812 : Cond.instanceMethod yX12_widows ∈ WS := ws_in (tk_8 (List.mem_of_getElem? (i := 132) rfl)) rfl
theorem wp_95 : Cond.selects RX12 yX12_widows yX12_widows ∈ WS := ws_in (List.mem_append_left tables_1 (List.mem_of_getElem? (i := 95) (by decide +kernel))) rfl
theorem v_RX12_237 : JVir RX12 237 yX12_widows cX12_widows 1 (some .int) 0 12 := ⟨l_RX12_237, w_1812, wp_95, TX12, 52, rfl⟩
theorem w_1774 : Cond.methodLink RX12 240 yX12_stones ∈ WS := ws_in (tk_8 (List.mem_of_getElem? (i := 94) rfl)) rfl
theorem w_1777 : Cond.code yX12_stones cX12_stones 1 (some .int) ∈ WS := ws_in (tk_8 (List.mem_of_getElem? (i := 97) rfl)) rfl
theorem l_RX12_240 : JLnk RX12 240 yX12_stones cX12_stones 1 (some .int) 0 := ⟨w_1774, w_1777, w_13, by decide +kernel⟩
theorem w_1776 : Cond.instanceMethod yX12_stones ∈ WS := ws_in (tk_8 (List.mem_of_getElem? (i := 96) rfl)) rfl
theorem wp_88 : Cond.selects RX12 yX12_stones yX12_stones ∈ WS := ws_in (List.mem_append_left tables_1 (List.mem_of_getElem? (i := 88) (by decide +kernel))) rfl
theorem v_RX12_240 : JVir RX12 240 yX12_stones cX12_stones 1 (some .int) 0 12 := ⟨l_RX12_240, w_1776, wp_88, TX12, 52, rfl⟩
theorem w_1743 : Cond.methodLink RX12 201 yX12_has ∈ WS := ws_in (tk_8 (List.mem_of_getElem? (i := 63) rfl)) rfl
theorem w_1745 : Cond.code yX12_has cX12_has 2 (some .boolean) ∈ WS := ws_in (tk_8 (List.mem_of_getElem? (i := 65) rfl)) rfl
theorem l_RX12_201 : JLnk RX12 201 yX12_has cX12_has 2 (some .boolean) 2 := ⟨w_1743, w_1745, w_13, by decide +kernel⟩
theorem w_1744 : Cond.static yX12_has ∈ WS := ws_in (tk_8 (List.mem_of_getElem? (i := 64) rfl)) rfl
theorem s_RX12_201 : JSta RX12 201 yX12_has cX12_has 2 (some .boolean) 2 := ⟨l_RX12_201, w_1744⟩
theorem w_1790 : Cond.methodLink RX12 250 yX12_rowMany ∈ WS := ws_in (tk_8 (List.mem_of_getElem? (i := 110) rfl)) rfl
theorem w_1793 : Cond.code yX12_rowMany cX12_rowMany 1 (some .int) ∈ WS := ws_in (tk_8 (List.mem_of_getElem? (i := 113) rfl)) rfl
theorem l_RX12_250 : JLnk RX12 250 yX12_rowMany cX12_rowMany 1 (some .int) 0 := ⟨w_1790, w_1793, w_13, by decide +kernel⟩
theorem w_1792 : Cond.instanceMethod yX12_rowMany ∈ WS := ws_in (tk_8 (List.mem_of_getElem? (i := 112) rfl)) rfl
theorem wp_92 : Cond.selects RX12 yX12_rowMany yX12_rowMany ∈ WS := ws_in (List.mem_append_left tables_1 (List.mem_of_getElem? (i := 92) (by decide +kernel))) rfl
theorem v_RX12_250 : JVir RX12 250 yX12_rowMany cX12_rowMany 1 (some .int) 0 12 := ⟨l_RX12_250, w_1792, wp_92, TX12, 52, rfl⟩
theorem w_1485 : Cond.fieldLink RX12 90 "WidowRowModel" "taped" "I" ∈ WS := ws_in (tk_7 (List.mem_of_getElem? (i := 45) rfl)) rfl
theorem g_RX12_90 : JFld RX12 90 12 2 0 false := ⟨RX12, TX12, 52, _, jc_12, by decide, w_1485, rfl, rfl⟩
theorem w_1733 : Cond.methodLink RX12 158 yX12_isIn ∈ WS := ws_in (tk_8 (List.mem_of_getElem? (i := 53) rfl)) rfl
theorem w_1735 : Cond.code yX12_isIn cX12_isIn 3 (some .boolean) ∈ WS := ws_in (tk_8 (List.mem_of_getElem? (i := 55) rfl)) rfl
theorem l_RX12_158 : JLnk RX12 158 yX12_isIn cX12_isIn 3 (some .boolean) 3 := ⟨w_1733, w_1735, w_13, by decide +kernel⟩
theorem w_1734 : Cond.static yX12_isIn ∈ WS := ws_in (tk_8 (List.mem_of_getElem? (i := 54) rfl)) rfl
theorem s_RX12_158 : JSta RX12 158 yX12_isIn cX12_isIn 3 (some .boolean) 3 := ⟨l_RX12_158, w_1734⟩
theorem w_1504 : Cond.fieldLink RX12 35 "WidowRowModel" "isKept" "[Z" ∈ WS := ws_in (tk_7 (List.mem_of_getElem? (i := 64) rfl)) rfl
theorem g_RX12_35 : JFld RX12 35 12 21 2 true := ⟨RX12, TX12, 52, _, jc_12, by decide, w_1504, rfl, rfl⟩
theorem w_1505 : Cond.fieldLink RX12 234 "WidowRowModel" "snapMany" "I" ∈ WS := ws_in (tk_7 (List.mem_of_getElem? (i := 65) rfl)) rfl
theorem g_RX12_234 : JFld RX12 234 12 22 0 false := ⟨RX12, TX12, 52, _, jc_12, by decide, w_1505, rfl, rfl⟩
theorem w_1501 : Cond.fieldLink RX12 25 "WidowRowModel" "name" "[J" ∈ WS := ws_in (tk_7 (List.mem_of_getElem? (i := 61) rfl)) rfl
theorem g_RX12_25 : JFld RX12 25 12 18 2 true := ⟨RX12, TX12, 52, _, jc_12, by decide, w_1501, rfl, rfl⟩
theorem w_1503 : Cond.fieldLink RX12 32 "WidowRowModel" "keptName" "[J" ∈ WS := ws_in (tk_7 (List.mem_of_getElem? (i := 63) rfl)) rfl
theorem g_RX12_32 : JFld RX12 32 12 20 2 true := ⟨RX12, TX12, 52, _, jc_12, by decide, w_1503, rfl, rfl⟩
theorem w_1499 : Cond.fieldLink RX12 19 "WidowRowModel" "kept" "[I" ∈ WS := ws_in (tk_7 (List.mem_of_getElem? (i := 59) rfl)) rfl
theorem g_RX12_19 : JFld RX12 19 12 16 2 true := ⟨RX12, TX12, 52, _, jc_12, by decide, w_1499, rfl, rfl⟩
theorem w_1794 : Cond.methodLink RX12 247 yX12_rowStone ∈ WS := ws_in (tk_8 (List.mem_of_getElem? (i := 114) rfl)) rfl
theorem w_1797 : Cond.code yX12_rowStone cX12_rowStone 2 (some .int) ∈ WS := ws_in (tk_8 (List.mem_of_getElem? (i := 117) rfl)) rfl
theorem l_RX12_247 : JLnk RX12 247 yX12_rowStone cX12_rowStone 2 (some .int) 1 := ⟨w_1794, w_1797, w_13, by decide +kernel⟩
theorem w_1796 : Cond.instanceMethod yX12_rowStone ∈ WS := ws_in (tk_8 (List.mem_of_getElem? (i := 116) rfl)) rfl
theorem wp_93 : Cond.selects RX12 yX12_rowStone yX12_rowStone ∈ WS := ws_in (List.mem_append_left tables_1 (List.mem_of_getElem? (i := 93) (by decide +kernel))) rfl
theorem v_RX12_247 : JVir RX12 247 yX12_rowStone cX12_rowStone 2 (some .int) 1 12 := ⟨l_RX12_247, w_1796, wp_93, TX12, 52, rfl⟩
theorem w_1782 : Cond.methodLink RX12 243 yX12_pip ∈ WS := ws_in (tk_8 (List.mem_of_getElem? (i := 102) rfl)) rfl
theorem w_1785 : Cond.code yX12_pip cX12_pip 3 (some .int) ∈ WS := ws_in (tk_8 (List.mem_of_getElem? (i := 105) rfl)) rfl
theorem l_RX12_243 : JLnk RX12 243 yX12_pip cX12_pip 3 (some .int) 2 := ⟨w_1782, w_1785, w_13, by decide +kernel⟩
theorem w_1784 : Cond.instanceMethod yX12_pip ∈ WS := ws_in (tk_8 (List.mem_of_getElem? (i := 104) rfl)) rfl
theorem wp_90 : Cond.selects RX12 yX12_pip yX12_pip ∈ WS := ws_in (List.mem_append_left tables_1 (List.mem_of_getElem? (i := 90) (by decide +kernel))) rfl
theorem v_RX12_243 : JVir RX12 243 yX12_pip cX12_pip 3 (some .int) 2 12 := ⟨l_RX12_243, w_1784, wp_90, TX12, 52, rfl⟩
theorem w_1786 : Cond.methodLink RX12 259 yX12_placeOf ∈ WS := ws_in (tk_8 (List.mem_of_getElem? (i := 106) rfl)) rfl
theorem w_1789 : Cond.code yX12_placeOf cX12_placeOf 3 (some .int) ∈ WS := ws_in (tk_8 (List.mem_of_getElem? (i := 109) rfl)) rfl
theorem l_RX12_259 : JLnk RX12 259 yX12_placeOf cX12_placeOf 3 (some .int) 1 := ⟨w_1786, w_1789, w_13, by decide +kernel⟩
theorem w_1788 : Cond.instanceMethod yX12_placeOf ∈ WS := ws_in (tk_8 (List.mem_of_getElem? (i := 108) rfl)) rfl
theorem wp_91 : Cond.selects RX12 yX12_placeOf yX12_placeOf ∈ WS := ws_in (List.mem_append_left tables_1 (List.mem_of_getElem? (i := 91) (by decide +kernel))) rfl
theorem v_RX12_259 : JVir RX12 259 yX12_placeOf cX12_placeOf 3 (some .int) 1 12 := ⟨l_RX12_259, w_1788, wp_91, TX12, 52, rfl⟩
theorem w_1937 : Cond.methodLink RX12 309 yX12_most ∈ WS := ws_in (tk_9 (List.mem_of_getElem? (i := 17) rfl)) rfl
theorem w_1939 : Cond.code yX12_most cX12_most 2 (some .int) ∈ WS := ws_in (tk_9 (List.mem_of_getElem? (i := 19) rfl)) rfl
theorem l_RX12_309 : JLnk RX12 309 yX12_most cX12_most 2 (some .int) 2 := ⟨w_1937, w_1939, w_13, by decide +kernel⟩
theorem w_1938 : Cond.static yX12_most ∈ WS := ws_in (tk_9 (List.mem_of_getElem? (i := 18) rfl)) rfl
theorem s_RX12_309 : JSta RX12 309 yX12_most cX12_most 2 (some .int) 2 := ⟨l_RX12_309, w_1938⟩
theorem w_1842 : Cond.methodLink RX12 274 yX12_endAt ∈ WS := ws_in (tk_8 (List.mem_of_getElem? (i := 162) rfl)) rfl
theorem w_1845 : Cond.code yX12_endAt cX12_endAt 2 (some .int) ∈ WS := ws_in (tk_8 (List.mem_of_getElem? (i := 165) rfl)) rfl
theorem l_RX12_274 : JLnk RX12 274 yX12_endAt cX12_endAt 2 (some .int) 1 := ⟨w_1842, w_1845, w_13, by decide +kernel⟩
theorem w_1844 : Cond.instanceMethod yX12_endAt ∈ WS := ws_in (tk_8 (List.mem_of_getElem? (i := 164) rfl)) rfl
theorem wp_100 : Cond.selects RX12 yX12_endAt yX12_endAt ∈ WS := ws_in (List.mem_append_left tables_1 (List.mem_of_getElem? (i := 100) (by decide +kernel))) rfl
theorem v_RX12_274 : JVir RX12 274 yX12_endAt cX12_endAt 2 (some .int) 1 12 := ⟨l_RX12_274, w_1844, wp_100, TX12, 52, rfl⟩
theorem w_1846 : Cond.methodLink RX12 277 yX12_rowPip ∈ WS := ws_in (tk_8 (List.mem_of_getElem? (i := 166) rfl)) rfl
theorem w_1849 : Cond.code yX12_rowPip cX12_rowPip 3 (some .int) ∈ WS := ws_in (tk_8 (List.mem_of_getElem? (i := 169) rfl)) rfl
theorem l_RX12_277 : JLnk RX12 277 yX12_rowPip cX12_rowPip 3 (some .int) 2 := ⟨w_1846, w_1849, w_13, by decide +kernel⟩
theorem w_1848 : Cond.instanceMethod yX12_rowPip ∈ WS := ws_in (tk_8 (List.mem_of_getElem? (i := 168) rfl)) rfl
theorem wp_101 : Cond.selects RX12 yX12_rowPip yX12_rowPip ∈ WS := ws_in (List.mem_append_left tables_1 (List.mem_of_getElem? (i := 101) (by decide +kernel))) rfl
theorem v_RX12_277 : JVir RX12 277 yX12_rowPip cX12_rowPip 3 (some .int) 2 12 := ⟨l_RX12_277, w_1848, wp_101, TX12, 52, rfl⟩
theorem w_1838 : Cond.methodLink RX12 280 yX12_pipsAt ∈ WS := ws_in (tk_8 (List.mem_of_getElem? (i := 158) rfl)) rfl
theorem w_1841 : Cond.code yX12_pipsAt cX12_pipsAt 2 (some .int) ∈ WS := ws_in (tk_8 (List.mem_of_getElem? (i := 161) rfl)) rfl
theorem l_RX12_280 : JLnk RX12 280 yX12_pipsAt cX12_pipsAt 2 (some .int) 1 := ⟨w_1838, w_1841, w_13, by decide +kernel⟩
theorem w_1840 : Cond.instanceMethod yX12_pipsAt ∈ WS := ws_in (tk_8 (List.mem_of_getElem? (i := 160) rfl)) rfl
theorem wp_99 : Cond.selects RX12 yX12_pipsAt yX12_pipsAt ∈ WS := ws_in (List.mem_append_left tables_1 (List.mem_of_getElem? (i := 99) (by decide +kernel))) rfl
theorem v_RX12_280 : JVir RX12 280 yX12_pipsAt cX12_pipsAt 2 (some .int) 1 12 := ⟨l_RX12_280, w_1840, wp_99, TX12, 52, rfl⟩
theorem w_1826 : Cond.methodLink RX12 271 yX12_fit ∈ WS := ws_in (tk_8 (List.mem_of_getElem? (i := 146) rfl)) rfl
theorem w_1829 : Cond.code yX12_fit cX12_fit 3 (some .boolean) ∈ WS := ws_in (tk_8 (List.mem_of_getElem? (i := 149) rfl)) rfl
theorem l_RX12_271 : JLnk RX12 271 yX12_fit cX12_fit 3 (some .boolean) 2 := ⟨w_1826, w_1829, w_13, by decide +kernel⟩
theorem w_1828 : Cond.instanceMethod yX12_fit ∈ WS := ws_in (tk_8 (List.mem_of_getElem? (i := 148) rfl)) rfl
theorem wp_98 : Cond.selects RX12 yX12_fit yX12_fit ∈ WS := ws_in (List.mem_append_left tables_1 (List.mem_of_getElem? (i := 98) (by decide +kernel))) rfl
theorem v_RX12_271 : JVir RX12 271 yX12_fit cX12_fit 3 (some .boolean) 2 12 := ⟨l_RX12_271, w_1828, wp_98, TX12, 52, rfl⟩
theorem w_2163 : Cond.methodLink RX12 467 yX12_holds ∈ WS := ws_in (tk_10 (List.mem_of_getElem? (i := 3) rfl)) rfl
theorem w_2166 : Cond.code yX12_holds cX12_holds 7 (some .boolean) ∈ WS := ws_in (tk_10 (List.mem_of_getElem? (i := 6) rfl)) rfl
theorem l_RX12_467 : JLnk RX12 467 yX12_holds cX12_holds 7 (some .boolean) 2 := ⟨w_2163, w_2166, w_13, by decide +kernel⟩
theorem w_2165 : Cond.instanceMethod yX12_holds ∈ WS := ws_in (tk_10 (List.mem_of_getElem? (i := 5) rfl)) rfl
theorem wp_143 : Cond.selects RX12 yX12_holds yX12_holds ∈ WS := ws_in (List.mem_append_left tables_1 (List.mem_of_getElem? (i := 143) (by decide +kernel))) rfl
theorem v_RX12_467 : JVir RX12 467 yX12_holds cX12_holds 7 (some .boolean) 2 12 := ⟨l_RX12_467, w_2165, wp_143, TX12, 52, rfl⟩
theorem w_1814 : Cond.methodLink RX12 265 yX12_isHeld ∈ WS := ws_in (tk_8 (List.mem_of_getElem? (i := 134) rfl)) rfl
theorem w_1817 : Cond.code yX12_isHeld cX12_isHeld 2 (some .boolean) ∈ WS := ws_in (tk_8 (List.mem_of_getElem? (i := 137) rfl)) rfl
theorem l_RX12_265 : JLnk RX12 265 yX12_isHeld cX12_isHeld 2 (some .boolean) 1 := ⟨w_1814, w_1817, w_13, by decide +kernel⟩
theorem w_1816 : Cond.instanceMethod yX12_isHeld ∈ WS := ws_in (tk_8 (List.mem_of_getElem? (i := 136) rfl)) rfl
theorem wp_96 : Cond.selects RX12 yX12_isHeld yX12_isHeld ∈ WS := ws_in (List.mem_append_left tables_1 (List.mem_of_getElem? (i := 96) (by decide +kernel))) rfl
theorem v_RX12_265 : JVir RX12 265 yX12_isHeld cX12_isHeld 2 (some .boolean) 1 12 := ⟨l_RX12_265, w_1816, wp_96, TX12, 52, rfl⟩
theorem w_1921 : Cond.methodLink RX12 306 yX12_fitsEnd ∈ WS := ws_in (tk_9 (List.mem_of_getElem? (i := 1) rfl)) rfl
theorem w_1924 : Cond.code yX12_fitsEnd cX12_fitsEnd 3 (some .boolean) ∈ WS := ws_in (tk_9 (List.mem_of_getElem? (i := 4) rfl)) rfl
theorem l_RX12_306 : JLnk RX12 306 yX12_fitsEnd cX12_fitsEnd 3 (some .boolean) 2 := ⟨w_1921, w_1924, w_13, by decide +kernel⟩
theorem w_1923 : Cond.instanceMethod yX12_fitsEnd ∈ WS := ws_in (tk_9 (List.mem_of_getElem? (i := 3) rfl)) rfl
theorem wp_108 : Cond.selects RX12 yX12_fitsEnd yX12_fitsEnd ∈ WS := ws_in (List.mem_append_left tables_1 (List.mem_of_getElem? (i := 108) (by decide +kernel))) rfl
theorem v_RX12_306 : JVir RX12 306 yX12_fitsEnd cX12_fitsEnd 3 (some .boolean) 2 12 := ⟨l_RX12_306, w_1923, wp_108, TX12, 52, rfl⟩
theorem w_2167 : Cond.methodLink RX12 470 yX12_valueOf ∈ WS := ws_in (tk_10 (List.mem_of_getElem? (i := 7) rfl)) rfl
theorem w_2170 : Cond.code yX12_valueOf cX12_valueOf 5 (some .int) ∈ WS := ws_in (tk_10 (List.mem_of_getElem? (i := 10) rfl)) rfl
theorem l_RX12_470 : JLnk RX12 470 yX12_valueOf cX12_valueOf 5 (some .int) 2 := ⟨w_2167, w_2170, w_13, by decide +kernel⟩
theorem w_2169 : Cond.instanceMethod yX12_valueOf ∈ WS := ws_in (tk_10 (List.mem_of_getElem? (i := 9) rfl)) rfl
theorem wp_144 : Cond.selects RX12 yX12_valueOf yX12_valueOf ∈ WS := ws_in (List.mem_append_left tables_1 (List.mem_of_getElem? (i := 144) (by decide +kernel))) rfl
theorem v_RX12_470 : JVir RX12 470 yX12_valueOf cX12_valueOf 5 (some .int) 2 12 := ⟨l_RX12_470, w_2169, wp_144, TX12, 52, rfl⟩
theorem w_1486 : Cond.fieldLink RX12 97 "WidowRowModel" "size" "I" ∈ WS := ws_in (tk_7 (List.mem_of_getElem? (i := 46) rfl)) rfl
theorem g_RX12_97 : JFld RX12 97 12 3 0 false := ⟨RX12, TX12, 52, _, jc_12, by decide, w_1486, rfl, rfl⟩
theorem w_1484 : Cond.fieldLink RX12 7 "WidowRowModel" "tape" "[I" ∈ WS := ws_in (tk_7 (List.mem_of_getElem? (i := 44) rfl)) rfl
theorem g_RX12_7 : JFld RX12 7 12 1 2 true := ⟨RX12, TX12, 52, _, jc_12, by decide, w_1484, rfl, rfl⟩
theorem w_1488 : Cond.fieldLink RX12 100 "WidowRowModel" "to" "I" ∈ WS := ws_in (tk_7 (List.mem_of_getElem? (i := 48) rfl)) rfl
theorem g_RX12_100 : JFld RX12 100 12 5 0 false := ⟨RX12, TX12, 52, _, jc_12, by decide, w_1488, rfl, rfl⟩
theorem w_1489 : Cond.fieldLink RX12 103 "WidowRowModel" "from" "I" ∈ WS := ws_in (tk_7 (List.mem_of_getElem? (i := 49) rfl)) rfl
theorem g_RX12_103 : JFld RX12 103 12 6 0 false := ⟨RX12, TX12, 52, _, jc_12, by decide, w_1489, rfl, rfl⟩
theorem w_1487 : Cond.fieldLink RX12 106 "WidowRowModel" "limit" "I" ∈ WS := ws_in (tk_7 (List.mem_of_getElem? (i := 47) rfl)) rfl
theorem g_RX12_106 : JFld RX12 106 12 4 0 false := ⟨RX12, TX12, 52, _, jc_12, by decide, w_1487, rfl, rfl⟩
theorem w_1677 : Cond.methodLink RX12 112 yX12_isLetter ∈ WS := ws_in (tk_7 (List.mem_of_getElem? (i := 237) rfl)) rfl
theorem w_1679 : Cond.code yX12_isLetter cX12_isLetter 1 (some .boolean) ∈ WS := ws_in (tk_7 (List.mem_of_getElem? (i := 239) rfl)) rfl
theorem l_RX12_112 : JLnk RX12 112 yX12_isLetter cX12_isLetter 1 (some .boolean) 1 := ⟨w_1677, w_1679, w_13, by decide +kernel⟩
theorem w_1678 : Cond.static yX12_isLetter ∈ WS := ws_in (tk_7 (List.mem_of_getElem? (i := 238) rfl)) rfl
theorem s_RX12_112 : JSta RX12 112 yX12_isLetter cX12_isLetter 1 (some .boolean) 1 := ⟨l_RX12_112, w_1678⟩
theorem w_1495 : Cond.fieldLink RX12 122 "WidowRowModel" "word" "J" ∈ WS := ws_in (tk_7 (List.mem_of_getElem? (i := 55) rfl)) rfl
theorem g_RX12_122 : JFld RX12 122 12 12 1 false := ⟨RX12, TX12, 52, _, jc_12, by decide, w_1495, rfl, rfl⟩
theorem w_1491 : Cond.fieldLink RX12 126 "WidowRowModel" "number" "I" ∈ WS := ws_in (tk_7 (List.mem_of_getElem? (i := 51) rfl)) rfl
theorem g_RX12_126 : JFld RX12 126 12 8 0 false := ⟨RX12, TX12, 52, _, jc_12, by decide, w_1491, rfl, rfl⟩
theorem w_1683 : Cond.methodLink RX12 129 yX12_tapeAt ∈ WS := ws_in (tk_8 (List.mem_of_getElem? (i := 3) rfl)) rfl
theorem w_1686 : Cond.code yX12_tapeAt cX12_tapeAt 2 (some .int) ∈ WS := ws_in (tk_8 (List.mem_of_getElem? (i := 6) rfl)) rfl
theorem l_RX12_129 : JLnk RX12 129 yX12_tapeAt cX12_tapeAt 2 (some .int) 1 := ⟨w_1683, w_1686, w_13, by decide +kernel⟩
theorem w_1685 : Cond.instanceMethod yX12_tapeAt ∈ WS := ws_in (tk_8 (List.mem_of_getElem? (i := 5) rfl)) rfl
theorem wp_73 : Cond.selects RX12 yX12_tapeAt yX12_tapeAt ∈ WS := ws_in (List.mem_append_left tables_1 (List.mem_of_getElem? (i := 73) (by decide +kernel))) rfl
theorem v_RX12_129 : JVir RX12 129 yX12_tapeAt cX12_tapeAt 2 (some .int) 1 12 := ⟨l_RX12_129, w_1685, wp_73, TX12, 52, rfl⟩
theorem w_1687 : Cond.constantLong RX12 133 (27) ∈ WS := ws_in (tk_8 (List.mem_of_getElem? (i := 7) rfl)) rfl
theorem w_1688 : Cond.constantLong RX12 135 (96) ∈ WS := ws_in (tk_8 (List.mem_of_getElem? (i := 8) rfl)) rfl
theorem w_1680 : Cond.methodLink RX12 116 yX12_isDigit ∈ WS := ws_in (tk_8 (List.mem_of_getElem? (i := 0) rfl)) rfl
theorem w_1682 : Cond.code yX12_isDigit cX12_isDigit 1 (some .boolean) ∈ WS := ws_in (tk_8 (List.mem_of_getElem? (i := 2) rfl)) rfl
theorem l_RX12_116 : JLnk RX12 116 yX12_isDigit cX12_isDigit 1 (some .boolean) 1 := ⟨w_1680, w_1682, w_13, by decide +kernel⟩
theorem w_1681 : Cond.static yX12_isDigit ∈ WS := ws_in (tk_8 (List.mem_of_getElem? (i := 1) rfl)) rfl
theorem s_RX12_116 : JSta RX12 116 yX12_isDigit cX12_isDigit 1 (some .boolean) 1 := ⟨l_RX12_116, w_1681⟩
theorem w_1490 : Cond.fieldLink RX12 109 "WidowRowModel" "kind" "I" ∈ WS := ws_in (tk_7 (List.mem_of_getElem? (i := 50) rfl)) rfl
theorem g_RX12_109 : JFld RX12 109 12 7 0 false := ⟨RX12, TX12, 52, _, jc_12, by decide, w_1490, rfl, rfl⟩
theorem w_1492 : Cond.fieldLink RX12 119 "WidowRowModel" "sign" "I" ∈ WS := ws_in (tk_7 (List.mem_of_getElem? (i := 52) rfl)) rfl
theorem g_RX12_119 : JFld RX12 119 12 9 0 false := ⟨RX12, TX12, 52, _, jc_12, by decide, w_1492, rfl, rfl⟩
theorem w_1669 : Cond.methodLink RX12 178 yX12_take ∈ WS := ws_in (tk_7 (List.mem_of_getElem? (i := 229) rfl)) rfl
theorem w_1672 : Cond.code yX12_take cX12_take 2 (some .int) ∈ WS := ws_in (tk_7 (List.mem_of_getElem? (i := 232) rfl)) rfl
theorem l_RX12_178 : JLnk RX12 178 yX12_take cX12_take 2 (some .int) 0 := ⟨w_1669, w_1672, w_13, by decide +kernel⟩
theorem w_1671 : Cond.instanceMethod yX12_take ∈ WS := ws_in (tk_7 (List.mem_of_getElem? (i := 231) rfl)) rfl
theorem wp_71 : Cond.selects RX12 yX12_take yX12_take ∈ WS := ws_in (List.mem_append_left tables_1 (List.mem_of_getElem? (i := 71) (by decide +kernel))) rfl
theorem v_RX12_178 : JVir RX12 178 yX12_take cX12_take 2 (some .int) 0 12 := ⟨l_RX12_178, w_1671, wp_71, TX12, 52, rfl⟩
theorem w_1493 : Cond.fieldLink RX12 149 "WidowRowModel" "fault" "I" ∈ WS := ws_in (tk_7 (List.mem_of_getElem? (i := 53) rfl)) rfl
theorem g_RX12_149 : JFld RX12 149 12 10 0 false := ⟨RX12, TX12, 52, _, jc_12, by decide, w_1493, rfl, rfl⟩
theorem w_1673 : Cond.methodLink RX12 169 yX12_go ∈ WS := ws_in (tk_7 (List.mem_of_getElem? (i := 233) rfl)) rfl
theorem w_1676 : Cond.code yX12_go cX12_go 5 none ∈ WS := ws_in (tk_7 (List.mem_of_getElem? (i := 236) rfl)) rfl
theorem l_RX12_169 : JLnk RX12 169 yX12_go cX12_go 5 none 0 := ⟨w_1673, w_1676, w_13, by decide +kernel⟩
theorem w_1675 : Cond.instanceMethod yX12_go ∈ WS := ws_in (tk_7 (List.mem_of_getElem? (i := 235) rfl)) rfl
theorem wp_72 : Cond.selects RX12 yX12_go yX12_go ∈ WS := ws_in (List.mem_append_left tables_1 (List.mem_of_getElem? (i := 72) (by decide +kernel))) rfl
theorem v_RX12_169 : JVir RX12 169 yX12_go cX12_go 5 none 0 12 := ⟨l_RX12_169, w_1675, wp_72, TX12, 52, rfl⟩
theorem w_1700 : Cond.methodLink RX12 137 yX12_spelt ∈ WS := ws_in (tk_8 (List.mem_of_getElem? (i := 20) rfl)) rfl
theorem w_1702 : Cond.code yX12_spelt cX12_spelt 6 (some .long) ∈ WS := ws_in (tk_8 (List.mem_of_getElem? (i := 22) rfl)) rfl
theorem l_RX12_137 : JLnk RX12 137 yX12_spelt cX12_spelt 6 (some .long) 4 := ⟨w_1700, w_1702, w_13, by decide +kernel⟩
theorem w_1701 : Cond.static yX12_spelt ∈ WS := ws_in (tk_8 (List.mem_of_getElem? (i := 21) rfl)) rfl
theorem s_RX12_137 : JSta RX12 137 yX12_spelt cX12_spelt 6 (some .long) 4 := ⟨l_RX12_137, w_1701⟩
theorem w_1703 : Cond.methodLink RX12 141 yX12_on ∈ WS := ws_in (tk_8 (List.mem_of_getElem? (i := 23) rfl)) rfl
theorem w_1705 : Cond.code yX12_on cX12_on 7 (some .long) ∈ WS := ws_in (tk_8 (List.mem_of_getElem? (i := 25) rfl)) rfl
theorem l_RX12_141 : JLnk RX12 141 yX12_on cX12_on 7 (some .long) 4 := ⟨w_1703, w_1705, w_13, by decide +kernel⟩
theorem w_1704 : Cond.static yX12_on ∈ WS := ws_in (tk_8 (List.mem_of_getElem? (i := 24) rfl)) rfl
theorem s_RX12_141 : JSta RX12 141 yX12_on cX12_on 7 (some .long) 4 := ⟨l_RX12_141, w_1704⟩
theorem w_1697 : Cond.methodLink RX12 145 yX12_wordOf ∈ WS := ws_in (tk_8 (List.mem_of_getElem? (i := 17) rfl)) rfl
theorem w_1699 : Cond.code yX12_wordOf cX12_wordOf 1 (some .long) ∈ WS := ws_in (tk_8 (List.mem_of_getElem? (i := 19) rfl)) rfl
theorem l_RX12_145 : JLnk RX12 145 yX12_wordOf cX12_wordOf 1 (some .long) 1 := ⟨w_1697, w_1699, w_13, by decide +kernel⟩
theorem w_1698 : Cond.static yX12_wordOf ∈ WS := ws_in (tk_8 (List.mem_of_getElem? (i := 18) rfl)) rfl
theorem s_RX12_145 : JSta RX12 145 yX12_wordOf cX12_wordOf 1 (some .long) 1 := ⟨l_RX12_145, w_1698⟩
theorem w_1494 : Cond.fieldLink RX12 152 "WidowRowModel" "place" "I" ∈ WS := ws_in (tk_7 (List.mem_of_getElem? (i := 54) rfl)) rfl
theorem g_RX12_152 : JFld RX12 152 12 11 0 false := ⟨RX12, TX12, 52, _, jc_12, by decide, w_1494, rfl, rfl⟩
theorem w_1531 : Cond.fieldLink RX12 431 "WidowRowModel" "nodes" "I" ∈ WS := ws_in (tk_7 (List.mem_of_getElem? (i := 91) rfl)) rfl
theorem g_RX12_431 : JFld RX12 431 12 48 0 false := ⟨RX12, TX12, 52, _, jc_12, by decide, w_1531, rfl, rfl⟩
theorem w_1530 : Cond.fieldLink RX12 84 "WidowRowModel" "node" "[I" ∈ WS := ws_in (tk_7 (List.mem_of_getElem? (i := 90) rfl)) rfl
theorem g_RX12_84 : JFld RX12 84 12 47 2 true := ⟨RX12, TX12, 52, _, jc_12, by decide, w_1530, rfl, rfl⟩
theorem w_1714 : Cond.methodLink RX12 186 yX12_isName ∈ WS := ws_in (tk_8 (List.mem_of_getElem? (i := 34) rfl)) rfl
theorem w_1717 : Cond.code yX12_isName cX12_isName 2 (some .boolean) ∈ WS := ws_in (tk_8 (List.mem_of_getElem? (i := 37) rfl)) rfl
theorem l_RX12_186 : JLnk RX12 186 yX12_isName cX12_isName 2 (some .boolean) 0 := ⟨w_1714, w_1717, w_13, by decide +kernel⟩
theorem w_1716 : Cond.instanceMethod yX12_isName ∈ WS := ws_in (tk_8 (List.mem_of_getElem? (i := 36) rfl)) rfl
theorem wp_78 : Cond.selects RX12 yX12_isName yX12_isName ∈ WS := ws_in (List.mem_append_left tables_1 (List.mem_of_getElem? (i := 78) (by decide +kernel))) rfl
theorem v_RX12_186 : JVir RX12 186 yX12_isName cX12_isName 2 (some .boolean) 0 12 := ⟨l_RX12_186, w_1716, wp_78, TX12, 52, rfl⟩
theorem w_1718 : Cond.methodLink RX12 190 yX12_findIn ∈ WS := ws_in (tk_8 (List.mem_of_getElem? (i := 38) rfl)) rfl
theorem w_1720 : Cond.code yX12_findIn cX12_findIn 5 (some .int) ∈ WS := ws_in (tk_8 (List.mem_of_getElem? (i := 40) rfl)) rfl
theorem l_RX12_190 : JLnk RX12 190 yX12_findIn cX12_findIn 5 (some .int) 3 := ⟨w_1718, w_1720, w_13, by decide +kernel⟩
theorem w_1719 : Cond.static yX12_findIn ∈ WS := ws_in (tk_8 (List.mem_of_getElem? (i := 39) rfl)) rfl
theorem s_RX12_190 : JSta RX12 190 yX12_findIn cX12_findIn 5 (some .int) 3 := ⟨l_RX12_190, w_1719⟩
theorem w_2147 : Cond.methodLink RX12 440 yX12_saysOne ∈ WS := ws_in (tk_9 (List.mem_of_getElem? (i := 227) rfl)) rfl
theorem w_2150 : Cond.code yX12_saysOne cX12_saysOne 6 (some .int) ∈ WS := ws_in (tk_9 (List.mem_of_getElem? (i := 230) rfl)) rfl
theorem l_RX12_440 : JLnk RX12 440 yX12_saysOne cX12_saysOne 6 (some .int) 4 := ⟨w_2147, w_2150, w_13, by decide +kernel⟩
theorem w_2149 : Cond.instanceMethod yX12_saysOne ∈ WS := ws_in (tk_9 (List.mem_of_getElem? (i := 229) rfl)) rfl
theorem wp_140 : Cond.selects RX12 yX12_saysOne yX12_saysOne ∈ WS := ws_in (List.mem_append_left tables_1 (List.mem_of_getElem? (i := 140) (by decide +kernel))) rfl
theorem v_RX12_440 : JVir RX12 440 yX12_saysOne cX12_saysOne 6 (some .int) 4 12 := ⟨l_RX12_440, w_2149, wp_140, TX12, 52, rfl⟩
theorem w_1534 : Cond.fieldLink RX12 437 "WidowRowModel" "top" "I" ∈ WS := ws_in (tk_7 (List.mem_of_getElem? (i := 94) rfl)) rfl
theorem g_RX12_437 : JFld RX12 437 12 51 0 false := ⟨RX12, TX12, 52, _, jc_12, by decide, w_1534, rfl, rfl⟩
theorem w_1710 : Cond.methodLink RX12 155 yX12_bad ∈ WS := ws_in (tk_8 (List.mem_of_getElem? (i := 30) rfl)) rfl
theorem w_1713 : Cond.code yX12_bad cX12_bad 2 (some .boolean) ∈ WS := ws_in (tk_8 (List.mem_of_getElem? (i := 33) rfl)) rfl
theorem l_RX12_155 : JLnk RX12 155 yX12_bad cX12_bad 2 (some .boolean) 1 := ⟨w_1710, w_1713, w_13, by decide +kernel⟩
theorem w_1712 : Cond.instanceMethod yX12_bad ∈ WS := ws_in (tk_8 (List.mem_of_getElem? (i := 32) rfl)) rfl
theorem wp_77 : Cond.selects RX12 yX12_bad yX12_bad ∈ WS := ws_in (List.mem_append_left tables_1 (List.mem_of_getElem? (i := 77) (by decide +kernel))) rfl
theorem v_RX12_155 : JVir RX12 155 yX12_bad cX12_bad 2 (some .boolean) 1 12 := ⟨l_RX12_155, w_1712, wp_77, TX12, 52, rfl⟩
theorem w_1496 : Cond.fieldLink RX12 162 "WidowRowModel" "told" "I" ∈ WS := ws_in (tk_7 (List.mem_of_getElem? (i := 56) rfl)) rfl
theorem g_RX12_162 : JFld RX12 162 12 13 0 false := ⟨RX12, TX12, 52, _, jc_12, by decide, w_1496, rfl, rfl⟩
theorem w_1729 : Cond.methodLink RX12 165 yX12_isNumber ∈ WS := ws_in (tk_8 (List.mem_of_getElem? (i := 49) rfl)) rfl
theorem w_1732 : Cond.code yX12_isNumber cX12_isNumber 3 (some .boolean) ∈ WS := ws_in (tk_8 (List.mem_of_getElem? (i := 52) rfl)) rfl
theorem l_RX12_165 : JLnk RX12 165 yX12_isNumber cX12_isNumber 3 (some .boolean) 2 := ⟨w_1729, w_1732, w_13, by decide +kernel⟩
theorem w_1731 : Cond.instanceMethod yX12_isNumber ∈ WS := ws_in (tk_8 (List.mem_of_getElem? (i := 51) rfl)) rfl
theorem wp_81 : Cond.selects RX12 yX12_isNumber yX12_isNumber ∈ WS := ws_in (List.mem_append_left tables_1 (List.mem_of_getElem? (i := 81) (by decide +kernel))) rfl
theorem v_RX12_165 : JVir RX12 165 yX12_isNumber cX12_isNumber 3 (some .boolean) 2 12 := ⟨l_RX12_165, w_1731, wp_81, TX12, 52, rfl⟩
theorem w_1758 : Cond.methodLink RX12 172 yX12_isSign ∈ WS := ws_in (tk_8 (List.mem_of_getElem? (i := 78) rfl)) rfl
theorem w_1761 : Cond.code yX12_isSign cX12_isSign 2 (some .boolean) ∈ WS := ws_in (tk_8 (List.mem_of_getElem? (i := 81) rfl)) rfl
theorem l_RX12_172 : JLnk RX12 172 yX12_isSign cX12_isSign 2 (some .boolean) 1 := ⟨w_1758, w_1761, w_13, by decide +kernel⟩
theorem w_1760 : Cond.instanceMethod yX12_isSign ∈ WS := ws_in (tk_8 (List.mem_of_getElem? (i := 80) rfl)) rfl
theorem wp_86 : Cond.selects RX12 yX12_isSign yX12_isSign ∈ WS := ws_in (List.mem_append_left tables_1 (List.mem_of_getElem? (i := 86) (by decide +kernel))) rfl
theorem v_RX12_172 : JVir RX12 172 yX12_isSign cX12_isSign 2 (some .boolean) 1 12 := ⟨l_RX12_172, w_1760, wp_86, TX12, 52, rfl⟩
theorem w_1725 : Cond.methodLink RX12 194 yX12_readNumber ∈ WS := ws_in (tk_8 (List.mem_of_getElem? (i := 45) rfl)) rfl
theorem w_1728 : Cond.code yX12_readNumber cX12_readNumber 3 (some .boolean) ∈ WS := ws_in (tk_8 (List.mem_of_getElem? (i := 48) rfl)) rfl
theorem l_RX12_194 : JLnk RX12 194 yX12_readNumber cX12_readNumber 3 (some .boolean) 2 := ⟨w_1725, w_1728, w_13, by decide +kernel⟩
theorem w_1727 : Cond.instanceMethod yX12_readNumber ∈ WS := ws_in (tk_8 (List.mem_of_getElem? (i := 47) rfl)) rfl
theorem wp_80 : Cond.selects RX12 yX12_readNumber yX12_readNumber ∈ WS := ws_in (List.mem_append_left tables_1 (List.mem_of_getElem? (i := 80) (by decide +kernel))) rfl
theorem v_RX12_194 : JVir RX12 194 yX12_readNumber cX12_readNumber 3 (some .boolean) 2 12 := ⟨l_RX12_194, w_1727, wp_80, TX12, 52, rfl⟩
theorem w_2131 : Cond.methodLink RX12 434 yX12_readAnd ∈ WS := ws_in (tk_9 (List.mem_of_getElem? (i := 211) rfl)) rfl
theorem w_2134 : Cond.code yX12_readAnd cX12_readAnd 2 (some .boolean) ∈ WS := ws_in (tk_9 (List.mem_of_getElem? (i := 214) rfl)) rfl
theorem l_RX12_434 : JLnk RX12 434 yX12_readAnd cX12_readAnd 2 (some .boolean) 0 := ⟨w_2131, w_2134, w_13, by decide +kernel⟩
theorem w_2133 : Cond.instanceMethod yX12_readAnd ∈ WS := ws_in (tk_9 (List.mem_of_getElem? (i := 213) rfl)) rfl
theorem wp_136 : Cond.selects RX12 yX12_readAnd yX12_readAnd ∈ WS := ws_in (List.mem_append_left tables_1 (List.mem_of_getElem? (i := 136) (by decide +kernel))) rfl
theorem v_RX12_434 : JVir RX12 434 yX12_readAnd cX12_readAnd 2 (some .boolean) 0 12 := ⟨l_RX12_434, w_2133, wp_136, TX12, 52, rfl⟩
theorem w_1693 : Cond.methodLink RX12 207 yX12_isWord ∈ WS := ws_in (tk_8 (List.mem_of_getElem? (i := 13) rfl)) rfl
theorem w_1696 : Cond.code yX12_isWord cX12_isWord 2 (some .boolean) ∈ WS := ws_in (tk_8 (List.mem_of_getElem? (i := 16) rfl)) rfl
theorem l_RX12_207 : JLnk RX12 207 yX12_isWord cX12_isWord 2 (some .boolean) 1 := ⟨w_1693, w_1696, w_13, by decide +kernel⟩
theorem w_1695 : Cond.instanceMethod yX12_isWord ∈ WS := ws_in (tk_8 (List.mem_of_getElem? (i := 15) rfl)) rfl
theorem wp_75 : Cond.selects RX12 yX12_isWord yX12_isWord ∈ WS := ws_in (List.mem_append_left tables_1 (List.mem_of_getElem? (i := 75) (by decide +kernel))) rfl
theorem v_RX12_207 : JVir RX12 207 yX12_isWord cX12_isWord 2 (some .boolean) 1 12 := ⟨l_RX12_207, w_1695, wp_75, TX12, 52, rfl⟩
theorem w_2135 : Cond.methodLink RX12 443 yX12_readOne ∈ WS := ws_in (tk_9 (List.mem_of_getElem? (i := 215) rfl)) rfl
theorem w_2138 : Cond.code yX12_readOne cX12_readOne 4 (some .boolean) ∈ WS := ws_in (tk_9 (List.mem_of_getElem? (i := 218) rfl)) rfl
theorem l_RX12_443 : JLnk RX12 443 yX12_readOne cX12_readOne 4 (some .boolean) 0 := ⟨w_2135, w_2138, w_13, by decide +kernel⟩
theorem w_2137 : Cond.instanceMethod yX12_readOne ∈ WS := ws_in (tk_9 (List.mem_of_getElem? (i := 217) rfl)) rfl
theorem wp_137 : Cond.selects RX12 yX12_readOne yX12_readOne ∈ WS := ws_in (List.mem_append_left tables_1 (List.mem_of_getElem? (i := 137) (by decide +kernel))) rfl
theorem v_RX12_443 : JVir RX12 443 yX12_readOne cX12_readOne 4 (some .boolean) 0 12 := ⟨l_RX12_443, w_2137, wp_137, TX12, 52, rfl⟩
theorem w_1532 : Cond.fieldLink RX12 446 "WidowRowModel" "onesMany" "I" ∈ WS := ws_in (tk_7 (List.mem_of_getElem? (i := 92) rfl)) rfl
theorem g_RX12_446 : JFld RX12 446 12 49 0 false := ⟨RX12, TX12, 52, _, jc_12, by decide, w_1532, rfl, rfl⟩
theorem w_1533 : Cond.fieldLink RX12 449 "WidowRowModel" "within" "I" ∈ WS := ws_in (tk_7 (List.mem_of_getElem? (i := 93) rfl)) rfl
theorem g_RX12_449 : JFld RX12 449 12 50 0 false := ⟨RX12, TX12, 52, _, jc_12, by decide, w_1533, rfl, rfl⟩
theorem w_2155 : Cond.methodLink RX12 461 yX12_readCompare ∈ WS := ws_in (tk_9 (List.mem_of_getElem? (i := 235) rfl)) rfl
theorem w_2158 : Cond.code yX12_readCompare cX12_readCompare 3 (some .boolean) ∈ WS := ws_in (tk_9 (List.mem_of_getElem? (i := 238) rfl)) rfl
theorem l_RX12_461 : JLnk RX12 461 yX12_readCompare cX12_readCompare 3 (some .boolean) 1 := ⟨w_2155, w_2158, w_13, by decide +kernel⟩
theorem w_2157 : Cond.instanceMethod yX12_readCompare ∈ WS := ws_in (tk_9 (List.mem_of_getElem? (i := 237) rfl)) rfl
theorem wp_142 : Cond.selects RX12 yX12_readCompare yX12_readCompare ∈ WS := ws_in (List.mem_append_left tables_1 (List.mem_of_getElem? (i := 142) (by decide +kernel))) rfl
theorem v_RX12_461 : JVir RX12 461 yX12_readCompare cX12_readCompare 3 (some .boolean) 1 12 := ⟨l_RX12_461, w_2157, wp_142, TX12, 52, rfl⟩
theorem w_2151 : Cond.methodLink RX12 458 yX12_readOf ∈ WS := ws_in (tk_9 (List.mem_of_getElem? (i := 231) rfl)) rfl
theorem w_2154 : Cond.code yX12_readOf cX12_readOf 2 (some .boolean) ∈ WS := ws_in (tk_9 (List.mem_of_getElem? (i := 234) rfl)) rfl
theorem l_RX12_458 : JLnk RX12 458 yX12_readOf cX12_readOf 2 (some .boolean) 0 := ⟨w_2151, w_2154, w_13, by decide +kernel⟩
theorem w_2153 : Cond.instanceMethod yX12_readOf ∈ WS := ws_in (tk_9 (List.mem_of_getElem? (i := 233) rfl)) rfl
theorem wp_141 : Cond.selects RX12 yX12_readOf yX12_readOf ∈ WS := ws_in (List.mem_append_left tables_1 (List.mem_of_getElem? (i := 141) (by decide +kernel))) rfl
theorem v_RX12_458 : JVir RX12 458 yX12_readOf cX12_readOf 2 (some .boolean) 0 12 := ⟨l_RX12_458, w_2153, wp_141, TX12, 52, rfl⟩
theorem w_2143 : Cond.methodLink RX12 455 yX12_readNot ∈ WS := ws_in (tk_9 (List.mem_of_getElem? (i := 223) rfl)) rfl
theorem w_2146 : Cond.code yX12_readNot cX12_readNot 1 (some .boolean) ∈ WS := ws_in (tk_9 (List.mem_of_getElem? (i := 226) rfl)) rfl
theorem l_RX12_455 : JLnk RX12 455 yX12_readNot cX12_readNot 1 (some .boolean) 0 := ⟨w_2143, w_2146, w_13, by decide +kernel⟩
theorem w_2145 : Cond.instanceMethod yX12_readNot ∈ WS := ws_in (tk_9 (List.mem_of_getElem? (i := 225) rfl)) rfl
theorem wp_139 : Cond.selects RX12 yX12_readNot yX12_readNot ∈ WS := ws_in (List.mem_append_left tables_1 (List.mem_of_getElem? (i := 139) (by decide +kernel))) rfl
theorem v_RX12_455 : JVir RX12 455 yX12_readNot cX12_readNot 1 (some .boolean) 0 12 := ⟨l_RX12_455, w_2145, wp_139, TX12, 52, rfl⟩
theorem w_2139 : Cond.methodLink RX12 452 yX12_readBracket ∈ WS := ws_in (tk_9 (List.mem_of_getElem? (i := 219) rfl)) rfl
theorem w_2142 : Cond.code yX12_readBracket cX12_readBracket 1 (some .boolean) ∈ WS := ws_in (tk_9 (List.mem_of_getElem? (i := 222) rfl)) rfl
theorem l_RX12_452 : JLnk RX12 452 yX12_readBracket cX12_readBracket 1 (some .boolean) 0 := ⟨w_2139, w_2142, w_13, by decide +kernel⟩
theorem w_2141 : Cond.instanceMethod yX12_readBracket ∈ WS := ws_in (tk_9 (List.mem_of_getElem? (i := 221) rfl)) rfl
theorem wp_138 : Cond.selects RX12 yX12_readBracket yX12_readBracket ∈ WS := ws_in (List.mem_append_left tables_1 (List.mem_of_getElem? (i := 138) (by decide +kernel))) rfl
theorem v_RX12_452 : JVir RX12 452 yX12_readBracket cX12_readBracket 1 (some .boolean) 0 12 := ⟨l_RX12_452, w_2141, wp_138, TX12, 52, rfl⟩
theorem w_2127 : Cond.methodLink RX12 464 yX12_readOr ∈ WS := ws_in (tk_9 (List.mem_of_getElem? (i := 207) rfl)) rfl
theorem w_2130 : Cond.code yX12_readOr cX12_readOr 2 (some .boolean) ∈ WS := ws_in (tk_9 (List.mem_of_getElem? (i := 210) rfl)) rfl
theorem l_RX12_464 : JLnk RX12 464 yX12_readOr cX12_readOr 2 (some .boolean) 0 := ⟨w_2127, w_2130, w_13, by decide +kernel⟩
theorem w_2129 : Cond.instanceMethod yX12_readOr ∈ WS := ws_in (tk_9 (List.mem_of_getElem? (i := 209) rfl)) rfl
theorem wp_135 : Cond.selects RX12 yX12_readOr yX12_readOr ∈ WS := ws_in (List.mem_append_left tables_1 (List.mem_of_getElem? (i := 135) (by decide +kernel))) rfl
theorem v_RX12_464 : JVir RX12 464 yX12_readOr cX12_readOr 2 (some .boolean) 0 12 := ⟨l_RX12_464, w_2129, wp_135, TX12, 52, rfl⟩
theorem w_1661 : Cond.methodLink RX12 228 yX12_begin ∈ WS := ws_in (tk_7 (List.mem_of_getElem? (i := 221) rfl)) rfl
theorem w_1664 : Cond.code yX12_begin cX12_begin 2 none ∈ WS := ws_in (tk_7 (List.mem_of_getElem? (i := 224) rfl)) rfl
theorem l_RX12_228 : JLnk RX12 228 yX12_begin cX12_begin 2 none 1 := ⟨w_1661, w_1664, w_13, by decide +kernel⟩
theorem w_1663 : Cond.instanceMethod yX12_begin ∈ WS := ws_in (tk_7 (List.mem_of_getElem? (i := 223) rfl)) rfl
theorem wp_69 : Cond.selects RX12 yX12_begin yX12_begin ∈ WS := ws_in (List.mem_append_left tables_1 (List.mem_of_getElem? (i := 69) (by decide +kernel))) rfl
theorem v_RX12_228 : JVir RX12 228 yX12_begin cX12_begin 2 none 1 12 := ⟨l_RX12_228, w_1663, wp_69, TX12, 52, rfl⟩
theorem w_1529 : Cond.fieldLink RX12 81 "WidowRowModel" "drawn" "[I" ∈ WS := ws_in (tk_7 (List.mem_of_getElem? (i := 89) rfl)) rfl
theorem g_RX12_81 : JFld RX12 81 12 46 2 true := ⟨RX12, TX12, 52, _, jc_12, by decide, w_1529, rfl, rfl⟩
theorem w_1500 : Cond.fieldLink RX12 22 "WidowRowModel" "snaps" "[I" ∈ WS := ws_in (tk_7 (List.mem_of_getElem? (i := 60) rfl)) rfl
theorem g_RX12_22 : JFld RX12 22 12 17 2 true := ⟨RX12, TX12, 52, _, jc_12, by decide, w_1500, rfl, rfl⟩
theorem w_1528 : Cond.fieldLink RX12 421 "WidowRowModel" "seed" "I" ∈ WS := ws_in (tk_7 (List.mem_of_getElem? (i := 88) rfl)) rfl
theorem g_RX12_421 : JFld RX12 421 12 45 0 false := ⟨RX12, TX12, 52, _, jc_12, by decide, w_1528, rfl, rfl⟩
theorem w_2114 : Cond.constant RX12 424 (1103515245) ∈ WS := ws_in (tk_9 (List.mem_of_getElem? (i := 194) rfl)) rfl
theorem w_1861 : Cond.methodLink RX12 283 yX12_layerAt ∈ WS := ws_in (tk_8 (List.mem_of_getElem? (i := 181) rfl)) rfl
theorem w_1864 : Cond.code yX12_layerAt cX12_layerAt 2 (some .int) ∈ WS := ws_in (tk_8 (List.mem_of_getElem? (i := 184) rfl)) rfl
theorem l_RX12_283 : JLnk RX12 283 yX12_layerAt cX12_layerAt 2 (some .int) 1 := ⟨w_1861, w_1864, w_13, by decide +kernel⟩
theorem w_1863 : Cond.instanceMethod yX12_layerAt ∈ WS := ws_in (tk_8 (List.mem_of_getElem? (i := 183) rfl)) rfl
theorem wp_103 : Cond.selects RX12 yX12_layerAt yX12_layerAt ∈ WS := ws_in (List.mem_append_left tables_1 (List.mem_of_getElem? (i := 103) (by decide +kernel))) rfl
theorem v_RX12_283 : JVir RX12 283 yX12_layerAt cX12_layerAt 2 (some .int) 1 12 := ⟨l_RX12_283, w_1863, wp_103, TX12, 52, rfl⟩
theorem w_1873 : Cond.methodLink RX12 293 yX12_snap ∈ WS := ws_in (tk_8 (List.mem_of_getElem? (i := 193) rfl)) rfl
theorem w_1876 : Cond.code yX12_snap cX12_snap 2 none ∈ WS := ws_in (tk_8 (List.mem_of_getElem? (i := 196) rfl)) rfl
theorem l_RX12_293 : JLnk RX12 293 yX12_snap cX12_snap 2 none 0 := ⟨w_1873, w_1876, w_13, by decide +kernel⟩
theorem w_1875 : Cond.instanceMethod yX12_snap ∈ WS := ws_in (tk_8 (List.mem_of_getElem? (i := 195) rfl)) rfl
theorem wp_104 : Cond.selects RX12 yX12_snap yX12_snap ∈ WS := ws_in (List.mem_append_left tables_1 (List.mem_of_getElem? (i := 104) (by decide +kernel))) rfl
theorem v_RX12_293 : JVir RX12 293 yX12_snap cX12_snap 2 none 0 12 := ⟨l_RX12_293, w_1875, wp_104, TX12, 52, rfl⟩
theorem w_2110 : Cond.methodLink RX12 425 yX12_draw ∈ WS := ws_in (tk_9 (List.mem_of_getElem? (i := 190) rfl)) rfl
theorem w_2113 : Cond.code yX12_draw cX12_draw 2 (some .int) ∈ WS := ws_in (tk_9 (List.mem_of_getElem? (i := 193) rfl)) rfl
theorem l_RX12_425 : JLnk RX12 425 yX12_draw cX12_draw 2 (some .int) 1 := ⟨w_2110, w_2113, w_13, by decide +kernel⟩
theorem w_2112 : Cond.instanceMethod yX12_draw ∈ WS := ws_in (tk_9 (List.mem_of_getElem? (i := 192) rfl)) rfl
theorem wp_133 : Cond.selects RX12 yX12_draw yX12_draw ∈ WS := ws_in (List.mem_append_left tables_1 (List.mem_of_getElem? (i := 133) (by decide +kernel))) rfl
theorem v_RX12_425 : JVir RX12 425 yX12_draw cX12_draw 2 (some .int) 1 12 := ⟨l_RX12_425, w_2112, wp_133, TX12, 52, rfl⟩
theorem w_2115 : Cond.methodLink RX12 428 yX12_inHand ∈ WS := ws_in (tk_9 (List.mem_of_getElem? (i := 195) rfl)) rfl
theorem w_2118 : Cond.code yX12_inHand cX12_inHand 5 (some .int) ∈ WS := ws_in (tk_9 (List.mem_of_getElem? (i := 198) rfl)) rfl
theorem l_RX12_428 : JLnk RX12 428 yX12_inHand cX12_inHand 5 (some .int) 2 := ⟨w_2115, w_2118, w_13, by decide +kernel⟩
theorem w_2117 : Cond.instanceMethod yX12_inHand ∈ WS := ws_in (tk_9 (List.mem_of_getElem? (i := 197) rfl)) rfl
theorem wp_134 : Cond.selects RX12 yX12_inHand yX12_inHand ∈ WS := ws_in (List.mem_append_left tables_1 (List.mem_of_getElem? (i := 134) (by decide +kernel))) rfl
theorem v_RX12_428 : JVir RX12 428 yX12_inHand cX12_inHand 5 (some .int) 2 12 := ⟨l_RX12_428, w_2117, wp_134, TX12, 52, rfl⟩
theorem w_1893 : Cond.methodLink RX12 303 yX12_turnLast ∈ WS := ws_in (tk_8 (List.mem_of_getElem? (i := 213) rfl)) rfl
theorem w_1896 : Cond.code yX12_turnLast cX12_turnLast 1 none ∈ WS := ws_in (tk_8 (List.mem_of_getElem? (i := 216) rfl)) rfl
theorem l_RX12_303 : JLnk RX12 303 yX12_turnLast cX12_turnLast 1 none 0 := ⟨w_1893, w_1896, w_13, by decide +kernel⟩
theorem w_1895 : Cond.instanceMethod yX12_turnLast ∈ WS := ws_in (tk_8 (List.mem_of_getElem? (i := 215) rfl)) rfl
theorem wp_107 : Cond.selects RX12 yX12_turnLast yX12_turnLast ∈ WS := ws_in (List.mem_append_left tables_1 (List.mem_of_getElem? (i := 107) (by decide +kernel))) rfl
theorem v_RX12_303 : JVir RX12 303 yX12_turnLast cX12_turnLast 1 none 0 12 := ⟨l_RX12_303, w_1895, wp_107, TX12, 52, rfl⟩
theorem w_1885 : Cond.methodLink RX12 300 yX12_catAt ∈ WS := ws_in (tk_8 (List.mem_of_getElem? (i := 205) rfl)) rfl
theorem w_1888 : Cond.code yX12_catAt cX12_catAt 4 (some .int) ∈ WS := ws_in (tk_8 (List.mem_of_getElem? (i := 208) rfl)) rfl
theorem l_RX12_300 : JLnk RX12 300 yX12_catAt cX12_catAt 4 (some .int) 1 := ⟨w_1885, w_1888, w_13, by decide +kernel⟩
theorem w_1887 : Cond.instanceMethod yX12_catAt ∈ WS := ws_in (tk_8 (List.mem_of_getElem? (i := 207) rfl)) rfl
theorem wp_106 : Cond.selects RX12 yX12_catAt yX12_catAt ∈ WS := ws_in (List.mem_append_left tables_1 (List.mem_of_getElem? (i := 106) (by decide +kernel))) rfl
theorem v_RX12_300 : JVir RX12 300 yX12_catAt cX12_catAt 4 (some .int) 1 12 := ⟨l_RX12_300, w_1887, wp_106, TX12, 52, rfl⟩
theorem w_1857 : Cond.methodLink RX12 289 yX12_whyNot ∈ WS := ws_in (tk_8 (List.mem_of_getElem? (i := 177) rfl)) rfl
theorem w_1860 : Cond.code yX12_whyNot cX12_whyNot 4 (some .int) ∈ WS := ws_in (tk_8 (List.mem_of_getElem? (i := 180) rfl)) rfl
theorem l_RX12_289 : JLnk RX12 289 yX12_whyNot cX12_whyNot 4 (some .int) 3 := ⟨w_1857, w_1860, w_13, by decide +kernel⟩
theorem w_1859 : Cond.instanceMethod yX12_whyNot ∈ WS := ws_in (tk_8 (List.mem_of_getElem? (i := 179) rfl)) rfl
theorem wp_102 : Cond.selects RX12 yX12_whyNot yX12_whyNot ∈ WS := ws_in (List.mem_append_left tables_1 (List.mem_of_getElem? (i := 102) (by decide +kernel))) rfl
theorem v_RX12_289 : JVir RX12 289 yX12_whyNot cX12_whyNot 4 (some .int) 3 12 := ⟨l_RX12_289, w_1859, wp_102, TX12, 52, rfl⟩
theorem w_1877 : Cond.methodLink RX12 296 yX12_lays ∈ WS := ws_in (tk_8 (List.mem_of_getElem? (i := 197) rfl)) rfl
theorem w_1880 : Cond.code yX12_lays cX12_lays 6 none ∈ WS := ws_in (tk_8 (List.mem_of_getElem? (i := 200) rfl)) rfl
theorem l_RX12_296 : JLnk RX12 296 yX12_lays cX12_lays 6 none 3 := ⟨w_1877, w_1880, w_13, by decide +kernel⟩
theorem w_1879 : Cond.instanceMethod yX12_lays ∈ WS := ws_in (tk_8 (List.mem_of_getElem? (i := 199) rfl)) rfl
theorem wp_105 : Cond.selects RX12 yX12_lays yX12_lays ∈ WS := ws_in (List.mem_append_left tables_1 (List.mem_of_getElem? (i := 105) (by decide +kernel))) rfl
theorem v_RX12_296 : JVir RX12 296 yX12_lays cX12_lays 6 none 3 12 := ⟨l_RX12_296, w_1879, wp_105, TX12, 52, rfl⟩
theorem w_2093 : Cond.methodLink RX12 412 yX12_mayHave ∈ WS := ws_in (tk_9 (List.mem_of_getElem? (i := 173) rfl)) rfl
theorem w_2096 : Cond.code yX12_mayHave cX12_mayHave 3 (some .boolean) ∈ WS := ws_in (tk_9 (List.mem_of_getElem? (i := 176) rfl)) rfl
theorem l_RX12_412 : JLnk RX12 412 yX12_mayHave cX12_mayHave 3 (some .boolean) 2 := ⟨w_2093, w_2096, w_13, by decide +kernel⟩
theorem w_2095 : Cond.instanceMethod yX12_mayHave ∈ WS := ws_in (tk_9 (List.mem_of_getElem? (i := 175) rfl)) rfl
theorem wp_132 : Cond.selects RX12 yX12_mayHave yX12_mayHave ∈ WS := ws_in (List.mem_append_left tables_1 (List.mem_of_getElem? (i := 132) (by decide +kernel))) rfl
theorem v_RX12_412 : JVir RX12 412 yX12_mayHave cX12_mayHave 3 (some .boolean) 2 12 := ⟨l_RX12_412, w_2095, wp_132, TX12, 52, rfl⟩
theorem w_1527 : Cond.fieldLink RX12 78 "WidowRowModel" "scale" "[I" ∈ WS := ws_in (tk_7 (List.mem_of_getElem? (i := 87) rfl)) rfl
theorem g_RX12_78 : JFld RX12 78 12 44 2 true := ⟨RX12, TX12, 52, _, jc_12, by decide, w_1527, rfl, rfl⟩
theorem w_1526 : Cond.fieldLink RX12 75 "WidowRowModel" "waysNext" "[J" ∈ WS := ws_in (tk_7 (List.mem_of_getElem? (i := 86) rfl)) rfl
theorem g_RX12_75 : JFld RX12 75 12 43 2 true := ⟨RX12, TX12, 52, _, jc_12, by decide, w_1526, rfl, rfl⟩
theorem w_1525 : Cond.fieldLink RX12 72 "WidowRowModel" "ways" "[J" ∈ WS := ws_in (tk_7 (List.mem_of_getElem? (i := 85) rfl)) rfl
theorem g_RX12_72 : JFld RX12 72 12 42 2 true := ⟨RX12, TX12, 52, _, jc_12, by decide, w_1525, rfl, rfl⟩
theorem w_2086 : Cond.methodLink RX12 406 yX12_bits ∈ WS := ws_in (tk_9 (List.mem_of_getElem? (i := 166) rfl)) rfl
theorem w_2088 : Cond.code yX12_bits cX12_bits 3 (some .int) ∈ WS := ws_in (tk_9 (List.mem_of_getElem? (i := 168) rfl)) rfl
theorem l_RX12_406 : JLnk RX12 406 yX12_bits cX12_bits 3 (some .int) 1 := ⟨w_2086, w_2088, w_13, by decide +kernel⟩
theorem w_2087 : Cond.static yX12_bits ∈ WS := ws_in (tk_9 (List.mem_of_getElem? (i := 167) rfl)) rfl
theorem s_RX12_406 : JSta RX12 406 yX12_bits cX12_bits 3 (some .int) 1 := ⟨l_RX12_406, w_2087⟩
theorem w_2089 : Cond.methodLink RX12 409 yX12_dealOne ∈ WS := ws_in (tk_9 (List.mem_of_getElem? (i := 169) rfl)) rfl
theorem w_2092 : Cond.code yX12_dealOne cX12_dealOne 6 none ∈ WS := ws_in (tk_9 (List.mem_of_getElem? (i := 172) rfl)) rfl
theorem l_RX12_409 : JLnk RX12 409 yX12_dealOne cX12_dealOne 6 none 3 := ⟨w_2089, w_2092, w_13, by decide +kernel⟩
theorem w_2091 : Cond.instanceMethod yX12_dealOne ∈ WS := ws_in (tk_9 (List.mem_of_getElem? (i := 171) rfl)) rfl
theorem wp_131 : Cond.selects RX12 yX12_dealOne yX12_dealOne ∈ WS := ws_in (List.mem_append_left tables_1 (List.mem_of_getElem? (i := 131) (by decide +kernel))) rfl
theorem v_RX12_409 : JVir RX12 409 yX12_dealOne cX12_dealOne 6 none 3 12 := ⟨l_RX12_409, w_2091, wp_131, TX12, 52, rfl⟩
theorem w_1806 : Cond.methodLink RX12 262 yX12_isWidow ∈ WS := ws_in (tk_8 (List.mem_of_getElem? (i := 126) rfl)) rfl
theorem w_1809 : Cond.code yX12_isWidow cX12_isWidow 2 (some .boolean) ∈ WS := ws_in (tk_8 (List.mem_of_getElem? (i := 129) rfl)) rfl
theorem l_RX12_262 : JLnk RX12 262 yX12_isWidow cX12_isWidow 2 (some .boolean) 1 := ⟨w_1806, w_1809, w_13, by decide +kernel⟩
theorem w_1808 : Cond.instanceMethod yX12_isWidow ∈ WS := ws_in (tk_8 (List.mem_of_getElem? (i := 128) rfl)) rfl
theorem wp_94 : Cond.selects RX12 yX12_isWidow yX12_isWidow ∈ WS := ws_in (List.mem_append_left tables_1 (List.mem_of_getElem? (i := 94) (by decide +kernel))) rfl
theorem v_RX12_262 : JVir RX12 262 yX12_isWidow cX12_isWidow 2 (some .boolean) 1 12 := ⟨l_RX12_262, w_1808, wp_94, TX12, 52, rfl⟩
theorem w_2082 : Cond.methodLink RX12 415 yX12_deal ∈ WS := ws_in (tk_9 (List.mem_of_getElem? (i := 162) rfl)) rfl
theorem w_2085 : Cond.code yX12_deal cX12_deal 7 (some .long) ∈ WS := ws_in (tk_9 (List.mem_of_getElem? (i := 165) rfl)) rfl
theorem l_RX12_415 : JLnk RX12 415 yX12_deal cX12_deal 7 (some .long) 2 := ⟨w_2082, w_2085, w_13, by decide +kernel⟩
theorem w_2084 : Cond.instanceMethod yX12_deal ∈ WS := ws_in (tk_9 (List.mem_of_getElem? (i := 164) rfl)) rfl
theorem wp_130 : Cond.selects RX12 yX12_deal yX12_deal ∈ WS := ws_in (List.mem_append_left tables_1 (List.mem_of_getElem? (i := 130) (by decide +kernel))) rfl
theorem v_RX12_415 : JVir RX12 415 yX12_deal cX12_deal 7 (some .long) 2 12 := ⟨l_RX12_415, w_2084, wp_130, TX12, 52, rfl⟩
theorem w_1770 : Cond.methodLink RX12 253 yX12_isStone ∈ WS := ws_in (tk_8 (List.mem_of_getElem? (i := 90) rfl)) rfl
theorem w_1773 : Cond.code yX12_isStone cX12_isStone 2 (some .boolean) ∈ WS := ws_in (tk_8 (List.mem_of_getElem? (i := 93) rfl)) rfl
theorem l_RX12_253 : JLnk RX12 253 yX12_isStone cX12_isStone 2 (some .boolean) 1 := ⟨w_1770, w_1773, w_13, by decide +kernel⟩
theorem w_1772 : Cond.instanceMethod yX12_isStone ∈ WS := ws_in (tk_8 (List.mem_of_getElem? (i := 92) rfl)) rfl
theorem wp_87 : Cond.selects RX12 yX12_isStone yX12_isStone ∈ WS := ws_in (List.mem_append_left tables_1 (List.mem_of_getElem? (i := 87) (by decide +kernel))) rfl
theorem v_RX12_253 : JVir RX12 253 yX12_isStone cX12_isStone 2 (some .boolean) 1 12 := ⟨l_RX12_253, w_1772, wp_87, TX12, 52, rfl⟩
theorem w_2101 : Cond.constantLong RX12 419 (-1) ∈ WS := ws_in (tk_9 (List.mem_of_getElem? (i := 181) rfl)) rfl
theorem w_1524 : Cond.fieldLink RX12 394 "WidowRowModel" "dealt" "I" ∈ WS := ws_in (tk_7 (List.mem_of_getElem? (i := 84) rfl)) rfl
theorem g_RX12_394 : JFld RX12 394 12 41 0 false := ⟨RX12, TX12, 52, _, jc_12, by decide, w_1524, rfl, rfl⟩
theorem w_1523 : Cond.fieldLink RX12 68 "WidowRowModel" "line" "[I" ∈ WS := ws_in (tk_7 (List.mem_of_getElem? (i := 83) rfl)) rfl
theorem g_RX12_68 : JFld RX12 68 12 40 2 true := ⟨RX12, TX12, 52, _, jc_12, by decide, w_1523, rfl, rfl⟩
theorem w_1736 : Cond.methodLink RX12 197 yX12_findStone ∈ WS := ws_in (tk_8 (List.mem_of_getElem? (i := 56) rfl)) rfl
theorem w_1738 : Cond.code yX12_findStone cX12_findStone 6 (some .int) ∈ WS := ws_in (tk_8 (List.mem_of_getElem? (i := 58) rfl)) rfl
theorem l_RX12_197 : JLnk RX12 197 yX12_findStone cX12_findStone 6 (some .int) 3 := ⟨w_1736, w_1738, w_13, by decide +kernel⟩
theorem w_1737 : Cond.static yX12_findStone ∈ WS := ws_in (tk_8 (List.mem_of_getElem? (i := 57) rfl)) rfl
theorem s_RX12_197 : JSta RX12 197 yX12_findStone cX12_findStone 6 (some .int) 3 := ⟨l_RX12_197, w_1737⟩
theorem w_1754 : Cond.methodLink RX12 225 yX12_readEnd ∈ WS := ws_in (tk_8 (List.mem_of_getElem? (i := 74) rfl)) rfl
theorem w_1757 : Cond.code yX12_readEnd cX12_readEnd 1 (some .boolean) ∈ WS := ws_in (tk_8 (List.mem_of_getElem? (i := 77) rfl)) rfl
theorem l_RX12_225 : JLnk RX12 225 yX12_readEnd cX12_readEnd 1 (some .boolean) 0 := ⟨w_1754, w_1757, w_13, by decide +kernel⟩
theorem w_1756 : Cond.instanceMethod yX12_readEnd ∈ WS := ws_in (tk_8 (List.mem_of_getElem? (i := 76) rfl)) rfl
theorem wp_85 : Cond.selects RX12 yX12_readEnd yX12_readEnd ∈ WS := ws_in (List.mem_append_left tables_1 (List.mem_of_getElem? (i := 85) (by decide +kernel))) rfl
theorem v_RX12_225 : JVir RX12 225 yX12_readEnd cX12_readEnd 1 (some .boolean) 0 12 := ⟨l_RX12_225, w_1756, wp_85, TX12, 52, rfl⟩
theorem w_2074 : Cond.methodLink RX12 403 yX12_readPassed ∈ WS := ws_in (tk_9 (List.mem_of_getElem? (i := 154) rfl)) rfl
theorem w_2077 : Cond.code yX12_readPassed cX12_readPassed 2 (some .boolean) ∈ WS := ws_in (tk_9 (List.mem_of_getElem? (i := 157) rfl)) rfl
theorem l_RX12_403 : JLnk RX12 403 yX12_readPassed cX12_readPassed 2 (some .boolean) 0 := ⟨w_2074, w_2077, w_13, by decide +kernel⟩
theorem w_2076 : Cond.instanceMethod yX12_readPassed ∈ WS := ws_in (tk_9 (List.mem_of_getElem? (i := 156) rfl)) rfl
theorem wp_129 : Cond.selects RX12 yX12_readPassed yX12_readPassed ∈ WS := ws_in (List.mem_append_left tables_1 (List.mem_of_getElem? (i := 129) (by decide +kernel))) rfl
theorem v_RX12_403 : JVir RX12 403 yX12_readPassed cX12_readPassed 2 (some .boolean) 0 12 := ⟨l_RX12_403, w_2076, wp_129, TX12, 52, rfl⟩
theorem w_2070 : Cond.methodLink RX12 400 yX12_readSeen ∈ WS := ws_in (tk_9 (List.mem_of_getElem? (i := 150) rfl)) rfl
theorem w_2073 : Cond.code yX12_readSeen cX12_readSeen 3 (some .boolean) ∈ WS := ws_in (tk_9 (List.mem_of_getElem? (i := 153) rfl)) rfl
theorem l_RX12_400 : JLnk RX12 400 yX12_readSeen cX12_readSeen 3 (some .boolean) 0 := ⟨w_2070, w_2073, w_13, by decide +kernel⟩
theorem w_2072 : Cond.instanceMethod yX12_readSeen ∈ WS := ws_in (tk_9 (List.mem_of_getElem? (i := 152) rfl)) rfl
theorem wp_128 : Cond.selects RX12 yX12_readSeen yX12_readSeen ∈ WS := ws_in (List.mem_append_left tables_1 (List.mem_of_getElem? (i := 128) (by decide +kernel))) rfl
theorem v_RX12_400 : JVir RX12 400 yX12_readSeen cX12_readSeen 3 (some .boolean) 0 12 := ⟨l_RX12_400, w_2072, wp_128, TX12, 52, rfl⟩
theorem w_2066 : Cond.methodLink RX12 397 yX12_readDeal ∈ WS := ws_in (tk_9 (List.mem_of_getElem? (i := 146) rfl)) rfl
theorem w_2069 : Cond.code yX12_readDeal cX12_readDeal 2 (some .boolean) ∈ WS := ws_in (tk_9 (List.mem_of_getElem? (i := 149) rfl)) rfl
theorem l_RX12_397 : JLnk RX12 397 yX12_readDeal cX12_readDeal 2 (some .boolean) 0 := ⟨w_2066, w_2069, w_13, by decide +kernel⟩
theorem w_2068 : Cond.instanceMethod yX12_readDeal ∈ WS := ws_in (tk_9 (List.mem_of_getElem? (i := 148) rfl)) rfl
theorem wp_127 : Cond.selects RX12 yX12_readDeal yX12_readDeal ∈ WS := ws_in (List.mem_append_left tables_1 (List.mem_of_getElem? (i := 127) (by decide +kernel))) rfl
theorem v_RX12_397 : JVir RX12 397 yX12_readDeal cX12_readDeal 2 (some .boolean) 0 12 := ⟨l_RX12_397, w_2068, wp_127, TX12, 52, rfl⟩
theorem w_1522 : Cond.fieldLink RX12 391 "WidowRowModel" "texted" "I" ∈ WS := ws_in (tk_7 (List.mem_of_getElem? (i := 82) rfl)) rfl
theorem g_RX12_391 : JFld RX12 391 12 39 0 false := ⟨RX12, TX12, 52, _, jc_12, by decide, w_1522, rfl, rfl⟩
theorem w_1521 : Cond.fieldLink RX12 65 "WidowRowModel" "text" "[I" ∈ WS := ws_in (tk_7 (List.mem_of_getElem? (i := 81) rfl)) rfl
theorem g_RX12_65 : JFld RX12 65 12 38 2 true := ⟨RX12, TX12, 52, _, jc_12, by decide, w_1521, rfl, rfl⟩
theorem w_1520 : Cond.fieldLink RX12 62 "WidowRowModel" "aside" "[I" ∈ WS := ws_in (tk_7 (List.mem_of_getElem? (i := 80) rfl)) rfl
theorem g_RX12_62 : JFld RX12 62 12 37 2 true := ⟨RX12, TX12, 52, _, jc_12, by decide, w_1520, rfl, rfl⟩
theorem w_2046 : Cond.methodLink RX12 385 yX12_layAside ∈ WS := ws_in (tk_9 (List.mem_of_getElem? (i := 126) rfl)) rfl
theorem w_2049 : Cond.code yX12_layAside cX12_layAside 2 none ∈ WS := ws_in (tk_9 (List.mem_of_getElem? (i := 129) rfl)) rfl
theorem l_RX12_385 : JLnk RX12 385 yX12_layAside cX12_layAside 2 none 0 := ⟨w_2046, w_2049, w_13, by decide +kernel⟩
theorem w_2048 : Cond.instanceMethod yX12_layAside ∈ WS := ws_in (tk_9 (List.mem_of_getElem? (i := 128) rfl)) rfl
theorem wp_125 : Cond.selects RX12 yX12_layAside yX12_layAside ∈ WS := ws_in (List.mem_append_left tables_1 (List.mem_of_getElem? (i := 125) (by decide +kernel))) rfl
theorem v_RX12_385 : JVir RX12 385 yX12_layAside cX12_layAside 2 none 0 12 := ⟨l_RX12_385, w_2048, wp_125, TX12, 52, rfl⟩
theorem w_2050 : Cond.methodLink RX12 388 yX12_layBack ∈ WS := ws_in (tk_9 (List.mem_of_getElem? (i := 130) rfl)) rfl
theorem w_2053 : Cond.code yX12_layBack cX12_layBack 2 none ∈ WS := ws_in (tk_9 (List.mem_of_getElem? (i := 133) rfl)) rfl
theorem l_RX12_388 : JLnk RX12 388 yX12_layBack cX12_layBack 2 none 0 := ⟨w_2050, w_2053, w_13, by decide +kernel⟩
theorem w_2052 : Cond.instanceMethod yX12_layBack ∈ WS := ws_in (tk_9 (List.mem_of_getElem? (i := 132) rfl)) rfl
theorem wp_126 : Cond.selects RX12 yX12_layBack yX12_layBack ∈ WS := ws_in (List.mem_append_left tables_1 (List.mem_of_getElem? (i := 126) (by decide +kernel))) rfl
theorem v_RX12_388 : JVir RX12 388 yX12_layBack cX12_layBack 2 none 0 12 := ⟨l_RX12_388, w_2052, wp_126, TX12, 52, rfl⟩
theorem w_2026 : Cond.methodLink RX12 382 yX12_isGap ∈ WS := ws_in (tk_9 (List.mem_of_getElem? (i := 106) rfl)) rfl
theorem w_2029 : Cond.code yX12_isGap cX12_isGap 2 (some .boolean) ∈ WS := ws_in (tk_9 (List.mem_of_getElem? (i := 109) rfl)) rfl
theorem l_RX12_382 : JLnk RX12 382 yX12_isGap cX12_isGap 2 (some .boolean) 1 := ⟨w_2026, w_2029, w_13, by decide +kernel⟩
theorem w_2028 : Cond.instanceMethod yX12_isGap ∈ WS := ws_in (tk_9 (List.mem_of_getElem? (i := 108) rfl)) rfl
theorem wp_124 : Cond.selects RX12 yX12_isGap yX12_isGap ∈ WS := ws_in (List.mem_append_left tables_1 (List.mem_of_getElem? (i := 124) (by decide +kernel))) rfl
theorem v_RX12_382 : JVir RX12 382 yX12_isGap cX12_isGap 2 (some .boolean) 1 12 := ⟨l_RX12_382, w_2028, wp_124, TX12, 52, rfl⟩
theorem w_1519 : Cond.fieldLink RX12 58 "WidowRowModel" "gameFirst" "I" ∈ WS := ws_in (tk_7 (List.mem_of_getElem? (i := 79) rfl)) rfl
theorem g_RX12_58 : JFld RX12 58 12 36 0 false := ⟨RX12, TX12, 52, _, jc_12, by decide, w_1519, rfl, rfl⟩
theorem w_1508 : Cond.fieldLink RX12 39 "WidowRowModel" "hand" "[I" ∈ WS := ws_in (tk_7 (List.mem_of_getElem? (i := 68) rfl)) rfl
theorem g_RX12_39 : JFld RX12 39 12 25 2 true := ⟨RX12, TX12, 52, _, jc_12, by decide, w_1508, rfl, rfl⟩
theorem w_1999 : Cond.methodLink RX12 352 yX12_behind ∈ WS := ws_in (tk_9 (List.mem_of_getElem? (i := 79) rfl)) rfl
theorem w_2002 : Cond.code yX12_behind cX12_behind 3 (some .int) ∈ WS := ws_in (tk_9 (List.mem_of_getElem? (i := 82) rfl)) rfl
theorem l_RX12_352 : JLnk RX12 352 yX12_behind cX12_behind 3 (some .int) 2 := ⟨w_1999, w_2002, w_13, by decide +kernel⟩
theorem w_2001 : Cond.instanceMethod yX12_behind ∈ WS := ws_in (tk_9 (List.mem_of_getElem? (i := 81) rfl)) rfl
theorem wp_120 : Cond.selects RX12 yX12_behind yX12_behind ∈ WS := ws_in (List.mem_append_left tables_1 (List.mem_of_getElem? (i := 120) (by decide +kernel))) rfl
theorem v_RX12_352 : JVir RX12 352 yX12_behind cX12_behind 3 (some .int) 2 12 := ⟨l_RX12_352, w_2001, wp_120, TX12, 52, rfl⟩
theorem w_1818 : Cond.methodLink RX12 268 yX12_sum ∈ WS := ws_in (tk_8 (List.mem_of_getElem? (i := 138) rfl)) rfl
theorem w_1821 : Cond.code yX12_sum cX12_sum 2 (some .int) ∈ WS := ws_in (tk_8 (List.mem_of_getElem? (i := 141) rfl)) rfl
theorem l_RX12_268 : JLnk RX12 268 yX12_sum cX12_sum 2 (some .int) 1 := ⟨w_1818, w_1821, w_13, by decide +kernel⟩
theorem w_1820 : Cond.instanceMethod yX12_sum ∈ WS := ws_in (tk_8 (List.mem_of_getElem? (i := 140) rfl)) rfl
theorem wp_97 : Cond.selects RX12 yX12_sum yX12_sum ∈ WS := ws_in (List.mem_append_left tables_1 (List.mem_of_getElem? (i := 97) (by decide +kernel))) rfl
theorem v_RX12_268 : JVir RX12 268 yX12_sum cX12_sum 2 (some .int) 1 12 := ⟨l_RX12_268, w_1820, wp_97, TX12, 52, rfl⟩
theorem w_2007 : Cond.methodLink RX12 376 yX12_play ∈ WS := ws_in (tk_9 (List.mem_of_getElem? (i := 87) rfl)) rfl
theorem w_2010 : Cond.code yX12_play cX12_play 11 (some .int) ∈ WS := ws_in (tk_9 (List.mem_of_getElem? (i := 90) rfl)) rfl
theorem l_RX12_376 : JLnk RX12 376 yX12_play cX12_play 11 (some .int) 5 := ⟨w_2007, w_2010, w_13, by decide +kernel⟩
theorem w_2009 : Cond.instanceMethod yX12_play ∈ WS := ws_in (tk_9 (List.mem_of_getElem? (i := 89) rfl)) rfl
theorem wp_122 : Cond.selects RX12 yX12_play yX12_play ∈ WS := ws_in (List.mem_append_left tables_1 (List.mem_of_getElem? (i := 122) (by decide +kernel))) rfl
theorem v_RX12_376 : JVir RX12 376 yX12_play cX12_play 11 (some .int) 5 12 := ⟨l_RX12_376, w_2009, wp_122, TX12, 52, rfl⟩
theorem w_1518 : Cond.fieldLink RX12 361 "WidowRowModel" "gameB" "I" ∈ WS := ws_in (tk_7 (List.mem_of_getElem? (i := 78) rfl)) rfl
theorem g_RX12_361 : JFld RX12 361 12 35 0 false := ⟨RX12, TX12, 52, _, jc_12, by decide, w_1518, rfl, rfl⟩
theorem w_1517 : Cond.fieldLink RX12 355 "WidowRowModel" "gameA" "I" ∈ WS := ws_in (tk_7 (List.mem_of_getElem? (i := 77) rfl)) rfl
theorem g_RX12_355 : JFld RX12 355 12 34 0 false := ⟨RX12, TX12, 52, _, jc_12, by decide, w_1517, rfl, rfl⟩
theorem w_1991 : Cond.methodLink RX12 358 yX12_isOver ∈ WS := ws_in (tk_9 (List.mem_of_getElem? (i := 71) rfl)) rfl
theorem w_1994 : Cond.code yX12_isOver cX12_isOver 5 (some .boolean) ∈ WS := ws_in (tk_9 (List.mem_of_getElem? (i := 74) rfl)) rfl
theorem l_RX12_358 : JLnk RX12 358 yX12_isOver cX12_isOver 5 (some .boolean) 3 := ⟨w_1991, w_1994, w_13, by decide +kernel⟩
theorem w_1993 : Cond.instanceMethod yX12_isOver ∈ WS := ws_in (tk_9 (List.mem_of_getElem? (i := 73) rfl)) rfl
theorem wp_118 : Cond.selects RX12 yX12_isOver yX12_isOver ∈ WS := ws_in (List.mem_append_left tables_1 (List.mem_of_getElem? (i := 118) (by decide +kernel))) rfl
theorem v_RX12_358 : JVir RX12 358 yX12_isOver cX12_isOver 5 (some .boolean) 3 12 := ⟨l_RX12_358, w_1993, wp_118, TX12, 52, rfl⟩
theorem w_2011 : Cond.methodLink RX12 364 yX12_gameOf ∈ WS := ws_in (tk_9 (List.mem_of_getElem? (i := 91) rfl)) rfl
theorem w_2013 : Cond.code yX12_gameOf cX12_gameOf 4 (some .int) ∈ WS := ws_in (tk_9 (List.mem_of_getElem? (i := 93) rfl)) rfl
theorem l_RX12_364 : JLnk RX12 364 yX12_gameOf cX12_gameOf 4 (some .int) 4 := ⟨w_2011, w_2013, w_13, by decide +kernel⟩
theorem w_2012 : Cond.static yX12_gameOf ∈ WS := ws_in (tk_9 (List.mem_of_getElem? (i := 92) rfl)) rfl
theorem s_RX12_364 : JSta RX12 364 yX12_gameOf cX12_gameOf 4 (some .int) 4 := ⟨l_RX12_364, w_2012⟩
theorem w_1513 : Cond.fieldLink RX12 52 "WidowRowModel" "fewest" "[I" ∈ WS := ws_in (tk_7 (List.mem_of_getElem? (i := 73) rfl)) rfl
theorem g_RX12_52 : JFld RX12 52 12 30 2 true := ⟨RX12, TX12, 52, _, jc_12, by decide, w_1513, rfl, rfl⟩
theorem w_1995 : Cond.methodLink RX12 368 yX12_canLay ∈ WS := ws_in (tk_9 (List.mem_of_getElem? (i := 75) rfl)) rfl
theorem w_1998 : Cond.code yX12_canLay cX12_canLay 7 (some .boolean) ∈ WS := ws_in (tk_9 (List.mem_of_getElem? (i := 78) rfl)) rfl
theorem l_RX12_368 : JLnk RX12 368 yX12_canLay cX12_canLay 7 (some .boolean) 5 := ⟨w_1995, w_1998, w_13, by decide +kernel⟩
theorem w_1997 : Cond.instanceMethod yX12_canLay ∈ WS := ws_in (tk_9 (List.mem_of_getElem? (i := 77) rfl)) rfl
theorem wp_119 : Cond.selects RX12 yX12_canLay yX12_canLay ∈ WS := ws_in (List.mem_append_left tables_1 (List.mem_of_getElem? (i := 119) (by decide +kernel))) rfl
theorem v_RX12_368 : JVir RX12 368 yX12_canLay cX12_canLay 7 (some .boolean) 5 12 := ⟨l_RX12_368, w_1997, wp_119, TX12, 52, rfl⟩
theorem w_2014 : Cond.methodLink RX12 379 yX12_pipsLeft ∈ WS := ws_in (tk_9 (List.mem_of_getElem? (i := 94) rfl)) rfl
theorem w_2017 : Cond.code yX12_pipsLeft cX12_pipsLeft 6 (some .int) ∈ WS := ws_in (tk_9 (List.mem_of_getElem? (i := 97) rfl)) rfl
theorem l_RX12_379 : JLnk RX12 379 yX12_pipsLeft cX12_pipsLeft 6 (some .int) 3 := ⟨w_2014, w_2017, w_13, by decide +kernel⟩
theorem w_2016 : Cond.instanceMethod yX12_pipsLeft ∈ WS := ws_in (tk_9 (List.mem_of_getElem? (i := 96) rfl)) rfl
theorem wp_123 : Cond.selects RX12 yX12_pipsLeft yX12_pipsLeft ∈ WS := ws_in (List.mem_append_left tables_1 (List.mem_of_getElem? (i := 123) (by decide +kernel))) rfl
theorem v_RX12_379 : JVir RX12 379 yX12_pipsLeft cX12_pipsLeft 6 (some .int) 3 12 := ⟨l_RX12_379, w_2016, wp_123, TX12, 52, rfl⟩
theorem w_2003 : Cond.methodLink RX12 372 yX12_bestOf ∈ WS := ws_in (tk_9 (List.mem_of_getElem? (i := 83) rfl)) rfl
theorem w_2006 : Cond.code yX12_bestOf cX12_bestOf 13 (some .int) ∈ WS := ws_in (tk_9 (List.mem_of_getElem? (i := 86) rfl)) rfl
theorem l_RX12_372 : JLnk RX12 372 yX12_bestOf cX12_bestOf 13 (some .int) 5 := ⟨w_2003, w_2006, w_13, by decide +kernel⟩
theorem w_2005 : Cond.instanceMethod yX12_bestOf ∈ WS := ws_in (tk_9 (List.mem_of_getElem? (i := 85) rfl)) rfl
theorem wp_121 : Cond.selects RX12 yX12_bestOf yX12_bestOf ∈ WS := ws_in (List.mem_append_left tables_1 (List.mem_of_getElem? (i := 121) (by decide +kernel))) rfl
theorem v_RX12_372 : JVir RX12 372 yX12_bestOf cX12_bestOf 13 (some .int) 5 12 := ⟨l_RX12_372, w_2005, wp_121, TX12, 52, rfl⟩
theorem w_1515 : Cond.fieldLink RX12 349 "WidowRowModel" "allMany" "I" ∈ WS := ws_in (tk_7 (List.mem_of_getElem? (i := 75) rfl)) rfl
theorem g_RX12_349 : JFld RX12 349 12 32 0 false := ⟨RX12, TX12, 52, _, jc_12, by decide, w_1515, rfl, rfl⟩
theorem w_1514 : Cond.fieldLink RX12 55 "WidowRowModel" "allRow" "[I" ∈ WS := ws_in (tk_7 (List.mem_of_getElem? (i := 74) rfl)) rfl
theorem g_RX12_55 : JFld RX12 55 12 31 2 true := ⟨RX12, TX12, 52, _, jc_12, by decide, w_1514, rfl, rfl⟩
theorem w_1516 : Cond.fieldLink RX12 331 "WidowRowModel" "goalSet" "I" ∈ WS := ws_in (tk_7 (List.mem_of_getElem? (i := 76) rfl)) rfl
theorem g_RX12_331 : JFld RX12 331 12 33 0 false := ⟨RX12, TX12, 52, _, jc_12, by decide, w_1516, rfl, rfl⟩
theorem w_1975 : Cond.methodLink RX12 325 yX12_endPips ∈ WS := ws_in (tk_9 (List.mem_of_getElem? (i := 55) rfl)) rfl
theorem w_1978 : Cond.code yX12_endPips cX12_endPips 3 (some .int) ∈ WS := ws_in (tk_9 (List.mem_of_getElem? (i := 58) rfl)) rfl
theorem l_RX12_325 : JLnk RX12 325 yX12_endPips cX12_endPips 3 (some .int) 2 := ⟨w_1975, w_1978, w_13, by decide +kernel⟩
theorem w_1977 : Cond.instanceMethod yX12_endPips ∈ WS := ws_in (tk_9 (List.mem_of_getElem? (i := 57) rfl)) rfl
theorem wp_116 : Cond.selects RX12 yX12_endPips yX12_endPips ∈ WS := ws_in (List.mem_append_left tables_1 (List.mem_of_getElem? (i := 116) (by decide +kernel))) rfl
theorem v_RX12_325 : JVir RX12 325 yX12_endPips cX12_endPips 3 (some .int) 2 12 := ⟨l_RX12_325, w_1977, wp_116, TX12, 52, rfl⟩
theorem w_1979 : Cond.methodLink RX12 328 yX12_endLayer ∈ WS := ws_in (tk_9 (List.mem_of_getElem? (i := 59) rfl)) rfl
theorem w_1982 : Cond.code yX12_endLayer cX12_endLayer 3 (some .int) ∈ WS := ws_in (tk_9 (List.mem_of_getElem? (i := 62) rfl)) rfl
theorem l_RX12_328 : JLnk RX12 328 yX12_endLayer cX12_endLayer 3 (some .int) 2 := ⟨w_1979, w_1982, w_13, by decide +kernel⟩
theorem w_1981 : Cond.instanceMethod yX12_endLayer ∈ WS := ws_in (tk_9 (List.mem_of_getElem? (i := 61) rfl)) rfl
theorem wp_117 : Cond.selects RX12 yX12_endLayer yX12_endLayer ∈ WS := ws_in (List.mem_append_left tables_1 (List.mem_of_getElem? (i := 117) (by decide +kernel))) rfl
theorem v_RX12_328 : JVir RX12 328 yX12_endLayer cX12_endLayer 3 (some .int) 2 12 := ⟨l_RX12_328, w_1981, wp_117, TX12, 52, rfl⟩
theorem w_1971 : Cond.methodLink RX12 334 yX12_laysAt ∈ WS := ws_in (tk_9 (List.mem_of_getElem? (i := 51) rfl)) rfl
theorem w_1974 : Cond.code yX12_laysAt cX12_laysAt 7 (some .int) ∈ WS := ws_in (tk_9 (List.mem_of_getElem? (i := 54) rfl)) rfl
theorem l_RX12_334 : JLnk RX12 334 yX12_laysAt cX12_laysAt 7 (some .int) 3 := ⟨w_1971, w_1974, w_13, by decide +kernel⟩
theorem w_1973 : Cond.instanceMethod yX12_laysAt ∈ WS := ws_in (tk_9 (List.mem_of_getElem? (i := 53) rfl)) rfl
theorem wp_115 : Cond.selects RX12 yX12_laysAt yX12_laysAt ∈ WS := ws_in (List.mem_append_left tables_1 (List.mem_of_getElem? (i := 115) (by decide +kernel))) rfl
theorem v_RX12_334 : JVir RX12 334 yX12_laysAt cX12_laysAt 7 (some .int) 3 12 := ⟨l_RX12_334, w_1973, wp_115, TX12, 52, rfl⟩
theorem w_1956 : Cond.methodLink RX12 337 yX12_stateOf ∈ WS := ws_in (tk_9 (List.mem_of_getElem? (i := 36) rfl)) rfl
theorem w_1958 : Cond.code yX12_stateOf cX12_stateOf 3 (some .int) ∈ WS := ws_in (tk_9 (List.mem_of_getElem? (i := 38) rfl)) rfl
theorem l_RX12_337 : JLnk RX12 337 yX12_stateOf cX12_stateOf 3 (some .int) 3 := ⟨w_1956, w_1958, w_13, by decide +kernel⟩
theorem w_1957 : Cond.static yX12_stateOf ∈ WS := ws_in (tk_9 (List.mem_of_getElem? (i := 37) rfl)) rfl
theorem s_RX12_337 : JSta RX12 337 yX12_stateOf cX12_stateOf 3 (some .int) 3 := ⟨l_RX12_337, w_1957⟩
theorem w_1963 : Cond.methodLink RX12 340 yX12_isAll ∈ WS := ws_in (tk_9 (List.mem_of_getElem? (i := 43) rfl)) rfl
theorem w_1966 : Cond.code yX12_isAll cX12_isAll 5 (some .boolean) ∈ WS := ws_in (tk_9 (List.mem_of_getElem? (i := 46) rfl)) rfl
theorem l_RX12_340 : JLnk RX12 340 yX12_isAll cX12_isAll 5 (some .boolean) 2 := ⟨w_1963, w_1966, w_13, by decide +kernel⟩
theorem w_1965 : Cond.instanceMethod yX12_isAll ∈ WS := ws_in (tk_9 (List.mem_of_getElem? (i := 45) rfl)) rfl
theorem wp_113 : Cond.selects RX12 yX12_isAll yX12_isAll ∈ WS := ws_in (List.mem_append_left tables_1 (List.mem_of_getElem? (i := 113) (by decide +kernel))) rfl
theorem v_RX12_340 : JVir RX12 340 yX12_isAll cX12_isAll 5 (some .boolean) 2 12 := ⟨l_RX12_340, w_1965, wp_113, TX12, 52, rfl⟩
theorem w_1967 : Cond.methodLink RX12 343 yX12_moved ∈ WS := ws_in (tk_9 (List.mem_of_getElem? (i := 47) rfl)) rfl
theorem w_1970 : Cond.code yX12_moved cX12_moved 9 (some .int) ∈ WS := ws_in (tk_9 (List.mem_of_getElem? (i := 50) rfl)) rfl
theorem l_RX12_343 : JLnk RX12 343 yX12_moved cX12_moved 9 (some .int) 3 := ⟨w_1967, w_1970, w_13, by decide +kernel⟩
theorem w_1969 : Cond.instanceMethod yX12_moved ∈ WS := ws_in (tk_9 (List.mem_of_getElem? (i := 49) rfl)) rfl
theorem wp_114 : Cond.selects RX12 yX12_moved yX12_moved ∈ WS := ws_in (List.mem_append_left tables_1 (List.mem_of_getElem? (i := 114) (by decide +kernel))) rfl
theorem v_RX12_343 : JVir RX12 343 yX12_moved cX12_moved 9 (some .int) 3 12 := ⟨l_RX12_343, w_1969, wp_114, TX12, 52, rfl⟩
theorem w_1959 : Cond.methodLink RX12 346 yX12_fewestFrom ∈ WS := ws_in (tk_9 (List.mem_of_getElem? (i := 39) rfl)) rfl
theorem w_1962 : Cond.code yX12_fewestFrom cX12_fewestFrom 7 (some .int) ∈ WS := ws_in (tk_9 (List.mem_of_getElem? (i := 42) rfl)) rfl
theorem l_RX12_346 : JLnk RX12 346 yX12_fewestFrom cX12_fewestFrom 7 (some .int) 2 := ⟨w_1959, w_1962, w_13, by decide +kernel⟩
theorem w_1961 : Cond.instanceMethod yX12_fewestFrom ∈ WS := ws_in (tk_9 (List.mem_of_getElem? (i := 41) rfl)) rfl
theorem wp_112 : Cond.selects RX12 yX12_fewestFrom yX12_fewestFrom ∈ WS := ws_in (List.mem_append_left tables_1 (List.mem_of_getElem? (i := 112) (by decide +kernel))) rfl
theorem v_RX12_346 : JVir RX12 346 yX12_fewestFrom cX12_fewestFrom 7 (some .int) 2 12 := ⟨l_RX12_346, w_1961, wp_112, TX12, 52, rfl⟩
theorem w_1929 : Cond.methodLink RX12 312 yX12_layHand ∈ WS := ws_in (tk_9 (List.mem_of_getElem? (i := 9) rfl)) rfl
theorem w_1932 : Cond.code yX12_layHand cX12_layHand 3 (some .int) ∈ WS := ws_in (tk_9 (List.mem_of_getElem? (i := 12) rfl)) rfl
theorem l_RX12_312 : JLnk RX12 312 yX12_layHand cX12_layHand 3 (some .int) 0 := ⟨w_1929, w_1932, w_13, by decide +kernel⟩
theorem w_1931 : Cond.instanceMethod yX12_layHand ∈ WS := ws_in (tk_9 (List.mem_of_getElem? (i := 11) rfl)) rfl
theorem wp_109 : Cond.selects RX12 yX12_layHand yX12_layHand ∈ WS := ws_in (List.mem_append_left tables_1 (List.mem_of_getElem? (i := 109) (by decide +kernel))) rfl
theorem v_RX12_312 : JVir RX12 312 yX12_layHand cX12_layHand 3 (some .int) 0 12 := ⟨l_RX12_312, w_1931, wp_109, TX12, 52, rfl⟩
theorem w_1509 : Cond.fieldLink RX12 42 "WidowRowModel" "more" "[I" ∈ WS := ws_in (tk_7 (List.mem_of_getElem? (i := 69) rfl)) rfl
theorem g_RX12_42 : JFld RX12 42 12 26 2 true := ⟨RX12, TX12, 52, _, jc_12, by decide, w_1509, rfl, rfl⟩
theorem w_1512 : Cond.fieldLink RX12 48 "WidowRowModel" "queue" "[I" ∈ WS := ws_in (tk_7 (List.mem_of_getElem? (i := 72) rfl)) rfl
theorem g_RX12_48 : JFld RX12 48 12 29 2 true := ⟨RX12, TX12, 52, _, jc_12, by decide, w_1512, rfl, rfl⟩
theorem w_1511 : Cond.fieldLink RX12 318 "WidowRowModel" "longMany" "I" ∈ WS := ws_in (tk_7 (List.mem_of_getElem? (i := 71) rfl)) rfl
theorem g_RX12_318 : JFld RX12 318 12 28 0 false := ⟨RX12, TX12, 52, _, jc_12, by decide, w_1511, rfl, rfl⟩
theorem w_1510 : Cond.fieldLink RX12 45 "WidowRowModel" "longRow" "[I" ∈ WS := ws_in (tk_7 (List.mem_of_getElem? (i := 70) rfl)) rfl
theorem g_RX12_45 : JFld RX12 45 12 27 2 true := ⟨RX12, TX12, 52, _, jc_12, by decide, w_1510, rfl, rfl⟩
theorem w_1933 : Cond.methodLink RX12 315 yX12_layLongest ∈ WS := ws_in (tk_9 (List.mem_of_getElem? (i := 13) rfl)) rfl
theorem w_1936 : Cond.code yX12_layLongest cX12_layLongest 7 none ∈ WS := ws_in (tk_9 (List.mem_of_getElem? (i := 16) rfl)) rfl
theorem l_RX12_315 : JLnk RX12 315 yX12_layLongest cX12_layLongest 7 none 1 := ⟨w_1933, w_1936, w_13, by decide +kernel⟩
theorem w_1935 : Cond.instanceMethod yX12_layLongest ∈ WS := ws_in (tk_9 (List.mem_of_getElem? (i := 15) rfl)) rfl
theorem wp_110 : Cond.selects RX12 yX12_layLongest yX12_layLongest ∈ WS := ws_in (List.mem_append_left tables_1 (List.mem_of_getElem? (i := 110) (by decide +kernel))) rfl
theorem v_RX12_315 : JVir RX12 315 yX12_layLongest cX12_layLongest 7 none 1 12 := ⟨l_RX12_315, w_1935, wp_110, TX12, 52, rfl⟩
theorem w_1940 : Cond.methodLink RX12 321 yX12_isNext ∈ WS := ws_in (tk_9 (List.mem_of_getElem? (i := 20) rfl)) rfl
theorem w_1943 : Cond.code yX12_isNext cX12_isNext 6 (some .boolean) ∈ WS := ws_in (tk_9 (List.mem_of_getElem? (i := 23) rfl)) rfl
theorem l_RX12_321 : JLnk RX12 321 yX12_isNext cX12_isNext 6 (some .boolean) 4 := ⟨w_1940, w_1943, w_13, by decide +kernel⟩
theorem w_1942 : Cond.instanceMethod yX12_isNext ∈ WS := ws_in (tk_9 (List.mem_of_getElem? (i := 22) rfl)) rfl
theorem wp_111 : Cond.selects RX12 yX12_isNext yX12_isNext ∈ WS := ws_in (List.mem_append_left tables_1 (List.mem_of_getElem? (i := 111) (by decide +kernel))) rfl
theorem v_RX12_321 : JVir RX12 321 yX12_isNext cX12_isNext 6 (some .boolean) 4 12 := ⟨l_RX12_321, w_1942, wp_111, TX12, 52, rfl⟩
theorem w_1854 : Cond.methodLink RX12 286 yX12_isEnd ∈ WS := ws_in (tk_8 (List.mem_of_getElem? (i := 174) rfl)) rfl
theorem w_1856 : Cond.code yX12_isEnd cX12_isEnd 1 (some .boolean) ∈ WS := ws_in (tk_8 (List.mem_of_getElem? (i := 176) rfl)) rfl
theorem l_RX12_286 : JLnk RX12 286 yX12_isEnd cX12_isEnd 1 (some .boolean) 1 := ⟨w_1854, w_1856, w_13, by decide +kernel⟩
theorem w_1855 : Cond.static yX12_isEnd ∈ WS := ws_in (tk_8 (List.mem_of_getElem? (i := 175) rfl)) rfl
theorem s_RX12_286 : JSta RX12 286 yX12_isEnd cX12_isEnd 1 (some .boolean) 1 := ⟨l_RX12_286, w_1855⟩
theorem w_1778 : Cond.methodLink RX12 256 yX12_refuse ∈ WS := ws_in (tk_8 (List.mem_of_getElem? (i := 98) rfl)) rfl
theorem w_1781 : Cond.code yX12_refuse cX12_refuse 1 (some .int) ∈ WS := ws_in (tk_8 (List.mem_of_getElem? (i := 101) rfl)) rfl
theorem l_RX12_256 : JLnk RX12 256 yX12_refuse cX12_refuse 1 (some .int) 0 := ⟨w_1778, w_1781, w_13, by decide +kernel⟩
theorem w_1780 : Cond.instanceMethod yX12_refuse ∈ WS := ws_in (tk_8 (List.mem_of_getElem? (i := 100) rfl)) rfl
theorem wp_89 : Cond.selects RX12 yX12_refuse yX12_refuse ∈ WS := ws_in (List.mem_append_left tables_1 (List.mem_of_getElem? (i := 89) (by decide +kernel))) rfl
theorem v_RX12_256 : JVir RX12 256 yX12_refuse cX12_refuse 1 (some .int) 0 12 := ⟨l_RX12_256, w_1780, wp_89, TX12, 52, rfl⟩
theorem w_1498 : Cond.fieldLink RX12 16 "WidowRowModel" "read" "[I" ∈ WS := ws_in (tk_7 (List.mem_of_getElem? (i := 58) rfl)) rfl
theorem g_RX12_16 : JFld RX12 16 12 15 2 true := ⟨RX12, TX12, 52, _, jc_12, by decide, w_1498, rfl, rfl⟩
theorem w_1502 : Cond.fieldLink RX12 29 "WidowRowModel" "readName" "[J" ∈ WS := ws_in (tk_7 (List.mem_of_getElem? (i := 62) rfl)) rfl
theorem g_RX12_29 : JFld RX12 29 12 19 2 true := ⟨RX12, TX12, 52, _, jc_12, by decide, w_1502, rfl, rfl⟩
theorem w_1507 : Cond.fieldLink RX12 204 "WidowRowModel" "hasPawn" "Z" ∈ WS := ws_in (tk_7 (List.mem_of_getElem? (i := 67) rfl)) rfl
theorem g_RX12_204 : JFld RX12 204 12 24 3 false := ⟨RX12, TX12, 52, _, jc_12, by decide, w_1507, rfl, rfl⟩
theorem w_1750 : Cond.methodLink RX12 222 yX12_readPawn ∈ WS := ws_in (tk_8 (List.mem_of_getElem? (i := 70) rfl)) rfl
theorem w_1753 : Cond.code yX12_readPawn cX12_readPawn 1 (some .boolean) ∈ WS := ws_in (tk_8 (List.mem_of_getElem? (i := 73) rfl)) rfl
theorem l_RX12_222 : JLnk RX12 222 yX12_readPawn cX12_readPawn 1 (some .boolean) 0 := ⟨w_1750, w_1753, w_13, by decide +kernel⟩
theorem w_1752 : Cond.instanceMethod yX12_readPawn ∈ WS := ws_in (tk_8 (List.mem_of_getElem? (i := 72) rfl)) rfl
theorem wp_84 : Cond.selects RX12 yX12_readPawn yX12_readPawn ∈ WS := ws_in (List.mem_append_left tables_1 (List.mem_of_getElem? (i := 84) (by decide +kernel))) rfl
theorem v_RX12_222 : JVir RX12 222 yX12_readPawn cX12_readPawn 1 (some .boolean) 0 12 := ⟨l_RX12_222, w_1752, wp_84, TX12, 52, rfl⟩
theorem w_1746 : Cond.methodLink RX12 219 yX12_readQuarrel ∈ WS := ws_in (tk_8 (List.mem_of_getElem? (i := 66) rfl)) rfl
theorem w_1749 : Cond.code yX12_readQuarrel cX12_readQuarrel 2 (some .boolean) ∈ WS := ws_in (tk_8 (List.mem_of_getElem? (i := 69) rfl)) rfl
theorem l_RX12_219 : JLnk RX12 219 yX12_readQuarrel cX12_readQuarrel 2 (some .boolean) 0 := ⟨w_1746, w_1749, w_13, by decide +kernel⟩
theorem w_1748 : Cond.instanceMethod yX12_readQuarrel ∈ WS := ws_in (tk_8 (List.mem_of_getElem? (i := 68) rfl)) rfl
theorem wp_83 : Cond.selects RX12 yX12_readQuarrel yX12_readQuarrel ∈ WS := ws_in (List.mem_append_left tables_1 (List.mem_of_getElem? (i := 83) (by decide +kernel))) rfl
theorem v_RX12_219 : JVir RX12 219 yX12_readQuarrel cX12_readQuarrel 2 (some .boolean) 0 12 := ⟨l_RX12_219, w_1748, wp_83, TX12, 52, rfl⟩
theorem w_1739 : Cond.methodLink RX12 216 yX12_readForgive ∈ WS := ws_in (tk_8 (List.mem_of_getElem? (i := 59) rfl)) rfl
theorem w_1742 : Cond.code yX12_readForgive cX12_readForgive 1 (some .boolean) ∈ WS := ws_in (tk_8 (List.mem_of_getElem? (i := 62) rfl)) rfl
theorem l_RX12_216 : JLnk RX12 216 yX12_readForgive cX12_readForgive 1 (some .boolean) 0 := ⟨w_1739, w_1742, w_13, by decide +kernel⟩
theorem w_1741 : Cond.instanceMethod yX12_readForgive ∈ WS := ws_in (tk_8 (List.mem_of_getElem? (i := 61) rfl)) rfl
theorem wp_82 : Cond.selects RX12 yX12_readForgive yX12_readForgive ∈ WS := ws_in (List.mem_append_left tables_1 (List.mem_of_getElem? (i := 82) (by decide +kernel))) rfl
theorem v_RX12_216 : JVir RX12 216 yX12_readForgive cX12_readForgive 1 (some .boolean) 0 12 := ⟨l_RX12_216, w_1741, wp_82, TX12, 52, rfl⟩
theorem w_1721 : Cond.methodLink RX12 213 yX12_readStone ∈ WS := ws_in (tk_8 (List.mem_of_getElem? (i := 41) rfl)) rfl
theorem w_1724 : Cond.code yX12_readStone cX12_readStone 4 (some .boolean) ∈ WS := ws_in (tk_8 (List.mem_of_getElem? (i := 44) rfl)) rfl
theorem l_RX12_213 : JLnk RX12 213 yX12_readStone cX12_readStone 4 (some .boolean) 0 := ⟨w_1721, w_1724, w_13, by decide +kernel⟩
theorem w_1723 : Cond.instanceMethod yX12_readStone ∈ WS := ws_in (tk_8 (List.mem_of_getElem? (i := 43) rfl)) rfl
theorem wp_79 : Cond.selects RX12 yX12_readStone yX12_readStone ∈ WS := ws_in (List.mem_append_left tables_1 (List.mem_of_getElem? (i := 79) (by decide +kernel))) rfl
theorem v_RX12_213 : JVir RX12 213 yX12_readStone cX12_readStone 4 (some .boolean) 0 12 := ⟨l_RX12_213, w_1723, wp_79, TX12, 52, rfl⟩
theorem w_1706 : Cond.methodLink RX12 210 yX12_readWidow ∈ WS := ws_in (tk_8 (List.mem_of_getElem? (i := 26) rfl)) rfl
theorem w_1709 : Cond.code yX12_readWidow cX12_readWidow 2 (some .boolean) ∈ WS := ws_in (tk_8 (List.mem_of_getElem? (i := 29) rfl)) rfl
theorem l_RX12_210 : JLnk RX12 210 yX12_readWidow cX12_readWidow 2 (some .boolean) 0 := ⟨w_1706, w_1709, w_13, by decide +kernel⟩
theorem w_1708 : Cond.instanceMethod yX12_readWidow ∈ WS := ws_in (tk_8 (List.mem_of_getElem? (i := 28) rfl)) rfl
theorem wp_76 : Cond.selects RX12 yX12_readWidow yX12_readWidow ∈ WS := ws_in (List.mem_append_left tables_1 (List.mem_of_getElem? (i := 76) (by decide +kernel))) rfl
theorem v_RX12_210 : JVir RX12 210 yX12_readWidow cX12_readWidow 2 (some .boolean) 0 12 := ⟨l_RX12_210, w_1708, wp_76, TX12, 52, rfl⟩
theorem w_1689 : Cond.methodLink RX12 231 yX12_readLine ∈ WS := ws_in (tk_8 (List.mem_of_getElem? (i := 9) rfl)) rfl
theorem w_1692 : Cond.code yX12_readLine cX12_readLine 2 (some .boolean) ∈ WS := ws_in (tk_8 (List.mem_of_getElem? (i := 12) rfl)) rfl
theorem l_RX12_231 : JLnk RX12 231 yX12_readLine cX12_readLine 2 (some .boolean) 0 := ⟨w_1689, w_1692, w_13, by decide +kernel⟩
theorem w_1691 : Cond.instanceMethod yX12_readLine ∈ WS := ws_in (tk_8 (List.mem_of_getElem? (i := 11) rfl)) rfl
theorem wp_74 : Cond.selects RX12 yX12_readLine yX12_readLine ∈ WS := ws_in (List.mem_append_left tables_1 (List.mem_of_getElem? (i := 74) (by decide +kernel))) rfl
theorem v_RX12_231 : JVir RX12 231 yX12_readLine cX12_readLine 2 (some .boolean) 0 12 := ⟨l_RX12_231, w_1691, wp_74, TX12, 52, rfl⟩
theorem w_1649 : Cond.methodLink RX12 93 yX12_come ∈ WS := ws_in (tk_7 (List.mem_of_getElem? (i := 209) rfl)) rfl
theorem w_1652 : Cond.code yX12_come cX12_come 3 none ∈ WS := ws_in (tk_7 (List.mem_of_getElem? (i := 212) rfl)) rfl
theorem l_RX12_93 : JLnk RX12 93 yX12_come cX12_come 3 none 1 := ⟨w_1649, w_1652, w_13, by decide +kernel⟩
theorem w_1651 : Cond.instanceMethod yX12_come ∈ WS := ws_in (tk_7 (List.mem_of_getElem? (i := 211) rfl)) rfl
theorem wp_68 : Cond.selects RX12 yX12_come yX12_come ∈ WS := ws_in (List.mem_append_left tables_1 (List.mem_of_getElem? (i := 68) (by decide +kernel))) rfl
theorem v_RX12_93 : JVir RX12 93 yX12_come cX12_come 3 none 1 12 := ⟨l_RX12_93, w_1651, wp_68, TX12, 52, rfl⟩
theorem w_494 : Cond.fieldLink RX11 29 "WidowRow" "now" "LWidowRow$World;" ∈ WS := ws_in (tk_3 (List.mem_of_getElem? (i := 14) rfl)) rfl
theorem g_RX11_29 : JFld RX11 29 11 3 2 true := ⟨RX11, TX11, 19, _, jc_11, by decide, w_494, rfl, rfl⟩
theorem w_294 : Cond.fieldLink RX11 54 "WidowRow$World" "island" "LWidowRow$Island;" ∈ WS := ws_in (tk_2 (List.mem_of_getElem? (i := 54) rfl)) rfl
theorem g_RX11_54 : JFld RX11 54 10 0 2 true := ⟨RX10, TX10, 5, _, jc_10, by decide, w_294, rfl, rfl⟩
theorem w_128 : Cond.fieldLink RX11 257 "WidowRow$Island" "widows" "I" ∈ WS := ws_in (tk_1 (List.mem_of_getElem? (i := 128) rfl)) rfl
theorem g_RX11_257 : JFld RX11 257 3 1 0 false := ⟨RX3, TX3, 13, _, jc_3, by decide, w_128, rfl, rfl⟩
theorem w_134 : Cond.fieldLink RX11 279 "WidowRow$Island" "stones" "I" ∈ WS := ws_in (tk_1 (List.mem_of_getElem? (i := 134) rfl)) rfl
theorem g_RX11_279 : JFld RX11 279 3 2 0 false := ⟨RX3, TX3, 13, _, jc_3, by decide, w_134, rfl, rfl⟩
theorem w_54 : Cond.fieldLink RX9 30 "WidowRow$Tokens" "name" "J" ∈ WS := ws_in (tk_1 (List.mem_of_getElem? (i := 54) rfl)) rfl
theorem g_RX9_30 : JFld RX9 30 9 7 1 false := ⟨RX9, TX9, 14, _, jc_9, by decide, w_54, rfl, rfl⟩
theorem w_56 : Cond.fieldLink RX9 34 "WidowRow$Tokens" "number" "I" ∈ WS := ws_in (tk_1 (List.mem_of_getElem? (i := 56) rfl)) rfl
theorem g_RX9_34 : JFld RX9 34 9 8 0 false := ⟨RX9, TX9, 14, _, jc_9, by decide, w_56, rfl, rfl⟩
theorem w_44 : Cond.fieldLink RX9 18 "WidowRow$Tokens" "next" "I" ∈ WS := ws_in (tk_1 (List.mem_of_getElem? (i := 44) rfl)) rfl
theorem g_RX9_18 : JFld RX9 18 9 3 0 false := ⟨RX9, TX9, 14, _, jc_9, by decide, w_44, rfl, rfl⟩
theorem w_42 : Cond.fieldLink RX9 9 "WidowRow$Tokens" "length" "I" ∈ WS := ws_in (tk_1 (List.mem_of_getElem? (i := 42) rfl)) rfl
theorem g_RX9_9 : JFld RX9 9 9 1 0 false := ⟨RX9, TX9, 14, _, jc_9, by decide, w_42, rfl, rfl⟩
theorem w_45 : Cond.fieldLink RX9 21 "WidowRow$Tokens" "kind" "I" ∈ WS := ws_in (tk_1 (List.mem_of_getElem? (i := 45) rfl)) rfl
theorem g_RX9_21 : JFld RX9 21 9 4 0 false := ⟨RX9, TX9, 14, _, jc_9, by decide, w_45, rfl, rfl⟩
theorem w_41 : Cond.fieldLink RX9 52 "WidowRow$Tokens" "bytes" "[B" ∈ WS := ws_in (tk_1 (List.mem_of_getElem? (i := 41) rfl)) rfl
theorem g_RX9_52 : JFld RX9 52 9 0 2 true := ⟨RX9, TX9, 14, _, jc_9, by decide, w_41, rfl, rfl⟩
theorem w_57 : Cond.fieldLink RX9 37 "WidowRow$Tokens" "sign" "I" ∈ WS := ws_in (tk_1 (List.mem_of_getElem? (i := 57) rfl)) rfl
theorem g_RX9_37 : JFld RX9 37 9 9 0 false := ⟨RX9, TX9, 14, _, jc_9, by decide, w_57, rfl, rfl⟩
theorem w_50 : Cond.fieldLink RX9 27 "WidowRow$Tokens" "key" "I" ∈ WS := ws_in (tk_1 (List.mem_of_getElem? (i := 50) rfl)) rfl
theorem g_RX9_27 : JFld RX9 27 9 6 0 false := ⟨RX9, TX9, 14, _, jc_9, by decide, w_50, rfl, rfl⟩
theorem w_49 : Cond.fieldLink RX9 24 "WidowRow$Tokens" "from" "I" ∈ WS := ws_in (tk_1 (List.mem_of_getElem? (i := 49) rfl)) rfl
theorem g_RX9_24 : JFld RX9 24 9 5 0 false := ⟨RX9, TX9, 14, _, jc_9, by decide, w_49, rfl, rfl⟩
theorem w_43 : Cond.fieldLink RX9 15 "WidowRow$Tokens" "limit" "I" ∈ WS := ws_in (tk_1 (List.mem_of_getElem? (i := 43) rfl)) rfl
theorem g_RX9_15 : JFld RX9 15 9 2 0 false := ⟨RX9, TX9, 14, _, jc_9, by decide, w_43, rfl, rfl⟩
theorem w_573 : Cond.methodLink RX9 56 Lib.Math.min.name ∈ WS := ws_in (tk_3 (List.mem_of_getElem? (i := 93) rfl)) rfl
theorem w_574 : Cond.static Lib.Math.min.name ∈ WS := ws_in (tk_3 (List.mem_of_getElem? (i := 94) rfl)) rfl
theorem w_14 : Cond.initialized "java/lang/Math" ∈ WS := ws_in (tk_1 (List.mem_of_getElem? (i := 14) rfl)) rfl
theorem w_575 : Cond.code Lib.Math.min.name Lib.Math.min.code 2 (some .int) ∈ WS := ws_in (tk_3 (List.mem_of_getElem? (i := 95) rfl)) rfl
theorem w_580 : Cond.methodLink RX9 65 yX9_readRun ∈ WS := ws_in (tk_3 (List.mem_of_getElem? (i := 100) rfl)) rfl
theorem w_583 : Cond.code yX9_readRun cX9_readRun 4 none ∈ WS := ws_in (tk_3 (List.mem_of_getElem? (i := 103) rfl)) rfl
theorem w_2 : Cond.initialized RX9 ∈ WS := ws_in (tk_1 (List.mem_of_getElem? (i := 2) rfl)) rfl
theorem l_RX9_65 : JLnk RX9 65 yX9_readRun cX9_readRun 4 none 0 := ⟨w_580, w_583, w_2, by decide +kernel⟩
theorem w_582 : Cond.instanceMethod yX9_readRun ∈ WS := ws_in (tk_3 (List.mem_of_getElem? (i := 102) rfl)) rfl
theorem wp_5 : Cond.selects RX9 yX9_readRun yX9_readRun ∈ WS := ws_in (List.mem_append_left tables_1 (List.mem_of_getElem? (i := 5) (by decide +kernel))) rfl
theorem v_RX9_65 : JVir RX9 65 yX9_readRun cX9_readRun 4 none 0 9 := ⟨l_RX9_65, w_582, wp_5, TX9, 14, rfl⟩
theorem w_673 : Cond.methodLink RX9 71 yX9_keyHere ∈ WS := ws_in (tk_3 (List.mem_of_getElem? (i := 193) rfl)) rfl
theorem w_676 : Cond.code yX9_keyHere cX9_keyHere 6 (some .int) ∈ WS := ws_in (tk_3 (List.mem_of_getElem? (i := 196) rfl)) rfl
theorem l_RX9_71 : JLnk RX9 71 yX9_keyHere cX9_keyHere 6 (some .int) 0 := ⟨w_673, w_676, w_2, by decide +kernel⟩
theorem w_675 : Cond.instanceMethod yX9_keyHere ∈ WS := ws_in (tk_3 (List.mem_of_getElem? (i := 195) rfl)) rfl
theorem wp_7 : Cond.selects RX9 yX9_keyHere yX9_keyHere ∈ WS := ws_in (List.mem_append_left tables_1 (List.mem_of_getElem? (i := 7) (by decide +kernel))) rfl
theorem v_RX9_71 : JVir RX9 71 yX9_keyHere cX9_keyHere 6 (some .int) 0 9 := ⟨l_RX9_71, w_675, wp_7, TX9, 14, rfl⟩
theorem w_584 : Cond.methodLink RX9 68 yX9_readSign ∈ WS := ws_in (tk_3 (List.mem_of_getElem? (i := 104) rfl)) rfl
theorem w_587 : Cond.code yX9_readSign cX9_readSign 2 none ∈ WS := ws_in (tk_3 (List.mem_of_getElem? (i := 107) rfl)) rfl
theorem l_RX9_68 : JLnk RX9 68 yX9_readSign cX9_readSign 2 none 0 := ⟨w_584, w_587, w_2, by decide +kernel⟩
theorem w_586 : Cond.instanceMethod yX9_readSign ∈ WS := ws_in (tk_3 (List.mem_of_getElem? (i := 106) rfl)) rfl
theorem wp_6 : Cond.selects RX9 yX9_readSign yX9_readSign ∈ WS := ws_in (List.mem_append_left tables_1 (List.mem_of_getElem? (i := 6) (by decide +kernel))) rfl
theorem v_RX9_68 : JVir RX9 68 yX9_readSign cX9_readSign 2 none 0 9 := ⟨l_RX9_68, w_586, wp_6, TX9, 14, rfl⟩
theorem w_65 : Cond.fieldLink RX9 46 "WidowRow$Tokens" "fault" "I" ∈ WS := ws_in (tk_1 (List.mem_of_getElem? (i := 65) rfl)) rfl
theorem g_RX9_46 : JFld RX9 46 9 12 0 false := ⟨RX9, TX9, 14, _, jc_9, by decide, w_65, rfl, rfl⟩
theorem w_67 : Cond.fieldLink RX9 49 "WidowRow$Tokens" "place" "I" ∈ WS := ws_in (tk_1 (List.mem_of_getElem? (i := 67) rfl)) rfl
theorem g_RX9_49 : JFld RX9 49 9 13 0 false := ⟨RX9, TX9, 14, _, jc_9, by decide, w_67, rfl, rfl⟩
theorem w_576 : Cond.methodLink RX9 62 yX9_step ∈ WS := ws_in (tk_3 (List.mem_of_getElem? (i := 96) rfl)) rfl
theorem w_579 : Cond.code yX9_step cX9_step 1 none ∈ WS := ws_in (tk_3 (List.mem_of_getElem? (i := 99) rfl)) rfl
theorem l_RX9_62 : JLnk RX9 62 yX9_step cX9_step 1 none 0 := ⟨w_576, w_579, w_2, by decide +kernel⟩
theorem w_577 : Cond.instanceMethod yX9_step ∈ WS := ws_in (tk_3 (List.mem_of_getElem? (i := 97) rfl)) rfl
theorem w_578 : Cond.selects RX9 yX9_step yX9_step ∈ WS := ws_in (tk_3 (List.mem_of_getElem? (i := 98) rfl)) rfl
theorem v_RX9_62 : JVir RX9 62 yX9_step cX9_step 1 none 0 9 := ⟨l_RX9_62, w_577, w_578, TX9, 14, rfl⟩
theorem w_493 : Cond.fieldLink RX11 22 "WidowRow" "tokens" "LWidowRow$Tokens;" ∈ WS := ws_in (tk_3 (List.mem_of_getElem? (i := 13) rfl)) rfl
theorem g_RX11_22 : JFld RX11 22 11 2 2 true := ⟨RX11, TX11, 19, _, jc_11, by decide, w_493, rfl, rfl⟩
theorem w_492 : Cond.fieldLink RX11 13 "WidowRow" "tapeLength" "I" ∈ WS := ws_in (tk_3 (List.mem_of_getElem? (i := 12) rfl)) rfl
theorem g_RX11_13 : JFld RX11 13 11 1 0 false := ⟨RX11, TX11, 19, _, jc_11, by decide, w_492, rfl, rfl⟩
theorem w_569 : Cond.methodLink RX11 376 yX9_begin ∈ WS := ws_in (tk_3 (List.mem_of_getElem? (i := 89) rfl)) rfl
theorem w_572 : Cond.code yX9_begin cX9_begin 3 none ∈ WS := ws_in (tk_3 (List.mem_of_getElem? (i := 92) rfl)) rfl
theorem l_RX11_376 : JLnk RX11 376 yX9_begin cX9_begin 3 none 2 := ⟨w_569, w_572, w_2, by decide +kernel⟩
theorem w_570 : Cond.instanceMethod yX9_begin ∈ WS := ws_in (tk_3 (List.mem_of_getElem? (i := 90) rfl)) rfl
theorem w_571 : Cond.selects RX9 yX9_begin yX9_begin ∈ WS := ws_in (tk_3 (List.mem_of_getElem? (i := 91) rfl)) rfl
theorem v_RX11_376 : JVir RX11 376 yX9_begin cX9_begin 3 none 2 9 := ⟨l_RX11_376, w_570, w_571, TX9, 14, rfl⟩
theorem w_136 : Cond.fieldLink RX11 370 "WidowRow$Island" "forgiven" "I" ∈ WS := ws_in (tk_1 (List.mem_of_getElem? (i := 136) rfl)) rfl
theorem g_RX11_370 : JFld RX11 370 3 3 0 false := ⟨RX3, TX3, 13, _, jc_3, by decide, w_136, rfl, rfl⟩
theorem w_138 : Cond.fieldLink RX11 373 "WidowRow$Island" "quarrels" "I" ∈ WS := ws_in (tk_1 (List.mem_of_getElem? (i := 138) rfl)) rfl
theorem g_RX11_373 : JFld RX11 373 3 4 0 false := ⟨RX3, TX3, 13, _, jc_3, by decide, w_138, rfl, rfl⟩
theorem w_140 : Cond.fieldLink RX11 237 "WidowRow$Island" "worth" "I" ∈ WS := ws_in (tk_1 (List.mem_of_getElem? (i := 140) rfl)) rfl
theorem g_RX11_237 : JFld RX11 237 3 5 0 false := ⟨RX3, TX3, 13, _, jc_3, by decide, w_140, rfl, rfl⟩
theorem w_296 : Cond.fieldLink RX11 72 "WidowRow$World" "row" "LWidowRow$Row;" ∈ WS := ws_in (tk_2 (List.mem_of_getElem? (i := 56) rfl)) rfl
theorem g_RX11_72 : JFld RX11 72 10 1 2 true := ⟨RX10, TX10, 5, _, jc_10, by decide, w_296, rfl, rfl⟩
theorem w_218 : Cond.fieldLink RX11 205 "WidowRow$Row" "length" "I" ∈ WS := ws_in (tk_1 (List.mem_of_getElem? (i := 218) rfl)) rfl
theorem g_RX11_205 : JFld RX11 205 7 4 0 false := ⟨RX7, TX7, 8, _, jc_7, by decide, w_218, rfl, rfl⟩
theorem w_298 : Cond.fieldLink RX11 98 "WidowRow$World" "memory" "LWidowRow$Memory;" ∈ WS := ws_in (tk_2 (List.mem_of_getElem? (i := 58) rfl)) rfl
theorem g_RX11_98 : JFld RX11 98 10 2 2 true := ⟨RX10, TX10, 5, _, jc_10, by decide, w_298, rfl, rfl⟩
theorem w_249 : Cond.fieldLink RX11 306 "WidowRow$Memory" "lines" "I" ∈ WS := ws_in (tk_2 (List.mem_of_getElem? (i := 9) rfl)) rfl
theorem g_RX11_306 : JFld RX11 306 5 0 0 false := ⟨RX5, TX5, 5, _, jc_5, by decide, w_249, rfl, rfl⟩
theorem w_123 : Cond.fieldLink RX3 11 "WidowRow$Island" "lines" "I" ∈ WS := ws_in (tk_1 (List.mem_of_getElem? (i := 123) rfl)) rfl
theorem g_RX3_11 : JFld RX3 11 3 0 0 false := ⟨RX3, TX3, 13, _, jc_3, by decide, w_123, rfl, rfl⟩
theorem w_125 : Cond.fieldLink RX3 15 "WidowRow$Island" "widows" "I" ∈ WS := ws_in (tk_1 (List.mem_of_getElem? (i := 125) rfl)) rfl
theorem g_RX3_15 : JFld RX3 15 3 1 0 false := ⟨RX3, TX3, 13, _, jc_3, by decide, w_125, rfl, rfl⟩
theorem w_129 : Cond.fieldLink RX3 18 "WidowRow$Island" "stones" "I" ∈ WS := ws_in (tk_1 (List.mem_of_getElem? (i := 129) rfl)) rfl
theorem g_RX3_18 : JFld RX3 18 3 2 0 false := ⟨RX3, TX3, 13, _, jc_3, by decide, w_129, rfl, rfl⟩
theorem w_135 : Cond.fieldLink RX3 21 "WidowRow$Island" "forgiven" "I" ∈ WS := ws_in (tk_1 (List.mem_of_getElem? (i := 135) rfl)) rfl
theorem g_RX3_21 : JFld RX3 21 3 3 0 false := ⟨RX3, TX3, 13, _, jc_3, by decide, w_135, rfl, rfl⟩
theorem w_137 : Cond.fieldLink RX3 24 "WidowRow$Island" "quarrels" "I" ∈ WS := ws_in (tk_1 (List.mem_of_getElem? (i := 137) rfl)) rfl
theorem g_RX3_24 : JFld RX3 24 3 4 0 false := ⟨RX3, TX3, 13, _, jc_3, by decide, w_137, rfl, rfl⟩
theorem w_139 : Cond.fieldLink RX3 27 "WidowRow$Island" "worth" "I" ∈ WS := ws_in (tk_1 (List.mem_of_getElem? (i := 139) rfl)) rfl
theorem g_RX3_27 : JFld RX3 27 3 5 0 false := ⟨RX3, TX3, 13, _, jc_3, by decide, w_139, rfl, rfl⟩
theorem w_141 : Cond.fieldLink RX3 30 "WidowRow$Island" "worthTold" "Z" ∈ WS := ws_in (tk_1 (List.mem_of_getElem? (i := 141) rfl)) rfl
theorem g_RX3_30 : JFld RX3 30 3 6 3 false := ⟨RX3, TX3, 13, _, jc_3, by decide, w_141, rfl, rfl⟩
theorem w_142 : Cond.fieldLink RX3 34 "WidowRow$Island" "names" "[J" ∈ WS := ws_in (tk_1 (List.mem_of_getElem? (i := 142) rfl)) rfl
theorem g_RX3_34 : JFld RX3 34 3 7 2 true := ⟨RX3, TX3, 13, _, jc_3, by decide, w_142, rfl, rfl⟩
theorem w_781 : Cond.methodLink RX3 63 arraycopyName ∈ WS := ws_in (tk_4 (List.mem_of_getElem? (i := 61) rfl)) rfl
theorem w_783 : Cond.native arraycopyName ∈ WS := ws_in (tk_4 (List.mem_of_getElem? (i := 63) rfl)) rfl
theorem w_782 : Cond.static arraycopyName ∈ WS := ws_in (tk_4 (List.mem_of_getElem? (i := 62) rfl)) rfl
theorem w_21 : Cond.initialized "java/lang/System" ∈ WS := ws_in (tk_1 (List.mem_of_getElem? (i := 21) rfl)) rfl
theorem w_143 : Cond.fieldLink RX3 38 "WidowRow$Island" "one" "[I" ∈ WS := ws_in (tk_1 (List.mem_of_getElem? (i := 143) rfl)) rfl
theorem g_RX3_38 : JFld RX3 38 3 8 2 true := ⟨RX3, TX3, 13, _, jc_3, by decide, w_143, rfl, rfl⟩
theorem w_151 : Cond.fieldLink RX3 42 "WidowRow$Island" "two" "[I" ∈ WS := ws_in (tk_1 (List.mem_of_getElem? (i := 151) rfl)) rfl
theorem g_RX3_42 : JFld RX3 42 3 9 2 true := ⟨RX3, TX3, 13, _, jc_3, by decide, w_151, rfl, rfl⟩
theorem w_159 : Cond.fieldLink RX3 45 "WidowRow$Island" "teller" "[I" ∈ WS := ws_in (tk_1 (List.mem_of_getElem? (i := 159) rfl)) rfl
theorem g_RX3_45 : JFld RX3 45 3 10 2 true := ⟨RX3, TX3, 13, _, jc_3, by decide, w_159, rfl, rfl⟩
theorem w_161 : Cond.fieldLink RX3 48 "WidowRow$Island" "angry" "[I" ∈ WS := ws_in (tk_1 (List.mem_of_getElem? (i := 161) rfl)) rfl
theorem g_RX3_48 : JFld RX3 48 3 11 2 true := ⟨RX3, TX3, 13, _, jc_3, by decide, w_161, rfl, rfl⟩
theorem w_162 : Cond.fieldLink RX3 51 "WidowRow$Island" "fitting" "[I" ∈ WS := ws_in (tk_1 (List.mem_of_getElem? (i := 162) rfl)) rfl
theorem g_RX3_51 : JFld RX3 51 3 12 2 true := ⟨RX3, TX3, 13, _, jc_3, by decide, w_162, rfl, rfl⟩
theorem w_214 : Cond.fieldLink RX7 21 "WidowRow$Row" "length" "I" ∈ WS := ws_in (tk_1 (List.mem_of_getElem? (i := 214) rfl)) rfl
theorem g_RX7_21 : JFld RX7 21 7 4 0 false := ⟨RX7, TX7, 8, _, jc_7, by decide, w_214, rfl, rfl⟩
theorem w_205 : Cond.fieldLink RX7 9 "WidowRow$Row" "owner" "[I" ∈ WS := ws_in (tk_1 (List.mem_of_getElem? (i := 205) rfl)) rfl
theorem g_RX7_9 : JFld RX7 9 7 1 2 true := ⟨RX7, TX7, 8, _, jc_7, by decide, w_205, rfl, rfl⟩
theorem w_789 : Cond.methodLink RX7 49 arraycopyName ∈ WS := ws_in (tk_4 (List.mem_of_getElem? (i := 69) rfl)) rfl
theorem w_209 : Cond.fieldLink RX7 15 "WidowRow$Row" "where" "[I" ∈ WS := ws_in (tk_1 (List.mem_of_getElem? (i := 209) rfl)) rfl
theorem g_RX7_15 : JFld RX7 15 7 2 2 true := ⟨RX7, TX7, 8, _, jc_7, by decide, w_209, rfl, rfl⟩
theorem w_212 : Cond.fieldLink RX7 18 "WidowRow$Row" "line" "[I" ∈ WS := ws_in (tk_1 (List.mem_of_getElem? (i := 212) rfl)) rfl
theorem g_RX7_18 : JFld RX7 18 7 3 2 true := ⟨RX7, TX7, 8, _, jc_7, by decide, w_212, rfl, rfl⟩
theorem w_220 : Cond.fieldLink RX7 25 "WidowRow$Row" "turned" "[I" ∈ WS := ws_in (tk_1 (List.mem_of_getElem? (i := 220) rfl)) rfl
theorem g_RX7_25 : JFld RX7 25 7 5 2 true := ⟨RX7, TX7, 8, _, jc_7, by decide, w_220, rfl, rfl⟩
theorem w_221 : Cond.fieldLink RX7 28 "WidowRow$Row" "paid" "[I" ∈ WS := ws_in (tk_1 (List.mem_of_getElem? (i := 221) rfl)) rfl
theorem g_RX7_28 : JFld RX7 28 7 6 2 true := ⟨RX7, TX7, 8, _, jc_7, by decide, w_221, rfl, rfl⟩
theorem w_223 : Cond.fieldLink RX7 31 "WidowRow$Row" "had" "[I" ∈ WS := ws_in (tk_1 (List.mem_of_getElem? (i := 223) rfl)) rfl
theorem g_RX7_31 : JFld RX7 31 7 7 2 true := ⟨RX7, TX7, 8, _, jc_7, by decide, w_223, rfl, rfl⟩
theorem w_248 : Cond.fieldLink RX5 11 "WidowRow$Memory" "lines" "I" ∈ WS := ws_in (tk_2 (List.mem_of_getElem? (i := 8) rfl)) rfl
theorem g_RX5_11 : JFld RX5 11 5 0 0 false := ⟨RX5, TX5, 5, _, jc_5, by decide, w_248, rfl, rfl⟩
theorem w_250 : Cond.fieldLink RX5 15 "WidowRow$Memory" "told" "I" ∈ WS := ws_in (tk_2 (List.mem_of_getElem? (i := 10) rfl)) rfl
theorem g_RX5_15 : JFld RX5 15 5 1 0 false := ⟨RX5, TX5, 5, _, jc_5, by decide, w_250, rfl, rfl⟩
theorem w_253 : Cond.fieldLink RX5 22 "WidowRow$Memory" "seen" "I" ∈ WS := ws_in (tk_2 (List.mem_of_getElem? (i := 13) rfl)) rfl
theorem g_RX5_22 : JFld RX5 22 5 3 0 false := ⟨RX5, TX5, 5, _, jc_5, by decide, w_253, rfl, rfl⟩
theorem w_251 : Cond.fieldLink RX5 18 "WidowRow$Memory" "dealt" "[I" ∈ WS := ws_in (tk_2 (List.mem_of_getElem? (i := 11) rfl)) rfl
theorem g_RX5_18 : JFld RX5 18 5 2 2 true := ⟨RX5, TX5, 5, _, jc_5, by decide, w_251, rfl, rfl⟩
theorem w_1195 : Cond.methodLink RX5 34 arraycopyName ∈ WS := ws_in (tk_5 (List.mem_of_getElem? (i := 235) rfl)) rfl
theorem w_254 : Cond.fieldLink RX5 25 "WidowRow$Memory" "passed" "[I" ∈ WS := ws_in (tk_2 (List.mem_of_getElem? (i := 14) rfl)) rfl
theorem g_RX5_25 : JFld RX5 25 5 4 2 true := ⟨RX5, TX5, 5, _, jc_5, by decide, w_254, rfl, rfl⟩
theorem w_273 : Cond.fieldLink RX8 11 "WidowRow$Sentence" "ones" "I" ∈ WS := ws_in (tk_2 (List.mem_of_getElem? (i := 33) rfl)) rfl
theorem g_RX8_11 : JFld RX8 11 8 0 0 false := ⟨RX8, TX8, 6, _, jc_8, by decide, w_273, rfl, rfl⟩
theorem w_275 : Cond.fieldLink RX8 15 "WidowRow$Sentence" "size" "I" ∈ WS := ws_in (tk_2 (List.mem_of_getElem? (i := 35) rfl)) rfl
theorem g_RX8_15 : JFld RX8 15 8 1 0 false := ⟨RX8, TX8, 6, _, jc_8, by decide, w_275, rfl, rfl⟩
theorem w_276 : Cond.fieldLink RX8 18 "WidowRow$Sentence" "part" "[I" ∈ WS := ws_in (tk_2 (List.mem_of_getElem? (i := 36) rfl)) rfl
theorem g_RX8_18 : JFld RX8 18 8 2 2 true := ⟨RX8, TX8, 6, _, jc_8, by decide, w_276, rfl, rfl⟩
theorem w_1350 : Cond.methodLink RX8 31 arraycopyName ∈ WS := ws_in (tk_6 (List.mem_of_getElem? (i := 150) rfl)) rfl
theorem w_277 : Cond.fieldLink RX8 22 "WidowRow$Sentence" "sign" "[I" ∈ WS := ws_in (tk_2 (List.mem_of_getElem? (i := 37) rfl)) rfl
theorem g_RX8_22 : JFld RX8 22 8 3 2 true := ⟨RX8, TX8, 6, _, jc_8, by decide, w_277, rfl, rfl⟩
theorem w_278 : Cond.fieldLink RX8 25 "WidowRow$Sentence" "number" "[I" ∈ WS := ws_in (tk_2 (List.mem_of_getElem? (i := 38) rfl)) rfl
theorem g_RX8_25 : JFld RX8 25 8 4 2 true := ⟨RX8, TX8, 6, _, jc_8, by decide, w_278, rfl, rfl⟩
theorem w_293 : Cond.fieldLink RX10 10 "WidowRow$World" "island" "LWidowRow$Island;" ∈ WS := ws_in (tk_2 (List.mem_of_getElem? (i := 53) rfl)) rfl
theorem g_RX10_10 : JFld RX10 10 10 0 2 true := ⟨RX10, TX10, 5, _, jc_10, by decide, w_293, rfl, rfl⟩
theorem w_777 : Cond.methodLink RX10 43 yX3_copyFrom ∈ WS := ws_in (tk_4 (List.mem_of_getElem? (i := 57) rfl)) rfl
theorem w_780 : Cond.code yX3_copyFrom cX3_copyFrom 2 none ∈ WS := ws_in (tk_4 (List.mem_of_getElem? (i := 60) rfl)) rfl
theorem w_4 : Cond.initialized RX3 ∈ WS := ws_in (tk_1 (List.mem_of_getElem? (i := 4) rfl)) rfl
theorem l_RX10_43 : JLnk RX10 43 yX3_copyFrom cX3_copyFrom 2 none 1 := ⟨w_777, w_780, w_4, by decide +kernel⟩
theorem w_778 : Cond.instanceMethod yX3_copyFrom ∈ WS := ws_in (tk_4 (List.mem_of_getElem? (i := 58) rfl)) rfl
theorem w_779 : Cond.selects RX3 yX3_copyFrom yX3_copyFrom ∈ WS := ws_in (tk_4 (List.mem_of_getElem? (i := 59) rfl)) rfl
theorem v_RX10_43 : JVir RX10 43 yX3_copyFrom cX3_copyFrom 2 none 1 3 := ⟨l_RX10_43, w_778, w_779, TX3, 13, rfl⟩
theorem w_295 : Cond.fieldLink RX10 21 "WidowRow$World" "row" "LWidowRow$Row;" ∈ WS := ws_in (tk_2 (List.mem_of_getElem? (i := 55) rfl)) rfl
theorem g_RX10_21 : JFld RX10 21 10 1 2 true := ⟨RX10, TX10, 5, _, jc_10, by decide, w_295, rfl, rfl⟩
theorem w_1389 : Cond.methodLink RX10 46 yX7_copyFrom ∈ WS := ws_in (tk_6 (List.mem_of_getElem? (i := 189) rfl)) rfl
theorem w_899 : Cond.code yX7_copyFrom cX7_copyFrom 2 none ∈ WS := ws_in (tk_4 (List.mem_of_getElem? (i := 179) rfl)) rfl
theorem w_5 : Cond.initialized RX7 ∈ WS := ws_in (tk_1 (List.mem_of_getElem? (i := 5) rfl)) rfl
theorem l_RX10_46 : JLnk RX10 46 yX7_copyFrom cX7_copyFrom 2 none 1 := ⟨w_1389, w_899, w_5, by decide +kernel⟩
theorem w_897 : Cond.instanceMethod yX7_copyFrom ∈ WS := ws_in (tk_4 (List.mem_of_getElem? (i := 177) rfl)) rfl
theorem w_898 : Cond.selects RX7 yX7_copyFrom yX7_copyFrom ∈ WS := ws_in (tk_4 (List.mem_of_getElem? (i := 178) rfl)) rfl
theorem v_RX10_46 : JVir RX10 46 yX7_copyFrom cX7_copyFrom 2 none 1 7 := ⟨l_RX10_46, w_897, w_898, TX7, 8, rfl⟩
theorem w_297 : Cond.fieldLink RX10 28 "WidowRow$World" "memory" "LWidowRow$Memory;" ∈ WS := ws_in (tk_2 (List.mem_of_getElem? (i := 57) rfl)) rfl
theorem g_RX10_28 : JFld RX10 28 10 2 2 true := ⟨RX10, TX10, 5, _, jc_10, by decide, w_297, rfl, rfl⟩
theorem w_1390 : Cond.methodLink RX10 49 yX5_copyFrom ∈ WS := ws_in (tk_6 (List.mem_of_getElem? (i := 190) rfl)) rfl
theorem w_1194 : Cond.code yX5_copyFrom cX5_copyFrom 2 none ∈ WS := ws_in (tk_5 (List.mem_of_getElem? (i := 234) rfl)) rfl
theorem w_6 : Cond.initialized RX5 ∈ WS := ws_in (tk_1 (List.mem_of_getElem? (i := 6) rfl)) rfl
theorem l_RX10_49 : JLnk RX10 49 yX5_copyFrom cX5_copyFrom 2 none 1 := ⟨w_1390, w_1194, w_6, by decide +kernel⟩
theorem w_1192 : Cond.instanceMethod yX5_copyFrom ∈ WS := ws_in (tk_5 (List.mem_of_getElem? (i := 232) rfl)) rfl
theorem w_1193 : Cond.selects RX5 yX5_copyFrom yX5_copyFrom ∈ WS := ws_in (tk_5 (List.mem_of_getElem? (i := 233) rfl)) rfl
theorem v_RX10_49 : JVir RX10 49 yX5_copyFrom cX5_copyFrom 2 none 1 5 := ⟨l_RX10_49, w_1192, w_1193, TX5, 5, rfl⟩
theorem w_299 : Cond.fieldLink RX10 35 "WidowRow$World" "sentence" "LWidowRow$Sentence;" ∈ WS := ws_in (tk_2 (List.mem_of_getElem? (i := 59) rfl)) rfl
theorem g_RX10_35 : JFld RX10 35 10 3 2 true := ⟨RX10, TX10, 5, _, jc_10, by decide, w_299, rfl, rfl⟩
theorem w_1391 : Cond.methodLink RX10 52 yX8_copyFrom ∈ WS := ws_in (tk_6 (List.mem_of_getElem? (i := 191) rfl)) rfl
theorem w_1349 : Cond.code yX8_copyFrom cX8_copyFrom 2 none ∈ WS := ws_in (tk_6 (List.mem_of_getElem? (i := 149) rfl)) rfl
theorem w_7 : Cond.initialized RX8 ∈ WS := ws_in (tk_1 (List.mem_of_getElem? (i := 7) rfl)) rfl
theorem l_RX10_52 : JLnk RX10 52 yX8_copyFrom cX8_copyFrom 2 none 1 := ⟨w_1391, w_1349, w_7, by decide +kernel⟩
theorem w_1347 : Cond.instanceMethod yX8_copyFrom ∈ WS := ws_in (tk_6 (List.mem_of_getElem? (i := 147) rfl)) rfl
theorem w_1348 : Cond.selects RX8 yX8_copyFrom yX8_copyFrom ∈ WS := ws_in (tk_6 (List.mem_of_getElem? (i := 148) rfl)) rfl
theorem v_RX10_52 : JVir RX10 52 yX8_copyFrom cX8_copyFrom 2 none 1 8 := ⟨l_RX10_52, w_1347, w_1348, TX8, 6, rfl⟩
theorem w_1382 : Cond.methodLink RX11 361 yX11_isPlace ∈ WS := ws_in (tk_6 (List.mem_of_getElem? (i := 182) rfl)) rfl
theorem w_1384 : Cond.code yX11_isPlace cX11_isPlace 1 (some .boolean) ∈ WS := ws_in (tk_6 (List.mem_of_getElem? (i := 184) rfl)) rfl
theorem w_1 : Cond.initialized RX11 ∈ WS := ws_in (tk_1 (List.mem_of_getElem? (i := 1) rfl)) rfl
theorem l_RX11_361 : JLnk RX11 361 yX11_isPlace cX11_isPlace 1 (some .boolean) 1 := ⟨w_1382, w_1384, w_1, by decide +kernel⟩
theorem w_1383 : Cond.static yX11_isPlace ∈ WS := ws_in (tk_6 (List.mem_of_getElem? (i := 183) rfl)) rfl
theorem s_RX11_361 : JSta RX11 361 yX11_isPlace cX11_isPlace 1 (some .boolean) 1 := ⟨l_RX11_361, w_1383⟩
theorem w_497 : Cond.fieldLink RX11 39 "WidowRow" "image1" "LWidowRow$World;" ∈ WS := ws_in (tk_3 (List.mem_of_getElem? (i := 17) rfl)) rfl
theorem g_RX11_39 : JFld RX11 39 11 6 2 true := ⟨RX11, TX11, 19, _, jc_11, by decide, w_497, rfl, rfl⟩
theorem w_302 : Cond.fieldLink RX11 367 "WidowRow$World" "kept" "Z" ∈ WS := ws_in (tk_2 (List.mem_of_getElem? (i := 62) rfl)) rfl
theorem g_RX11_367 : JFld RX11 367 10 4 3 false := ⟨RX10, TX10, 5, _, jc_10, by decide, w_302, rfl, rfl⟩
theorem w_1385 : Cond.methodLink RX11 364 yX10_copyFrom ∈ WS := ws_in (tk_6 (List.mem_of_getElem? (i := 185) rfl)) rfl
theorem w_1388 : Cond.code yX10_copyFrom cX10_copyFrom 2 none ∈ WS := ws_in (tk_6 (List.mem_of_getElem? (i := 188) rfl)) rfl
theorem w_3 : Cond.initialized RX10 ∈ WS := ws_in (tk_1 (List.mem_of_getElem? (i := 3) rfl)) rfl
theorem l_RX11_364 : JLnk RX11 364 yX10_copyFrom cX10_copyFrom 2 none 1 := ⟨w_1385, w_1388, w_3, by decide +kernel⟩
theorem w_1386 : Cond.instanceMethod yX10_copyFrom ∈ WS := ws_in (tk_6 (List.mem_of_getElem? (i := 186) rfl)) rfl
theorem w_1387 : Cond.selects RX10 yX10_copyFrom yX10_copyFrom ∈ WS := ws_in (tk_6 (List.mem_of_getElem? (i := 187) rfl)) rfl
theorem v_RX11_364 : JVir RX11 364 yX10_copyFrom cX10_copyFrom 2 none 1 10 := ⟨l_RX11_364, w_1386, w_1387, TX10, 5, rfl⟩
theorem w_499 : Cond.fieldLink RX11 48 "WidowRow" "pastCount" "I" ∈ WS := ws_in (tk_3 (List.mem_of_getElem? (i := 19) rfl)) rfl
theorem g_RX11_48 : JFld RX11 48 11 8 0 false := ⟨RX11, TX11, 19, _, jc_11, by decide, w_499, rfl, rfl⟩
theorem w_496 : Cond.fieldLink RX11 36 "WidowRow" "image0" "LWidowRow$World;" ∈ WS := ws_in (tk_3 (List.mem_of_getElem? (i := 16) rfl)) rfl
theorem g_RX11_36 : JFld RX11 36 11 5 2 true := ⟨RX11, TX11, 19, _, jc_11, by decide, w_496, rfl, rfl⟩
theorem w_201 : Cond.fieldLink RX7 34 "WidowRow$Row" "island" "LWidowRow$Island;" ∈ WS := ws_in (tk_1 (List.mem_of_getElem? (i := 201) rfl)) rfl
theorem g_RX7_34 : JFld RX7 34 7 0 2 true := ⟨RX7, TX7, 8, _, jc_7, by decide, w_201, rfl, rfl⟩
theorem w_157 : Cond.fieldLink RX7 72 "WidowRow$Island" "two" "[I" ∈ WS := ws_in (tk_1 (List.mem_of_getElem? (i := 157) rfl)) rfl
theorem g_RX7_72 : JFld RX7 72 3 9 2 true := ⟨RX3, TX3, 13, _, jc_3, by decide, w_157, rfl, rfl⟩
theorem w_149 : Cond.fieldLink RX7 69 "WidowRow$Island" "one" "[I" ∈ WS := ws_in (tk_1 (List.mem_of_getElem? (i := 149) rfl)) rfl
theorem g_RX7_69 : JFld RX7 69 3 8 2 true := ⟨RX3, TX3, 13, _, jc_3, by decide, w_149, rfl, rfl⟩
theorem w_858 : Cond.methodLink RX7 66 yX7_lastAt ∈ WS := ws_in (tk_4 (List.mem_of_getElem? (i := 138) rfl)) rfl
theorem w_861 : Cond.code yX7_lastAt cX7_lastAt 2 (some .int) ∈ WS := ws_in (tk_4 (List.mem_of_getElem? (i := 141) rfl)) rfl
theorem l_RX7_66 : JLnk RX7 66 yX7_lastAt cX7_lastAt 2 (some .int) 1 := ⟨w_858, w_861, w_5, by decide +kernel⟩
theorem w_860 : Cond.instanceMethod yX7_lastAt ∈ WS := ws_in (tk_4 (List.mem_of_getElem? (i := 140) rfl)) rfl
theorem wp_17 : Cond.selects RX7 yX7_lastAt yX7_lastAt ∈ WS := ws_in (List.mem_append_left tables_1 (List.mem_of_getElem? (i := 17) (by decide +kernel))) rfl
theorem v_RX7_66 : JVir RX7 66 yX7_lastAt cX7_lastAt 2 (some .int) 1 7 := ⟨l_RX7_66, w_860, wp_17, TX7, 8, rfl⟩
theorem w_862 : Cond.methodLink RX7 75 yX7_sideOf ∈ WS := ws_in (tk_4 (List.mem_of_getElem? (i := 142) rfl)) rfl
theorem w_865 : Cond.code yX7_sideOf cX7_sideOf 3 (some .int) ∈ WS := ws_in (tk_4 (List.mem_of_getElem? (i := 145) rfl)) rfl
theorem l_RX7_75 : JLnk RX7 75 yX7_sideOf cX7_sideOf 3 (some .int) 2 := ⟨w_862, w_865, w_5, by decide +kernel⟩
theorem w_863 : Cond.instanceMethod yX7_sideOf ∈ WS := ws_in (tk_4 (List.mem_of_getElem? (i := 143) rfl)) rfl
theorem w_864 : Cond.selects RX7 yX7_sideOf yX7_sideOf ∈ WS := ws_in (tk_4 (List.mem_of_getElem? (i := 144) rfl)) rfl
theorem v_RX7_75 : JVir RX7 75 yX7_sideOf cX7_sideOf 3 (some .int) 2 7 := ⟨l_RX7_75, w_863, w_864, TX7, 8, rfl⟩
theorem w_886 : Cond.methodLink RX7 82 yX7_outer ∈ WS := ws_in (tk_4 (List.mem_of_getElem? (i := 166) rfl)) rfl
theorem w_857 : Cond.code yX7_outer cX7_outer 2 (some .int) ∈ WS := ws_in (tk_4 (List.mem_of_getElem? (i := 137) rfl)) rfl
theorem l_RX7_82 : JLnk RX7 82 yX7_outer cX7_outer 2 (some .int) 1 := ⟨w_886, w_857, w_5, by decide +kernel⟩
theorem w_855 : Cond.instanceMethod yX7_outer ∈ WS := ws_in (tk_4 (List.mem_of_getElem? (i := 135) rfl)) rfl
theorem w_856 : Cond.selects RX7 yX7_outer yX7_outer ∈ WS := ws_in (tk_4 (List.mem_of_getElem? (i := 136) rfl)) rfl
theorem v_RX7_82 : JVir RX7 82 yX7_outer cX7_outer 2 (some .int) 1 7 := ⟨l_RX7_82, w_855, w_856, TX7, 8, rfl⟩
theorem w_887 : Cond.methodLink RX7 79 yX3_fit ∈ WS := ws_in (tk_4 (List.mem_of_getElem? (i := 167) rfl)) rfl
theorem w_842 : Cond.code yX3_fit cX3_fit 3 (some .boolean) ∈ WS := ws_in (tk_4 (List.mem_of_getElem? (i := 122) rfl)) rfl
theorem l_RX7_79 : JLnk RX7 79 yX3_fit cX3_fit 3 (some .boolean) 2 := ⟨w_887, w_842, w_4, by decide +kernel⟩
theorem w_840 : Cond.instanceMethod yX3_fit ∈ WS := ws_in (tk_4 (List.mem_of_getElem? (i := 120) rfl)) rfl
theorem w_841 : Cond.selects RX3 yX3_fit yX3_fit ∈ WS := ws_in (tk_4 (List.mem_of_getElem? (i := 121) rfl)) rfl
theorem v_RX7_79 : JVir RX7 79 yX3_fit cX3_fit 3 (some .boolean) 2 3 := ⟨l_RX7_79, w_840, w_841, TX3, 13, rfl⟩
theorem w_204 : Cond.fieldLink RX8 100 "WidowRow$Row" "island" "LWidowRow$Island;" ∈ WS := ws_in (tk_1 (List.mem_of_getElem? (i := 204) rfl)) rfl
theorem g_RX8_100 : JFld RX8 100 7 0 2 true := ⟨RX7, TX7, 8, _, jc_7, by decide, w_204, rfl, rfl⟩
theorem w_150 : Cond.fieldLink RX8 113 "WidowRow$Island" "one" "[I" ∈ WS := ws_in (tk_1 (List.mem_of_getElem? (i := 150) rfl)) rfl
theorem g_RX8_113 : JFld RX8 113 3 8 2 true := ⟨RX3, TX3, 13, _, jc_3, by decide, w_150, rfl, rfl⟩
theorem w_158 : Cond.fieldLink RX8 116 "WidowRow$Island" "two" "[I" ∈ WS := ws_in (tk_1 (List.mem_of_getElem? (i := 158) rfl)) rfl
theorem g_RX8_116 : JFld RX8 116 3 9 2 true := ⟨RX3, TX3, 13, _, jc_3, by decide, w_158, rfl, rfl⟩
theorem w_211 : Cond.fieldLink RX8 119 "WidowRow$Row" "where" "[I" ∈ WS := ws_in (tk_1 (List.mem_of_getElem? (i := 211) rfl)) rfl
theorem g_RX8_119 : JFld RX8 119 7 2 2 true := ⟨RX7, TX7, 8, _, jc_7, by decide, w_211, rfl, rfl⟩
theorem w_208 : Cond.fieldLink RX8 122 "WidowRow$Row" "owner" "[I" ∈ WS := ws_in (tk_1 (List.mem_of_getElem? (i := 208) rfl)) rfl
theorem g_RX8_122 : JFld RX8 122 7 1 2 true := ⟨RX7, TX7, 8, _, jc_7, by decide, w_208, rfl, rfl⟩
theorem w_219 : Cond.fieldLink RX8 125 "WidowRow$Row" "length" "I" ∈ WS := ws_in (tk_1 (List.mem_of_getElem? (i := 219) rfl)) rfl
theorem g_RX8_125 : JFld RX8 125 7 4 0 false := ⟨RX7, TX7, 8, _, jc_7, by decide, w_219, rfl, rfl⟩
theorem w_1367 : Cond.methodLink RX8 128 yX7_goesTo ∈ WS := ws_in (tk_6 (List.mem_of_getElem? (i := 167) rfl)) rfl
theorem w_885 : Cond.code yX7_goesTo cX7_goesTo 4 (some .boolean) ∈ WS := ws_in (tk_4 (List.mem_of_getElem? (i := 165) rfl)) rfl
theorem l_RX8_128 : JLnk RX8 128 yX7_goesTo cX7_goesTo 4 (some .boolean) 2 := ⟨w_1367, w_885, w_5, by decide +kernel⟩
theorem w_883 : Cond.instanceMethod yX7_goesTo ∈ WS := ws_in (tk_4 (List.mem_of_getElem? (i := 163) rfl)) rfl
theorem w_884 : Cond.selects RX7 yX7_goesTo yX7_goesTo ∈ WS := ws_in (tk_4 (List.mem_of_getElem? (i := 164) rfl)) rfl
theorem v_RX8_128 : JVir RX8 128 yX7_goesTo cX7_goesTo 4 (some .boolean) 2 7 := ⟨l_RX8_128, w_883, w_884, TX7, 8, rfl⟩
theorem w_1368 : Cond.methodLink RX8 132 yX8_isAsTold ∈ WS := ws_in (tk_6 (List.mem_of_getElem? (i := 168) rfl)) rfl
theorem w_1371 : Cond.code yX8_isAsTold cX8_isAsTold 3 (some .boolean) ∈ WS := ws_in (tk_6 (List.mem_of_getElem? (i := 171) rfl)) rfl
theorem l_RX8_132 : JLnk RX8 132 yX8_isAsTold cX8_isAsTold 3 (some .boolean) 2 := ⟨w_1368, w_1371, w_7, by decide +kernel⟩
theorem w_1370 : Cond.instanceMethod yX8_isAsTold ∈ WS := ws_in (tk_6 (List.mem_of_getElem? (i := 170) rfl)) rfl
theorem wp_66 : Cond.selects RX8 yX8_isAsTold yX8_isAsTold ∈ WS := ws_in (List.mem_append_left tables_1 (List.mem_of_getElem? (i := 66) (by decide +kernel))) rfl
theorem v_RX8_132 : JVir RX8 132 yX8_isAsTold cX8_isAsTold 3 (some .boolean) 2 8 := ⟨l_RX8_132, w_1370, wp_66, TX8, 6, rfl⟩
theorem w_1372 : Cond.methodLink RX8 135 Lib.Math.max.name ∈ WS := ws_in (tk_6 (List.mem_of_getElem? (i := 172) rfl)) rfl
theorem w_618 : Cond.static Lib.Math.max.name ∈ WS := ws_in (tk_3 (List.mem_of_getElem? (i := 138) rfl)) rfl
theorem w_619 : Cond.code Lib.Math.max.name Lib.Math.max.code 2 (some .int) ∈ WS := ws_in (tk_3 (List.mem_of_getElem? (i := 139) rfl)) rfl
theorem w_1373 : Cond.methodLink RX8 141 Lib.Math.min.name ∈ WS := ws_in (tk_6 (List.mem_of_getElem? (i := 173) rfl)) rfl
theorem w_1374 : Cond.methodLink RX8 144 yX7_placeOf ∈ WS := ws_in (tk_6 (List.mem_of_getElem? (i := 174) rfl)) rfl
theorem w_1377 : Cond.code yX7_placeOf cX7_placeOf 3 (some .int) ∈ WS := ws_in (tk_6 (List.mem_of_getElem? (i := 177) rfl)) rfl
theorem l_RX8_144 : JLnk RX8 144 yX7_placeOf cX7_placeOf 3 (some .int) 1 := ⟨w_1374, w_1377, w_5, by decide +kernel⟩
theorem w_1375 : Cond.instanceMethod yX7_placeOf ∈ WS := ws_in (tk_6 (List.mem_of_getElem? (i := 175) rfl)) rfl
theorem w_1376 : Cond.selects RX7 yX7_placeOf yX7_placeOf ∈ WS := ws_in (tk_6 (List.mem_of_getElem? (i := 176) rfl)) rfl
theorem v_RX8_144 : JVir RX8 144 yX7_placeOf cX7_placeOf 3 (some .int) 1 7 := ⟨l_RX8_144, w_1375, w_1376, TX7, 8, rfl⟩
theorem w_133 : Cond.fieldLink RX8 106 "WidowRow$Island" "stones" "I" ∈ WS := ws_in (tk_1 (List.mem_of_getElem? (i := 133) rfl)) rfl
theorem g_RX8_106 : JFld RX8 106 3 2 0 false := ⟨RX3, TX3, 13, _, jc_3, by decide, w_133, rfl, rfl⟩
theorem w_1363 : Cond.methodLink RX8 109 yX8_isTrue ∈ WS := ws_in (tk_6 (List.mem_of_getElem? (i := 163) rfl)) rfl
theorem w_1366 : Cond.code yX8_isTrue cX8_isTrue 6 (some .boolean) ∈ WS := ws_in (tk_6 (List.mem_of_getElem? (i := 166) rfl)) rfl
theorem l_RX8_109 : JLnk RX8 109 yX8_isTrue cX8_isTrue 6 (some .boolean) 3 := ⟨w_1363, w_1366, w_7, by decide +kernel⟩
theorem w_1365 : Cond.instanceMethod yX8_isTrue ∈ WS := ws_in (tk_6 (List.mem_of_getElem? (i := 165) rfl)) rfl
theorem wp_65 : Cond.selects RX8 yX8_isTrue yX8_isTrue ∈ WS := ws_in (List.mem_append_left tables_1 (List.mem_of_getElem? (i := 65) (by decide +kernel))) rfl
theorem v_RX8_109 : JVir RX8 109 yX8_isTrue cX8_isTrue 6 (some .boolean) 3 8 := ⟨l_RX8_109, w_1365, wp_65, TX8, 6, rfl⟩
theorem w_279 : Cond.fieldLink RX8 28 "WidowRow$Sentence" "stack" "[I" ∈ WS := ws_in (tk_2 (List.mem_of_getElem? (i := 39) rfl)) rfl
theorem g_RX8_28 : JFld RX8 28 8 5 2 true := ⟨RX8, TX8, 6, _, jc_8, by decide, w_279, rfl, rfl⟩
theorem w_1359 : Cond.methodLink RX8 96 yX8_trueOfPart ∈ WS := ws_in (tk_6 (List.mem_of_getElem? (i := 159) rfl)) rfl
theorem w_1362 : Cond.code yX8_trueOfPart cX8_trueOfPart 5 (some .int) ∈ WS := ws_in (tk_6 (List.mem_of_getElem? (i := 162) rfl)) rfl
theorem l_RX8_96 : JLnk RX8 96 yX8_trueOfPart cX8_trueOfPart 5 (some .int) 2 := ⟨w_1359, w_1362, w_7, by decide +kernel⟩
theorem w_1361 : Cond.instanceMethod yX8_trueOfPart ∈ WS := ws_in (tk_6 (List.mem_of_getElem? (i := 161) rfl)) rfl
theorem wp_64 : Cond.selects RX8 yX8_trueOfPart yX8_trueOfPart ∈ WS := ws_in (List.mem_append_left tables_1 (List.mem_of_getElem? (i := 64) (by decide +kernel))) rfl
theorem v_RX8_96 : JVir RX8 96 yX8_trueOfPart cX8_trueOfPart 5 (some .int) 2 8 := ⟨l_RX8_96, w_1361, wp_64, TX8, 6, rfl⟩
theorem w_300 : Cond.fieldLink RX11 346 "WidowRow$World" "sentence" "LWidowRow$Sentence;" ∈ WS := ws_in (tk_2 (List.mem_of_getElem? (i := 60) rfl)) rfl
theorem g_RX11_346 : JFld RX11 346 10 3 2 true := ⟨RX10, TX10, 5, _, jc_10, by decide, w_300, rfl, rfl⟩
theorem w_274 : Cond.fieldLink RX11 354 "WidowRow$Sentence" "ones" "I" ∈ WS := ws_in (tk_2 (List.mem_of_getElem? (i := 34) rfl)) rfl
theorem g_RX11_354 : JFld RX11 354 8 0 0 false := ⟨RX8, TX8, 6, _, jc_8, by decide, w_274, rfl, rfl⟩
theorem w_1355 : Cond.methodLink RX11 357 yX8_trueOf ∈ WS := ws_in (tk_6 (List.mem_of_getElem? (i := 155) rfl)) rfl
theorem w_1358 : Cond.code yX8_trueOf cX8_trueOf 4 (some .int) ∈ WS := ws_in (tk_6 (List.mem_of_getElem? (i := 158) rfl)) rfl
theorem l_RX11_357 : JLnk RX11 357 yX8_trueOf cX8_trueOf 4 (some .int) 1 := ⟨w_1355, w_1358, w_7, by decide +kernel⟩
theorem w_1356 : Cond.instanceMethod yX8_trueOf ∈ WS := ws_in (tk_6 (List.mem_of_getElem? (i := 156) rfl)) rfl
theorem w_1357 : Cond.selects RX8 yX8_trueOf yX8_trueOf ∈ WS := ws_in (tk_6 (List.mem_of_getElem? (i := 157) rfl)) rfl
theorem v_RX11_357 : JVir RX11 357 yX8_trueOf cX8_trueOf 4 (some .int) 1 8 := ⟨l_RX11_357, w_1356, w_1357, TX8, 6, rfl⟩
theorem w_743 : Cond.methodLink RX9 95 yX9_fail ∈ WS := ws_in (tk_4 (List.mem_of_getElem? (i := 23) rfl)) rfl
theorem w_721 : Cond.code yX9_fail cX9_fail 2 (some .boolean) ∈ WS := ws_in (tk_4 (List.mem_of_getElem? (i := 1) rfl)) rfl
theorem l_RX9_95 : JLnk RX9 95 yX9_fail cX9_fail 2 (some .boolean) 1 := ⟨w_743, w_721, w_2, by decide +kernel⟩
theorem w_719 : Cond.instanceMethod yX9_fail ∈ WS := ws_in (tk_3 (List.mem_of_getElem? (i := 239) rfl)) rfl
theorem w_720 : Cond.selects RX9 yX9_fail yX9_fail ∈ WS := ws_in (tk_4 (List.mem_of_getElem? (i := 0) rfl)) rfl
theorem v_RX9_95 : JVir RX9 95 yX9_fail cX9_fail 2 (some .boolean) 1 9 := ⟨l_RX9_95, w_719, w_720, TX9, 14, rfl⟩
theorem w_1328 : Cond.methodLink RX8 69 yX9_isSign ∈ WS := ws_in (tk_6 (List.mem_of_getElem? (i := 128) rfl)) rfl
theorem w_772 : Cond.code yX9_isSign cX9_isSign 2 (some .boolean) ∈ WS := ws_in (tk_4 (List.mem_of_getElem? (i := 52) rfl)) rfl
theorem l_RX8_69 : JLnk RX8 69 yX9_isSign cX9_isSign 2 (some .boolean) 1 := ⟨w_1328, w_772, w_2, by decide +kernel⟩
theorem w_770 : Cond.instanceMethod yX9_isSign ∈ WS := ws_in (tk_4 (List.mem_of_getElem? (i := 50) rfl)) rfl
theorem w_771 : Cond.selects RX9 yX9_isSign yX9_isSign ∈ WS := ws_in (tk_4 (List.mem_of_getElem? (i := 51) rfl)) rfl
theorem v_RX8_69 : JVir RX8 69 yX9_isSign cX9_isSign 2 (some .boolean) 1 9 := ⟨l_RX8_69, w_770, w_771, TX9, 14, rfl⟩
theorem w_58 : Cond.fieldLink RX8 90 "WidowRow$Tokens" "sign" "I" ∈ WS := ws_in (tk_1 (List.mem_of_getElem? (i := 58) rfl)) rfl
theorem g_RX8_90 : JFld RX8 90 9 9 0 false := ⟨RX9, TX9, 14, _, jc_9, by decide, w_58, rfl, rfl⟩
theorem w_1330 : Cond.methodLink RX8 59 yX9_step ∈ WS := ws_in (tk_6 (List.mem_of_getElem? (i := 130) rfl)) rfl
theorem l_RX8_59 : JLnk RX8 59 yX9_step cX9_step 1 none 0 := ⟨w_1330, w_579, w_2, by decide +kernel⟩
theorem v_RX8_59 : JVir RX8 59 yX9_step cX9_step 1 none 0 9 := ⟨l_RX8_59, w_577, w_578, TX9, 14, rfl⟩
theorem w_1345 : Cond.methodLink RX8 92 yX9_numberTo ∈ WS := ws_in (tk_6 (List.mem_of_getElem? (i := 145) rfl)) rfl
theorem w_742 : Cond.code yX9_numberTo cX9_numberTo 2 (some .int) ∈ WS := ws_in (tk_4 (List.mem_of_getElem? (i := 22) rfl)) rfl
theorem l_RX8_92 : JLnk RX8 92 yX9_numberTo cX9_numberTo 2 (some .int) 1 := ⟨w_1345, w_742, w_2, by decide +kernel⟩
theorem w_740 : Cond.instanceMethod yX9_numberTo ∈ WS := ws_in (tk_4 (List.mem_of_getElem? (i := 20) rfl)) rfl
theorem w_741 : Cond.selects RX9 yX9_numberTo yX9_numberTo ∈ WS := ws_in (tk_4 (List.mem_of_getElem? (i := 21) rfl)) rfl
theorem v_RX8_92 : JVir RX8 92 yX9_numberTo cX9_numberTo 2 (some .int) 1 9 := ⟨l_RX8_92, w_740, w_741, TX9, 14, rfl⟩
theorem w_1332 : Cond.methodLink RX8 62 yX8_add ∈ WS := ws_in (tk_6 (List.mem_of_getElem? (i := 132) rfl)) rfl
theorem w_1335 : Cond.code yX8_add cX8_add 4 (some .boolean) ∈ WS := ws_in (tk_6 (List.mem_of_getElem? (i := 135) rfl)) rfl
theorem l_RX8_62 : JLnk RX8 62 yX8_add cX8_add 4 (some .boolean) 3 := ⟨w_1332, w_1335, w_7, by decide +kernel⟩
theorem w_1334 : Cond.instanceMethod yX8_add ∈ WS := ws_in (tk_6 (List.mem_of_getElem? (i := 134) rfl)) rfl
theorem wp_61 : Cond.selects RX8 yX8_add yX8_add ∈ WS := ws_in (List.mem_append_left tables_1 (List.mem_of_getElem? (i := 61) (by decide +kernel))) rfl
theorem v_RX8_62 : JVir RX8 62 yX8_add cX8_add 4 (some .boolean) 3 8 := ⟨l_RX8_62, w_1334, wp_61, TX8, 6, rfl⟩
theorem w_1329 : Cond.methodLink RX8 49 yX9_fail ∈ WS := ws_in (tk_6 (List.mem_of_getElem? (i := 129) rfl)) rfl
theorem l_RX8_49 : JLnk RX8 49 yX9_fail cX9_fail 2 (some .boolean) 1 := ⟨w_1329, w_721, w_2, by decide +kernel⟩
theorem v_RX8_49 : JVir RX8 49 yX9_fail cX9_fail 2 (some .boolean) 1 9 := ⟨l_RX8_49, w_719, w_720, TX9, 14, rfl⟩
theorem w_723 : Cond.methodLink RX3 110 yX9_isName ∈ WS := ws_in (tk_4 (List.mem_of_getElem? (i := 3) rfl)) rfl
theorem w_726 : Cond.code yX9_isName cX9_isName 1 (some .boolean) ∈ WS := ws_in (tk_4 (List.mem_of_getElem? (i := 6) rfl)) rfl
theorem l_RX3_110 : JLnk RX3 110 yX9_isName cX9_isName 1 (some .boolean) 0 := ⟨w_723, w_726, w_2, by decide +kernel⟩
theorem w_724 : Cond.instanceMethod yX9_isName ∈ WS := ws_in (tk_4 (List.mem_of_getElem? (i := 4) rfl)) rfl
theorem w_725 : Cond.selects RX9 yX9_isName yX9_isName ∈ WS := ws_in (tk_4 (List.mem_of_getElem? (i := 5) rfl)) rfl
theorem v_RX3_110 : JVir RX3 110 yX9_isName cX9_isName 1 (some .boolean) 0 9 := ⟨l_RX3_110, w_724, w_725, TX9, 14, rfl⟩
theorem w_55 : Cond.fieldLink RX3 114 "WidowRow$Tokens" "name" "J" ∈ WS := ws_in (tk_1 (List.mem_of_getElem? (i := 55) rfl)) rfl
theorem g_RX3_114 : JFld RX3 114 9 7 1 false := ⟨RX9, TX9, 14, _, jc_9, by decide, w_55, rfl, rfl⟩
theorem w_727 : Cond.methodLink RX3 118 yX3_widowNamed ∈ WS := ws_in (tk_4 (List.mem_of_getElem? (i := 7) rfl)) rfl
theorem w_730 : Cond.code yX3_widowNamed cX3_widowNamed 4 (some .int) ∈ WS := ws_in (tk_4 (List.mem_of_getElem? (i := 10) rfl)) rfl
theorem l_RX3_118 : JLnk RX3 118 yX3_widowNamed cX3_widowNamed 4 (some .int) 1 := ⟨w_727, w_730, w_4, by decide +kernel⟩
theorem w_729 : Cond.instanceMethod yX3_widowNamed ∈ WS := ws_in (tk_4 (List.mem_of_getElem? (i := 9) rfl)) rfl
theorem wp_11 : Cond.selects RX3 yX3_widowNamed yX3_widowNamed ∈ WS := ws_in (List.mem_append_left tables_1 (List.mem_of_getElem? (i := 11) (by decide +kernel))) rfl
theorem v_RX3_118 : JVir RX3 118 yX3_widowNamed cX3_widowNamed 4 (some .int) 1 3 := ⟨l_RX3_118, w_729, wp_11, TX3, 13, rfl⟩
theorem w_718 : Cond.methodLink RX3 103 yX9_fail ∈ WS := ws_in (tk_3 (List.mem_of_getElem? (i := 238) rfl)) rfl
theorem l_RX3_103 : JLnk RX3 103 yX9_fail cX9_fail 2 (some .boolean) 1 := ⟨w_718, w_721, w_2, by decide +kernel⟩
theorem v_RX3_103 : JVir RX3 103 yX9_fail cX9_fail 2 (some .boolean) 1 9 := ⟨l_RX3_103, w_719, w_720, TX9, 14, rfl⟩
theorem w_1340 : Cond.methodLink RX8 84 yX3_widowHere ∈ WS := ws_in (tk_6 (List.mem_of_getElem? (i := 140) rfl)) rfl
theorem w_751 : Cond.code yX3_widowHere cX3_widowHere 3 (some .int) ∈ WS := ws_in (tk_4 (List.mem_of_getElem? (i := 31) rfl)) rfl
theorem l_RX8_84 : JLnk RX8 84 yX3_widowHere cX3_widowHere 3 (some .int) 1 := ⟨w_1340, w_751, w_4, by decide +kernel⟩
theorem w_749 : Cond.instanceMethod yX3_widowHere ∈ WS := ws_in (tk_4 (List.mem_of_getElem? (i := 29) rfl)) rfl
theorem w_750 : Cond.selects RX3 yX3_widowHere yX3_widowHere ∈ WS := ws_in (tk_4 (List.mem_of_getElem? (i := 30) rfl)) rfl
theorem v_RX8_84 : JVir RX8 84 yX3_widowHere cX3_widowHere 3 (some .int) 1 3 := ⟨l_RX8_84, w_749, w_750, TX3, 13, rfl⟩
theorem w_769 : Cond.methodLink RX9 91 yX9_isSign ∈ WS := ws_in (tk_4 (List.mem_of_getElem? (i := 49) rfl)) rfl
theorem l_RX9_91 : JLnk RX9 91 yX9_isSign cX9_isSign 2 (some .boolean) 1 := ⟨w_769, w_772, w_2, by decide +kernel⟩
theorem v_RX9_91 : JVir RX9 91 yX9_isSign cX9_isSign 2 (some .boolean) 1 9 := ⟨l_RX9_91, w_770, w_771, TX9, 14, rfl⟩
theorem w_1320 : Cond.methodLink RX8 53 yX8_readBoth ∈ WS := ws_in (tk_6 (List.mem_of_getElem? (i := 120) rfl)) rfl
theorem w_1323 : Cond.code yX8_readBoth cX8_readBoth 5 (some .boolean) ∈ WS := ws_in (tk_6 (List.mem_of_getElem? (i := 123) rfl)) rfl
theorem l_RX8_53 : JLnk RX8 53 yX8_readBoth cX8_readBoth 5 (some .boolean) 3 := ⟨w_1320, w_1323, w_7, by decide +kernel⟩
theorem w_1322 : Cond.instanceMethod yX8_readBoth ∈ WS := ws_in (tk_6 (List.mem_of_getElem? (i := 122) rfl)) rfl
theorem wp_59 : Cond.selects RX8 yX8_readBoth yX8_readBoth ∈ WS := ws_in (List.mem_append_left tables_1 (List.mem_of_getElem? (i := 59) (by decide +kernel))) rfl
theorem v_RX8_53 : JVir RX8 53 yX8_readBoth cX8_readBoth 5 (some .boolean) 3 8 := ⟨l_RX8_53, w_1322, wp_59, TX8, 6, rfl⟩
theorem w_52 : Cond.fieldLink RX8 56 "WidowRow$Tokens" "key" "I" ∈ WS := ws_in (tk_1 (List.mem_of_getElem? (i := 52) rfl)) rfl
theorem g_RX8_56 : JFld RX8 56 9 6 0 false := ⟨RX9, TX9, 14, _, jc_9, by decide, w_52, rfl, rfl⟩
theorem w_1324 : Cond.methodLink RX8 66 yX8_readOne ∈ WS := ws_in (tk_6 (List.mem_of_getElem? (i := 124) rfl)) rfl
theorem w_1327 : Cond.code yX8_readOne cX8_readOne 5 (some .boolean) ∈ WS := ws_in (tk_6 (List.mem_of_getElem? (i := 127) rfl)) rfl
theorem l_RX8_66 : JLnk RX8 66 yX8_readOne cX8_readOne 5 (some .boolean) 3 := ⟨w_1324, w_1327, w_7, by decide +kernel⟩
theorem w_1326 : Cond.instanceMethod yX8_readOne ∈ WS := ws_in (tk_6 (List.mem_of_getElem? (i := 126) rfl)) rfl
theorem wp_60 : Cond.selects RX8 yX8_readOne yX8_readOne ∈ WS := ws_in (List.mem_append_left tables_1 (List.mem_of_getElem? (i := 60) (by decide +kernel))) rfl
theorem v_RX8_66 : JVir RX8 66 yX8_readOne cX8_readOne 5 (some .boolean) 3 8 := ⟨l_RX8_66, w_1326, wp_60, TX8, 6, rfl⟩
theorem w_1341 : Cond.methodLink RX8 80 yX8_readMeasure ∈ WS := ws_in (tk_6 (List.mem_of_getElem? (i := 141) rfl)) rfl
theorem w_1344 : Cond.code yX8_readMeasure cX8_readMeasure 5 (some .boolean) ∈ WS := ws_in (tk_6 (List.mem_of_getElem? (i := 144) rfl)) rfl
theorem l_RX8_80 : JLnk RX8 80 yX8_readMeasure cX8_readMeasure 5 (some .boolean) 2 := ⟨w_1341, w_1344, w_7, by decide +kernel⟩
theorem w_1343 : Cond.instanceMethod yX8_readMeasure ∈ WS := ws_in (tk_6 (List.mem_of_getElem? (i := 143) rfl)) rfl
theorem wp_63 : Cond.selects RX8 yX8_readMeasure yX8_readMeasure ∈ WS := ws_in (List.mem_append_left tables_1 (List.mem_of_getElem? (i := 63) (by decide +kernel))) rfl
theorem v_RX8_80 : JVir RX8 80 yX8_readMeasure cX8_readMeasure 5 (some .boolean) 2 8 := ⟨l_RX8_80, w_1343, wp_63, TX8, 6, rfl⟩
theorem w_1316 : Cond.methodLink RX8 40 yX8_readEither ∈ WS := ws_in (tk_6 (List.mem_of_getElem? (i := 116) rfl)) rfl
theorem w_1319 : Cond.code yX8_readEither cX8_readEither 5 (some .boolean) ∈ WS := ws_in (tk_6 (List.mem_of_getElem? (i := 119) rfl)) rfl
theorem l_RX8_40 : JLnk RX8 40 yX8_readEither cX8_readEither 5 (some .boolean) 3 := ⟨w_1316, w_1319, w_7, by decide +kernel⟩
theorem w_1318 : Cond.instanceMethod yX8_readEither ∈ WS := ws_in (tk_6 (List.mem_of_getElem? (i := 118) rfl)) rfl
theorem wp_58 : Cond.selects RX8 yX8_readEither yX8_readEither ∈ WS := ws_in (List.mem_append_left tables_1 (List.mem_of_getElem? (i := 58) (by decide +kernel))) rfl
theorem v_RX8_40 : JVir RX8 40 yX8_readEither cX8_readEither 5 (some .boolean) 3 8 := ⟨l_RX8_40, w_1318, wp_58, TX8, 6, rfl⟩
theorem w_1331 : Cond.methodLink RX8 73 yX9_passes ∈ WS := ws_in (tk_6 (List.mem_of_getElem? (i := 131) rfl)) rfl
theorem w_768 : Cond.code yX9_passes cX9_passes 2 (some .boolean) ∈ WS := ws_in (tk_4 (List.mem_of_getElem? (i := 48) rfl)) rfl
theorem l_RX8_73 : JLnk RX8 73 yX9_passes cX9_passes 2 (some .boolean) 1 := ⟨w_1331, w_768, w_2, by decide +kernel⟩
theorem w_766 : Cond.instanceMethod yX9_passes ∈ WS := ws_in (tk_4 (List.mem_of_getElem? (i := 46) rfl)) rfl
theorem w_767 : Cond.selects RX9 yX9_passes yX9_passes ∈ WS := ws_in (tk_4 (List.mem_of_getElem? (i := 47) rfl)) rfl
theorem v_RX8_73 : JVir RX8 73 yX9_passes cX9_passes 2 (some .boolean) 1 9 := ⟨l_RX8_73, w_766, w_767, TX9, 14, rfl⟩
theorem w_1336 : Cond.methodLink RX8 76 yX8_readOf ∈ WS := ws_in (tk_6 (List.mem_of_getElem? (i := 136) rfl)) rfl
theorem w_1339 : Cond.code yX8_readOf cX8_readOf 4 (some .boolean) ∈ WS := ws_in (tk_6 (List.mem_of_getElem? (i := 139) rfl)) rfl
theorem l_RX8_76 : JLnk RX8 76 yX8_readOf cX8_readOf 4 (some .boolean) 2 := ⟨w_1336, w_1339, w_7, by decide +kernel⟩
theorem w_1338 : Cond.instanceMethod yX8_readOf ∈ WS := ws_in (tk_6 (List.mem_of_getElem? (i := 138) rfl)) rfl
theorem wp_62 : Cond.selects RX8 yX8_readOf yX8_readOf ∈ WS := ws_in (List.mem_append_left tables_1 (List.mem_of_getElem? (i := 62) (by decide +kernel))) rfl
theorem v_RX8_76 : JVir RX8 76 yX8_readOf cX8_readOf 4 (some .boolean) 2 8 := ⟨l_RX8_76, w_1338, wp_62, TX8, 6, rfl⟩
theorem w_1315 : Cond.methodLink RX8 37 yX8_clear ∈ WS := ws_in (tk_6 (List.mem_of_getElem? (i := 115) rfl)) rfl
theorem w_798 : Cond.code yX8_clear cX8_clear 1 none ∈ WS := ws_in (tk_4 (List.mem_of_getElem? (i := 78) rfl)) rfl
theorem l_RX8_37 : JLnk RX8 37 yX8_clear cX8_clear 1 none 0 := ⟨w_1315, w_798, w_7, by decide +kernel⟩
theorem w_796 : Cond.instanceMethod yX8_clear ∈ WS := ws_in (tk_4 (List.mem_of_getElem? (i := 76) rfl)) rfl
theorem w_797 : Cond.selects RX8 yX8_clear yX8_clear ∈ WS := ws_in (tk_4 (List.mem_of_getElem? (i := 77) rfl)) rfl
theorem v_RX8_37 : JVir RX8 37 yX8_clear cX8_clear 1 none 0 8 := ⟨l_RX8_37, w_796, w_797, TX8, 6, rfl⟩
theorem w_47 : Cond.fieldLink RX8 44 "WidowRow$Tokens" "kind" "I" ∈ WS := ws_in (tk_1 (List.mem_of_getElem? (i := 47) rfl)) rfl
theorem g_RX8_44 : JFld RX8 44 9 4 0 false := ⟨RX9, TX9, 14, _, jc_9, by decide, w_47, rfl, rfl⟩
theorem w_565 : Cond.methodLink RX11 130 yX11_takeTape ∈ WS := ws_in (tk_3 (List.mem_of_getElem? (i := 85) rfl)) rfl
theorem w_568 : Cond.code yX11_takeTape cX11_takeTape 2 none ∈ WS := ws_in (tk_3 (List.mem_of_getElem? (i := 88) rfl)) rfl
theorem l_RX11_130 : JLnk RX11 130 yX11_takeTape cX11_takeTape 2 none 1 := ⟨w_565, w_568, w_1, by decide +kernel⟩
theorem w_567 : Cond.instanceMethod yX11_takeTape ∈ WS := ws_in (tk_3 (List.mem_of_getElem? (i := 87) rfl)) rfl
theorem wp_4 : Cond.selects RX11 yX11_takeTape yX11_takeTape ∈ WS := ws_in (List.mem_append_left tables_1 (List.mem_of_getElem? (i := 4) (by decide +kernel))) rfl
theorem v_RX11_130 : JVir RX11 130 yX11_takeTape cX11_takeTape 2 none 1 11 := ⟨l_RX11_130, w_567, wp_4, TX11, 19, rfl⟩
theorem w_495 : Cond.fieldLink RX11 33 "WidowRow" "fresh" "LWidowRow$World;" ∈ WS := ws_in (tk_3 (List.mem_of_getElem? (i := 15) rfl)) rfl
theorem g_RX11_33 : JFld RX11 33 11 4 2 true := ⟨RX11, TX11, 19, _, jc_11, by decide, w_495, rfl, rfl⟩
theorem w_1311 : Cond.methodLink RX11 350 yX8_readAll ∈ WS := ws_in (tk_6 (List.mem_of_getElem? (i := 111) rfl)) rfl
theorem w_1314 : Cond.code yX8_readAll cX8_readAll 3 (some .boolean) ∈ WS := ws_in (tk_6 (List.mem_of_getElem? (i := 114) rfl)) rfl
theorem l_RX11_350 : JLnk RX11 350 yX8_readAll cX8_readAll 3 (some .boolean) 2 := ⟨w_1311, w_1314, w_7, by decide +kernel⟩
theorem w_1312 : Cond.instanceMethod yX8_readAll ∈ WS := ws_in (tk_6 (List.mem_of_getElem? (i := 112) rfl)) rfl
theorem w_1313 : Cond.selects RX8 yX8_readAll yX8_readAll ∈ WS := ws_in (tk_6 (List.mem_of_getElem? (i := 113) rfl)) rfl
theorem v_RX11_350 : JVir RX11 350 yX8_readAll cX8_readAll 3 (some .boolean) 2 8 := ⟨l_RX11_350, w_1312, w_1313, TX8, 6, rfl⟩
theorem w_1346 : Cond.methodLink RX11 351 yX8_copyFrom ∈ WS := ws_in (tk_6 (List.mem_of_getElem? (i := 146) rfl)) rfl
theorem l_RX11_351 : JLnk RX11 351 yX8_copyFrom cX8_copyFrom 2 none 1 := ⟨w_1346, w_1349, w_7, by decide +kernel⟩
theorem v_RX11_351 : JVir RX11 351 yX8_copyFrom cX8_copyFrom 2 none 1 8 := ⟨l_RX11_351, w_1347, w_1348, TX8, 6, rfl⟩
theorem w_68 : Cond.fieldLink RX11 137 "WidowRow$Tokens" "place" "I" ∈ WS := ws_in (tk_1 (List.mem_of_getElem? (i := 68) rfl)) rfl
theorem g_RX11_137 : JFld RX11 137 9 13 0 false := ⟨RX9, TX9, 14, _, jc_9, by decide, w_68, rfl, rfl⟩
theorem w_1125 : Cond.methodLink RX11 285 yX7_joined ∈ WS := ws_in (tk_5 (List.mem_of_getElem? (i := 165) rfl)) rfl
theorem w_1128 : Cond.code yX7_joined cX7_joined 2 (some .boolean) ∈ WS := ws_in (tk_5 (List.mem_of_getElem? (i := 168) rfl)) rfl
theorem l_RX11_285 : JLnk RX11 285 yX7_joined cX7_joined 2 (some .boolean) 1 := ⟨w_1125, w_1128, w_5, by decide +kernel⟩
theorem w_1126 : Cond.instanceMethod yX7_joined ∈ WS := ws_in (tk_5 (List.mem_of_getElem? (i := 166) rfl)) rfl
theorem w_1127 : Cond.selects RX7 yX7_joined yX7_joined ∈ WS := ws_in (tk_5 (List.mem_of_getElem? (i := 167) rfl)) rfl
theorem v_RX11_285 : JVir RX11 285 yX7_joined cX7_joined 2 (some .boolean) 1 7 := ⟨l_RX11_285, w_1126, w_1127, TX7, 8, rfl⟩
theorem w_509 : Cond.fieldLink RX11 121 "WidowRow" "textLength" "I" ∈ WS := ws_in (tk_3 (List.mem_of_getElem? (i := 29) rfl)) rfl
theorem g_RX11_121 : JFld RX11 121 11 18 0 false := ⟨RX11, TX11, 19, _, jc_11, by decide, w_509, rfl, rfl⟩
theorem w_508 : Cond.fieldLink RX11 118 "WidowRow" "text" "[B" ∈ WS := ws_in (tk_3 (List.mem_of_getElem? (i := 28) rfl)) rfl
theorem g_RX11_118 : JFld RX11 118 11 17 2 true := ⟨RX11, TX11, 19, _, jc_11, by decide, w_508, rfl, rfl⟩
theorem w_1295 : Cond.methodLink RX11 341 yX11_writeByte ∈ WS := ws_in (tk_6 (List.mem_of_getElem? (i := 95) rfl)) rfl
theorem w_1298 : Cond.code yX11_writeByte cX11_writeByte 2 none ∈ WS := ws_in (tk_6 (List.mem_of_getElem? (i := 98) rfl)) rfl
theorem l_RX11_341 : JLnk RX11 341 yX11_writeByte cX11_writeByte 2 none 1 := ⟨w_1295, w_1298, w_1, by decide +kernel⟩
theorem w_1297 : Cond.instanceMethod yX11_writeByte ∈ WS := ws_in (tk_6 (List.mem_of_getElem? (i := 97) rfl)) rfl
theorem wp_57 : Cond.selects RX11 yX11_writeByte yX11_writeByte ∈ WS := ws_in (List.mem_append_left tables_1 (List.mem_of_getElem? (i := 57) (by decide +kernel))) rfl
theorem v_RX11_341 : JVir RX11 341 yX11_writeByte cX11_writeByte 2 none 1 11 := ⟨l_RX11_341, w_1297, wp_57, TX11, 19, rfl⟩
theorem w_213 : Cond.fieldLink RX11 208 "WidowRow$Row" "line" "[I" ∈ WS := ws_in (tk_1 (List.mem_of_getElem? (i := 213) rfl)) rfl
theorem g_RX11_208 : JFld RX11 208 7 3 2 true := ⟨RX7, TX7, 8, _, jc_7, by decide, w_213, rfl, rfl⟩
theorem w_1290 : Cond.methodLink RX11 335 yX7_sideOf ∈ WS := ws_in (tk_6 (List.mem_of_getElem? (i := 90) rfl)) rfl
theorem l_RX11_335 : JLnk RX11 335 yX7_sideOf cX7_sideOf 3 (some .int) 2 := ⟨w_1290, w_865, w_5, by decide +kernel⟩
theorem v_RX11_335 : JVir RX11 335 yX7_sideOf cX7_sideOf 3 (some .int) 2 7 := ⟨l_RX11_335, w_863, w_864, TX7, 8, rfl⟩
theorem w_1291 : Cond.methodLink RX11 338 yX11_writePips ∈ WS := ws_in (tk_6 (List.mem_of_getElem? (i := 91) rfl)) rfl
theorem w_1294 : Cond.code yX11_writePips cX11_writePips 2 none ∈ WS := ws_in (tk_6 (List.mem_of_getElem? (i := 94) rfl)) rfl
theorem l_RX11_338 : JLnk RX11 338 yX11_writePips cX11_writePips 2 none 1 := ⟨w_1291, w_1294, w_1, by decide +kernel⟩
theorem w_1293 : Cond.instanceMethod yX11_writePips ∈ WS := ws_in (tk_6 (List.mem_of_getElem? (i := 93) rfl)) rfl
theorem wp_56 : Cond.selects RX11 yX11_writePips yX11_writePips ∈ WS := ws_in (List.mem_append_left tables_1 (List.mem_of_getElem? (i := 56) (by decide +kernel))) rfl
theorem v_RX11_338 : JVir RX11 338 yX11_writePips cX11_writePips 2 none 1 11 := ⟨l_RX11_338, w_1293, wp_56, TX11, 19, rfl⟩
theorem w_507 : Cond.fieldLink RX11 114 "WidowRow" "calendar" "LWidowRow$Days;" ∈ WS := ws_in (tk_3 (List.mem_of_getElem? (i := 27) rfl)) rfl
theorem g_RX11_114 : JFld RX11 114 11 16 2 true := ⟨RX11, TX11, 19, _, jc_11, by decide, w_507, rfl, rfl⟩
theorem w_468 : Cond.fieldLink RX11 322 "WidowRow$Days" "any" "Z" ∈ WS := ws_in (tk_2 (List.mem_of_getElem? (i := 228) rfl)) rfl
theorem g_RX11_322 : JFld RX11 322 1 2 3 false := ⟨RX1, TX1, 7, _, jc_1, by decide, w_468, rfl, rfl⟩
theorem w_471 : Cond.fieldLink RX11 326 "WidowRow$Days" "cats" "I" ∈ WS := ws_in (tk_2 (List.mem_of_getElem? (i := 231) rfl)) rfl
theorem g_RX11_326 : JFld RX11 326 1 4 0 false := ⟨RX1, TX1, 7, _, jc_1, by decide, w_471, rfl, rfl⟩
theorem w_473 : Cond.fieldLink RX11 329 "WidowRow$Days" "tides" "I" ∈ WS := ws_in (tk_2 (List.mem_of_getElem? (i := 233) rfl)) rfl
theorem g_RX11_329 : JFld RX11 329 1 5 0 false := ⟨RX1, TX1, 7, _, jc_1, by decide, w_473, rfl, rfl⟩
theorem w_475 : Cond.fieldLink RX11 332 "WidowRow$Days" "refused" "I" ∈ WS := ws_in (tk_2 (List.mem_of_getElem? (i := 235) rfl)) rfl
theorem g_RX11_332 : JFld RX11 332 1 6 0 false := ⟨RX1, TX1, 7, _, jc_1, by decide, w_475, rfl, rfl⟩
theorem w_498 : Cond.fieldLink RX11 44 "WidowRow" "past" "[LWidowRow$Row;" ∈ WS := ws_in (tk_3 (List.mem_of_getElem? (i := 18) rfl)) rfl
theorem g_RX11_44 : JFld RX11 44 11 7 2 true := ⟨RX11, TX11, 19, _, jc_11, by decide, w_498, rfl, rfl⟩
theorem w_500 : Cond.fieldLink RX11 51 "WidowRow" "pastNext" "I" ∈ WS := ws_in (tk_3 (List.mem_of_getElem? (i := 20) rfl)) rfl
theorem g_RX11_51 : JFld RX11 51 11 9 0 false := ⟨RX11, TX11, 19, _, jc_11, by decide, w_500, rfl, rfl⟩
theorem w_896 : Cond.methodLink RX11 243 yX7_copyFrom ∈ WS := ws_in (tk_4 (List.mem_of_getElem? (i := 176) rfl)) rfl
theorem l_RX11_243 : JLnk RX11 243 yX7_copyFrom cX7_copyFrom 2 none 1 := ⟨w_896, w_899, w_5, by decide +kernel⟩
theorem v_RX11_243 : JVir RX11 243 yX7_copyFrom cX7_copyFrom 2 none 1 7 := ⟨l_RX11_243, w_897, w_898, TX7, 8, rfl⟩
theorem w_900 : Cond.methodLink RX11 246 Lib.Math.min.name ∈ WS := ws_in (tk_4 (List.mem_of_getElem? (i := 180) rfl)) rfl
theorem w_466 : Cond.fieldLink RX1 9 "WidowRow$Days" "x" "I" ∈ WS := ws_in (tk_2 (List.mem_of_getElem? (i := 226) rfl)) rfl
theorem g_RX1_9 : JFld RX1 9 1 1 0 false := ⟨RX1, TX1, 7, _, jc_1, by decide, w_466, rfl, rfl⟩
theorem w_1264 : Cond.constant RX1 44 (1103515245) ∈ WS := ws_in (tk_6 (List.mem_of_getElem? (i := 64) rfl)) rfl
theorem w_132 : Cond.fieldLink RX7 55 "WidowRow$Island" "stones" "I" ∈ WS := ws_in (tk_1 (List.mem_of_getElem? (i := 132) rfl)) rfl
theorem g_RX7_55 : JFld RX7 55 3 2 0 false := ⟨RX3, TX3, 13, _, jc_3, by decide, w_132, rfl, rfl⟩
theorem w_824 : Cond.methodLink RX7 58 yX7_isHeldBy ∈ WS := ws_in (tk_4 (List.mem_of_getElem? (i := 104) rfl)) rfl
theorem w_827 : Cond.code yX7_isHeldBy cX7_isHeldBy 3 (some .boolean) ∈ WS := ws_in (tk_4 (List.mem_of_getElem? (i := 107) rfl)) rfl
theorem l_RX7_58 : JLnk RX7 58 yX7_isHeldBy cX7_isHeldBy 3 (some .boolean) 2 := ⟨w_824, w_827, w_5, by decide +kernel⟩
theorem w_825 : Cond.instanceMethod yX7_isHeldBy ∈ WS := ws_in (tk_4 (List.mem_of_getElem? (i := 105) rfl)) rfl
theorem w_826 : Cond.selects RX7 yX7_isHeldBy yX7_isHeldBy ∈ WS := ws_in (tk_4 (List.mem_of_getElem? (i := 106) rfl)) rfl
theorem v_RX7_58 : JVir RX7 58 yX7_isHeldBy cX7_isHeldBy 3 (some .boolean) 2 7 := ⟨l_RX7_58, w_825, w_826, TX7, 8, rfl⟩
theorem w_882 : Cond.methodLink RX7 88 yX7_goesTo ∈ WS := ws_in (tk_4 (List.mem_of_getElem? (i := 162) rfl)) rfl
theorem l_RX7_88 : JLnk RX7 88 yX7_goesTo cX7_goesTo 4 (some .boolean) 2 := ⟨w_882, w_885, w_5, by decide +kernel⟩
theorem v_RX7_88 : JVir RX7 88 yX7_goesTo cX7_goesTo 4 (some .boolean) 2 7 := ⟨l_RX7_88, w_883, w_884, TX7, 8, rfl⟩
theorem w_878 : Cond.methodLink RX7 85 yX7_layerAt ∈ WS := ws_in (tk_4 (List.mem_of_getElem? (i := 158) rfl)) rfl
theorem w_881 : Cond.code yX7_layerAt cX7_layerAt 2 (some .int) ∈ WS := ws_in (tk_4 (List.mem_of_getElem? (i := 161) rfl)) rfl
theorem l_RX7_85 : JLnk RX7 85 yX7_layerAt cX7_layerAt 2 (some .int) 1 := ⟨w_878, w_881, w_5, by decide +kernel⟩
theorem w_879 : Cond.instanceMethod yX7_layerAt ∈ WS := ws_in (tk_4 (List.mem_of_getElem? (i := 159) rfl)) rfl
theorem w_880 : Cond.selects RX7 yX7_layerAt yX7_layerAt ∈ WS := ws_in (tk_4 (List.mem_of_getElem? (i := 160) rfl)) rfl
theorem v_RX7_85 : JVir RX7 85 yX7_layerAt cX7_layerAt 2 (some .int) 1 7 := ⟨l_RX7_85, w_879, w_880, TX7, 8, rfl⟩
theorem w_909 : Cond.methodLink RX7 98 Lib.Math.min.name ∈ WS := ws_in (tk_4 (List.mem_of_getElem? (i := 189) rfl)) rfl
theorem w_905 : Cond.methodLink RX7 95 yX7_shiftRight ∈ WS := ws_in (tk_4 (List.mem_of_getElem? (i := 185) rfl)) rfl
theorem w_908 : Cond.code yX7_shiftRight cX7_shiftRight 2 none ∈ WS := ws_in (tk_4 (List.mem_of_getElem? (i := 188) rfl)) rfl
theorem l_RX7_95 : JLnk RX7 95 yX7_shiftRight cX7_shiftRight 2 none 0 := ⟨w_905, w_908, w_5, by decide +kernel⟩
theorem w_907 : Cond.instanceMethod yX7_shiftRight ∈ WS := ws_in (tk_4 (List.mem_of_getElem? (i := 187) rfl)) rfl
theorem wp_20 : Cond.selects RX7 yX7_shiftRight yX7_shiftRight ∈ WS := ws_in (List.mem_append_left tables_1 (List.mem_of_getElem? (i := 20) (by decide +kernel))) rfl
theorem v_RX7_95 : JVir RX7 95 yX7_shiftRight cX7_shiftRight 2 none 0 7 := ⟨l_RX7_95, w_907, wp_20, TX7, 8, rfl⟩
theorem w_465 : Cond.fieldLink RX1 31 "WidowRow$Days" "row" "LWidowRow$Row;" ∈ WS := ws_in (tk_2 (List.mem_of_getElem? (i := 225) rfl)) rfl
theorem g_RX1_31 : JFld RX1 31 1 0 2 true := ⟨RX1, TX1, 7, _, jc_1, by decide, w_465, rfl, rfl⟩
theorem w_203 : Cond.fieldLink RX1 45 "WidowRow$Row" "island" "LWidowRow$Island;" ∈ WS := ws_in (tk_1 (List.mem_of_getElem? (i := 203) rfl)) rfl
theorem g_RX1_45 : JFld RX1 45 7 0 2 true := ⟨RX7, TX7, 8, _, jc_7, by decide, w_203, rfl, rfl⟩
theorem w_127 : Cond.fieldLink RX1 51 "WidowRow$Island" "widows" "I" ∈ WS := ws_in (tk_1 (List.mem_of_getElem? (i := 127) rfl)) rfl
theorem g_RX1_51 : JFld RX1 51 3 1 0 false := ⟨RX3, TX3, 13, _, jc_3, by decide, w_127, rfl, rfl⟩
theorem w_1260 : Cond.methodLink RX1 56 yX1_draw ∈ WS := ws_in (tk_6 (List.mem_of_getElem? (i := 60) rfl)) rfl
theorem w_1263 : Cond.code yX1_draw cX1_draw 2 (some .int) ∈ WS := ws_in (tk_6 (List.mem_of_getElem? (i := 63) rfl)) rfl
theorem w_12 : Cond.initialized RX1 ∈ WS := ws_in (tk_1 (List.mem_of_getElem? (i := 12) rfl)) rfl
theorem l_RX1_56 : JLnk RX1 56 yX1_draw cX1_draw 2 (some .int) 1 := ⟨w_1260, w_1263, w_12, by decide +kernel⟩
theorem w_1262 : Cond.instanceMethod yX1_draw ∈ WS := ws_in (tk_6 (List.mem_of_getElem? (i := 62) rfl)) rfl
theorem wp_53 : Cond.selects RX1 yX1_draw yX1_draw ∈ WS := ws_in (List.mem_append_left tables_1 (List.mem_of_getElem? (i := 53) (by decide +kernel))) rfl
theorem v_RX1_56 : JVir RX1 56 yX1_draw cX1_draw 2 (some .int) 1 1 := ⟨l_RX1_56, w_1262, wp_53, TX1, 7, rfl⟩
theorem w_1265 : Cond.methodLink RX1 60 yX7_owned ∈ WS := ws_in (tk_6 (List.mem_of_getElem? (i := 65) rfl)) rfl
theorem w_819 : Cond.code yX7_owned cX7_owned 5 (some .int) ∈ WS := ws_in (tk_4 (List.mem_of_getElem? (i := 99) rfl)) rfl
theorem l_RX1_60 : JLnk RX1 60 yX7_owned cX7_owned 5 (some .int) 2 := ⟨w_1265, w_819, w_5, by decide +kernel⟩
theorem w_817 : Cond.instanceMethod yX7_owned ∈ WS := ws_in (tk_4 (List.mem_of_getElem? (i := 97) rfl)) rfl
theorem w_818 : Cond.selects RX7 yX7_owned yX7_owned ∈ WS := ws_in (tk_4 (List.mem_of_getElem? (i := 98) rfl)) rfl
theorem v_RX1_60 : JVir RX1 60 yX7_owned cX7_owned 5 (some .int) 2 7 := ⟨l_RX1_60, w_817, w_818, TX7, 8, rfl⟩
theorem w_1266 : Cond.methodLink RX1 64 yX7_heldAt ∈ WS := ws_in (tk_6 (List.mem_of_getElem? (i := 66) rfl)) rfl
theorem w_1269 : Cond.code yX7_heldAt cX7_heldAt 5 (some .int) ∈ WS := ws_in (tk_6 (List.mem_of_getElem? (i := 69) rfl)) rfl
theorem l_RX1_64 : JLnk RX1 64 yX7_heldAt cX7_heldAt 5 (some .int) 2 := ⟨w_1266, w_1269, w_5, by decide +kernel⟩
theorem w_1267 : Cond.instanceMethod yX7_heldAt ∈ WS := ws_in (tk_6 (List.mem_of_getElem? (i := 67) rfl)) rfl
theorem w_1268 : Cond.selects RX7 yX7_heldAt yX7_heldAt ∈ WS := ws_in (tk_6 (List.mem_of_getElem? (i := 68) rfl)) rfl
theorem v_RX1_64 : JVir RX1 64 yX7_heldAt cX7_heldAt 5 (some .int) 2 7 := ⟨l_RX1_64, w_1267, w_1268, TX7, 8, rfl⟩
theorem w_474 : Cond.fieldLink RX1 28 "WidowRow$Days" "refused" "I" ∈ WS := ws_in (tk_2 (List.mem_of_getElem? (i := 234) rfl)) rfl
theorem g_RX1_28 : JFld RX1 28 1 6 0 false := ⟨RX1, TX1, 7, _, jc_1, by decide, w_474, rfl, rfl⟩
theorem w_1270 : Cond.methodLink RX1 67 yX7_refusal ∈ WS := ws_in (tk_6 (List.mem_of_getElem? (i := 70) rfl)) rfl
theorem w_877 : Cond.code yX7_refusal cX7_refusal 4 (some .int) ∈ WS := ws_in (tk_4 (List.mem_of_getElem? (i := 157) rfl)) rfl
theorem l_RX1_67 : JLnk RX1 67 yX7_refusal cX7_refusal 4 (some .int) 3 := ⟨w_1270, w_877, w_5, by decide +kernel⟩
theorem w_875 : Cond.instanceMethod yX7_refusal ∈ WS := ws_in (tk_4 (List.mem_of_getElem? (i := 155) rfl)) rfl
theorem w_876 : Cond.selects RX7 yX7_refusal yX7_refusal ∈ WS := ws_in (tk_4 (List.mem_of_getElem? (i := 156) rfl)) rfl
theorem v_RX1_67 : JVir RX1 67 yX7_refusal cX7_refusal 4 (some .int) 3 7 := ⟨l_RX1_67, w_875, w_876, TX7, 8, rfl⟩
theorem w_1271 : Cond.methodLink RX1 71 yX7_put ∈ WS := ws_in (tk_6 (List.mem_of_getElem? (i := 71) rfl)) rfl
theorem w_904 : Cond.code yX7_put cX7_put 4 none ∈ WS := ws_in (tk_4 (List.mem_of_getElem? (i := 184) rfl)) rfl
theorem l_RX1_71 : JLnk RX1 71 yX7_put cX7_put 4 none 2 := ⟨w_1271, w_904, w_5, by decide +kernel⟩
theorem w_902 : Cond.instanceMethod yX7_put ∈ WS := ws_in (tk_4 (List.mem_of_getElem? (i := 182) rfl)) rfl
theorem w_903 : Cond.selects RX7 yX7_put yX7_put ∈ WS := ws_in (tk_4 (List.mem_of_getElem? (i := 183) rfl)) rfl
theorem v_RX1_71 : JVir RX1 71 yX7_put cX7_put 4 none 2 7 := ⟨l_RX1_71, w_902, w_903, TX7, 8, rfl⟩
theorem w_469 : Cond.fieldLink RX1 19 "WidowRow$Days" "laid" "I" ∈ WS := ws_in (tk_2 (List.mem_of_getElem? (i := 229) rfl)) rfl
theorem g_RX1_19 : JFld RX1 19 1 3 0 false := ⟨RX1, TX1, 7, _, jc_1, by decide, w_469, rfl, rfl⟩
theorem w_918 : Cond.methodLink RX7 103 Lib.Math.max.name ∈ WS := ws_in (tk_4 (List.mem_of_getElem? (i := 198) rfl)) rfl
theorem w_217 : Cond.fieldLink RX1 75 "WidowRow$Row" "length" "I" ∈ WS := ws_in (tk_1 (List.mem_of_getElem? (i := 217) rfl)) rfl
theorem g_RX1_75 : JFld RX1 75 7 4 0 false := ⟨RX7, TX7, 8, _, jc_7, by decide, w_217, rfl, rfl⟩
theorem w_1276 : Cond.methodLink RX1 78 yX7_takeOff ∈ WS := ws_in (tk_6 (List.mem_of_getElem? (i := 76) rfl)) rfl
theorem w_917 : Cond.code yX7_takeOff cX7_takeOff 4 (some .int) ∈ WS := ws_in (tk_4 (List.mem_of_getElem? (i := 197) rfl)) rfl
theorem l_RX1_78 : JLnk RX1 78 yX7_takeOff cX7_takeOff 4 (some .int) 1 := ⟨w_1276, w_917, w_5, by decide +kernel⟩
theorem w_915 : Cond.instanceMethod yX7_takeOff ∈ WS := ws_in (tk_4 (List.mem_of_getElem? (i := 195) rfl)) rfl
theorem w_916 : Cond.selects RX7 yX7_takeOff yX7_takeOff ∈ WS := ws_in (tk_4 (List.mem_of_getElem? (i := 196) rfl)) rfl
theorem v_RX1_78 : JVir RX1 78 yX7_takeOff cX7_takeOff 4 (some .int) 1 7 := ⟨l_RX1_78, w_915, w_916, TX7, 8, rfl⟩
theorem w_470 : Cond.fieldLink RX1 22 "WidowRow$Days" "cats" "I" ∈ WS := ws_in (tk_2 (List.mem_of_getElem? (i := 230) rfl)) rfl
theorem g_RX1_22 : JFld RX1 22 1 4 0 false := ⟨RX1, TX1, 7, _, jc_1, by decide, w_470, rfl, rfl⟩
theorem w_1281 : Cond.methodLink RX1 81 yX7_turnLast ∈ WS := ws_in (tk_6 (List.mem_of_getElem? (i := 81) rfl)) rfl
theorem w_926 : Cond.code yX7_turnLast cX7_turnLast 2 none ∈ WS := ws_in (tk_4 (List.mem_of_getElem? (i := 206) rfl)) rfl
theorem l_RX1_81 : JLnk RX1 81 yX7_turnLast cX7_turnLast 2 none 0 := ⟨w_1281, w_926, w_5, by decide +kernel⟩
theorem w_924 : Cond.instanceMethod yX7_turnLast ∈ WS := ws_in (tk_4 (List.mem_of_getElem? (i := 204) rfl)) rfl
theorem w_925 : Cond.selects RX7 yX7_turnLast yX7_turnLast ∈ WS := ws_in (tk_4 (List.mem_of_getElem? (i := 205) rfl)) rfl
theorem v_RX1_81 : JVir RX1 81 yX7_turnLast cX7_turnLast 2 none 0 7 := ⟨l_RX1_81, w_924, w_925, TX7, 8, rfl⟩
theorem w_472 : Cond.fieldLink RX1 25 "WidowRow$Days" "tides" "I" ∈ WS := ws_in (tk_2 (List.mem_of_getElem? (i := 232) rfl)) rfl
theorem g_RX1_25 : JFld RX1 25 1 5 0 false := ⟨RX1, TX1, 7, _, jc_1, by decide, w_472, rfl, rfl⟩
theorem w_467 : Cond.fieldLink RX1 15 "WidowRow$Days" "any" "Z" ∈ WS := ws_in (tk_2 (List.mem_of_getElem? (i := 227) rfl)) rfl
theorem g_RX1_15 : JFld RX1 15 1 2 3 false := ⟨RX1, TX1, 7, _, jc_1, by decide, w_467, rfl, rfl⟩
theorem w_1256 : Cond.methodLink RX1 35 yX1_tryVisit ∈ WS := ws_in (tk_6 (List.mem_of_getElem? (i := 56) rfl)) rfl
theorem w_1259 : Cond.code yX1_tryVisit cX1_tryVisit 5 none ∈ WS := ws_in (tk_6 (List.mem_of_getElem? (i := 59) rfl)) rfl
theorem l_RX1_35 : JLnk RX1 35 yX1_tryVisit cX1_tryVisit 5 none 0 := ⟨w_1256, w_1259, w_12, by decide +kernel⟩
theorem w_1258 : Cond.instanceMethod yX1_tryVisit ∈ WS := ws_in (tk_6 (List.mem_of_getElem? (i := 58) rfl)) rfl
theorem wp_52 : Cond.selects RX1 yX1_tryVisit yX1_tryVisit ∈ WS := ws_in (List.mem_append_left tables_1 (List.mem_of_getElem? (i := 52) (by decide +kernel))) rfl
theorem v_RX1_35 : JVir RX1 35 yX1_tryVisit cX1_tryVisit 5 none 0 1 := ⟨l_RX1_35, w_1258, wp_52, TX1, 7, rfl⟩
theorem w_1272 : Cond.methodLink RX1 38 yX1_tryCat ∈ WS := ws_in (tk_6 (List.mem_of_getElem? (i := 72) rfl)) rfl
theorem w_1275 : Cond.code yX1_tryCat cX1_tryCat 2 none ∈ WS := ws_in (tk_6 (List.mem_of_getElem? (i := 75) rfl)) rfl
theorem l_RX1_38 : JLnk RX1 38 yX1_tryCat cX1_tryCat 2 none 0 := ⟨w_1272, w_1275, w_12, by decide +kernel⟩
theorem w_1274 : Cond.instanceMethod yX1_tryCat ∈ WS := ws_in (tk_6 (List.mem_of_getElem? (i := 74) rfl)) rfl
theorem wp_54 : Cond.selects RX1 yX1_tryCat yX1_tryCat ∈ WS := ws_in (List.mem_append_left tables_1 (List.mem_of_getElem? (i := 54) (by decide +kernel))) rfl
theorem v_RX1_38 : JVir RX1 38 yX1_tryCat cX1_tryCat 2 none 0 1 := ⟨l_RX1_38, w_1274, wp_54, TX1, 7, rfl⟩
theorem w_1277 : Cond.methodLink RX1 41 yX1_tryTide ∈ WS := ws_in (tk_6 (List.mem_of_getElem? (i := 77) rfl)) rfl
theorem w_1280 : Cond.code yX1_tryTide cX1_tryTide 1 none ∈ WS := ws_in (tk_6 (List.mem_of_getElem? (i := 80) rfl)) rfl
theorem l_RX1_41 : JLnk RX1 41 yX1_tryTide cX1_tryTide 1 none 0 := ⟨w_1277, w_1280, w_12, by decide +kernel⟩
theorem w_1279 : Cond.instanceMethod yX1_tryTide ∈ WS := ws_in (tk_6 (List.mem_of_getElem? (i := 79) rfl)) rfl
theorem wp_55 : Cond.selects RX1 yX1_tryTide yX1_tryTide ∈ WS := ws_in (List.mem_append_left tables_1 (List.mem_of_getElem? (i := 55) (by decide +kernel))) rfl
theorem v_RX1_41 : JVir RX1 41 yX1_tryTide cX1_tryTide 1 none 0 1 := ⟨l_RX1_41, w_1279, wp_55, TX1, 7, rfl⟩
theorem w_892 : Cond.methodLink RX11 221 yX11_keepPast ∈ WS := ws_in (tk_4 (List.mem_of_getElem? (i := 172) rfl)) rfl
theorem w_895 : Cond.code yX11_keepPast cX11_keepPast 2 none ∈ WS := ws_in (tk_4 (List.mem_of_getElem? (i := 175) rfl)) rfl
theorem l_RX11_221 : JLnk RX11 221 yX11_keepPast cX11_keepPast 2 none 0 := ⟨w_892, w_895, w_1, by decide +kernel⟩
theorem w_894 : Cond.instanceMethod yX11_keepPast ∈ WS := ws_in (tk_4 (List.mem_of_getElem? (i := 174) rfl)) rfl
theorem wp_19 : Cond.selects RX11 yX11_keepPast yX11_keepPast ∈ WS := ws_in (List.mem_append_left tables_1 (List.mem_of_getElem? (i := 19) (by decide +kernel))) rfl
theorem v_RX11_221 : JVir RX11 221 yX11_keepPast cX11_keepPast 2 none 0 11 := ⟨l_RX11_221, w_894, wp_19, TX11, 19, rfl⟩
theorem w_1252 : Cond.methodLink RX11 319 yX1_live ∈ WS := ws_in (tk_6 (List.mem_of_getElem? (i := 52) rfl)) rfl
theorem w_1255 : Cond.code yX1_live cX1_live 4 (some .int) ∈ WS := ws_in (tk_6 (List.mem_of_getElem? (i := 55) rfl)) rfl
theorem l_RX11_319 : JLnk RX11 319 yX1_live cX1_live 4 (some .int) 2 := ⟨w_1252, w_1255, w_12, by decide +kernel⟩
theorem w_1253 : Cond.instanceMethod yX1_live ∈ WS := ws_in (tk_6 (List.mem_of_getElem? (i := 53) rfl)) rfl
theorem w_1254 : Cond.selects RX1 yX1_live yX1_live ∈ WS := ws_in (tk_6 (List.mem_of_getElem? (i := 54) rfl)) rfl
theorem v_RX11_319 : JVir RX11 319 yX1_live cX1_live 4 (some .int) 2 1 := ⟨l_RX11_319, w_1253, w_1254, TX1, 7, rfl⟩
theorem w_434 : Cond.fieldLink RX2 28 "WidowRow$Dealer" "island" "LWidowRow$Island;" ∈ WS := ws_in (tk_2 (List.mem_of_getElem? (i := 194) rfl)) rfl
theorem g_RX2_28 : JFld RX2 28 2 0 2 true := ⟨RX2, TX2, 8, _, jc_2, by decide, w_434, rfl, rfl⟩
theorem w_145 : Cond.fieldLink RX2 73 "WidowRow$Island" "one" "[I" ∈ WS := ws_in (tk_1 (List.mem_of_getElem? (i := 145) rfl)) rfl
theorem g_RX2_73 : JFld RX2 73 3 8 2 true := ⟨RX3, TX3, 13, _, jc_3, by decide, w_145, rfl, rfl⟩
theorem w_153 : Cond.fieldLink RX2 76 "WidowRow$Island" "two" "[I" ∈ WS := ws_in (tk_1 (List.mem_of_getElem? (i := 153) rfl)) rfl
theorem g_RX2_76 : JFld RX2 76 3 9 2 true := ⟨RX3, TX3, 13, _, jc_3, by decide, w_153, rfl, rfl⟩
theorem w_126 : Cond.fieldLink RX2 67 "WidowRow$Island" "widows" "I" ∈ WS := ws_in (tk_1 (List.mem_of_getElem? (i := 126) rfl)) rfl
theorem g_RX2_67 : JFld RX2 67 3 1 0 false := ⟨RX3, TX3, 13, _, jc_3, by decide, w_126, rfl, rfl⟩
theorem w_435 : Cond.fieldLink RX2 32 "WidowRow$Dealer" "memory" "LWidowRow$Memory;" ∈ WS := ws_in (tk_2 (List.mem_of_getElem? (i := 195) rfl)) rfl
theorem g_RX2_32 : JFld RX2 32 2 1 2 true := ⟨RX2, TX2, 8, _, jc_2, by decide, w_435, rfl, rfl⟩
theorem w_255 : Cond.fieldLink RX2 79 "WidowRow$Memory" "passed" "[I" ∈ WS := ws_in (tk_2 (List.mem_of_getElem? (i := 15) rfl)) rfl
theorem g_RX2_79 : JFld RX2 79 5 4 2 true := ⟨RX5, TX5, 5, _, jc_5, by decide, w_255, rfl, rfl⟩
theorem w_252 : Cond.fieldLink RX2 82 "WidowRow$Memory" "dealt" "[I" ∈ WS := ws_in (tk_2 (List.mem_of_getElem? (i := 12) rfl)) rfl
theorem g_RX2_82 : JFld RX2 82 5 2 2 true := ⟨RX5, TX5, 5, _, jc_5, by decide, w_252, rfl, rfl⟩
theorem w_439 : Cond.fieldLink RX2 18 "WidowRow$Dealer" "size" "I" ∈ WS := ws_in (tk_2 (List.mem_of_getElem? (i := 199) rfl)) rfl
theorem g_RX2_18 : JFld RX2 18 2 5 0 false := ⟨RX2, TX2, 8, _, jc_2, by decide, w_439, rfl, rfl⟩
theorem w_130 : Cond.fieldLink RX2 52 "WidowRow$Island" "stones" "I" ∈ WS := ws_in (tk_1 (List.mem_of_getElem? (i := 130) rfl)) rfl
theorem g_RX2_52 : JFld RX2 52 3 2 0 false := ⟨RX3, TX3, 13, _, jc_3, by decide, w_130, rfl, rfl⟩
theorem w_1213 : Cond.methodLink RX2 70 yX2_dealtTo ∈ WS := ws_in (tk_6 (List.mem_of_getElem? (i := 13) rfl)) rfl
theorem w_1216 : Cond.code yX2_dealtTo cX2_dealtTo 4 (some .int) ∈ WS := ws_in (tk_6 (List.mem_of_getElem? (i := 16) rfl)) rfl
theorem w_11 : Cond.initialized RX2 ∈ WS := ws_in (tk_1 (List.mem_of_getElem? (i := 11) rfl)) rfl
theorem l_RX2_70 : JLnk RX2 70 yX2_dealtTo cX2_dealtTo 4 (some .int) 1 := ⟨w_1213, w_1216, w_11, by decide +kernel⟩
theorem w_1215 : Cond.instanceMethod yX2_dealtTo ∈ WS := ws_in (tk_6 (List.mem_of_getElem? (i := 15) rfl)) rfl
theorem wp_47 : Cond.selects RX2 yX2_dealtTo yX2_dealtTo ∈ WS := ws_in (List.mem_append_left tables_1 (List.mem_of_getElem? (i := 47) (by decide +kernel))) rfl
theorem v_RX2_70 : JVir RX2 70 yX2_dealtTo cX2_dealtTo 4 (some .int) 1 2 := ⟨l_RX2_70, w_1215, wp_47, TX2, 8, rfl⟩
theorem w_1208 : Cond.methodLink RX2 57 yX5_hasSeen ∈ WS := ws_in (tk_6 (List.mem_of_getElem? (i := 8) rfl)) rfl
theorem w_1185 : Cond.code yX5_hasSeen cX5_hasSeen 2 (some .boolean) ∈ WS := ws_in (tk_5 (List.mem_of_getElem? (i := 225) rfl)) rfl
theorem l_RX2_57 : JLnk RX2 57 yX5_hasSeen cX5_hasSeen 2 (some .boolean) 1 := ⟨w_1208, w_1185, w_6, by decide +kernel⟩
theorem w_1183 : Cond.instanceMethod yX5_hasSeen ∈ WS := ws_in (tk_5 (List.mem_of_getElem? (i := 223) rfl)) rfl
theorem w_1184 : Cond.selects RX5 yX5_hasSeen yX5_hasSeen ∈ WS := ws_in (tk_5 (List.mem_of_getElem? (i := 224) rfl)) rfl
theorem v_RX2_57 : JVir RX2 57 yX5_hasSeen cX5_hasSeen 2 (some .boolean) 1 5 := ⟨l_RX2_57, w_1183, w_1184, TX5, 5, rfl⟩
theorem w_437 : Cond.fieldLink RX2 9 "WidowRow$Dealer" "unseen" "[I" ∈ WS := ws_in (tk_2 (List.mem_of_getElem? (i := 197) rfl)) rfl
theorem g_RX2_9 : JFld RX2 9 2 3 2 true := ⟨RX2, TX2, 8, _, jc_2, by decide, w_437, rfl, rfl⟩
theorem w_438 : Cond.fieldLink RX2 15 "WidowRow$Dealer" "allowed" "[I" ∈ WS := ws_in (tk_2 (List.mem_of_getElem? (i := 198) rfl)) rfl
theorem g_RX2_15 : JFld RX2 15 2 4 2 true := ⟨RX2, TX2, 8, _, jc_2, by decide, w_438, rfl, rfl⟩
theorem w_1209 : Cond.methodLink RX2 63 yX2_widowsFor ∈ WS := ws_in (tk_6 (List.mem_of_getElem? (i := 9) rfl)) rfl
theorem w_1212 : Cond.code yX2_widowsFor cX2_widowsFor 5 (some .int) ∈ WS := ws_in (tk_6 (List.mem_of_getElem? (i := 12) rfl)) rfl
theorem l_RX2_63 : JLnk RX2 63 yX2_widowsFor cX2_widowsFor 5 (some .int) 1 := ⟨w_1209, w_1212, w_11, by decide +kernel⟩
theorem w_1211 : Cond.instanceMethod yX2_widowsFor ∈ WS := ws_in (tk_6 (List.mem_of_getElem? (i := 11) rfl)) rfl
theorem wp_46 : Cond.selects RX2 yX2_widowsFor yX2_widowsFor ∈ WS := ws_in (List.mem_append_left tables_1 (List.mem_of_getElem? (i := 46) (by decide +kernel))) rfl
theorem v_RX2_63 : JVir RX2 63 yX2_widowsFor cX2_widowsFor 5 (some .int) 1 2 := ⟨l_RX2_63, w_1211, wp_46, TX2, 8, rfl⟩
theorem w_1204 : Cond.methodLink RX2 40 yX2_gather ∈ WS := ws_in (tk_6 (List.mem_of_getElem? (i := 4) rfl)) rfl
theorem w_1207 : Cond.code yX2_gather cX2_gather 2 (some .boolean) ∈ WS := ws_in (tk_6 (List.mem_of_getElem? (i := 7) rfl)) rfl
theorem l_RX2_40 : JLnk RX2 40 yX2_gather cX2_gather 2 (some .boolean) 0 := ⟨w_1204, w_1207, w_11, by decide +kernel⟩
theorem w_1206 : Cond.instanceMethod yX2_gather ∈ WS := ws_in (tk_6 (List.mem_of_getElem? (i := 6) rfl)) rfl
theorem wp_45 : Cond.selects RX2 yX2_gather yX2_gather ∈ WS := ws_in (List.mem_append_left tables_1 (List.mem_of_getElem? (i := 45) (by decide +kernel))) rfl
theorem v_RX2_40 : JVir RX2 40 yX2_gather cX2_gather 2 (some .boolean) 0 2 := ⟨l_RX2_40, w_1206, wp_45, TX2, 8, rfl⟩
theorem w_1244 : Cond.methodLink RX2 94 yX2_canDeal ∈ WS := ws_in (tk_6 (List.mem_of_getElem? (i := 44) rfl)) rfl
theorem w_1247 : Cond.code yX2_canDeal cX2_canDeal 4 (some .boolean) ∈ WS := ws_in (tk_6 (List.mem_of_getElem? (i := 47) rfl)) rfl
theorem l_RX2_94 : JLnk RX2 94 yX2_canDeal cX2_canDeal 4 (some .boolean) 0 := ⟨w_1244, w_1247, w_11, by decide +kernel⟩
theorem w_1246 : Cond.instanceMethod yX2_canDeal ∈ WS := ws_in (tk_6 (List.mem_of_getElem? (i := 46) rfl)) rfl
theorem wp_51 : Cond.selects RX2 yX2_canDeal yX2_canDeal ∈ WS := ws_in (List.mem_append_left tables_1 (List.mem_of_getElem? (i := 51) (by decide +kernel))) rfl
theorem v_RX2_94 : JVir RX2 94 yX2_canDeal cX2_canDeal 4 (some .boolean) 0 2 := ⟨l_RX2_94, w_1246, wp_51, TX2, 8, rfl⟩
theorem w_812 : Cond.methodLink RX11 183 yX11_isWidow ∈ WS := ws_in (tk_4 (List.mem_of_getElem? (i := 92) rfl)) rfl
theorem w_815 : Cond.code yX11_isWidow cX11_isWidow 2 (some .boolean) ∈ WS := ws_in (tk_4 (List.mem_of_getElem? (i := 95) rfl)) rfl
theorem l_RX11_183 : JLnk RX11 183 yX11_isWidow cX11_isWidow 2 (some .boolean) 1 := ⟨w_812, w_815, w_1, by decide +kernel⟩
theorem w_814 : Cond.instanceMethod yX11_isWidow ∈ WS := ws_in (tk_4 (List.mem_of_getElem? (i := 94) rfl)) rfl
theorem wp_16 : Cond.selects RX11 yX11_isWidow yX11_isWidow ∈ WS := ws_in (List.mem_append_left tables_1 (List.mem_of_getElem? (i := 16) (by decide +kernel))) rfl
theorem v_RX11_183 : JVir RX11 183 yX11_isWidow cX11_isWidow 2 (some .boolean) 1 11 := ⟨l_RX11_183, w_814, wp_16, TX11, 19, rfl⟩
theorem w_506 : Cond.fieldLink RX11 105 "WidowRow" "dealer" "LWidowRow$Dealer;" ∈ WS := ws_in (tk_3 (List.mem_of_getElem? (i := 26) rfl)) rfl
theorem g_RX11_105 : JFld RX11 105 11 15 2 true := ⟨RX11, TX11, 19, _, jc_11, by decide, w_506, rfl, rfl⟩
theorem w_1240 : Cond.methodLink RX11 316 yX2_certain ∈ WS := ws_in (tk_6 (List.mem_of_getElem? (i := 40) rfl)) rfl
theorem w_1243 : Cond.code yX2_certain cX2_certain 5 (some .int) ∈ WS := ws_in (tk_6 (List.mem_of_getElem? (i := 43) rfl)) rfl
theorem l_RX11_316 : JLnk RX11 316 yX2_certain cX2_certain 5 (some .int) 1 := ⟨w_1240, w_1243, w_11, by decide +kernel⟩
theorem w_1241 : Cond.instanceMethod yX2_certain ∈ WS := ws_in (tk_6 (List.mem_of_getElem? (i := 41) rfl)) rfl
theorem w_1242 : Cond.selects RX2 yX2_certain yX2_certain ∈ WS := ws_in (tk_6 (List.mem_of_getElem? (i := 42) rfl)) rfl
theorem v_RX11_316 : JVir RX11 316 yX2_certain cX2_certain 5 (some .int) 1 2 := ⟨l_RX11_316, w_1241, w_1242, TX2, 8, rfl⟩
theorem w_440 : Cond.fieldLink RX2 22 "WidowRow$Dealer" "step" "[I" ∈ WS := ws_in (tk_2 (List.mem_of_getElem? (i := 200) rfl)) rfl
theorem g_RX2_22 : JFld RX2 22 2 6 2 true := ⟨RX2, TX2, 8, _, jc_2, by decide, w_440, rfl, rfl⟩
theorem w_441 : Cond.fieldLink RX2 25 "WidowRow$Dealer" "given" "[I" ∈ WS := ws_in (tk_2 (List.mem_of_getElem? (i := 201) rfl)) rfl
theorem g_RX2_25 : JFld RX2 25 2 7 2 true := ⟨RX2, TX2, 8, _, jc_2, by decide, w_441, rfl, rfl⟩
theorem w_436 : Cond.fieldLink RX2 36 "WidowRow$Dealer" "table" "[J" ∈ WS := ws_in (tk_2 (List.mem_of_getElem? (i := 196) rfl)) rfl
theorem g_RX2_36 : JFld RX2 36 2 2 2 true := ⟨RX2, TX2, 8, _, jc_2, by decide, w_436, rfl, rfl⟩
theorem w_1225 : Cond.methodLink RX2 85 yJ7_fill_53178 ∈ WS := ws_in (tk_6 (List.mem_of_getElem? (i := 25) rfl)) rfl
theorem w_709 : Cond.code yJ7_fill_53178 cJ7_fill_53178 4 none ∈ WS := ws_in (tk_3 (List.mem_of_getElem? (i := 229) rfl)) rfl
theorem w_20 : Cond.initialized RJ7 ∈ WS := ws_in (tk_1 (List.mem_of_getElem? (i := 20) rfl)) rfl
theorem l_RX2_85 : JLnk RX2 85 yJ7_fill_53178 cJ7_fill_53178 4 none 2 := ⟨w_1225, w_709, w_20, by decide +kernel⟩
theorem w_708 : Cond.static yJ7_fill_53178 ∈ WS := ws_in (tk_3 (List.mem_of_getElem? (i := 228) rfl)) rfl
theorem s_RX2_85 : JSta RX2 85 yJ7_fill_53178 cJ7_fill_53178 4 none 2 := ⟨l_RX2_85, w_708⟩
theorem w_1226 : Cond.methodLink RX2 91 yX2_giveOneMore ∈ WS := ws_in (tk_6 (List.mem_of_getElem? (i := 26) rfl)) rfl
theorem w_1229 : Cond.code yX2_giveOneMore cX2_giveOneMore 4 (some .int) ∈ WS := ws_in (tk_6 (List.mem_of_getElem? (i := 29) rfl)) rfl
theorem l_RX2_91 : JLnk RX2 91 yX2_giveOneMore cX2_giveOneMore 4 (some .int) 0 := ⟨w_1226, w_1229, w_11, by decide +kernel⟩
theorem w_1228 : Cond.instanceMethod yX2_giveOneMore ∈ WS := ws_in (tk_6 (List.mem_of_getElem? (i := 28) rfl)) rfl
theorem wp_50 : Cond.selects RX2 yX2_giveOneMore yX2_giveOneMore ∈ WS := ws_in (List.mem_append_left tables_1 (List.mem_of_getElem? (i := 50) (by decide +kernel))) rfl
theorem v_RX2_91 : JVir RX2 91 yX2_giveOneMore cX2_giveOneMore 4 (some .int) 0 2 := ⟨l_RX2_91, w_1228, wp_50, TX2, 8, rfl⟩
theorem w_1217 : Cond.methodLink RX2 44 yX2_sums ∈ WS := ws_in (tk_6 (List.mem_of_getElem? (i := 17) rfl)) rfl
theorem w_1220 : Cond.code yX2_sums cX2_sums 3 (some .int) ∈ WS := ws_in (tk_6 (List.mem_of_getElem? (i := 20) rfl)) rfl
theorem l_RX2_44 : JLnk RX2 44 yX2_sums cX2_sums 3 (some .int) 0 := ⟨w_1217, w_1220, w_11, by decide +kernel⟩
theorem w_1219 : Cond.instanceMethod yX2_sums ∈ WS := ws_in (tk_6 (List.mem_of_getElem? (i := 19) rfl)) rfl
theorem wp_48 : Cond.selects RX2 yX2_sums yX2_sums ∈ WS := ws_in (List.mem_append_left tables_1 (List.mem_of_getElem? (i := 48) (by decide +kernel))) rfl
theorem v_RX2_44 : JVir RX2 44 yX2_sums cX2_sums 3 (some .int) 0 2 := ⟨l_RX2_44, w_1219, wp_48, TX2, 8, rfl⟩
theorem w_1221 : Cond.methodLink RX2 48 yX2_countWays ∈ WS := ws_in (tk_6 (List.mem_of_getElem? (i := 21) rfl)) rfl
theorem w_1224 : Cond.code yX2_countWays cX2_countWays 7 (some .long) ∈ WS := ws_in (tk_6 (List.mem_of_getElem? (i := 24) rfl)) rfl
theorem l_RX2_48 : JLnk RX2 48 yX2_countWays cX2_countWays 7 (some .long) 1 := ⟨w_1221, w_1224, w_11, by decide +kernel⟩
theorem w_1223 : Cond.instanceMethod yX2_countWays ∈ WS := ws_in (tk_6 (List.mem_of_getElem? (i := 23) rfl)) rfl
theorem wp_49 : Cond.selects RX2 yX2_countWays yX2_countWays ∈ WS := ws_in (List.mem_append_left tables_1 (List.mem_of_getElem? (i := 49) (by decide +kernel))) rfl
theorem v_RX2_48 : JVir RX2 48 yX2_countWays cX2_countWays 7 (some .long) 1 2 := ⟨l_RX2_48, w_1223, wp_49, TX2, 8, rfl⟩
theorem w_870 : Cond.methodLink RX11 149 yX11_isStone ∈ WS := ws_in (tk_4 (List.mem_of_getElem? (i := 150) rfl)) rfl
theorem w_873 : Cond.code yX11_isStone cX11_isStone 2 (some .boolean) ∈ WS := ws_in (tk_4 (List.mem_of_getElem? (i := 153) rfl)) rfl
theorem l_RX11_149 : JLnk RX11 149 yX11_isStone cX11_isStone 2 (some .boolean) 1 := ⟨w_870, w_873, w_1, by decide +kernel⟩
theorem w_872 : Cond.instanceMethod yX11_isStone ∈ WS := ws_in (tk_4 (List.mem_of_getElem? (i := 152) rfl)) rfl
theorem wp_18 : Cond.selects RX11 yX11_isStone yX11_isStone ∈ WS := ws_in (List.mem_append_left tables_1 (List.mem_of_getElem? (i := 18) (by decide +kernel))) rfl
theorem v_RX11_149 : JVir RX11 149 yX11_isStone cX11_isStone 2 (some .boolean) 1 11 := ⟨l_RX11_149, w_872, wp_18, TX11, 19, rfl⟩
theorem w_1234 : Cond.constantLong RX11 311 (-1) ∈ WS := ws_in (tk_6 (List.mem_of_getElem? (i := 34) rfl)) rfl
theorem w_1235 : Cond.methodLink RX11 313 yX5_hasSeen ∈ WS := ws_in (tk_6 (List.mem_of_getElem? (i := 35) rfl)) rfl
theorem l_RX11_313 : JLnk RX11 313 yX5_hasSeen cX5_hasSeen 2 (some .boolean) 1 := ⟨w_1235, w_1185, w_6, by decide +kernel⟩
theorem v_RX11_313 : JVir RX11 313 yX5_hasSeen cX5_hasSeen 2 (some .boolean) 1 5 := ⟨l_RX11_313, w_1183, w_1184, TX5, 5, rfl⟩
theorem w_1200 : Cond.methodLink RX11 307 yX2_ways ∈ WS := ws_in (tk_6 (List.mem_of_getElem? (i := 0) rfl)) rfl
theorem w_1203 : Cond.code yX2_ways cX2_ways 4 (some .long) ∈ WS := ws_in (tk_6 (List.mem_of_getElem? (i := 3) rfl)) rfl
theorem l_RX11_307 : JLnk RX11 307 yX2_ways cX2_ways 4 (some .long) 2 := ⟨w_1200, w_1203, w_11, by decide +kernel⟩
theorem w_1201 : Cond.instanceMethod yX2_ways ∈ WS := ws_in (tk_6 (List.mem_of_getElem? (i := 1) rfl)) rfl
theorem w_1202 : Cond.selects RX2 yX2_ways yX2_ways ∈ WS := ws_in (tk_6 (List.mem_of_getElem? (i := 2) rfl)) rfl
theorem v_RX11_307 : JVir RX11 307 yX2_ways cX2_ways 4 (some .long) 2 2 := ⟨l_RX11_307, w_1201, w_1202, TX2, 8, rfl⟩
theorem w_794 : Cond.methodLink RX5 28 yJ7_fill_53178 ∈ WS := ws_in (tk_4 (List.mem_of_getElem? (i := 74) rfl)) rfl
theorem l_RX5_28 : JLnk RX5 28 yJ7_fill_53178 cJ7_fill_53178 4 none 2 := ⟨w_794, w_709, w_20, by decide +kernel⟩
theorem s_RX5_28 : JSta RX5 28 yJ7_fill_53178 cJ7_fill_53178 4 none 2 := ⟨l_RX5_28, w_708⟩
theorem w_1172 : Cond.methodLink RX5 72 yX9_step ∈ WS := ws_in (tk_5 (List.mem_of_getElem? (i := 212) rfl)) rfl
theorem l_RX5_72 : JLnk RX5 72 yX9_step cX9_step 1 none 0 := ⟨w_1172, w_579, w_2, by decide +kernel⟩
theorem v_RX5_72 : JVir RX5 72 yX9_step cX9_step 1 none 0 9 := ⟨l_RX5_72, w_577, w_578, TX9, 14, rfl⟩
theorem w_1173 : Cond.methodLink RX5 75 yX3_widowHere ∈ WS := ws_in (tk_5 (List.mem_of_getElem? (i := 213) rfl)) rfl
theorem l_RX5_75 : JLnk RX5 75 yX3_widowHere cX3_widowHere 3 (some .int) 1 := ⟨w_1173, w_751, w_4, by decide +kernel⟩
theorem v_RX5_75 : JVir RX5 75 yX3_widowHere cX3_widowHere 3 (some .int) 1 3 := ⟨l_RX5_75, w_749, w_750, TX3, 13, rfl⟩
theorem w_1175 : Cond.methodLink RX5 81 yX9_numberTo ∈ WS := ws_in (tk_5 (List.mem_of_getElem? (i := 215) rfl)) rfl
theorem l_RX5_81 : JLnk RX5 81 yX9_numberTo cX9_numberTo 2 (some .int) 1 := ⟨w_1175, w_742, w_2, by decide +kernel⟩
theorem v_RX5_81 : JVir RX5 81 yX9_numberTo cX9_numberTo 2 (some .int) 1 9 := ⟨l_RX5_81, w_740, w_741, TX9, 14, rfl⟩
theorem w_1174 : Cond.methodLink RX5 68 yX9_fail ∈ WS := ws_in (tk_5 (List.mem_of_getElem? (i := 214) rfl)) rfl
theorem l_RX5_68 : JLnk RX5 68 yX9_fail cX9_fail 2 (some .boolean) 1 := ⟨w_1174, w_721, w_2, by decide +kernel⟩
theorem v_RX5_68 : JVir RX5 68 yX9_fail cX9_fail 2 (some .boolean) 1 9 := ⟨l_RX5_68, w_719, w_720, TX9, 14, rfl⟩
theorem w_739 : Cond.methodLink RX9 99 yX9_numberTo ∈ WS := ws_in (tk_4 (List.mem_of_getElem? (i := 19) rfl)) rfl
theorem l_RX9_99 : JLnk RX9 99 yX9_numberTo cX9_numberTo 2 (some .int) 1 := ⟨w_739, w_742, w_2, by decide +kernel⟩
theorem v_RX9_99 : JVir RX9 99 yX9_numberTo cX9_numberTo 2 (some .int) 1 9 := ⟨l_RX9_99, w_740, w_741, TX9, 14, rfl⟩
theorem w_59 : Cond.fieldLink RX9 40 "WidowRow$Tokens" "one" "I" ∈ WS := ws_in (tk_1 (List.mem_of_getElem? (i := 59) rfl)) rfl
theorem g_RX9_40 : JFld RX9 40 9 10 0 false := ⟨RX9, TX9, 14, _, jc_9, by decide, w_59, rfl, rfl⟩
theorem w_62 : Cond.fieldLink RX9 43 "WidowRow$Tokens" "two" "I" ∈ WS := ws_in (tk_1 (List.mem_of_getElem? (i := 62) rfl)) rfl
theorem g_RX9_43 : JFld RX9 43 9 11 0 false := ⟨RX9, TX9, 14, _, jc_9, by decide, w_62, rfl, rfl⟩
theorem w_1180 : Cond.methodLink RX5 85 yX9_readTwoPips ∈ WS := ws_in (tk_5 (List.mem_of_getElem? (i := 220) rfl)) rfl
theorem w_738 : Cond.code yX9_readTwoPips cX9_readTwoPips 1 (some .boolean) ∈ WS := ws_in (tk_4 (List.mem_of_getElem? (i := 18) rfl)) rfl
theorem l_RX5_85 : JLnk RX5 85 yX9_readTwoPips cX9_readTwoPips 1 (some .boolean) 0 := ⟨w_1180, w_738, w_2, by decide +kernel⟩
theorem w_736 : Cond.instanceMethod yX9_readTwoPips ∈ WS := ws_in (tk_4 (List.mem_of_getElem? (i := 16) rfl)) rfl
theorem w_737 : Cond.selects RX9 yX9_readTwoPips yX9_readTwoPips ∈ WS := ws_in (tk_4 (List.mem_of_getElem? (i := 17) rfl)) rfl
theorem v_RX5_85 : JVir RX5 85 yX9_readTwoPips cX9_readTwoPips 1 (some .boolean) 0 9 := ⟨l_RX5_85, w_736, w_737, TX9, 14, rfl⟩
theorem w_61 : Cond.fieldLink RX5 89 "WidowRow$Tokens" "one" "I" ∈ WS := ws_in (tk_1 (List.mem_of_getElem? (i := 61) rfl)) rfl
theorem g_RX5_89 : JFld RX5 89 9 10 0 false := ⟨RX9, TX9, 14, _, jc_9, by decide, w_61, rfl, rfl⟩
theorem w_64 : Cond.fieldLink RX5 92 "WidowRow$Tokens" "two" "I" ∈ WS := ws_in (tk_1 (List.mem_of_getElem? (i := 64) rfl)) rfl
theorem g_RX5_92 : JFld RX5 92 9 11 0 false := ⟨RX9, TX9, 14, _, jc_9, by decide, w_64, rfl, rfl⟩
theorem w_1181 : Cond.methodLink RX5 95 yX3_stoneWith ∈ WS := ws_in (tk_5 (List.mem_of_getElem? (i := 221) rfl)) rfl
theorem w_747 : Cond.code yX3_stoneWith cX3_stoneWith 4 (some .int) ∈ WS := ws_in (tk_4 (List.mem_of_getElem? (i := 27) rfl)) rfl
theorem l_RX5_95 : JLnk RX5 95 yX3_stoneWith cX3_stoneWith 4 (some .int) 2 := ⟨w_1181, w_747, w_4, by decide +kernel⟩
theorem w_745 : Cond.instanceMethod yX3_stoneWith ∈ WS := ws_in (tk_4 (List.mem_of_getElem? (i := 25) rfl)) rfl
theorem w_746 : Cond.selects RX3 yX3_stoneWith yX3_stoneWith ∈ WS := ws_in (tk_4 (List.mem_of_getElem? (i := 26) rfl)) rfl
theorem v_RX5_95 : JVir RX5 95 yX3_stoneWith cX3_stoneWith 4 (some .int) 2 3 := ⟨l_RX5_95, w_745, w_746, TX3, 13, rfl⟩
theorem w_1182 : Cond.methodLink RX5 99 yX5_hasSeen ∈ WS := ws_in (tk_5 (List.mem_of_getElem? (i := 222) rfl)) rfl
theorem l_RX5_99 : JLnk RX5 99 yX5_hasSeen cX5_hasSeen 2 (some .boolean) 1 := ⟨w_1182, w_1185, w_6, by decide +kernel⟩
theorem v_RX5_99 : JVir RX5 99 yX5_hasSeen cX5_hasSeen 2 (some .boolean) 1 5 := ⟨l_RX5_99, w_1183, w_1184, TX5, 5, rfl⟩
theorem w_53 : Cond.fieldLink RX5 56 "WidowRow$Tokens" "key" "I" ∈ WS := ws_in (tk_1 (List.mem_of_getElem? (i := 53) rfl)) rfl
theorem g_RX5_56 : JFld RX5 56 9 6 0 false := ⟨RX9, TX9, 14, _, jc_9, by decide, w_53, rfl, rfl⟩
theorem w_1168 : Cond.methodLink RX5 59 yX5_readDeal ∈ WS := ws_in (tk_5 (List.mem_of_getElem? (i := 208) rfl)) rfl
theorem w_1171 : Cond.code yX5_readDeal cX5_readDeal 5 (some .boolean) ∈ WS := ws_in (tk_5 (List.mem_of_getElem? (i := 211) rfl)) rfl
theorem l_RX5_59 : JLnk RX5 59 yX5_readDeal cX5_readDeal 5 (some .boolean) 2 := ⟨w_1168, w_1171, w_6, by decide +kernel⟩
theorem w_1170 : Cond.instanceMethod yX5_readDeal ∈ WS := ws_in (tk_5 (List.mem_of_getElem? (i := 210) rfl)) rfl
theorem wp_42 : Cond.selects RX5 yX5_readDeal yX5_readDeal ∈ WS := ws_in (List.mem_append_left tables_1 (List.mem_of_getElem? (i := 42) (by decide +kernel))) rfl
theorem v_RX5_59 : JVir RX5 59 yX5_readDeal cX5_readDeal 5 (some .boolean) 2 5 := ⟨l_RX5_59, w_1170, wp_42, TX5, 5, rfl⟩
theorem w_1176 : Cond.methodLink RX5 62 yX5_readSeen ∈ WS := ws_in (tk_5 (List.mem_of_getElem? (i := 216) rfl)) rfl
theorem w_1179 : Cond.code yX5_readSeen cX5_readSeen 4 (some .boolean) ∈ WS := ws_in (tk_5 (List.mem_of_getElem? (i := 219) rfl)) rfl
theorem l_RX5_62 : JLnk RX5 62 yX5_readSeen cX5_readSeen 4 (some .boolean) 2 := ⟨w_1176, w_1179, w_6, by decide +kernel⟩
theorem w_1178 : Cond.instanceMethod yX5_readSeen ∈ WS := ws_in (tk_5 (List.mem_of_getElem? (i := 218) rfl)) rfl
theorem wp_43 : Cond.selects RX5 yX5_readSeen yX5_readSeen ∈ WS := ws_in (List.mem_append_left tables_1 (List.mem_of_getElem? (i := 43) (by decide +kernel))) rfl
theorem v_RX5_62 : JVir RX5 62 yX5_readSeen cX5_readSeen 4 (some .boolean) 2 5 := ⟨l_RX5_62, w_1178, wp_43, TX5, 5, rfl⟩
theorem w_1186 : Cond.methodLink RX5 65 yX5_readPassed ∈ WS := ws_in (tk_5 (List.mem_of_getElem? (i := 226) rfl)) rfl
theorem w_1189 : Cond.code yX5_readPassed cX5_readPassed 5 (some .boolean) ∈ WS := ws_in (tk_5 (List.mem_of_getElem? (i := 229) rfl)) rfl
theorem l_RX5_65 : JLnk RX5 65 yX5_readPassed cX5_readPassed 5 (some .boolean) 2 := ⟨w_1186, w_1189, w_6, by decide +kernel⟩
theorem w_1188 : Cond.instanceMethod yX5_readPassed ∈ WS := ws_in (tk_5 (List.mem_of_getElem? (i := 228) rfl)) rfl
theorem wp_44 : Cond.selects RX5 yX5_readPassed yX5_readPassed ∈ WS := ws_in (List.mem_append_left tables_1 (List.mem_of_getElem? (i := 44) (by decide +kernel))) rfl
theorem v_RX5_65 : JVir RX5 65 yX5_readPassed cX5_readPassed 5 (some .boolean) 2 5 := ⟨l_RX5_65, w_1188, wp_44, TX5, 5, rfl⟩
theorem w_1163 : Cond.methodLink RX5 40 yX5_clear ∈ WS := ws_in (tk_5 (List.mem_of_getElem? (i := 203) rfl)) rfl
theorem w_793 : Cond.code yX5_clear cX5_clear 1 none ∈ WS := ws_in (tk_4 (List.mem_of_getElem? (i := 73) rfl)) rfl
theorem l_RX5_40 : JLnk RX5 40 yX5_clear cX5_clear 1 none 0 := ⟨w_1163, w_793, w_6, by decide +kernel⟩
theorem w_791 : Cond.instanceMethod yX5_clear ∈ WS := ws_in (tk_4 (List.mem_of_getElem? (i := 71) rfl)) rfl
theorem w_792 : Cond.selects RX5 yX5_clear yX5_clear ∈ WS := ws_in (tk_4 (List.mem_of_getElem? (i := 72) rfl)) rfl
theorem v_RX5_40 : JVir RX5 40 yX5_clear cX5_clear 1 none 0 5 := ⟨l_RX5_40, w_791, w_792, TX5, 5, rfl⟩
theorem w_48 : Cond.fieldLink RX5 43 "WidowRow$Tokens" "kind" "I" ∈ WS := ws_in (tk_1 (List.mem_of_getElem? (i := 48) rfl)) rfl
theorem g_RX5_43 : JFld RX5 43 9 4 0 false := ⟨RX9, TX9, 14, _, jc_9, by decide, w_48, rfl, rfl⟩
theorem w_1164 : Cond.methodLink RX5 48 yX5_readLine ∈ WS := ws_in (tk_5 (List.mem_of_getElem? (i := 204) rfl)) rfl
theorem w_1167 : Cond.code yX5_readLine cX5_readLine 3 (some .boolean) ∈ WS := ws_in (tk_5 (List.mem_of_getElem? (i := 207) rfl)) rfl
theorem l_RX5_48 : JLnk RX5 48 yX5_readLine cX5_readLine 3 (some .boolean) 2 := ⟨w_1164, w_1167, w_6, by decide +kernel⟩
theorem w_1166 : Cond.instanceMethod yX5_readLine ∈ WS := ws_in (tk_5 (List.mem_of_getElem? (i := 206) rfl)) rfl
theorem wp_41 : Cond.selects RX5 yX5_readLine yX5_readLine ∈ WS := ws_in (List.mem_append_left tables_1 (List.mem_of_getElem? (i := 41) (by decide +kernel))) rfl
theorem v_RX5_48 : JVir RX5 48 yX5_readLine cX5_readLine 3 (some .boolean) 2 5 := ⟨l_RX5_48, w_1166, wp_41, TX5, 5, rfl⟩
theorem w_1190 : Cond.methodLink RX5 52 yX9_passes ∈ WS := ws_in (tk_5 (List.mem_of_getElem? (i := 230) rfl)) rfl
theorem l_RX5_52 : JLnk RX5 52 yX9_passes cX9_passes 2 (some .boolean) 1 := ⟨w_1190, w_768, w_2, by decide +kernel⟩
theorem v_RX5_52 : JVir RX5 52 yX9_passes cX9_passes 2 (some .boolean) 1 9 := ⟨l_RX5_52, w_766, w_767, TX9, 14, rfl⟩
theorem w_1159 : Cond.methodLink RX11 300 yX5_readAll ∈ WS := ws_in (tk_5 (List.mem_of_getElem? (i := 199) rfl)) rfl
theorem w_1162 : Cond.code yX5_readAll cX5_readAll 3 (some .boolean) ∈ WS := ws_in (tk_5 (List.mem_of_getElem? (i := 202) rfl)) rfl
theorem l_RX11_300 : JLnk RX11 300 yX5_readAll cX5_readAll 3 (some .boolean) 2 := ⟨w_1159, w_1162, w_6, by decide +kernel⟩
theorem w_1160 : Cond.instanceMethod yX5_readAll ∈ WS := ws_in (tk_5 (List.mem_of_getElem? (i := 200) rfl)) rfl
theorem w_1161 : Cond.selects RX5 yX5_readAll yX5_readAll ∈ WS := ws_in (tk_5 (List.mem_of_getElem? (i := 201) rfl)) rfl
theorem v_RX11_300 : JVir RX11 300 yX5_readAll cX5_readAll 3 (some .boolean) 2 5 := ⟨l_RX11_300, w_1160, w_1161, TX5, 5, rfl⟩
theorem w_1191 : Cond.methodLink RX11 303 yX5_copyFrom ∈ WS := ws_in (tk_5 (List.mem_of_getElem? (i := 231) rfl)) rfl
theorem l_RX11_303 : JLnk RX11 303 yX5_copyFrom cX5_copyFrom 2 none 1 := ⟨w_1191, w_1194, w_6, by decide +kernel⟩
theorem v_RX11_303 : JVir RX11 303 yX5_copyFrom cX5_copyFrom 2 none 1 5 := ⟨l_RX11_303, w_1192, w_1193, TX5, 5, rfl⟩
theorem w_956 : Cond.methodLink RX7 91 yX7_refusal ∈ WS := ws_in (tk_4 (List.mem_of_getElem? (i := 236) rfl)) rfl
theorem l_RX7_91 : JLnk RX7 91 yX7_refusal cX7_refusal 4 (some .int) 3 := ⟨w_956, w_877, w_5, by decide +kernel⟩
theorem v_RX7_91 : JVir RX7 91 yX7_refusal cX7_refusal 4 (some .int) 3 7 := ⟨l_RX7_91, w_875, w_876, TX7, 8, rfl⟩
theorem w_1154 : Cond.methodLink RX7 106 yX7_put ∈ WS := ws_in (tk_5 (List.mem_of_getElem? (i := 194) rfl)) rfl
theorem l_RX7_106 : JLnk RX7 106 yX7_put cX7_put 4 none 2 := ⟨w_1154, w_904, w_5, by decide +kernel⟩
theorem v_RX7_106 : JVir RX7 106 yX7_put cX7_put 4 none 2 7 := ⟨l_RX7_106, w_902, w_903, TX7, 8, rfl⟩
theorem w_501 : Cond.fieldLink RX11 61 "WidowRow" "trial" "LWidowRow$Row;" ∈ WS := ws_in (tk_3 (List.mem_of_getElem? (i := 21) rfl)) rfl
theorem g_RX11_61 : JFld RX11 61 11 10 2 true := ⟨RX11, TX11, 19, _, jc_11, by decide, w_501, rfl, rfl⟩
theorem w_1150 : Cond.methodLink RX11 294 yX7_putFirst ∈ WS := ws_in (tk_5 (List.mem_of_getElem? (i := 190) rfl)) rfl
theorem w_1153 : Cond.code yX7_putFirst cX7_putFirst 3 (some .boolean) ∈ WS := ws_in (tk_5 (List.mem_of_getElem? (i := 193) rfl)) rfl
theorem l_RX11_294 : JLnk RX11 294 yX7_putFirst cX7_putFirst 3 (some .boolean) 0 := ⟨w_1150, w_1153, w_5, by decide +kernel⟩
theorem w_1151 : Cond.instanceMethod yX7_putFirst ∈ WS := ws_in (tk_5 (List.mem_of_getElem? (i := 191) rfl)) rfl
theorem w_1152 : Cond.selects RX7 yX7_putFirst yX7_putFirst ∈ WS := ws_in (tk_5 (List.mem_of_getElem? (i := 192) rfl)) rfl
theorem v_RX11_294 : JVir RX11 294 yX7_putFirst cX7_putFirst 3 (some .boolean) 0 7 := ⟨l_RX11_294, w_1151, w_1152, TX7, 8, rfl⟩
theorem w_836 : Cond.methodLink RX11 198 yX11_isPips ∈ WS := ws_in (tk_4 (List.mem_of_getElem? (i := 116) rfl)) rfl
theorem w_838 : Cond.code yX11_isPips cX11_isPips 1 (some .boolean) ∈ WS := ws_in (tk_4 (List.mem_of_getElem? (i := 118) rfl)) rfl
theorem l_RX11_198 : JLnk RX11 198 yX11_isPips cX11_isPips 1 (some .boolean) 1 := ⟨w_836, w_838, w_1, by decide +kernel⟩
theorem w_837 : Cond.static yX11_isPips ∈ WS := ws_in (tk_4 (List.mem_of_getElem? (i := 117) rfl)) rfl
theorem s_RX11_198 : JSta RX11 198 yX11_isPips cX11_isPips 1 (some .boolean) 1 := ⟨l_RX11_198, w_837⟩
theorem w_210 : Cond.fieldLink RX11 170 "WidowRow$Row" "where" "[I" ∈ WS := ws_in (tk_1 (List.mem_of_getElem? (i := 210) rfl)) rfl
theorem g_RX11_170 : JFld RX11 170 7 2 2 true := ⟨RX7, TX7, 8, _, jc_7, by decide, w_210, rfl, rfl⟩
theorem w_148 : Cond.fieldLink RX11 160 "WidowRow$Island" "one" "[I" ∈ WS := ws_in (tk_1 (List.mem_of_getElem? (i := 148) rfl)) rfl
theorem g_RX11_160 : JFld RX11 160 3 8 2 true := ⟨RX3, TX3, 13, _, jc_3, by decide, w_148, rfl, rfl⟩
theorem w_156 : Cond.fieldLink RX11 164 "WidowRow$Island" "two" "[I" ∈ WS := ws_in (tk_1 (List.mem_of_getElem? (i := 156) rfl)) rfl
theorem g_RX11_164 : JFld RX11 164 3 9 2 true := ⟨RX3, TX3, 13, _, jc_3, by decide, w_156, rfl, rfl⟩
theorem w_222 : Cond.fieldLink RX11 192 "WidowRow$Row" "paid" "[I" ∈ WS := ws_in (tk_1 (List.mem_of_getElem? (i := 222) rfl)) rfl
theorem g_RX11_192 : JFld RX11 192 7 6 2 true := ⟨RX7, TX7, 8, _, jc_7, by decide, w_222, rfl, rfl⟩
theorem w_224 : Cond.fieldLink RX11 195 "WidowRow$Row" "had" "[I" ∈ WS := ws_in (tk_1 (List.mem_of_getElem? (i := 224) rfl)) rfl
theorem g_RX11_195 : JFld RX11 195 7 7 2 true := ⟨RX7, TX7, 8, _, jc_7, by decide, w_224, rfl, rfl⟩
theorem w_982 : Cond.methodLink RJ7 13 yJ7_rangeCheck_23922 ∈ WS := ws_in (tk_5 (List.mem_of_getElem? (i := 22) rfl)) rfl
theorem w_984 : Cond.code yJ7_rangeCheck_23922 cJ7_rangeCheck_23922 3 none ∈ WS := ws_in (tk_5 (List.mem_of_getElem? (i := 24) rfl)) rfl
theorem l_RJ7_13 : JLnk RJ7 13 yJ7_rangeCheck_23922 cJ7_rangeCheck_23922 3 none 3 := ⟨w_982, w_984, w_20, by decide +kernel⟩
theorem w_983 : Cond.static yJ7_rangeCheck_23922 ∈ WS := ws_in (tk_5 (List.mem_of_getElem? (i := 23) rfl)) rfl
theorem s_RJ7_13 : JSta RJ7 13 yJ7_rangeCheck_23922 cJ7_rangeCheck_23922 3 none 3 := ⟨l_RJ7_13, w_983⟩
theorem w_325 : Cond.fieldLink RX0 35 "WidowRow$Chain" "island" "LWidowRow$Island;" ∈ WS := ws_in (tk_2 (List.mem_of_getElem? (i := 85) rfl)) rfl
theorem g_RX0_35 : JFld RX0 35 0 1 2 true := ⟨RX0, TX0, 7, _, jc_0, by decide, w_325, rfl, rfl⟩
theorem w_163 : Cond.fieldLink RX0 70 "WidowRow$Island" "fitting" "[I" ∈ WS := ws_in (tk_1 (List.mem_of_getElem? (i := 163) rfl)) rfl
theorem g_RX0_70 : JFld RX0 70 3 12 2 true := ⟨RX3, TX3, 13, _, jc_3, by decide, w_163, rfl, rfl⟩
theorem w_146 : Cond.fieldLink RX0 85 "WidowRow$Island" "one" "[I" ∈ WS := ws_in (tk_1 (List.mem_of_getElem? (i := 146) rfl)) rfl
theorem g_RX0_85 : JFld RX0 85 3 8 2 true := ⟨RX3, TX3, 13, _, jc_3, by decide, w_146, rfl, rfl⟩
theorem w_327 : Cond.fieldLink RX0 11 "WidowRow$Chain" "hand" "[I" ∈ WS := ws_in (tk_2 (List.mem_of_getElem? (i := 87) rfl)) rfl
theorem g_RX0_11 : JFld RX0 11 0 3 2 true := ⟨RX0, TX0, 7, _, jc_0, by decide, w_327, rfl, rfl⟩
theorem w_154 : Cond.fieldLink RX0 88 "WidowRow$Island" "two" "[I" ∈ WS := ws_in (tk_1 (List.mem_of_getElem? (i := 154) rfl)) rfl
theorem g_RX0_88 : JFld RX0 88 3 9 2 true := ⟨RX3, TX3, 13, _, jc_3, by decide, w_154, rfl, rfl⟩
theorem w_326 : Cond.fieldLink RX0 36 "WidowRow$Chain" "table" "[J" ∈ WS := ws_in (tk_2 (List.mem_of_getElem? (i := 86) rfl)) rfl
theorem g_RX0_36 : JFld RX0 36 0 2 2 true := ⟨RX0, TX0, 7, _, jc_0, by decide, w_326, rfl, rfl⟩
theorem w_989 : Cond.methodLink RX0 91 yX0_ahead ∈ WS := ws_in (tk_5 (List.mem_of_getElem? (i := 29) rfl)) rfl
theorem w_992 : Cond.code yX0_ahead cX0_ahead 2 (some .long) ∈ WS := ws_in (tk_5 (List.mem_of_getElem? (i := 32) rfl)) rfl
theorem w_8 : Cond.initialized RX0 ∈ WS := ws_in (tk_1 (List.mem_of_getElem? (i := 8) rfl)) rfl
theorem l_RX0_91 : JLnk RX0 91 yX0_ahead cX0_ahead 2 (some .long) 1 := ⟨w_989, w_992, w_8, by decide +kernel⟩
theorem w_991 : Cond.instanceMethod yX0_ahead ∈ WS := ws_in (tk_5 (List.mem_of_getElem? (i := 31) rfl)) rfl
theorem wp_23 : Cond.selects RX0 yX0_ahead yX0_ahead ∈ WS := ws_in (List.mem_append_left tables_1 (List.mem_of_getElem? (i := 23) (by decide +kernel))) rfl
theorem v_RX0_91 : JVir RX0 91 yX0_ahead cX0_ahead 2 (some .long) 1 0 := ⟨l_RX0_91, w_991, wp_23, TX0, 7, rfl⟩
theorem w_328 : Cond.fieldLink RX0 15 "WidowRow$Chain" "size" "I" ∈ WS := ws_in (tk_2 (List.mem_of_getElem? (i := 88) rfl)) rfl
theorem g_RX0_15 : JFld RX0 15 0 4 0 false := ⟨RX0, TX0, 7, _, jc_0, by decide, w_328, rfl, rfl⟩
theorem w_979 : Cond.methodLink RX0 75 yJ7_fill_bad5a ∈ WS := ws_in (tk_5 (List.mem_of_getElem? (i := 19) rfl)) rfl
theorem w_981 : Cond.code yJ7_fill_bad5a cJ7_fill_bad5a 6 none ∈ WS := ws_in (tk_5 (List.mem_of_getElem? (i := 21) rfl)) rfl
theorem l_RX0_75 : JLnk RX0 75 yJ7_fill_bad5a cJ7_fill_bad5a 6 none 4 := ⟨w_979, w_981, w_20, by decide +kernel⟩
theorem w_980 : Cond.static yJ7_fill_bad5a ∈ WS := ws_in (tk_5 (List.mem_of_getElem? (i := 20) rfl)) rfl
theorem s_RX0_75 : JSta RX0 75 yJ7_fill_bad5a cJ7_fill_bad5a 6 none 4 := ⟨l_RX0_75, w_980⟩
theorem w_985 : Cond.methodLink RX0 81 yX0_spreadOver ∈ WS := ws_in (tk_5 (List.mem_of_getElem? (i := 25) rfl)) rfl
theorem w_988 : Cond.code yX0_spreadOver cX0_spreadOver 6 none ∈ WS := ws_in (tk_5 (List.mem_of_getElem? (i := 28) rfl)) rfl
theorem l_RX0_81 : JLnk RX0 81 yX0_spreadOver cX0_spreadOver 6 none 2 := ⟨w_985, w_988, w_8, by decide +kernel⟩
theorem w_987 : Cond.instanceMethod yX0_spreadOver ∈ WS := ws_in (tk_5 (List.mem_of_getElem? (i := 27) rfl)) rfl
theorem wp_22 : Cond.selects RX0 yX0_spreadOver yX0_spreadOver ∈ WS := ws_in (List.mem_append_left tables_1 (List.mem_of_getElem? (i := 22) (by decide +kernel))) rfl
theorem v_RX0_81 : JVir RX0 81 yX0_spreadOver cX0_spreadOver 6 none 2 0 := ⟨l_RX0_81, w_987, wp_22, TX0, 7, rfl⟩
theorem w_996 : Cond.constant RJ6 265 (1431655765) ∈ WS := ws_in (tk_5 (List.mem_of_getElem? (i := 36) rfl)) rfl
theorem w_997 : Cond.constant RJ6 266 (858993459) ∈ WS := ws_in (tk_5 (List.mem_of_getElem? (i := 37) rfl)) rfl
theorem w_998 : Cond.constant RJ6 267 (252645135) ∈ WS := ws_in (tk_5 (List.mem_of_getElem? (i := 38) rfl)) rfl
theorem w_324 : Cond.fieldLink RX0 25 "WidowRow$Chain" "row" "LWidowRow$Row;" ∈ WS := ws_in (tk_2 (List.mem_of_getElem? (i := 84) rfl)) rfl
theorem g_RX0_25 : JFld RX0 25 0 0 2 true := ⟨RX0, TX0, 7, _, jc_0, by decide, w_324, rfl, rfl⟩
theorem w_970 : Cond.methodLink RX0 40 yX7_gather ∈ WS := ws_in (tk_5 (List.mem_of_getElem? (i := 10) rfl)) rfl
theorem w_973 : Cond.code yX7_gather cX7_gather 4 (some .int) ∈ WS := ws_in (tk_5 (List.mem_of_getElem? (i := 13) rfl)) rfl
theorem l_RX0_40 : JLnk RX0 40 yX7_gather cX7_gather 4 (some .int) 1 := ⟨w_970, w_973, w_5, by decide +kernel⟩
theorem w_971 : Cond.instanceMethod yX7_gather ∈ WS := ws_in (tk_5 (List.mem_of_getElem? (i := 11) rfl)) rfl
theorem w_972 : Cond.selects RX7 yX7_gather yX7_gather ∈ WS := ws_in (tk_5 (List.mem_of_getElem? (i := 12) rfl)) rfl
theorem v_RX0_40 : JVir RX0 40 yX7_gather cX7_gather 4 (some .int) 1 7 := ⟨l_RX0_40, w_971, w_972, TX7, 8, rfl⟩
theorem w_975 : Cond.methodLink RX0 49 yX0_spread ∈ WS := ws_in (tk_5 (List.mem_of_getElem? (i := 15) rfl)) rfl
theorem w_978 : Cond.code yX0_spread cX0_spread 4 none ∈ WS := ws_in (tk_5 (List.mem_of_getElem? (i := 18) rfl)) rfl
theorem l_RX0_49 : JLnk RX0 49 yX0_spread cX0_spread 4 none 1 := ⟨w_975, w_978, w_8, by decide +kernel⟩
theorem w_977 : Cond.instanceMethod yX0_spread ∈ WS := ws_in (tk_5 (List.mem_of_getElem? (i := 17) rfl)) rfl
theorem wp_21 : Cond.selects RX0 yX0_spread yX0_spread ∈ WS := ws_in (List.mem_append_left tables_1 (List.mem_of_getElem? (i := 21) (by decide +kernel))) rfl
theorem v_RX0_49 : JVir RX0 49 yX0_spread cX0_spread 4 none 1 0 := ⟨l_RX0_49, w_977, wp_21, TX0, 7, rfl⟩
theorem w_993 : Cond.methodLink RX0 53 yJ6_bitCount_0f7a4 ∈ WS := ws_in (tk_5 (List.mem_of_getElem? (i := 33) rfl)) rfl
theorem w_995 : Cond.code yJ6_bitCount_0f7a4 cJ6_bitCount_0f7a4 1 (some .int) ∈ WS := ws_in (tk_5 (List.mem_of_getElem? (i := 35) rfl)) rfl
theorem w_26 : Cond.initialized RJ6 ∈ WS := ws_in (tk_1 (List.mem_of_getElem? (i := 26) rfl)) rfl
theorem l_RX0_53 : JLnk RX0 53 yJ6_bitCount_0f7a4 cJ6_bitCount_0f7a4 1 (some .int) 1 := ⟨w_993, w_995, w_26, by decide +kernel⟩
theorem w_994 : Cond.static yJ6_bitCount_0f7a4 ∈ WS := ws_in (tk_5 (List.mem_of_getElem? (i := 34) rfl)) rfl
theorem s_RX0_53 : JSta RX0 53 yJ6_bitCount_0f7a4 cJ6_bitCount_0f7a4 1 (some .int) 1 := ⟨l_RX0_53, w_994⟩
theorem w_503 : Cond.fieldLink RX11 78 "WidowRow" "chain" "LWidowRow$Chain;" ∈ WS := ws_in (tk_3 (List.mem_of_getElem? (i := 23) rfl)) rfl
theorem g_RX11_78 : JFld RX11 78 11 12 2 true := ⟨RX11, TX11, 19, _, jc_11, by decide, w_503, rfl, rfl⟩
theorem w_1134 : Cond.methodLink RX11 291 yX0_fewestBetween ∈ WS := ws_in (tk_5 (List.mem_of_getElem? (i := 174) rfl)) rfl
theorem w_1137 : Cond.code yX0_fewestBetween cX0_fewestBetween 6 (some .int) ∈ WS := ws_in (tk_5 (List.mem_of_getElem? (i := 177) rfl)) rfl
theorem l_RX11_291 : JLnk RX11 291 yX0_fewestBetween cX0_fewestBetween 6 (some .int) 2 := ⟨w_1134, w_1137, w_8, by decide +kernel⟩
theorem w_1135 : Cond.instanceMethod yX0_fewestBetween ∈ WS := ws_in (tk_5 (List.mem_of_getElem? (i := 175) rfl)) rfl
theorem w_1136 : Cond.selects RX0 yX0_fewestBetween yX0_fewestBetween ∈ WS := ws_in (tk_5 (List.mem_of_getElem? (i := 176) rfl)) rfl
theorem v_RX11_291 : JVir RX11 291 yX0_fewestBetween cX0_fewestBetween 6 (some .int) 2 0 := ⟨l_RX11_291, w_1135, w_1136, TX0, 7, rfl⟩
theorem w_1129 : Cond.methodLink RX11 288 Lib.Math.max.name ∈ WS := ws_in (tk_5 (List.mem_of_getElem? (i := 169) rfl)) rfl
theorem w_851 : Cond.methodLink RX11 211 yX11_isEnd ∈ WS := ws_in (tk_4 (List.mem_of_getElem? (i := 131) rfl)) rfl
theorem w_853 : Cond.code yX11_isEnd cX11_isEnd 1 (some .boolean) ∈ WS := ws_in (tk_4 (List.mem_of_getElem? (i := 133) rfl)) rfl
theorem l_RX11_211 : JLnk RX11 211 yX11_isEnd cX11_isEnd 1 (some .boolean) 1 := ⟨w_851, w_853, w_1, by decide +kernel⟩
theorem w_852 : Cond.static yX11_isEnd ∈ WS := ws_in (tk_4 (List.mem_of_getElem? (i := 132) rfl)) rfl
theorem s_RX11_211 : JSta RX11 211 yX11_isEnd cX11_isEnd 1 (some .boolean) 1 := ⟨l_RX11_211, w_852⟩
theorem w_1120 : Cond.methodLink RX11 282 yX7_goesTo ∈ WS := ws_in (tk_5 (List.mem_of_getElem? (i := 160) rfl)) rfl
theorem l_RX11_282 : JLnk RX11 282 yX7_goesTo cX7_goesTo 4 (some .boolean) 2 := ⟨w_1120, w_885, w_5, by decide +kernel⟩
theorem v_RX11_282 : JVir RX11 282 yX7_goesTo cX7_goesTo 4 (some .boolean) 2 7 := ⟨l_RX11_282, w_883, w_884, TX7, 8, rfl⟩
theorem w_505 : Cond.fieldLink RX11 92 "WidowRow" "match" "LWidowRow$Match;" ∈ WS := ws_in (tk_3 (List.mem_of_getElem? (i := 25) rfl)) rfl
theorem g_RX11_92 : JFld RX11 92 11 14 2 true := ⟨RX11, TX11, 19, _, jc_11, by decide, w_505, rfl, rfl⟩
theorem w_410 : Cond.fieldLink RX11 276 "WidowRow$Match" "best" "I" ∈ WS := ws_in (tk_2 (List.mem_of_getElem? (i := 170) rfl)) rfl
theorem g_RX11_276 : JFld RX11 276 4 7 0 false := ⟨RX4, TX4, 8, _, jc_4, by decide, w_410, rfl, rfl⟩
theorem w_406 : Cond.fieldLink RX4 15 "WidowRow$Match" "size" "I" ∈ WS := ws_in (tk_2 (List.mem_of_getElem? (i := 166) rfl)) rfl
theorem g_RX4_15 : JFld RX4 15 4 4 0 false := ⟨RX4, TX4, 8, _, jc_4, by decide, w_406, rfl, rfl⟩
theorem w_407 : Cond.fieldLink RX4 19 "WidowRow$Match" "handOfA" "I" ∈ WS := ws_in (tk_2 (List.mem_of_getElem? (i := 167) rfl)) rfl
theorem g_RX4_19 : JFld RX4 19 4 5 0 false := ⟨RX4, TX4, 8, _, jc_4, by decide, w_407, rfl, rfl⟩
theorem w_408 : Cond.fieldLink RX4 22 "WidowRow$Match" "handOfB" "I" ∈ WS := ws_in (tk_2 (List.mem_of_getElem? (i := 168) rfl)) rfl
theorem g_RX4_22 : JFld RX4 22 4 6 0 false := ⟨RX4, TX4, 8, _, jc_4, by decide, w_408, rfl, rfl⟩
theorem w_403 : Cond.fieldLink RX4 38 "WidowRow$Match" "island" "LWidowRow$Island;" ∈ WS := ws_in (tk_2 (List.mem_of_getElem? (i := 163) rfl)) rfl
theorem g_RX4_38 : JFld RX4 38 4 1 2 true := ⟨RX4, TX4, 8, _, jc_4, by decide, w_403, rfl, rfl⟩
theorem w_131 : Cond.fieldLink RX4 69 "WidowRow$Island" "stones" "I" ∈ WS := ws_in (tk_1 (List.mem_of_getElem? (i := 131) rfl)) rfl
theorem g_RX4_69 : JFld RX4 69 3 2 0 false := ⟨RX3, TX3, 13, _, jc_3, by decide, w_131, rfl, rfl⟩
theorem w_402 : Cond.fieldLink RX4 28 "WidowRow$Match" "row" "LWidowRow$Row;" ∈ WS := ws_in (tk_2 (List.mem_of_getElem? (i := 162) rfl)) rfl
theorem g_RX4_28 : JFld RX4 28 4 0 2 true := ⟨RX4, TX4, 8, _, jc_4, by decide, w_402, rfl, rfl⟩
theorem w_1079 : Cond.methodLink RX4 74 yX7_isHeldBy ∈ WS := ws_in (tk_5 (List.mem_of_getElem? (i := 119) rfl)) rfl
theorem l_RX4_74 : JLnk RX4 74 yX7_isHeldBy cX7_isHeldBy 3 (some .boolean) 2 := ⟨w_1079, w_827, w_5, by decide +kernel⟩
theorem v_RX4_74 : JVir RX4 74 yX7_isHeldBy cX7_isHeldBy 3 (some .boolean) 2 7 := ⟨l_RX4_74, w_825, w_826, TX7, 8, rfl⟩
theorem w_405 : Cond.fieldLink RX4 11 "WidowRow$Match" "hand" "[I" ∈ WS := ws_in (tk_2 (List.mem_of_getElem? (i := 165) rfl)) rfl
theorem g_RX4_11 : JFld RX4 11 4 3 2 true := ⟨RX4, TX4, 8, _, jc_4, by decide, w_405, rfl, rfl⟩
theorem w_147 : Cond.fieldLink RX4 97 "WidowRow$Island" "one" "[I" ∈ WS := ws_in (tk_1 (List.mem_of_getElem? (i := 147) rfl)) rfl
theorem g_RX4_97 : JFld RX4 97 3 8 2 true := ⟨RX3, TX3, 13, _, jc_3, by decide, w_147, rfl, rfl⟩
theorem w_1090 : Cond.methodLink RX4 100 yX3_fit ∈ WS := ws_in (tk_5 (List.mem_of_getElem? (i := 130) rfl)) rfl
theorem l_RX4_100 : JLnk RX4 100 yX3_fit cX3_fit 3 (some .boolean) 2 := ⟨w_1090, w_842, w_4, by decide +kernel⟩
theorem v_RX4_100 : JVir RX4 100 yX3_fit cX3_fit 3 (some .boolean) 2 3 := ⟨l_RX4_100, w_840, w_841, TX3, 13, rfl⟩
theorem w_155 : Cond.fieldLink RX4 103 "WidowRow$Island" "two" "[I" ∈ WS := ws_in (tk_1 (List.mem_of_getElem? (i := 155) rfl)) rfl
theorem g_RX4_103 : JFld RX4 103 3 9 2 true := ⟨RX3, TX3, 13, _, jc_3, by decide, w_155, rfl, rfl⟩
theorem w_1086 : Cond.methodLink RX4 94 yX4_outerOf ∈ WS := ws_in (tk_5 (List.mem_of_getElem? (i := 126) rfl)) rfl
theorem w_1089 : Cond.code yX4_outerOf cX4_outerOf 3 (some .int) ∈ WS := ws_in (tk_5 (List.mem_of_getElem? (i := 129) rfl)) rfl
theorem w_10 : Cond.initialized RX4 ∈ WS := ws_in (tk_1 (List.mem_of_getElem? (i := 10) rfl)) rfl
theorem l_RX4_94 : JLnk RX4 94 yX4_outerOf cX4_outerOf 3 (some .int) 2 := ⟨w_1086, w_1089, w_10, by decide +kernel⟩
theorem w_1088 : Cond.instanceMethod yX4_outerOf ∈ WS := ws_in (tk_5 (List.mem_of_getElem? (i := 128) rfl)) rfl
theorem wp_36 : Cond.selects RX4 yX4_outerOf yX4_outerOf ∈ WS := ws_in (List.mem_append_left tables_1 (List.mem_of_getElem? (i := 36) (by decide +kernel))) rfl
theorem v_RX4_94 : JVir RX4 94 yX4_outerOf cX4_outerOf 3 (some .int) 2 4 := ⟨l_RX4_94, w_1088, wp_36, TX4, 8, rfl⟩
theorem w_1103 : Cond.methodLink RX4 106 yX3_together ∈ WS := ws_in (tk_5 (List.mem_of_getElem? (i := 143) rfl)) rfl
theorem w_831 : Cond.code yX3_together cX3_together 2 (some .int) ∈ WS := ws_in (tk_4 (List.mem_of_getElem? (i := 111) rfl)) rfl
theorem l_RX4_106 : JLnk RX4 106 yX3_together cX3_together 2 (some .int) 1 := ⟨w_1103, w_831, w_4, by decide +kernel⟩
theorem w_829 : Cond.instanceMethod yX3_together ∈ WS := ws_in (tk_4 (List.mem_of_getElem? (i := 109) rfl)) rfl
theorem w_830 : Cond.selects RX3 yX3_together yX3_together ∈ WS := ws_in (tk_4 (List.mem_of_getElem? (i := 110) rfl)) rfl
theorem v_RX4_106 : JVir RX4 106 yX3_together cX3_together 2 (some .int) 1 3 := ⟨l_RX4_106, w_829, w_830, TX3, 13, rfl⟩
theorem w_1091 : Cond.methodLink RX4 61 yX4_value ∈ WS := ws_in (tk_5 (List.mem_of_getElem? (i := 131) rfl)) rfl
theorem w_1094 : Cond.code yX4_value cX4_value 10 (some .int) ∈ WS := ws_in (tk_5 (List.mem_of_getElem? (i := 134) rfl)) rfl
theorem l_RX4_61 : JLnk RX4 61 yX4_value cX4_value 10 (some .int) 5 := ⟨w_1091, w_1094, w_10, by decide +kernel⟩
theorem w_1093 : Cond.instanceMethod yX4_value ∈ WS := ws_in (tk_5 (List.mem_of_getElem? (i := 133) rfl)) rfl
theorem wp_37 : Cond.selects RX4 yX4_value yX4_value ∈ WS := ws_in (List.mem_append_left tables_1 (List.mem_of_getElem? (i := 37) (by decide +kernel))) rfl
theorem v_RX4_61 : JVir RX4 61 yX4_value cX4_value 10 (some .int) 5 4 := ⟨l_RX4_61, w_1093, wp_37, TX4, 8, rfl⟩
theorem w_1095 : Cond.methodLink RX4 77 yX4_reckon ∈ WS := ws_in (tk_5 (List.mem_of_getElem? (i := 135) rfl)) rfl
theorem w_1098 : Cond.code yX4_reckon cX4_reckon 11 (some .int) ∈ WS := ws_in (tk_5 (List.mem_of_getElem? (i := 138) rfl)) rfl
theorem l_RX4_77 : JLnk RX4 77 yX4_reckon cX4_reckon 11 (some .int) 5 := ⟨w_1095, w_1098, w_10, by decide +kernel⟩
theorem w_1097 : Cond.instanceMethod yX4_reckon ∈ WS := ws_in (tk_5 (List.mem_of_getElem? (i := 137) rfl)) rfl
theorem wp_38 : Cond.selects RX4 yX4_reckon yX4_reckon ∈ WS := ws_in (List.mem_append_left tables_1 (List.mem_of_getElem? (i := 38) (by decide +kernel))) rfl
theorem v_RX4_77 : JVir RX4 77 yX4_reckon cX4_reckon 11 (some .int) 5 4 := ⟨l_RX4_77, w_1097, wp_38, TX4, 8, rfl⟩
theorem w_404 : Cond.fieldLink RX4 39 "WidowRow$Match" "table" "[J" ∈ WS := ws_in (tk_2 (List.mem_of_getElem? (i := 164) rfl)) rfl
theorem g_RX4_39 : JFld RX4 39 4 2 2 true := ⟨RX4, TX4, 8, _, jc_4, by decide, w_404, rfl, rfl⟩
theorem w_1082 : Cond.methodLink RX4 57 yX4_canLay ∈ WS := ws_in (tk_5 (List.mem_of_getElem? (i := 122) rfl)) rfl
theorem w_1085 : Cond.code yX4_canLay cX4_canLay 5 (some .boolean) ∈ WS := ws_in (tk_5 (List.mem_of_getElem? (i := 125) rfl)) rfl
theorem l_RX4_57 : JLnk RX4 57 yX4_canLay cX4_canLay 5 (some .boolean) 3 := ⟨w_1082, w_1085, w_10, by decide +kernel⟩
theorem w_1084 : Cond.instanceMethod yX4_canLay ∈ WS := ws_in (tk_5 (List.mem_of_getElem? (i := 124) rfl)) rfl
theorem wp_35 : Cond.selects RX4 yX4_canLay yX4_canLay ∈ WS := ws_in (List.mem_append_left tables_1 (List.mem_of_getElem? (i := 35) (by decide +kernel))) rfl
theorem v_RX4_57 : JVir RX4 57 yX4_canLay cX4_canLay 5 (some .boolean) 3 4 := ⟨l_RX4_57, w_1084, wp_35, TX4, 8, rfl⟩
theorem w_1107 : Cond.methodLink RX4 65 yX4_valueBehind ∈ WS := ws_in (tk_5 (List.mem_of_getElem? (i := 147) rfl)) rfl
theorem w_1110 : Cond.code yX4_valueBehind cX4_valueBehind 10 (some .int) ∈ WS := ws_in (tk_5 (List.mem_of_getElem? (i := 150) rfl)) rfl
theorem l_RX4_65 : JLnk RX4 65 yX4_valueBehind cX4_valueBehind 10 (some .int) 6 := ⟨w_1107, w_1110, w_10, by decide +kernel⟩
theorem w_1109 : Cond.instanceMethod yX4_valueBehind ∈ WS := ws_in (tk_5 (List.mem_of_getElem? (i := 149) rfl)) rfl
theorem wp_40 : Cond.selects RX4 yX4_valueBehind yX4_valueBehind ∈ WS := ws_in (List.mem_append_left tables_1 (List.mem_of_getElem? (i := 40) (by decide +kernel))) rfl
theorem v_RX4_65 : JVir RX4 65 yX4_valueBehind cX4_valueBehind 10 (some .int) 6 4 := ⟨l_RX4_65, w_1109, wp_40, TX4, 8, rfl⟩
theorem w_1111 : Cond.methodLink RX4 89 Lib.Math.max.name ∈ WS := ws_in (tk_5 (List.mem_of_getElem? (i := 151) rfl)) rfl
theorem w_1099 : Cond.methodLink RX4 80 yX4_pipsOf ∈ WS := ws_in (tk_5 (List.mem_of_getElem? (i := 139) rfl)) rfl
theorem w_1102 : Cond.code yX4_pipsOf cX4_pipsOf 4 (some .int) ∈ WS := ws_in (tk_5 (List.mem_of_getElem? (i := 142) rfl)) rfl
theorem l_RX4_80 : JLnk RX4 80 yX4_pipsOf cX4_pipsOf 4 (some .int) 1 := ⟨w_1099, w_1102, w_10, by decide +kernel⟩
theorem w_1101 : Cond.instanceMethod yX4_pipsOf ∈ WS := ws_in (tk_5 (List.mem_of_getElem? (i := 141) rfl)) rfl
theorem wp_39 : Cond.selects RX4 yX4_pipsOf yX4_pipsOf ∈ WS := ws_in (List.mem_append_left tables_1 (List.mem_of_getElem? (i := 39) (by decide +kernel))) rfl
theorem v_RX4_80 : JVir RX4 80 yX4_pipsOf cX4_pipsOf 4 (some .int) 1 4 := ⟨l_RX4_80, w_1101, wp_39, TX4, 8, rfl⟩
theorem w_1104 : Cond.methodLink RX4 83 yJ6_compare_7cf53 ∈ WS := ws_in (tk_5 (List.mem_of_getElem? (i := 144) rfl)) rfl
theorem w_1106 : Cond.code yJ6_compare_7cf53 cJ6_compare_7cf53 2 (some .int) ∈ WS := ws_in (tk_5 (List.mem_of_getElem? (i := 146) rfl)) rfl
theorem l_RX4_83 : JLnk RX4 83 yJ6_compare_7cf53 cJ6_compare_7cf53 2 (some .int) 2 := ⟨w_1104, w_1106, w_26, by decide +kernel⟩
theorem w_1105 : Cond.static yJ6_compare_7cf53 ∈ WS := ws_in (tk_5 (List.mem_of_getElem? (i := 145) rfl)) rfl
theorem s_RX4_83 : JSta RX4 83 yJ6_compare_7cf53 cJ6_compare_7cf53 2 (some .int) 2 := ⟨l_RX4_83, w_1105⟩
theorem w_1075 : Cond.methodLink RX4 43 yX4_gather ∈ WS := ws_in (tk_5 (List.mem_of_getElem? (i := 115) rfl)) rfl
theorem w_1078 : Cond.code yX4_gather cX4_gather 4 (some .boolean) ∈ WS := ws_in (tk_5 (List.mem_of_getElem? (i := 118) rfl)) rfl
theorem l_RX4_43 : JLnk RX4 43 yX4_gather cX4_gather 4 (some .boolean) 2 := ⟨w_1075, w_1078, w_10, by decide +kernel⟩
theorem w_1077 : Cond.instanceMethod yX4_gather ∈ WS := ws_in (tk_5 (List.mem_of_getElem? (i := 117) rfl)) rfl
theorem wp_34 : Cond.selects RX4 yX4_gather yX4_gather ∈ WS := ws_in (List.mem_append_left tables_1 (List.mem_of_getElem? (i := 34) (by decide +kernel))) rfl
theorem v_RX4_43 : JVir RX4 43 yX4_gather cX4_gather 4 (some .boolean) 2 4 := ⟨l_RX4_43, w_1077, wp_34, TX4, 8, rfl⟩
theorem w_409 : Cond.fieldLink RX4 25 "WidowRow$Match" "best" "I" ∈ WS := ws_in (tk_2 (List.mem_of_getElem? (i := 169) rfl)) rfl
theorem g_RX4_25 : JFld RX4 25 4 7 0 false := ⟨RX4, TX4, 8, _, jc_4, by decide, w_409, rfl, rfl⟩
theorem w_1080 : Cond.methodLink RX4 47 yX7_outer ∈ WS := ws_in (tk_5 (List.mem_of_getElem? (i := 120) rfl)) rfl
theorem l_RX4_47 : JLnk RX4 47 yX7_outer cX7_outer 2 (some .int) 1 := ⟨w_1080, w_857, w_5, by decide +kernel⟩
theorem v_RX4_47 : JVir RX4 47 yX7_outer cX7_outer 2 (some .int) 1 7 := ⟨l_RX4_47, w_855, w_856, TX7, 8, rfl⟩
theorem w_1081 : Cond.methodLink RX4 51 yJ7_fill_bad5a ∈ WS := ws_in (tk_5 (List.mem_of_getElem? (i := 121) rfl)) rfl
theorem l_RX4_51 : JLnk RX4 51 yJ7_fill_bad5a cJ7_fill_bad5a 6 none 4 := ⟨w_1081, w_981, w_20, by decide +kernel⟩
theorem s_RX4_51 : JSta RX4 51 yJ7_fill_bad5a cJ7_fill_bad5a 6 none 4 := ⟨l_RX4_51, w_980⟩
theorem w_1071 : Cond.methodLink RX11 273 yX4_judge ∈ WS := ws_in (tk_5 (List.mem_of_getElem? (i := 111) rfl)) rfl
theorem w_1074 : Cond.code yX4_judge cX4_judge 9 (some .int) ∈ WS := ws_in (tk_5 (List.mem_of_getElem? (i := 114) rfl)) rfl
theorem l_RX11_273 : JLnk RX11 273 yX4_judge cX4_judge 9 (some .int) 2 := ⟨w_1071, w_1074, w_10, by decide +kernel⟩
theorem w_1072 : Cond.instanceMethod yX4_judge ∈ WS := ws_in (tk_5 (List.mem_of_getElem? (i := 112) rfl)) rfl
theorem w_1073 : Cond.selects RX4 yX4_judge yX4_judge ∈ WS := ws_in (tk_5 (List.mem_of_getElem? (i := 113) rfl)) rfl
theorem v_RX11_273 : JVir RX11 273 yX4_judge cX4_judge 9 (some .int) 2 4 := ⟨l_RX11_273, w_1072, w_1073, TX4, 8, rfl⟩
theorem w_504 : Cond.fieldLink RX11 85 "WidowRow" "round" "LWidowRow$Round;" ∈ WS := ws_in (tk_3 (List.mem_of_getElem? (i := 24) rfl)) rfl
theorem g_RX11_85 : JFld RX11 85 11 13 2 true := ⟨RX11, TX11, 19, _, jc_11, by decide, w_504, rfl, rfl⟩
theorem w_368 : Cond.fieldLink RX11 271 "WidowRow$Round" "length" "I" ∈ WS := ws_in (tk_2 (List.mem_of_getElem? (i := 128) rfl)) rfl
theorem g_RX11_271 : JFld RX11 271 6 12 0 false := ⟨RX6, TX6, 13, _, jc_6, by decide, w_368, rfl, rfl⟩
theorem w_366 : Cond.fieldLink RX11 272 "WidowRow$Round" "path" "[I" ∈ WS := ws_in (tk_2 (List.mem_of_getElem? (i := 126) rfl)) rfl
theorem g_RX11_272 : JFld RX11 272 6 11 2 true := ⟨RX6, TX6, 13, _, jc_6, by decide, w_366, rfl, rfl⟩
theorem w_359 : Cond.fieldLink RX6 19 "WidowRow$Round" "handOf" "[I" ∈ WS := ws_in (tk_2 (List.mem_of_getElem? (i := 119) rfl)) rfl
theorem g_RX6_19 : JFld RX6 19 6 5 2 true := ⟨RX6, TX6, 13, _, jc_6, by decide, w_359, rfl, rfl⟩
theorem w_1034 : Cond.methodLink RX6 91 yJ7_fill_53178 ∈ WS := ws_in (tk_5 (List.mem_of_getElem? (i := 74) rfl)) rfl
theorem l_RX6_91 : JLnk RX6 91 yJ7_fill_53178 cJ7_fill_53178 4 none 2 := ⟨w_1034, w_709, w_20, by decide +kernel⟩
theorem s_RX6_91 : JSta RX6 91 yJ7_fill_53178 cJ7_fill_53178 4 none 2 := ⟨l_RX6_91, w_708⟩
theorem w_358 : Cond.fieldLink RX6 15 "WidowRow$Round" "size" "I" ∈ WS := ws_in (tk_2 (List.mem_of_getElem? (i := 118) rfl)) rfl
theorem g_RX6_15 : JFld RX6 15 6 4 0 false := ⟨RX6, TX6, 13, _, jc_6, by decide, w_358, rfl, rfl⟩
theorem w_360 : Cond.fieldLink RX6 22 "WidowRow$Round" "outside" "[I" ∈ WS := ws_in (tk_2 (List.mem_of_getElem? (i := 120) rfl)) rfl
theorem g_RX6_22 : JFld RX6 22 6 6 2 true := ⟨RX6, TX6, 13, _, jc_6, by decide, w_360, rfl, rfl⟩
theorem w_354 : Cond.fieldLink RX6 44 "WidowRow$Round" "row" "LWidowRow$Row;" ∈ WS := ws_in (tk_2 (List.mem_of_getElem? (i := 114) rfl)) rfl
theorem g_RX6_44 : JFld RX6 44 6 0 2 true := ⟨RX6, TX6, 13, _, jc_6, by decide, w_354, rfl, rfl⟩
theorem w_1035 : Cond.methodLink RX6 105 yX7_outer ∈ WS := ws_in (tk_5 (List.mem_of_getElem? (i := 75) rfl)) rfl
theorem l_RX6_105 : JLnk RX6 105 yX7_outer cX7_outer 2 (some .int) 1 := ⟨w_1035, w_857, w_5, by decide +kernel⟩
theorem v_RX6_105 : JVir RX6 105 yX7_outer cX7_outer 2 (some .int) 1 7 := ⟨l_RX6_105, w_855, w_856, TX7, 8, rfl⟩
theorem w_361 : Cond.fieldLink RX6 25 "WidowRow$Round" "layer" "[I" ∈ WS := ws_in (tk_2 (List.mem_of_getElem? (i := 121) rfl)) rfl
theorem g_RX6_25 : JFld RX6 25 6 7 2 true := ⟨RX6, TX6, 13, _, jc_6, by decide, w_361, rfl, rfl⟩
theorem w_1036 : Cond.methodLink RX6 108 yX7_layerAt ∈ WS := ws_in (tk_5 (List.mem_of_getElem? (i := 76) rfl)) rfl
theorem l_RX6_108 : JLnk RX6 108 yX7_layerAt cX7_layerAt 2 (some .int) 1 := ⟨w_1036, w_881, w_5, by decide +kernel⟩
theorem v_RX6_108 : JVir RX6 108 yX7_layerAt cX7_layerAt 2 (some .int) 1 7 := ⟨l_RX6_108, w_879, w_880, TX7, 8, rfl⟩
theorem w_357 : Cond.fieldLink RX6 11 "WidowRow$Round" "hand" "[I" ∈ WS := ws_in (tk_2 (List.mem_of_getElem? (i := 117) rfl)) rfl
theorem g_RX6_11 : JFld RX6 11 6 3 2 true := ⟨RX6, TX6, 13, _, jc_6, by decide, w_357, rfl, rfl⟩
theorem w_206 : Cond.fieldLink RX6 94 "WidowRow$Row" "owner" "[I" ∈ WS := ws_in (tk_1 (List.mem_of_getElem? (i := 206) rfl)) rfl
theorem g_RX6_94 : JFld RX6 94 7 1 2 true := ⟨RX7, TX7, 8, _, jc_7, by decide, w_206, rfl, rfl⟩
theorem w_355 : Cond.fieldLink RX6 54 "WidowRow$Round" "island" "LWidowRow$Island;" ∈ WS := ws_in (tk_2 (List.mem_of_getElem? (i := 115) rfl)) rfl
theorem g_RX6_54 : JFld RX6 54 6 1 2 true := ⟨RX6, TX6, 13, _, jc_6, by decide, w_355, rfl, rfl⟩
theorem w_144 : Cond.fieldLink RX6 97 "WidowRow$Island" "one" "[I" ∈ WS := ws_in (tk_1 (List.mem_of_getElem? (i := 144) rfl)) rfl
theorem g_RX6_97 : JFld RX6 97 3 8 2 true := ⟨RX3, TX3, 13, _, jc_3, by decide, w_144, rfl, rfl⟩
theorem w_152 : Cond.fieldLink RX6 102 "WidowRow$Island" "two" "[I" ∈ WS := ws_in (tk_1 (List.mem_of_getElem? (i := 152) rfl)) rfl
theorem g_RX6_102 : JFld RX6 102 3 9 2 true := ⟨RX3, TX3, 13, _, jc_3, by decide, w_152, rfl, rfl⟩
theorem w_356 : Cond.fieldLink RX6 55 "WidowRow$Round" "table" "[J" ∈ WS := ws_in (tk_2 (List.mem_of_getElem? (i := 116) rfl)) rfl
theorem g_RX6_55 : JFld RX6 55 6 2 2 true := ⟨RX6, TX6, 13, _, jc_6, by decide, w_356, rfl, rfl⟩
theorem w_1061 : Cond.methodLink RX6 123 yX3_fit ∈ WS := ws_in (tk_5 (List.mem_of_getElem? (i := 101) rfl)) rfl
theorem l_RX6_123 : JLnk RX6 123 yX3_fit cX3_fit 3 (some .boolean) 2 := ⟨w_1061, w_842, w_4, by decide +kernel⟩
theorem v_RX6_123 : JVir RX6 123 yX3_fit cX3_fit 3 (some .boolean) 2 3 := ⟨l_RX6_123, w_840, w_841, TX3, 13, rfl⟩
theorem w_1037 : Cond.methodLink RX6 67 yX6_missing ∈ WS := ws_in (tk_5 (List.mem_of_getElem? (i := 77) rfl)) rfl
theorem w_1040 : Cond.code yX6_missing cX6_missing 4 (some .int) ∈ WS := ws_in (tk_5 (List.mem_of_getElem? (i := 80) rfl)) rfl
theorem w_9 : Cond.initialized RX6 ∈ WS := ws_in (tk_1 (List.mem_of_getElem? (i := 9) rfl)) rfl
theorem l_RX6_67 : JLnk RX6 67 yX6_missing cX6_missing 4 (some .int) 1 := ⟨w_1037, w_1040, w_9, by decide +kernel⟩
theorem w_1039 : Cond.instanceMethod yX6_missing ∈ WS := ws_in (tk_5 (List.mem_of_getElem? (i := 79) rfl)) rfl
theorem wp_29 : Cond.selects RX6 yX6_missing yX6_missing ∈ WS := ws_in (List.mem_append_left tables_1 (List.mem_of_getElem? (i := 29) (by decide +kernel))) rfl
theorem v_RX6_67 : JVir RX6 67 yX6_missing cX6_missing 4 (some .int) 1 6 := ⟨l_RX6_67, w_1039, wp_29, TX6, 13, rfl⟩
theorem w_363 : Cond.fieldLink RX6 31 "WidowRow$Round" "most" "I" ∈ WS := ws_in (tk_2 (List.mem_of_getElem? (i := 123) rfl)) rfl
theorem g_RX6_31 : JFld RX6 31 6 9 0 false := ⟨RX6, TX6, 13, _, jc_6, by decide, w_363, rfl, rfl⟩
theorem w_364 : Cond.fieldLink RX6 34 "WidowRow$Round" "cut" "Z" ∈ WS := ws_in (tk_2 (List.mem_of_getElem? (i := 124) rfl)) rfl
theorem g_RX6_34 : JFld RX6 34 6 10 3 false := ⟨RX6, TX6, 13, _, jc_6, by decide, w_364, rfl, rfl⟩
theorem w_1041 : Cond.methodLink RX6 71 yX6_placeOf ∈ WS := ws_in (tk_5 (List.mem_of_getElem? (i := 81) rfl)) rfl
theorem w_1043 : Cond.code yX6_placeOf cX6_placeOf 3 (some .int) ∈ WS := ws_in (tk_5 (List.mem_of_getElem? (i := 83) rfl)) rfl
theorem l_RX6_71 : JLnk RX6 71 yX6_placeOf cX6_placeOf 3 (some .int) 3 := ⟨w_1041, w_1043, w_9, by decide +kernel⟩
theorem w_1042 : Cond.static yX6_placeOf ∈ WS := ws_in (tk_5 (List.mem_of_getElem? (i := 82) rfl)) rfl
theorem s_RX6_71 : JSta RX6 71 yX6_placeOf cX6_placeOf 3 (some .int) 3 := ⟨l_RX6_71, w_1042⟩
theorem w_1049 : Cond.methodLink RX6 111 yX6_enter ∈ WS := ws_in (tk_5 (List.mem_of_getElem? (i := 89) rfl)) rfl
theorem w_1052 : Cond.code yX6_enter cX6_enter 5 (some .boolean) ∈ WS := ws_in (tk_5 (List.mem_of_getElem? (i := 92) rfl)) rfl
theorem l_RX6_111 : JLnk RX6 111 yX6_enter cX6_enter 5 (some .boolean) 1 := ⟨w_1049, w_1052, w_9, by decide +kernel⟩
theorem w_1051 : Cond.instanceMethod yX6_enter ∈ WS := ws_in (tk_5 (List.mem_of_getElem? (i := 91) rfl)) rfl
theorem wp_31 : Cond.selects RX6 yX6_enter yX6_enter ∈ WS := ws_in (List.mem_append_left tables_1 (List.mem_of_getElem? (i := 31) (by decide +kernel))) rfl
theorem v_RX6_111 : JVir RX6 111 yX6_enter cX6_enter 5 (some .boolean) 1 6 := ⟨l_RX6_111, w_1051, wp_31, TX6, 13, rfl⟩
theorem w_362 : Cond.fieldLink RX6 28 "WidowRow$Round" "trail" "[I" ∈ WS := ws_in (tk_2 (List.mem_of_getElem? (i := 122) rfl)) rfl
theorem g_RX6_28 : JFld RX6 28 6 8 2 true := ⟨RX6, TX6, 13, _, jc_6, by decide, w_362, rfl, rfl⟩
theorem w_1053 : Cond.methodLink RX6 115 yX6_searchBehind ∈ WS := ws_in (tk_5 (List.mem_of_getElem? (i := 93) rfl)) rfl
theorem w_1056 : Cond.code yX6_searchBehind cX6_searchBehind 9 (some .boolean) ∈ WS := ws_in (tk_5 (List.mem_of_getElem? (i := 96) rfl)) rfl
theorem l_RX6_115 : JLnk RX6 115 yX6_searchBehind cX6_searchBehind 9 (some .boolean) 5 := ⟨w_1053, w_1056, w_9, by decide +kernel⟩
theorem w_1055 : Cond.instanceMethod yX6_searchBehind ∈ WS := ws_in (tk_5 (List.mem_of_getElem? (i := 95) rfl)) rfl
theorem wp_32 : Cond.selects RX6 yX6_searchBehind yX6_searchBehind ∈ WS := ws_in (List.mem_append_left tables_1 (List.mem_of_getElem? (i := 32) (by decide +kernel))) rfl
theorem v_RX6_115 : JVir RX6 115 yX6_searchBehind cX6_searchBehind 9 (some .boolean) 5 6 := ⟨l_RX6_115, w_1055, wp_32, TX6, 13, rfl⟩
theorem w_1057 : Cond.methodLink RX6 119 yX6_laidOn ∈ WS := ws_in (tk_5 (List.mem_of_getElem? (i := 97) rfl)) rfl
theorem w_1060 : Cond.code yX6_laidOn cX6_laidOn 3 (some .int) ∈ WS := ws_in (tk_5 (List.mem_of_getElem? (i := 100) rfl)) rfl
theorem l_RX6_119 : JLnk RX6 119 yX6_laidOn cX6_laidOn 3 (some .int) 2 := ⟨w_1057, w_1060, w_9, by decide +kernel⟩
theorem w_1059 : Cond.instanceMethod yX6_laidOn ∈ WS := ws_in (tk_5 (List.mem_of_getElem? (i := 99) rfl)) rfl
theorem wp_33 : Cond.selects RX6 yX6_laidOn yX6_laidOn ∈ WS := ws_in (List.mem_append_left tables_1 (List.mem_of_getElem? (i := 33) (by decide +kernel))) rfl
theorem v_RX6_119 : JVir RX6 119 yX6_laidOn cX6_laidOn 3 (some .int) 2 6 := ⟨l_RX6_119, w_1059, wp_33, TX6, 13, rfl⟩
theorem w_1045 : Cond.methodLink RX6 81 yX6_search ∈ WS := ws_in (tk_5 (List.mem_of_getElem? (i := 85) rfl)) rfl
theorem w_1048 : Cond.code yX6_search cX6_search 7 (some .boolean) ∈ WS := ws_in (tk_5 (List.mem_of_getElem? (i := 88) rfl)) rfl
theorem l_RX6_81 : JLnk RX6 81 yX6_search cX6_search 7 (some .boolean) 4 := ⟨w_1045, w_1048, w_9, by decide +kernel⟩
theorem w_1047 : Cond.instanceMethod yX6_search ∈ WS := ws_in (tk_5 (List.mem_of_getElem? (i := 87) rfl)) rfl
theorem wp_30 : Cond.selects RX6 yX6_search yX6_search ∈ WS := ws_in (List.mem_append_left tables_1 (List.mem_of_getElem? (i := 30) (by decide +kernel))) rfl
theorem v_RX6_81 : JVir RX6 81 yX6_search cX6_search 7 (some .boolean) 4 6 := ⟨l_RX6_81, w_1047, wp_30, TX6, 13, rfl⟩
theorem w_1029 : Cond.methodLink RX6 59 yX7_gather ∈ WS := ws_in (tk_5 (List.mem_of_getElem? (i := 69) rfl)) rfl
theorem l_RX6_59 : JLnk RX6 59 yX7_gather cX7_gather 4 (some .int) 1 := ⟨w_1029, w_973, w_5, by decide +kernel⟩
theorem v_RX6_59 : JVir RX6 59 yX7_gather cX7_gather 4 (some .int) 1 7 := ⟨l_RX6_59, w_971, w_972, TX7, 8, rfl⟩
theorem w_1030 : Cond.methodLink RX6 63 yX6_prepare ∈ WS := ws_in (tk_5 (List.mem_of_getElem? (i := 70) rfl)) rfl
theorem w_1033 : Cond.code yX6_prepare cX6_prepare 3 none ∈ WS := ws_in (tk_5 (List.mem_of_getElem? (i := 73) rfl)) rfl
theorem l_RX6_63 : JLnk RX6 63 yX6_prepare cX6_prepare 3 none 0 := ⟨w_1030, w_1033, w_9, by decide +kernel⟩
theorem w_1032 : Cond.instanceMethod yX6_prepare ∈ WS := ws_in (tk_5 (List.mem_of_getElem? (i := 72) rfl)) rfl
theorem wp_28 : Cond.selects RX6 yX6_prepare yX6_prepare ∈ WS := ws_in (List.mem_append_left tables_1 (List.mem_of_getElem? (i := 28) (by decide +kernel))) rfl
theorem v_RX6_63 : JVir RX6 63 yX6_prepare cX6_prepare 3 none 0 6 := ⟨l_RX6_63, w_1032, wp_28, TX6, 13, rfl⟩
theorem w_216 : Cond.fieldLink RX6 66 "WidowRow$Row" "length" "I" ∈ WS := ws_in (tk_1 (List.mem_of_getElem? (i := 216) rfl)) rfl
theorem g_RX6_66 : JFld RX6 66 7 4 0 false := ⟨RX7, TX7, 8, _, jc_7, by decide, w_216, rfl, rfl⟩
theorem w_1044 : Cond.methodLink RX6 75 yJ7_fill_bad5a ∈ WS := ws_in (tk_5 (List.mem_of_getElem? (i := 84) rfl)) rfl
theorem l_RX6_75 : JLnk RX6 75 yJ7_fill_bad5a cJ7_fill_bad5a 6 none 4 := ⟨w_1044, w_981, w_20, by decide +kernel⟩
theorem s_RX6_75 : JSta RX6 75 yJ7_fill_bad5a cJ7_fill_bad5a 6 none 4 := ⟨l_RX6_75, w_980⟩
theorem w_367 : Cond.fieldLink RX6 41 "WidowRow$Round" "length" "I" ∈ WS := ws_in (tk_2 (List.mem_of_getElem? (i := 127) rfl)) rfl
theorem g_RX6_41 : JFld RX6 41 6 12 0 false := ⟨RX6, TX6, 13, _, jc_6, by decide, w_367, rfl, rfl⟩
theorem w_365 : Cond.fieldLink RX6 38 "WidowRow$Round" "path" "[I" ∈ WS := ws_in (tk_2 (List.mem_of_getElem? (i := 125) rfl)) rfl
theorem g_RX6_38 : JFld RX6 38 6 11 2 true := ⟨RX6, TX6, 13, _, jc_6, by decide, w_365, rfl, rfl⟩
theorem w_1062 : Cond.methodLink RX6 85 arraycopyName ∈ WS := ws_in (tk_5 (List.mem_of_getElem? (i := 102) rfl)) rfl
theorem w_1025 : Cond.methodLink RX11 268 yX6_findFewest ∈ WS := ws_in (tk_5 (List.mem_of_getElem? (i := 65) rfl)) rfl
theorem w_1028 : Cond.code yX6_findFewest cX6_findFewest 3 (some .int) ∈ WS := ws_in (tk_5 (List.mem_of_getElem? (i := 68) rfl)) rfl
theorem l_RX11_268 : JLnk RX11 268 yX6_findFewest cX6_findFewest 3 (some .int) 0 := ⟨w_1025, w_1028, w_9, by decide +kernel⟩
theorem w_1026 : Cond.instanceMethod yX6_findFewest ∈ WS := ws_in (tk_5 (List.mem_of_getElem? (i := 66) rfl)) rfl
theorem w_1027 : Cond.selects RX6 yX6_findFewest yX6_findFewest ∈ WS := ws_in (tk_5 (List.mem_of_getElem? (i := 67) rfl)) rfl
theorem v_RX11_268 : JVir RX11 268 yX6_findFewest cX6_findFewest 3 (some .int) 0 6 := ⟨l_RX11_268, w_1026, w_1027, TX6, 13, rfl⟩
theorem w_332 : Cond.fieldLink RX11 264 "WidowRow$Chain" "length" "I" ∈ WS := ws_in (tk_2 (List.mem_of_getElem? (i := 92) rfl)) rfl
theorem g_RX11_264 : JFld RX11 264 0 6 0 false := ⟨RX0, TX0, 7, _, jc_0, by decide, w_332, rfl, rfl⟩
theorem w_330 : Cond.fieldLink RX11 265 "WidowRow$Chain" "path" "[I" ∈ WS := ws_in (tk_2 (List.mem_of_getElem? (i := 90) rfl)) rfl
theorem g_RX11_265 : JFld RX11 265 0 5 2 true := ⟨RX0, TX0, 7, _, jc_0, by decide, w_330, rfl, rfl⟩
theorem w_331 : Cond.fieldLink RX0 22 "WidowRow$Chain" "length" "I" ∈ WS := ws_in (tk_2 (List.mem_of_getElem? (i := 91) rfl)) rfl
theorem g_RX0_22 : JFld RX0 22 0 6 0 false := ⟨RX0, TX0, 7, _, jc_0, by decide, w_331, rfl, rfl⟩
theorem w_1004 : Cond.methodLink RX0 95 yX0_usefulBy ∈ WS := ws_in (tk_5 (List.mem_of_getElem? (i := 44) rfl)) rfl
theorem w_1007 : Cond.code yX0_usefulBy cX0_usefulBy 7 (some .long) ∈ WS := ws_in (tk_5 (List.mem_of_getElem? (i := 47) rfl)) rfl
theorem l_RX0_95 : JLnk RX0 95 yX0_usefulBy cX0_usefulBy 7 (some .long) 2 := ⟨w_1004, w_1007, w_8, by decide +kernel⟩
theorem w_1006 : Cond.instanceMethod yX0_usefulBy ∈ WS := ws_in (tk_5 (List.mem_of_getElem? (i := 46) rfl)) rfl
theorem wp_25 : Cond.selects RX0 yX0_usefulBy yX0_usefulBy ∈ WS := ws_in (List.mem_append_left tables_1 (List.mem_of_getElem? (i := 25) (by decide +kernel))) rfl
theorem v_RX0_95 : JVir RX0 95 yX0_usefulBy cX0_usefulBy 7 (some .long) 2 0 := ⟨l_RX0_95, w_1006, wp_25, TX0, 7, rfl⟩
theorem w_1016 : Cond.methodLink RX0 102 yX3_together ∈ WS := ws_in (tk_5 (List.mem_of_getElem? (i := 56) rfl)) rfl
theorem l_RX0_102 : JLnk RX0 102 yX3_together cX3_together 2 (some .int) 1 := ⟨w_1016, w_831, w_4, by decide +kernel⟩
theorem v_RX0_102 : JVir RX0 102 yX3_together cX3_together 2 (some .int) 1 3 := ⟨l_RX0_102, w_829, w_830, TX3, 13, rfl⟩
theorem w_1012 : Cond.methodLink RX0 99 yX0_firstUseful ∈ WS := ws_in (tk_5 (List.mem_of_getElem? (i := 52) rfl)) rfl
theorem w_1015 : Cond.code yX0_firstUseful cX0_firstUseful 7 (some .int) ∈ WS := ws_in (tk_5 (List.mem_of_getElem? (i := 55) rfl)) rfl
theorem l_RX0_99 : JLnk RX0 99 yX0_firstUseful cX0_firstUseful 7 (some .int) 2 := ⟨w_1012, w_1015, w_8, by decide +kernel⟩
theorem w_1014 : Cond.instanceMethod yX0_firstUseful ∈ WS := ws_in (tk_5 (List.mem_of_getElem? (i := 54) rfl)) rfl
theorem wp_27 : Cond.selects RX0 yX0_firstUseful yX0_firstUseful ∈ WS := ws_in (List.mem_append_left tables_1 (List.mem_of_getElem? (i := 27) (by decide +kernel))) rfl
theorem v_RX0_99 : JVir RX0 99 yX0_firstUseful cX0_firstUseful 7 (some .int) 2 0 := ⟨l_RX0_99, w_1014, wp_27, TX0, 7, rfl⟩
theorem w_329 : Cond.fieldLink RX0 19 "WidowRow$Chain" "path" "[I" ∈ WS := ws_in (tk_2 (List.mem_of_getElem? (i := 89) rfl)) rfl
theorem g_RX0_19 : JFld RX0 19 0 5 2 true := ⟨RX0, TX0, 7, _, jc_0, by decide, w_329, rfl, rfl⟩
theorem w_215 : Cond.fieldLink RX0 44 "WidowRow$Row" "length" "I" ∈ WS := ws_in (tk_1 (List.mem_of_getElem? (i := 215) rfl)) rfl
theorem g_RX0_44 : JFld RX0 44 7 4 0 false := ⟨RX7, TX7, 8, _, jc_7, by decide, w_215, rfl, rfl⟩
theorem w_1000 : Cond.methodLink RX0 64 yX0_markUseful ∈ WS := ws_in (tk_5 (List.mem_of_getElem? (i := 40) rfl)) rfl
theorem w_1003 : Cond.code yX0_markUseful cX0_markUseful 4 none ∈ WS := ws_in (tk_5 (List.mem_of_getElem? (i := 43) rfl)) rfl
theorem l_RX0_64 : JLnk RX0 64 yX0_markUseful cX0_markUseful 4 none 0 := ⟨w_1000, w_1003, w_8, by decide +kernel⟩
theorem w_1002 : Cond.instanceMethod yX0_markUseful ∈ WS := ws_in (tk_5 (List.mem_of_getElem? (i := 42) rfl)) rfl
theorem wp_24 : Cond.selects RX0 yX0_markUseful yX0_markUseful ∈ WS := ws_in (List.mem_append_left tables_1 (List.mem_of_getElem? (i := 24) (by decide +kernel))) rfl
theorem v_RX0_64 : JVir RX0 64 yX0_markUseful cX0_markUseful 4 none 0 0 := ⟨l_RX0_64, w_1002, wp_24, TX0, 7, rfl⟩
theorem w_1008 : Cond.methodLink RX0 67 yX0_walk ∈ WS := ws_in (tk_5 (List.mem_of_getElem? (i := 48) rfl)) rfl
theorem w_1011 : Cond.code yX0_walk cX0_walk 7 none ∈ WS := ws_in (tk_5 (List.mem_of_getElem? (i := 51) rfl)) rfl
theorem l_RX0_67 : JLnk RX0 67 yX0_walk cX0_walk 7 none 1 := ⟨w_1008, w_1011, w_8, by decide +kernel⟩
theorem w_1010 : Cond.instanceMethod yX0_walk ∈ WS := ws_in (tk_5 (List.mem_of_getElem? (i := 50) rfl)) rfl
theorem wp_26 : Cond.selects RX0 yX0_walk yX0_walk ∈ WS := ws_in (List.mem_append_left tables_1 (List.mem_of_getElem? (i := 26) (by decide +kernel))) rfl
theorem v_RX0_67 : JVir RX0 67 yX0_walk cX0_walk 7 none 1 0 := ⟨l_RX0_67, w_1010, wp_26, TX0, 7, rfl⟩
theorem w_999 : Cond.methodLink RX0 58 Lib.Math.max.name ∈ WS := ws_in (tk_5 (List.mem_of_getElem? (i := 39) rfl)) rfl
theorem w_974 : Cond.methodLink RX0 45 yX7_outer ∈ WS := ws_in (tk_5 (List.mem_of_getElem? (i := 14) rfl)) rfl
theorem l_RX0_45 : JLnk RX0 45 yX7_outer cX7_outer 2 (some .int) 1 := ⟨w_974, w_857, w_5, by decide +kernel⟩
theorem v_RX0_45 : JVir RX0 45 yX7_outer cX7_outer 2 (some .int) 1 7 := ⟨l_RX0_45, w_855, w_856, TX7, 8, rfl⟩
theorem w_966 : Cond.methodLink RX11 260 yX0_findLongest ∈ WS := ws_in (tk_5 (List.mem_of_getElem? (i := 6) rfl)) rfl
theorem w_969 : Cond.code yX0_findLongest cX0_findLongest 3 (some .int) ∈ WS := ws_in (tk_5 (List.mem_of_getElem? (i := 9) rfl)) rfl
theorem l_RX11_260 : JLnk RX11 260 yX0_findLongest cX0_findLongest 3 (some .int) 0 := ⟨w_966, w_969, w_8, by decide +kernel⟩
theorem w_967 : Cond.instanceMethod yX0_findLongest ∈ WS := ws_in (tk_5 (List.mem_of_getElem? (i := 7) rfl)) rfl
theorem w_968 : Cond.selects RX0 yX0_findLongest yX0_findLongest ∈ WS := ws_in (tk_5 (List.mem_of_getElem? (i := 8) rfl)) rfl
theorem v_RX11_260 : JVir RX11 260 yX0_findLongest cX0_findLongest 3 (some .int) 0 0 := ⟨l_RX11_260, w_967, w_968, TX0, 7, rfl⟩
theorem w_952 : Cond.methodLink RX11 251 yX7_hasFor ∈ WS := ws_in (tk_4 (List.mem_of_getElem? (i := 232) rfl)) rfl
theorem w_955 : Cond.code yX7_hasFor cX7_hasFor 4 (some .boolean) ∈ WS := ws_in (tk_4 (List.mem_of_getElem? (i := 235) rfl)) rfl
theorem l_RX11_251 : JLnk RX11 251 yX7_hasFor cX7_hasFor 4 (some .boolean) 2 := ⟨w_952, w_955, w_5, by decide +kernel⟩
theorem w_953 : Cond.instanceMethod yX7_hasFor ∈ WS := ws_in (tk_4 (List.mem_of_getElem? (i := 233) rfl)) rfl
theorem w_954 : Cond.selects RX7 yX7_hasFor yX7_hasFor ∈ WS := ws_in (tk_4 (List.mem_of_getElem? (i := 234) rfl)) rfl
theorem v_RX11_251 : JVir RX11 251 yX7_hasFor cX7_hasFor 4 (some .boolean) 2 7 := ⟨l_RX11_251, w_953, w_954, TX7, 8, rfl⟩
theorem w_957 : Cond.methodLink RX11 254 yX7_layerAt ∈ WS := ws_in (tk_4 (List.mem_of_getElem? (i := 237) rfl)) rfl
theorem l_RX11_254 : JLnk RX11 254 yX7_layerAt cX7_layerAt 2 (some .int) 1 := ⟨w_957, w_881, w_5, by decide +kernel⟩
theorem v_RX11_254 : JVir RX11 254 yX7_layerAt cX7_layerAt 2 (some .int) 1 7 := ⟨l_RX11_254, w_879, w_880, TX7, 8, rfl⟩
theorem w_940 : Cond.methodLink RX11 240 yX7_bequeath ∈ WS := ws_in (tk_4 (List.mem_of_getElem? (i := 220) rfl)) rfl
theorem w_943 : Cond.code yX7_bequeath cX7_bequeath 5 (some .int) ∈ WS := ws_in (tk_4 (List.mem_of_getElem? (i := 223) rfl)) rfl
theorem l_RX11_240 : JLnk RX11 240 yX7_bequeath cX7_bequeath 5 (some .int) 2 := ⟨w_940, w_943, w_5, by decide +kernel⟩
theorem w_941 : Cond.instanceMethod yX7_bequeath ∈ WS := ws_in (tk_4 (List.mem_of_getElem? (i := 221) rfl)) rfl
theorem w_942 : Cond.selects RX7 yX7_bequeath yX7_bequeath ∈ WS := ws_in (tk_4 (List.mem_of_getElem? (i := 222) rfl)) rfl
theorem v_RX11_240 : JVir RX11 240 yX7_bequeath cX7_bequeath 5 (some .int) 2 7 := ⟨l_RX11_240, w_941, w_942, TX7, 8, rfl⟩
theorem w_931 : Cond.methodLink RX11 234 yX3_together ∈ WS := ws_in (tk_4 (List.mem_of_getElem? (i := 211) rfl)) rfl
theorem l_RX11_234 : JLnk RX11 234 yX3_together cX3_together 2 (some .int) 1 := ⟨w_931, w_831, w_4, by decide +kernel⟩
theorem v_RX11_234 : JVir RX11 234 yX3_together cX3_together 2 (some .int) 1 3 := ⟨l_RX11_234, w_829, w_830, TX3, 13, rfl⟩
theorem w_923 : Cond.methodLink RX11 231 yX7_turnLast ∈ WS := ws_in (tk_4 (List.mem_of_getElem? (i := 203) rfl)) rfl
theorem l_RX11_231 : JLnk RX11 231 yX7_turnLast cX7_turnLast 2 none 0 := ⟨w_923, w_926, w_5, by decide +kernel⟩
theorem v_RX11_231 : JVir RX11 231 yX7_turnLast cX7_turnLast 2 none 0 7 := ⟨l_RX11_231, w_924, w_925, TX7, 8, rfl⟩
theorem w_854 : Cond.methodLink RX11 214 yX7_outer ∈ WS := ws_in (tk_4 (List.mem_of_getElem? (i := 134) rfl)) rfl
theorem l_RX11_214 : JLnk RX11 214 yX7_outer cX7_outer 2 (some .int) 1 := ⟨w_854, w_857, w_5, by decide +kernel⟩
theorem v_RX11_214 : JVir RX11 214 yX7_outer cX7_outer 2 (some .int) 1 7 := ⟨l_RX11_214, w_855, w_856, TX7, 8, rfl⟩
theorem w_914 : Cond.methodLink RX11 228 yX7_takeOff ∈ WS := ws_in (tk_4 (List.mem_of_getElem? (i := 194) rfl)) rfl
theorem l_RX11_228 : JLnk RX11 228 yX7_takeOff cX7_takeOff 4 (some .int) 1 := ⟨w_914, w_917, w_5, by decide +kernel⟩
theorem v_RX11_228 : JVir RX11 228 yX7_takeOff cX7_takeOff 4 (some .int) 1 7 := ⟨l_RX11_228, w_915, w_916, TX7, 8, rfl⟩
theorem w_874 : Cond.methodLink RX11 217 yX7_refusal ∈ WS := ws_in (tk_4 (List.mem_of_getElem? (i := 154) rfl)) rfl
theorem l_RX11_217 : JLnk RX11 217 yX7_refusal cX7_refusal 4 (some .int) 3 := ⟨w_874, w_877, w_5, by decide +kernel⟩
theorem v_RX11_217 : JVir RX11 217 yX7_refusal cX7_refusal 4 (some .int) 3 7 := ⟨l_RX11_217, w_875, w_876, TX7, 8, rfl⟩
theorem w_901 : Cond.methodLink RX11 224 yX7_put ∈ WS := ws_in (tk_4 (List.mem_of_getElem? (i := 181) rfl)) rfl
theorem l_RX11_224 : JLnk RX11 224 yX7_put cX7_put 4 none 2 := ⟨w_901, w_904, w_5, by decide +kernel⟩
theorem v_RX11_224 : JVir RX11 224 yX7_put cX7_put 4 none 2 7 := ⟨l_RX11_224, w_902, w_903, TX7, 8, rfl⟩
theorem w_839 : Cond.methodLink RX11 201 yX3_fit ∈ WS := ws_in (tk_4 (List.mem_of_getElem? (i := 119) rfl)) rfl
theorem l_RX11_201 : JLnk RX11 201 yX3_fit cX3_fit 3 (some .boolean) 2 := ⟨w_839, w_842, w_4, by decide +kernel⟩
theorem v_RX11_201 : JVir RX11 201 yX3_fit cX3_fit 3 (some .boolean) 2 3 := ⟨l_RX11_201, w_840, w_841, TX3, 13, rfl⟩
theorem w_828 : Cond.methodLink RX7 62 yX3_together ∈ WS := ws_in (tk_4 (List.mem_of_getElem? (i := 108) rfl)) rfl
theorem l_RX7_62 : JLnk RX7 62 yX3_together cX3_together 2 (some .int) 1 := ⟨w_828, w_831, w_4, by decide +kernel⟩
theorem v_RX7_62 : JVir RX7 62 yX3_together cX3_together 2 (some .int) 1 3 := ⟨l_RX7_62, w_829, w_830, TX3, 13, rfl⟩
theorem w_816 : Cond.methodLink RX11 186 yX7_owned ∈ WS := ws_in (tk_4 (List.mem_of_getElem? (i := 96) rfl)) rfl
theorem l_RX11_186 : JLnk RX11 186 yX7_owned cX7_owned 5 (some .int) 2 := ⟨w_816, w_819, w_5, by decide +kernel⟩
theorem v_RX11_186 : JVir RX11 186 yX7_owned cX7_owned 5 (some .int) 2 7 := ⟨l_RX11_186, w_817, w_818, TX7, 8, rfl⟩
theorem w_820 : Cond.methodLink RX11 189 yX7_pipsInHand ∈ WS := ws_in (tk_4 (List.mem_of_getElem? (i := 100) rfl)) rfl
theorem w_823 : Cond.code yX7_pipsInHand cX7_pipsInHand 4 (some .int) ∈ WS := ws_in (tk_4 (List.mem_of_getElem? (i := 103) rfl)) rfl
theorem l_RX11_189 : JLnk RX11 189 yX7_pipsInHand cX7_pipsInHand 4 (some .int) 1 := ⟨w_820, w_823, w_5, by decide +kernel⟩
theorem w_821 : Cond.instanceMethod yX7_pipsInHand ∈ WS := ws_in (tk_4 (List.mem_of_getElem? (i := 101) rfl)) rfl
theorem w_822 : Cond.selects RX7 yX7_pipsInHand yX7_pipsInHand ∈ WS := ws_in (tk_4 (List.mem_of_getElem? (i := 102) rfl)) rfl
theorem v_RX11_189 : JVir RX11 189 yX7_pipsInHand cX7_pipsInHand 4 (some .int) 1 7 := ⟨l_RX11_189, w_821, w_822, TX7, 8, rfl⟩
theorem w_807 : Cond.methodLink RX11 179 yX3_stoneWith ∈ WS := ws_in (tk_4 (List.mem_of_getElem? (i := 87) rfl)) rfl
theorem l_RX11_179 : JLnk RX11 179 yX3_stoneWith cX3_stoneWith 4 (some .int) 2 := ⟨w_807, w_747, w_4, by decide +kernel⟩
theorem v_RX11_179 : JVir RX11 179 yX3_stoneWith cX3_stoneWith 4 (some .int) 2 3 := ⟨l_RX11_179, w_745, w_746, TX3, 13, rfl⟩
theorem w_66 : Cond.fieldLink RX11 146 "WidowRow$Tokens" "fault" "I" ∈ WS := ws_in (tk_1 (List.mem_of_getElem? (i := 66) rfl)) rfl
theorem g_RX11_146 : JFld RX11 146 9 12 0 false := ⟨RX9, TX9, 14, _, jc_9, by decide, w_66, rfl, rfl⟩
theorem w_707 : Cond.methodLink RX3 57 yJ7_fill_53178 ∈ WS := ws_in (tk_3 (List.mem_of_getElem? (i := 227) rfl)) rfl
theorem l_RX3_57 : JLnk RX3 57 yJ7_fill_53178 cJ7_fill_53178 4 none 2 := ⟨w_707, w_709, w_20, by decide +kernel⟩
theorem s_RX3_57 : JSta RX3 57 yJ7_fill_53178 cJ7_fill_53178 4 none 2 := ⟨l_RX3_57, w_708⟩
theorem w_722 : Cond.methodLink RX3 107 yX9_step ∈ WS := ws_in (tk_4 (List.mem_of_getElem? (i := 2) rfl)) rfl
theorem l_RX3_107 : JLnk RX3 107 yX9_step cX9_step 1 none 0 := ⟨w_722, w_579, w_2, by decide +kernel⟩
theorem v_RX3_107 : JVir RX3 107 yX9_step cX9_step 1 none 0 9 := ⟨l_RX3_107, w_577, w_578, TX9, 14, rfl⟩
theorem w_756 : Cond.methodLink RX3 137 yX9_numberTo ∈ WS := ws_in (tk_4 (List.mem_of_getElem? (i := 36) rfl)) rfl
theorem l_RX3_137 : JLnk RX3 137 yX9_numberTo cX9_numberTo 2 (some .int) 1 := ⟨w_756, w_742, w_2, by decide +kernel⟩
theorem v_RX3_137 : JVir RX3 137 yX9_numberTo cX9_numberTo 2 (some .int) 1 9 := ⟨l_RX3_137, w_740, w_741, TX9, 14, rfl⟩
theorem w_735 : Cond.methodLink RX3 122 yX9_readTwoPips ∈ WS := ws_in (tk_4 (List.mem_of_getElem? (i := 15) rfl)) rfl
theorem l_RX3_122 : JLnk RX3 122 yX9_readTwoPips cX9_readTwoPips 1 (some .boolean) 0 := ⟨w_735, w_738, w_2, by decide +kernel⟩
theorem v_RX3_122 : JVir RX3 122 yX9_readTwoPips cX9_readTwoPips 1 (some .boolean) 0 9 := ⟨l_RX3_122, w_736, w_737, TX9, 14, rfl⟩
theorem w_60 : Cond.fieldLink RX3 125 "WidowRow$Tokens" "one" "I" ∈ WS := ws_in (tk_1 (List.mem_of_getElem? (i := 60) rfl)) rfl
theorem g_RX3_125 : JFld RX3 125 9 10 0 false := ⟨RX9, TX9, 14, _, jc_9, by decide, w_60, rfl, rfl⟩
theorem w_63 : Cond.fieldLink RX3 127 "WidowRow$Tokens" "two" "I" ∈ WS := ws_in (tk_1 (List.mem_of_getElem? (i := 63) rfl)) rfl
theorem g_RX3_127 : JFld RX3 127 9 11 0 false := ⟨RX9, TX9, 14, _, jc_9, by decide, w_63, rfl, rfl⟩
theorem w_115 : Cond.methodLink RX3 144 yX3_areAngry ∈ WS := ws_in (tk_1 (List.mem_of_getElem? (i := 115) rfl)) rfl
theorem w_118 : Cond.code yX3_areAngry cX3_areAngry 3 (some .boolean) ∈ WS := ws_in (tk_1 (List.mem_of_getElem? (i := 118) rfl)) rfl
theorem l_RX3_144 : JLnk RX3 144 yX3_areAngry cX3_areAngry 3 (some .boolean) 2 := ⟨w_115, w_118, w_4, by decide +kernel⟩
theorem w_117 : Cond.instanceMethod yX3_areAngry ∈ WS := ws_in (tk_1 (List.mem_of_getElem? (i := 117) rfl)) rfl
theorem wp_1 : Cond.selects RX3 yX3_areAngry yX3_areAngry ∈ WS := ws_in (List.mem_append_left tables_1 (List.mem_of_getElem? (i := 1) (by decide +kernel))) rfl
theorem v_RX3_144 : JVir RX3 144 yX3_areAngry cX3_areAngry 3 (some .boolean) 2 3 := ⟨l_RX3_144, w_117, wp_1, TX3, 13, rfl⟩
theorem w_119 : Cond.methodLink RX3 141 yX3_isForgiven ∈ WS := ws_in (tk_1 (List.mem_of_getElem? (i := 119) rfl)) rfl
theorem w_122 : Cond.code yX3_isForgiven cX3_isForgiven 2 (some .boolean) ∈ WS := ws_in (tk_1 (List.mem_of_getElem? (i := 122) rfl)) rfl
theorem l_RX3_141 : JLnk RX3 141 yX3_isForgiven cX3_isForgiven 2 (some .boolean) 1 := ⟨w_119, w_122, w_4, by decide +kernel⟩
theorem w_121 : Cond.instanceMethod yX3_isForgiven ∈ WS := ws_in (tk_1 (List.mem_of_getElem? (i := 121) rfl)) rfl
theorem wp_2 : Cond.selects RX3 yX3_isForgiven yX3_isForgiven ∈ WS := ws_in (List.mem_append_left tables_1 (List.mem_of_getElem? (i := 2) (by decide +kernel))) rfl
theorem v_RX3_141 : JVir RX3 141 yX3_isForgiven cX3_isForgiven 2 (some .boolean) 1 3 := ⟨l_RX3_141, w_121, wp_2, TX3, 13, rfl⟩
theorem w_744 : Cond.methodLink RX3 129 yX3_stoneWith ∈ WS := ws_in (tk_4 (List.mem_of_getElem? (i := 24) rfl)) rfl
theorem l_RX3_129 : JLnk RX3 129 yX3_stoneWith cX3_stoneWith 4 (some .int) 2 := ⟨w_744, w_747, w_4, by decide +kernel⟩
theorem v_RX3_129 : JVir RX3 129 yX3_stoneWith cX3_stoneWith 4 (some .int) 2 3 := ⟨l_RX3_129, w_745, w_746, TX3, 13, rfl⟩
theorem w_748 : Cond.methodLink RX3 133 yX3_widowHere ∈ WS := ws_in (tk_4 (List.mem_of_getElem? (i := 28) rfl)) rfl
theorem l_RX3_133 : JLnk RX3 133 yX3_widowHere cX3_widowHere 3 (some .int) 1 := ⟨w_748, w_751, w_4, by decide +kernel⟩
theorem v_RX3_133 : JVir RX3 133 yX3_widowHere cX3_widowHere 3 (some .int) 1 3 := ⟨l_RX3_133, w_749, w_750, TX3, 13, rfl⟩
theorem w_51 : Cond.fieldLink RX3 85 "WidowRow$Tokens" "key" "I" ∈ WS := ws_in (tk_1 (List.mem_of_getElem? (i := 51) rfl)) rfl
theorem g_RX3_85 : JFld RX3 85 9 6 0 false := ⟨RX9, TX9, 14, _, jc_9, by decide, w_51, rfl, rfl⟩
theorem w_714 : Cond.methodLink RX3 88 yX3_readWidow ∈ WS := ws_in (tk_3 (List.mem_of_getElem? (i := 234) rfl)) rfl
theorem w_717 : Cond.code yX3_readWidow cX3_readWidow 2 (some .boolean) ∈ WS := ws_in (tk_3 (List.mem_of_getElem? (i := 237) rfl)) rfl
theorem l_RX3_88 : JLnk RX3 88 yX3_readWidow cX3_readWidow 2 (some .boolean) 1 := ⟨w_714, w_717, w_4, by decide +kernel⟩
theorem w_716 : Cond.instanceMethod yX3_readWidow ∈ WS := ws_in (tk_3 (List.mem_of_getElem? (i := 236) rfl)) rfl
theorem wp_10 : Cond.selects RX3 yX3_readWidow yX3_readWidow ∈ WS := ws_in (List.mem_append_left tables_1 (List.mem_of_getElem? (i := 10) (by decide +kernel))) rfl
theorem v_RX3_88 : JVir RX3 88 yX3_readWidow cX3_readWidow 2 (some .boolean) 1 3 := ⟨l_RX3_88, w_716, wp_10, TX3, 13, rfl⟩
theorem w_731 : Cond.methodLink RX3 91 yX3_readStone ∈ WS := ws_in (tk_4 (List.mem_of_getElem? (i := 11) rfl)) rfl
theorem w_734 : Cond.code yX3_readStone cX3_readStone 3 (some .boolean) ∈ WS := ws_in (tk_4 (List.mem_of_getElem? (i := 14) rfl)) rfl
theorem l_RX3_91 : JLnk RX3 91 yX3_readStone cX3_readStone 3 (some .boolean) 1 := ⟨w_731, w_734, w_4, by decide +kernel⟩
theorem w_733 : Cond.instanceMethod yX3_readStone ∈ WS := ws_in (tk_4 (List.mem_of_getElem? (i := 13) rfl)) rfl
theorem wp_12 : Cond.selects RX3 yX3_readStone yX3_readStone ∈ WS := ws_in (List.mem_append_left tables_1 (List.mem_of_getElem? (i := 12) (by decide +kernel))) rfl
theorem v_RX3_91 : JVir RX3 91 yX3_readStone cX3_readStone 3 (some .boolean) 1 3 := ⟨l_RX3_91, w_733, wp_12, TX3, 13, rfl⟩
theorem w_752 : Cond.methodLink RX3 94 yX3_readForgive ∈ WS := ws_in (tk_4 (List.mem_of_getElem? (i := 32) rfl)) rfl
theorem w_755 : Cond.code yX3_readForgive cX3_readForgive 3 (some .boolean) ∈ WS := ws_in (tk_4 (List.mem_of_getElem? (i := 35) rfl)) rfl
theorem l_RX3_94 : JLnk RX3 94 yX3_readForgive cX3_readForgive 3 (some .boolean) 1 := ⟨w_752, w_755, w_4, by decide +kernel⟩
theorem w_754 : Cond.instanceMethod yX3_readForgive ∈ WS := ws_in (tk_4 (List.mem_of_getElem? (i := 34) rfl)) rfl
theorem wp_13 : Cond.selects RX3 yX3_readForgive yX3_readForgive ∈ WS := ws_in (List.mem_append_left tables_1 (List.mem_of_getElem? (i := 13) (by decide +kernel))) rfl
theorem v_RX3_94 : JVir RX3 94 yX3_readForgive cX3_readForgive 3 (some .boolean) 1 3 := ⟨l_RX3_94, w_754, wp_13, TX3, 13, rfl⟩
theorem w_757 : Cond.methodLink RX3 97 yX3_readQuarrel ∈ WS := ws_in (tk_4 (List.mem_of_getElem? (i := 37) rfl)) rfl
theorem w_760 : Cond.code yX3_readQuarrel cX3_readQuarrel 2 (some .boolean) ∈ WS := ws_in (tk_4 (List.mem_of_getElem? (i := 40) rfl)) rfl
theorem l_RX3_97 : JLnk RX3 97 yX3_readQuarrel cX3_readQuarrel 2 (some .boolean) 1 := ⟨w_757, w_760, w_4, by decide +kernel⟩
theorem w_759 : Cond.instanceMethod yX3_readQuarrel ∈ WS := ws_in (tk_4 (List.mem_of_getElem? (i := 39) rfl)) rfl
theorem wp_14 : Cond.selects RX3 yX3_readQuarrel yX3_readQuarrel ∈ WS := ws_in (List.mem_append_left tables_1 (List.mem_of_getElem? (i := 14) (by decide +kernel))) rfl
theorem v_RX3_97 : JVir RX3 97 yX3_readQuarrel cX3_readQuarrel 2 (some .boolean) 1 3 := ⟨l_RX3_97, w_759, wp_14, TX3, 13, rfl⟩
theorem w_761 : Cond.methodLink RX3 100 yX3_readPawn ∈ WS := ws_in (tk_4 (List.mem_of_getElem? (i := 41) rfl)) rfl
theorem w_764 : Cond.code yX3_readPawn cX3_readPawn 3 (some .boolean) ∈ WS := ws_in (tk_4 (List.mem_of_getElem? (i := 44) rfl)) rfl
theorem l_RX3_100 : JLnk RX3 100 yX3_readPawn cX3_readPawn 3 (some .boolean) 1 := ⟨w_761, w_764, w_4, by decide +kernel⟩
theorem w_763 : Cond.instanceMethod yX3_readPawn ∈ WS := ws_in (tk_4 (List.mem_of_getElem? (i := 43) rfl)) rfl
theorem wp_15 : Cond.selects RX3 yX3_readPawn yX3_readPawn ∈ WS := ws_in (List.mem_append_left tables_1 (List.mem_of_getElem? (i := 15) (by decide +kernel))) rfl
theorem v_RX3_100 : JVir RX3 100 yX3_readPawn cX3_readPawn 3 (some .boolean) 1 3 := ⟨l_RX3_100, w_763, wp_15, TX3, 13, rfl⟩
theorem w_703 : Cond.methodLink RX3 69 yX3_clear ∈ WS := ws_in (tk_3 (List.mem_of_getElem? (i := 223) rfl)) rfl
theorem w_706 : Cond.code yX3_clear cX3_clear 1 none ∈ WS := ws_in (tk_3 (List.mem_of_getElem? (i := 226) rfl)) rfl
theorem l_RX3_69 : JLnk RX3 69 yX3_clear cX3_clear 1 none 0 := ⟨w_703, w_706, w_4, by decide +kernel⟩
theorem w_705 : Cond.instanceMethod yX3_clear ∈ WS := ws_in (tk_3 (List.mem_of_getElem? (i := 225) rfl)) rfl
theorem wp_8 : Cond.selects RX3 yX3_clear yX3_clear ∈ WS := ws_in (List.mem_append_left tables_1 (List.mem_of_getElem? (i := 8) (by decide +kernel))) rfl
theorem v_RX3_69 : JVir RX3 69 yX3_clear cX3_clear 1 none 0 3 := ⟨l_RX3_69, w_705, wp_8, TX3, 13, rfl⟩
theorem w_111 : Cond.methodLink RX3 54 yX3_findFitting ∈ WS := ws_in (tk_1 (List.mem_of_getElem? (i := 111) rfl)) rfl
theorem w_114 : Cond.code yX3_findFitting cX3_findFitting 3 none ∈ WS := ws_in (tk_1 (List.mem_of_getElem? (i := 114) rfl)) rfl
theorem l_RX3_54 : JLnk RX3 54 yX3_findFitting cX3_findFitting 3 none 0 := ⟨w_111, w_114, w_4, by decide +kernel⟩
theorem w_113 : Cond.instanceMethod yX3_findFitting ∈ WS := ws_in (tk_1 (List.mem_of_getElem? (i := 113) rfl)) rfl
theorem wp_0 : Cond.selects RX3 yX3_findFitting yX3_findFitting ∈ WS := ws_in (List.mem_append_left tables_1 (List.mem_of_getElem? (i := 0) (by decide +kernel))) rfl
theorem v_RX3_54 : JVir RX3 54 yX3_findFitting cX3_findFitting 3 none 0 3 := ⟨l_RX3_54, w_113, wp_0, TX3, 13, rfl⟩
theorem w_46 : Cond.fieldLink RX3 72 "WidowRow$Tokens" "kind" "I" ∈ WS := ws_in (tk_1 (List.mem_of_getElem? (i := 46) rfl)) rfl
theorem g_RX3_72 : JFld RX3 72 9 4 0 false := ⟨RX9, TX9, 14, _, jc_9, by decide, w_46, rfl, rfl⟩
theorem w_710 : Cond.methodLink RX3 77 yX3_readLine ∈ WS := ws_in (tk_3 (List.mem_of_getElem? (i := 230) rfl)) rfl
theorem w_713 : Cond.code yX3_readLine cX3_readLine 2 (some .boolean) ∈ WS := ws_in (tk_3 (List.mem_of_getElem? (i := 233) rfl)) rfl
theorem l_RX3_77 : JLnk RX3 77 yX3_readLine cX3_readLine 2 (some .boolean) 1 := ⟨w_710, w_713, w_4, by decide +kernel⟩
theorem w_712 : Cond.instanceMethod yX3_readLine ∈ WS := ws_in (tk_3 (List.mem_of_getElem? (i := 232) rfl)) rfl
theorem wp_9 : Cond.selects RX3 yX3_readLine yX3_readLine ∈ WS := ws_in (List.mem_append_left tables_1 (List.mem_of_getElem? (i := 9) (by decide +kernel))) rfl
theorem v_RX3_77 : JVir RX3 77 yX3_readLine cX3_readLine 2 (some .boolean) 1 3 := ⟨l_RX3_77, w_712, wp_9, TX3, 13, rfl⟩
theorem w_765 : Cond.methodLink RX3 81 yX9_passes ∈ WS := ws_in (tk_4 (List.mem_of_getElem? (i := 45) rfl)) rfl
theorem l_RX3_81 : JLnk RX3 81 yX9_passes cX9_passes 2 (some .boolean) 1 := ⟨w_765, w_768, w_2, by decide +kernel⟩
theorem v_RX3_81 : JVir RX3 81 yX9_passes cX9_passes 2 (some .boolean) 1 9 := ⟨l_RX3_81, w_766, w_767, TX9, 14, rfl⟩
theorem w_788 : Cond.methodLink RX7 38 yJ7_fill_53178 ∈ WS := ws_in (tk_4 (List.mem_of_getElem? (i := 68) rfl)) rfl
theorem l_RX7_38 : JLnk RX7 38 yJ7_fill_53178 cJ7_fill_53178 4 none 2 := ⟨w_788, w_709, w_20, by decide +kernel⟩
theorem s_RX7_38 : JSta RX7 38 yJ7_fill_53178 cJ7_fill_53178 4 none 2 := ⟨l_RX7_38, w_708⟩
theorem w_160 : Cond.fieldLink RX7 44 "WidowRow$Island" "teller" "[I" ∈ WS := ws_in (tk_1 (List.mem_of_getElem? (i := 160) rfl)) rfl
theorem g_RX7_44 : JFld RX7 44 3 10 2 true := ⟨RX3, TX3, 13, _, jc_3, by decide, w_160, rfl, rfl⟩
theorem w_784 : Cond.methodLink RX10 55 yX7_begin ∈ WS := ws_in (tk_4 (List.mem_of_getElem? (i := 64) rfl)) rfl
theorem w_787 : Cond.code yX7_begin cX7_begin 1 none ∈ WS := ws_in (tk_4 (List.mem_of_getElem? (i := 67) rfl)) rfl
theorem l_RX10_55 : JLnk RX10 55 yX7_begin cX7_begin 1 none 0 := ⟨w_784, w_787, w_5, by decide +kernel⟩
theorem w_785 : Cond.instanceMethod yX7_begin ∈ WS := ws_in (tk_4 (List.mem_of_getElem? (i := 65) rfl)) rfl
theorem w_786 : Cond.selects RX7 yX7_begin yX7_begin ∈ WS := ws_in (tk_4 (List.mem_of_getElem? (i := 66) rfl)) rfl
theorem v_RX10_55 : JVir RX10 55 yX7_begin cX7_begin 1 none 0 7 := ⟨l_RX10_55, w_785, w_786, TX7, 8, rfl⟩
theorem w_790 : Cond.methodLink RX10 58 yX5_clear ∈ WS := ws_in (tk_4 (List.mem_of_getElem? (i := 70) rfl)) rfl
theorem l_RX10_58 : JLnk RX10 58 yX5_clear cX5_clear 1 none 0 := ⟨w_790, w_793, w_6, by decide +kernel⟩
theorem v_RX10_58 : JVir RX10 58 yX5_clear cX5_clear 1 none 0 5 := ⟨l_RX10_58, w_791, w_792, TX5, 5, rfl⟩
theorem w_795 : Cond.methodLink RX10 61 yX8_clear ∈ WS := ws_in (tk_4 (List.mem_of_getElem? (i := 75) rfl)) rfl
theorem l_RX10_61 : JLnk RX10 61 yX8_clear cX8_clear 1 none 0 := ⟨w_795, w_798, w_7, by decide +kernel⟩
theorem v_RX10_61 : JVir RX10 61 yX8_clear cX8_clear 1 none 0 8 := ⟨l_RX10_61, w_796, w_797, TX8, 6, rfl⟩
theorem w_699 : Cond.methodLink RX11 133 yX3_readAll ∈ WS := ws_in (tk_3 (List.mem_of_getElem? (i := 219) rfl)) rfl
theorem w_702 : Cond.code yX3_readAll cX3_readAll 2 (some .boolean) ∈ WS := ws_in (tk_3 (List.mem_of_getElem? (i := 222) rfl)) rfl
theorem l_RX11_133 : JLnk RX11 133 yX3_readAll cX3_readAll 2 (some .boolean) 1 := ⟨w_699, w_702, w_4, by decide +kernel⟩
theorem w_700 : Cond.instanceMethod yX3_readAll ∈ WS := ws_in (tk_3 (List.mem_of_getElem? (i := 220) rfl)) rfl
theorem w_701 : Cond.selects RX3 yX3_readAll yX3_readAll ∈ WS := ws_in (tk_3 (List.mem_of_getElem? (i := 221) rfl)) rfl
theorem v_RX11_133 : JVir RX11 133 yX3_readAll cX3_readAll 2 (some .boolean) 1 3 := ⟨l_RX11_133, w_700, w_701, TX3, 13, rfl⟩
theorem w_773 : Cond.methodLink RX11 140 yX10_settle ∈ WS := ws_in (tk_4 (List.mem_of_getElem? (i := 53) rfl)) rfl
theorem w_776 : Cond.code yX10_settle cX10_settle 2 none ∈ WS := ws_in (tk_4 (List.mem_of_getElem? (i := 56) rfl)) rfl
theorem l_RX11_140 : JLnk RX11 140 yX10_settle cX10_settle 2 none 1 := ⟨w_773, w_776, w_3, by decide +kernel⟩
theorem w_774 : Cond.instanceMethod yX10_settle ∈ WS := ws_in (tk_4 (List.mem_of_getElem? (i := 54) rfl)) rfl
theorem w_775 : Cond.selects RX10 yX10_settle yX10_settle ∈ WS := ws_in (tk_4 (List.mem_of_getElem? (i := 55) rfl)) rfl
theorem v_RX11_140 : JVir RX11 140 yX10_settle cX10_settle 2 none 1 10 := ⟨l_RX11_140, w_774, w_775, TX10, 5, rfl⟩
theorem w_124 : Cond.fieldLink RX11 143 "WidowRow$Island" "lines" "I" ∈ WS := ws_in (tk_1 (List.mem_of_getElem? (i := 124) rfl)) rfl
theorem g_RX11_143 : JFld RX11 143 3 0 0 false := ⟨RX3, TX3, 13, _, jc_3, by decide, w_124, rfl, rfl⟩
theorem w_491 : Cond.fieldLink RX11 9 "WidowRow" "tape" "[B" ∈ WS := ws_in (tk_3 (List.mem_of_getElem? (i := 11) rfl)) rfl
theorem g_RX11_9 : JFld RX11 9 11 0 2 true := ⟨RX11, TX11, 19, _, jc_11, by decide, w_491, rfl, rfl⟩
theorem w_553 : Cond.methodLink RX11 124 yX11_feedFour ∈ WS := ws_in (tk_3 (List.mem_of_getElem? (i := 73) rfl)) rfl
theorem w_556 : Cond.code yX11_feedFour cX11_feedFour 3 none ∈ WS := ws_in (tk_3 (List.mem_of_getElem? (i := 76) rfl)) rfl
theorem l_RX11_124 : JLnk RX11 124 yX11_feedFour cX11_feedFour 3 none 1 := ⟨w_553, w_556, w_1, by decide +kernel⟩
theorem w_555 : Cond.instanceMethod yX11_feedFour ∈ WS := ws_in (tk_3 (List.mem_of_getElem? (i := 75) rfl)) rfl
theorem wp_3 : Cond.selects RX11 yX11_feedFour yX11_feedFour ∈ WS := ws_in (List.mem_append_left tables_1 (List.mem_of_getElem? (i := 3) (by decide +kernel))) rfl
theorem v_RX11_124 : JVir RX11 124 yX11_feedFour cX11_feedFour 3 none 1 11 := ⟨l_RX11_124, w_555, wp_3, TX11, 19, rfl⟩
theorem w_601 : Cond.fieldLink RJ0 38 "java/lang/String" "COMPACT_STRINGS" "Z" ∈ WS := ws_in (tk_3 (List.mem_of_getElem? (i := 121) rfl)) rfl
theorem w_2200 : Cond.fieldLink RJ0 15 "java/lang/String" "coder" "B" ∈ WS := ws_in (tk_10 (List.mem_of_getElem? (i := 40) rfl)) rfl
theorem w_607 : Cond.methodLink RJ0 335 yJ0_coder_7d493 ∈ WS := ws_in (tk_3 (List.mem_of_getElem? (i := 127) rfl)) rfl
theorem w_610 : Cond.code yJ0_coder_7d493 cJ0_coder_7d493 1 (some .byte) ∈ WS := ws_in (tk_3 (List.mem_of_getElem? (i := 130) rfl)) rfl
theorem w_15 : Cond.initialized RJ0 ∈ WS := ws_in (tk_1 (List.mem_of_getElem? (i := 15) rfl)) rfl
theorem l_RJ0_335 : JLnk RJ0 335 yJ0_coder_7d493 cJ0_coder_7d493 1 (some .byte) 0 := ⟨w_607, w_610, w_15, by decide +kernel⟩
theorem w_608 : Cond.instanceMethod yJ0_coder_7d493 ∈ WS := ws_in (tk_3 (List.mem_of_getElem? (i := 128) rfl)) rfl
theorem w_609 : Cond.selects RJ0 yJ0_coder_7d493 yJ0_coder_7d493 ∈ WS := ws_in (tk_3 (List.mem_of_getElem? (i := 129) rfl)) rfl
theorem w_2201 : Cond.fieldLink RJ0 9 "java/lang/String" "value" "[B" ∈ WS := ws_in (tk_10 (List.mem_of_getElem? (i := 41) rfl)) rfl
theorem w_689 : Cond.methodLink RJ0 1059 yJ3_checkIndex_8e157 ∈ WS := ws_in (tk_3 (List.mem_of_getElem? (i := 209) rfl)) rfl
theorem w_691 : Cond.code yJ3_checkIndex_8e157 cJ3_checkIndex_8e157 3 (some .int) ∈ WS := ws_in (tk_3 (List.mem_of_getElem? (i := 211) rfl)) rfl
theorem w_18 : Cond.initialized RJ3 ∈ WS := ws_in (tk_1 (List.mem_of_getElem? (i := 18) rfl)) rfl
theorem l_RJ0_1059 : JLnk RJ0 1059 yJ3_checkIndex_8e157 cJ3_checkIndex_8e157 3 (some .int) 3 := ⟨w_689, w_691, w_18, by decide +kernel⟩
theorem w_690 : Cond.static yJ3_checkIndex_8e157 ∈ WS := ws_in (tk_3 (List.mem_of_getElem? (i := 210) rfl)) rfl
theorem w_642 : Cond.fieldLink RJ0 1053 "jdk/internal/util/Preconditions" "SIOOBE_FORMATTER" "Ljava/util/function/BiFunction;" ∈ WS := ws_in (tk_3 (List.mem_of_getElem? (i := 162) rfl)) rfl
theorem w_686 : Cond.methodLink RJ1 9 yJ0_checkIndex_df160 ∈ WS := ws_in (tk_3 (List.mem_of_getElem? (i := 206) rfl)) rfl
theorem w_688 : Cond.code yJ0_checkIndex_df160 cJ0_checkIndex_df160 2 none ∈ WS := ws_in (tk_3 (List.mem_of_getElem? (i := 208) rfl)) rfl
theorem l_RJ1_9 : JLnk RJ1 9 yJ0_checkIndex_df160 cJ0_checkIndex_df160 2 none 2 := ⟨w_686, w_688, w_15, by decide +kernel⟩
theorem w_687 : Cond.static yJ0_checkIndex_df160 ∈ WS := ws_in (tk_3 (List.mem_of_getElem? (i := 207) rfl)) rfl
theorem s_RJ1_9 : JSta RJ1 9 yJ0_checkIndex_df160 cJ0_checkIndex_df160 2 none 2 := ⟨l_RJ1_9, w_687⟩
theorem w_597 : Cond.methodLink RJ0 492 yJ0_isLatin1_aae02 ∈ WS := ws_in (tk_3 (List.mem_of_getElem? (i := 117) rfl)) rfl
theorem w_600 : Cond.code yJ0_isLatin1_aae02 cJ0_isLatin1_aae02 1 (some .boolean) ∈ WS := ws_in (tk_3 (List.mem_of_getElem? (i := 120) rfl)) rfl
theorem l_RJ0_492 : JLnk RJ0 492 yJ0_isLatin1_aae02 cJ0_isLatin1_aae02 1 (some .boolean) 0 := ⟨w_597, w_600, w_15, by decide +kernel⟩
theorem w_598 : Cond.instanceMethod yJ0_isLatin1_aae02 ∈ WS := ws_in (tk_3 (List.mem_of_getElem? (i := 118) rfl)) rfl
theorem w_599 : Cond.selects RJ0 yJ0_isLatin1_aae02 yJ0_isLatin1_aae02 ∈ WS := ws_in (tk_3 (List.mem_of_getElem? (i := 119) rfl)) rfl
theorem w_683 : Cond.methodLink RJ0 495 yJ1_charAt_3b067 ∈ WS := ws_in (tk_3 (List.mem_of_getElem? (i := 203) rfl)) rfl
theorem w_685 : Cond.code yJ1_charAt_3b067 cJ1_charAt_3b067 2 (some .char) ∈ WS := ws_in (tk_3 (List.mem_of_getElem? (i := 205) rfl)) rfl
theorem w_16 : Cond.initialized RJ1 ∈ WS := ws_in (tk_1 (List.mem_of_getElem? (i := 16) rfl)) rfl
theorem l_RJ0_495 : JLnk RJ0 495 yJ1_charAt_3b067 cJ1_charAt_3b067 2 (some .char) 2 := ⟨w_683, w_685, w_16, by decide +kernel⟩
theorem w_684 : Cond.static yJ1_charAt_3b067 ∈ WS := ws_in (tk_3 (List.mem_of_getElem? (i := 204) rfl)) rfl
theorem s_RJ0_495 : JSta RJ0 495 yJ1_charAt_3b067 cJ1_charAt_3b067 2 (some .char) 2 := ⟨l_RJ0_495, w_684⟩
theorem w_614 : Cond.methodLink RJ1 88 yJ1_canEncode_9a6ad ∈ WS := ws_in (tk_3 (List.mem_of_getElem? (i := 134) rfl)) rfl
theorem w_616 : Cond.code yJ1_canEncode_9a6ad cJ1_canEncode_9a6ad 1 (some .boolean) ∈ WS := ws_in (tk_3 (List.mem_of_getElem? (i := 136) rfl)) rfl
theorem l_RJ1_88 : JLnk RJ1 88 yJ1_canEncode_9a6ad cJ1_canEncode_9a6ad 1 (some .boolean) 1 := ⟨w_614, w_616, w_16, by decide +kernel⟩
theorem w_615 : Cond.static yJ1_canEncode_9a6ad ∈ WS := ws_in (tk_3 (List.mem_of_getElem? (i := 135) rfl)) rfl
theorem s_RJ1_88 : JSta RJ1 88 yJ1_canEncode_9a6ad cJ1_canEncode_9a6ad 1 (some .boolean) 1 := ⟨l_RJ1_88, w_615⟩
theorem w_621 : Cond.methodLink RJ1 95 yJ1_indexOfChar_4cfef ∈ WS := ws_in (tk_3 (List.mem_of_getElem? (i := 141) rfl)) rfl
theorem w_623 : Cond.code yJ1_indexOfChar_4cfef cJ1_indexOfChar_4cfef 6 (some .int) ∈ WS := ws_in (tk_3 (List.mem_of_getElem? (i := 143) rfl)) rfl
theorem l_RJ1_95 : JLnk RJ1 95 yJ1_indexOfChar_4cfef cJ1_indexOfChar_4cfef 6 (some .int) 4 := ⟨w_621, w_623, w_16, by decide +kernel⟩
theorem w_622 : Cond.static yJ1_indexOfChar_4cfef ∈ WS := ws_in (tk_3 (List.mem_of_getElem? (i := 142) rfl)) rfl
theorem s_RJ1_95 : JSta RJ1 95 yJ1_indexOfChar_4cfef cJ1_indexOfChar_4cfef 6 (some .int) 4 := ⟨l_RJ1_95, w_622⟩
theorem w_617 : Cond.methodLink RJ1 92 Lib.Math.max.name ∈ WS := ws_in (tk_3 (List.mem_of_getElem? (i := 137) rfl)) rfl
theorem w_620 : Cond.methodLink RJ1 38 Lib.Math.min.name ∈ WS := ws_in (tk_3 (List.mem_of_getElem? (i := 140) rfl)) rfl
theorem w_603 : Cond.methodLink RJ0 505 yJ0_length_8abf5 ∈ WS := ws_in (tk_3 (List.mem_of_getElem? (i := 123) rfl)) rfl
theorem w_606 : Cond.code yJ0_length_8abf5 cJ0_length_8abf5 1 (some .int) ∈ WS := ws_in (tk_3 (List.mem_of_getElem? (i := 126) rfl)) rfl
theorem l_RJ0_505 : JLnk RJ0 505 yJ0_length_8abf5 cJ0_length_8abf5 1 (some .int) 0 := ⟨w_603, w_606, w_15, by decide +kernel⟩
theorem w_604 : Cond.instanceMethod yJ0_length_8abf5 ∈ WS := ws_in (tk_3 (List.mem_of_getElem? (i := 124) rfl)) rfl
theorem w_605 : Cond.selects RJ0 yJ0_length_8abf5 yJ0_length_8abf5 ∈ WS := ws_in (tk_3 (List.mem_of_getElem? (i := 125) rfl)) rfl
theorem w_611 : Cond.methodLink RJ0 637 yJ1_indexOf_4cfef ∈ WS := ws_in (tk_3 (List.mem_of_getElem? (i := 131) rfl)) rfl
theorem w_613 : Cond.code yJ1_indexOf_4cfef cJ1_indexOf_4cfef 4 (some .int) ∈ WS := ws_in (tk_3 (List.mem_of_getElem? (i := 133) rfl)) rfl
theorem l_RJ0_637 : JLnk RJ0 637 yJ1_indexOf_4cfef cJ1_indexOf_4cfef 4 (some .int) 4 := ⟨w_611, w_613, w_16, by decide +kernel⟩
theorem w_612 : Cond.static yJ1_indexOf_4cfef ∈ WS := ws_in (tk_3 (List.mem_of_getElem? (i := 132) rfl)) rfl
theorem s_RJ0_637 : JSta RJ0 637 yJ1_indexOf_4cfef cJ1_indexOf_4cfef 4 (some .int) 4 := ⟨l_RJ0_637, w_612⟩
theorem w_593 : Cond.methodLink RJ0 633 yJ0_indexOf_7cf53 ∈ WS := ws_in (tk_3 (List.mem_of_getElem? (i := 113) rfl)) rfl
theorem w_596 : Cond.code yJ0_indexOf_7cf53 cJ0_indexOf_7cf53 3 (some .int) ∈ WS := ws_in (tk_3 (List.mem_of_getElem? (i := 116) rfl)) rfl
theorem l_RJ0_633 : JLnk RJ0 633 yJ0_indexOf_7cf53 cJ0_indexOf_7cf53 3 (some .int) 2 := ⟨w_593, w_596, w_15, by decide +kernel⟩
theorem w_594 : Cond.instanceMethod yJ0_indexOf_7cf53 ∈ WS := ws_in (tk_3 (List.mem_of_getElem? (i := 114) rfl)) rfl
theorem w_595 : Cond.selects RJ0 yJ0_indexOf_7cf53 yJ0_indexOf_7cf53 ∈ WS := ws_in (tk_3 (List.mem_of_getElem? (i := 115) rfl)) rfl
theorem w_678 : Cond.methodLink RX9 85 yJ0_length_8abf5 ∈ WS := ws_in (tk_3 (List.mem_of_getElem? (i := 198) rfl)) rfl
theorem l_RX9_85 : JLnk RX9 85 yJ0_length_8abf5 cJ0_length_8abf5 1 (some .int) 0 := ⟨w_678, w_606, w_15, by decide +kernel⟩
theorem w_679 : Cond.methodLink RX9 87 yJ0_charAt_5068e ∈ WS := ws_in (tk_3 (List.mem_of_getElem? (i := 199) rfl)) rfl
theorem w_682 : Cond.code yJ0_charAt_5068e cJ0_charAt_5068e 2 (some .char) ∈ WS := ws_in (tk_3 (List.mem_of_getElem? (i := 202) rfl)) rfl
theorem l_RX9_87 : JLnk RX9 87 yJ0_charAt_5068e cJ0_charAt_5068e 2 (some .char) 1 := ⟨w_679, w_682, w_15, by decide +kernel⟩
theorem w_680 : Cond.instanceMethod yJ0_charAt_5068e ∈ WS := ws_in (tk_3 (List.mem_of_getElem? (i := 200) rfl)) rfl
theorem w_681 : Cond.selects RJ0 yJ0_charAt_5068e yJ0_charAt_5068e ∈ WS := ws_in (tk_3 (List.mem_of_getElem? (i := 201) rfl)) rfl
theorem w_589 : Cond.methodLink RX9 77 yJ0_indexOf_0f7a4 ∈ WS := ws_in (tk_3 (List.mem_of_getElem? (i := 109) rfl)) rfl
theorem w_592 : Cond.code yJ0_indexOf_0f7a4 cJ0_indexOf_0f7a4 2 (some .int) ∈ WS := ws_in (tk_3 (List.mem_of_getElem? (i := 112) rfl)) rfl
theorem l_RX9_77 : JLnk RX9 77 yJ0_indexOf_0f7a4 cJ0_indexOf_0f7a4 2 (some .int) 1 := ⟨w_589, w_592, w_15, by decide +kernel⟩
theorem w_590 : Cond.instanceMethod yJ0_indexOf_0f7a4 ∈ WS := ws_in (tk_3 (List.mem_of_getElem? (i := 110) rfl)) rfl
theorem w_591 : Cond.selects RJ0 yJ0_indexOf_0f7a4 yJ0_indexOf_0f7a4 ∈ WS := ws_in (tk_3 (List.mem_of_getElem? (i := 111) rfl)) rfl
