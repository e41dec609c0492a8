theorem w_207 : Cond.fieldLink RX11 167 "WidowRow$Row" "owner" "[I" ∈ WS := ws_in (tk_1 (List.mem_of_getElem? (i := 207) rfl)) rfl
theorem g_RX11_167 : JFld RX11 167 7 1 2 true := ⟨RX7, TX7, 8, _, jc_7, by decide, w_207, rfl, rfl⟩
theorem w_1473 : Cond.methodLink RX11 173 yX7_placeOf ∈ WS := ws_in (tk_7 (List.mem_of_getElem? (i := 33) rfl)) rfl
theorem l_RX11_173 : JLnk RX11 173 yX7_placeOf cX7_placeOf 3 (some .int) 1 := ⟨w_1473, w_1377, w_5, by decide +kernel⟩
theorem v_RX11_173 : JVir RX11 173 yX7_placeOf cX7_placeOf 3 (some .int) 1 7 := ⟨l_RX11_173, w_1375, w_1376, TX7, 8, rfl⟩
theorem w_1408 : Cond.classLink RX11 153 NSE ∈ WS := ws_in (tk_6 (List.mem_of_getElem? (i := 208) rfl)) rfl
theorem w_25 : Cond.initialized NSE ∈ WS := ws_in (tk_1 (List.mem_of_getElem? (i := 25) rfl)) rfl
theorem dX11_stone_0 : decode cX11_stone 0 = .ok (.aload_n 0, 1) := by decide +kernel
theorem dX11_stone_1 : decode cX11_stone 1 = .ok (.iload_n 1, 1) := by decide +kernel
theorem dX11_stone_2 : decode cX11_stone 2 = .ok (.invokevirtual 149, 3) := by decide +kernel
theorem dX11_stone_5 : decode cX11_stone 5 = .ok (.ifCond .ne 13, 3) := by decide +kernel
theorem dX11_stone_8 : decode cX11_stone 8 = .ok (.new 153, 3) := by decide +kernel
theorem dX11_stone_11 : decode cX11_stone 11 = .ok (.dup, 1) := by decide +kernel
theorem dX11_stone_12 : decode cX11_stone 12 = .ok (.ldc 155, 2) := by decide +kernel
theorem dX11_stone_14 : decode cX11_stone 14 = .ok (.invokespecial 157, 3) := by decide +kernel
theorem dX11_stone_17 : decode cX11_stone 17 = .ok (.athrow, 1) := by decide +kernel
theorem dX11_stone_18 : decode cX11_stone 18 = .ok (.iload_n 2, 1) := by decide +kernel
theorem dX11_stone_19 : decode cX11_stone 19 = .ok (.tableswitch 134 0 5 #[37, 50, 63, 76, 89, 101], 37) := by decide +kernel
theorem dX11_stone_56 : decode cX11_stone 56 = .ok (.aload_n 0, 1) := by decide +kernel
theorem dX11_stone_57 : decode cX11_stone 57 = .ok (.getfield 29, 3) := by decide +kernel
theorem dX11_stone_60 : decode cX11_stone 60 = .ok (.getfield 54, 3) := by decide +kernel
theorem dX11_stone_63 : decode cX11_stone 63 = .ok (.getfield 160, 3) := by decide +kernel
theorem dX11_stone_66 : decode cX11_stone 66 = .ok (.iload_n 1, 1) := by decide +kernel
theorem dX11_stone_67 : decode cX11_stone 67 = .ok (.iaload, 1) := by decide +kernel
theorem dX11_stone_68 : decode cX11_stone 68 = .ok (.ireturn, 1) := by decide +kernel
theorem dX11_stone_69 : decode cX11_stone 69 = .ok (.aload_n 0, 1) := by decide +kernel
theorem dX11_stone_70 : decode cX11_stone 70 = .ok (.getfield 29, 3) := by decide +kernel
theorem dX11_stone_73 : decode cX11_stone 73 = .ok (.getfield 54, 3) := by decide +kernel
theorem dX11_stone_76 : decode cX11_stone 76 = .ok (.getfield 164, 3) := by decide +kernel
theorem dX11_stone_79 : decode cX11_stone 79 = .ok (.iload_n 1, 1) := by decide +kernel
theorem dX11_stone_80 : decode cX11_stone 80 = .ok (.iaload, 1) := by decide +kernel
theorem dX11_stone_81 : decode cX11_stone 81 = .ok (.ireturn, 1) := by decide +kernel
theorem dX11_stone_82 : decode cX11_stone 82 = .ok (.aload_n 0, 1) := by decide +kernel
theorem dX11_stone_83 : decode cX11_stone 83 = .ok (.getfield 29, 3) := by decide +kernel
theorem dX11_stone_86 : decode cX11_stone 86 = .ok (.getfield 72, 3) := by decide +kernel
theorem dX11_stone_89 : decode cX11_stone 89 = .ok (.getfield 167, 3) := by decide +kernel
theorem dX11_stone_92 : decode cX11_stone 92 = .ok (.iload_n 1, 1) := by decide +kernel
theorem dX11_stone_93 : decode cX11_stone 93 = .ok (.iaload, 1) := by decide +kernel
theorem dX11_stone_94 : decode cX11_stone 94 = .ok (.ireturn, 1) := by decide +kernel
theorem dX11_stone_95 : decode cX11_stone 95 = .ok (.aload_n 0, 1) := by decide +kernel
theorem dX11_stone_96 : decode cX11_stone 96 = .ok (.getfield 29, 3) := by decide +kernel
theorem dX11_stone_99 : decode cX11_stone 99 = .ok (.getfield 72, 3) := by decide +kernel
theorem dX11_stone_102 : decode cX11_stone 102 = .ok (.getfield 170, 3) := by decide +kernel
theorem dX11_stone_105 : decode cX11_stone 105 = .ok (.iload_n 1, 1) := by decide +kernel
theorem dX11_stone_106 : decode cX11_stone 106 = .ok (.iaload, 1) := by decide +kernel
theorem dX11_stone_107 : decode cX11_stone 107 = .ok (.ireturn, 1) := by decide +kernel
theorem dX11_stone_108 : decode cX11_stone 108 = .ok (.aload_n 0, 1) := by decide +kernel
theorem dX11_stone_109 : decode cX11_stone 109 = .ok (.getfield 29, 3) := by decide +kernel
theorem dX11_stone_112 : decode cX11_stone 112 = .ok (.getfield 72, 3) := by decide +kernel
theorem dX11_stone_115 : decode cX11_stone 115 = .ok (.iload_n 1, 1) := by decide +kernel
theorem dX11_stone_116 : decode cX11_stone 116 = .ok (.invokevirtual 173, 3) := by decide +kernel
theorem dX11_stone_119 : decode cX11_stone 119 = .ok (.ireturn, 1) := by decide +kernel
theorem dX11_stone_120 : decode cX11_stone 120 = .ok (.aload_n 0, 1) := by decide +kernel
theorem dX11_stone_121 : decode cX11_stone 121 = .ok (.getfield 29, 3) := by decide +kernel
theorem dX11_stone_124 : decode cX11_stone 124 = .ok (.getfield 72, 3) := by decide +kernel
theorem dX11_stone_127 : decode cX11_stone 127 = .ok (.getfield 170, 3) := by decide +kernel
theorem dX11_stone_130 : decode cX11_stone 130 = .ok (.iload_n 1, 1) := by decide +kernel
theorem dX11_stone_131 : decode cX11_stone 131 = .ok (.iaload, 1) := by decide +kernel
theorem dX11_stone_132 : decode cX11_stone 132 = .ok (.iconst 2, 1) := by decide +kernel
theorem dX11_stone_133 : decode cX11_stone 133 = .ok (.if_icmp .ne 18, 3) := by decide +kernel
theorem dX11_stone_136 : decode cX11_stone 136 = .ok (.aload_n 0, 1) := by decide +kernel
theorem dX11_stone_137 : decode cX11_stone 137 = .ok (.getfield 29, 3) := by decide +kernel
theorem dX11_stone_140 : decode cX11_stone 140 = .ok (.getfield 72, 3) := by decide +kernel
theorem dX11_stone_143 : decode cX11_stone 143 = .ok (.getfield 167, 3) := by decide +kernel
theorem dX11_stone_146 : decode cX11_stone 146 = .ok (.iload_n 1, 1) := by decide +kernel
theorem dX11_stone_147 : decode cX11_stone 147 = .ok (.iaload, 1) := by decide +kernel
theorem dX11_stone_148 : decode cX11_stone 148 = .ok (.goto 4, 3) := by decide +kernel
theorem dX11_stone_151 : decode cX11_stone 151 = .ok (.iconst (-1), 1) := by decide +kernel
theorem dX11_stone_152 : decode cX11_stone 152 = .ok (.ireturn, 1) := by decide +kernel
theorem dX11_stone_153 : decode cX11_stone 153 = .ok (.new 153, 3) := by decide +kernel
theorem dX11_stone_156 : decode cX11_stone 156 = .ok (.dup, 1) := by decide +kernel
theorem dX11_stone_157 : decode cX11_stone 157 = .ok (.ldc 177, 2) := by decide +kernel
theorem dX11_stone_159 : decode cX11_stone 159 = .ok (.invokespecial 157, 3) := by decide +kernel
theorem dX11_stone_162 : decode cX11_stone 162 = .ok (.athrow, 1) := by decide +kernel
def f_W_stone (n : Nat) (a1 : Int) (a2 : Int) (σ : JSg) : Option (Option Int) :=
  bd1 (f_W_isStone a1 σ) fun r1 => if r1 = 0 then (some none) else (sw_ a2 0 [chk (0 ≤ a1 ∧ a1 < 28) <| some (some (σ 6 a1.toNat)), chk (0 ≤ a1 ∧ a1 < 28) <| some (some (σ 7 a1.toNat)), chk (0 ≤ a1 ∧ a1 < 28) <| some (some (σ 12 a1.toNat)), chk (0 ≤ a1 ∧ a1 < 28) <| some (some (σ 13 a1.toNat)), bd1 (f_Row_placeOf n 11 4 a1 σ) fun r2 => some (some r2), chk (0 ≤ a1 ∧ a1 < 28) <| if (σ 13 a1.toNat) = 2 then (chk (0 ≤ a1 ∧ a1 < 28) <| some (some (σ 12 a1.toNat))) else (some (some (-1)))] (some none))
set_option maxRecDepth 20000 in
set_option maxHeartbeats 4000000 in
theorem k_W_stone (n : Nat) (a1 : Int) (a2 : Int) (σ : JSg) : XCall yX11_stone cX11_stone 3 6 SH RHO [vR 0, vI a1, vI a2] σ (f_W_stone n a1 a2 σ) := by
  refine xcall_of_sim (by decide +kernel) (Nat.le_of_ble_eq_true rfl) ?_
  show GSim RX11 cX11_stone 3 (some .int) 6 SH RHO 0 [(0, vR 0), (1, vI a1), (2, vI a2)] [] σ (rX 6 SH RHO σ) (f_W_stone n a1 a2 σ)
  unfold f_W_stone
  refine sim_aload_n 0 rfl dX11_stone_0 ?_
  refine sim_iload_n 1 rfl dX11_stone_1 ?_
  refine sim_callVIp v_RX11_149 sh_0 dX11_stone_2 (k_W_isStone a1 σ) rfl ⟨by decide, by decide⟩ (S := []) rfl (Nat.le_of_ble_eq_true rfl) (fun r1 => ?_)
  refine sim_if_ne (tgt := 18) dX11_stone_5 (by decide) ?_ ?_
  · refine sim_iload_n 2 rfl dX11_stone_18 ?_
    refine sim_tsw2 (td := 153) [56, 69, 82, 95, 108, 120] dX11_stone_19 (by decide) (by decide) (tsw_of (by decide +kernel)) ⟨?_, ?_, ?_, ?_, ?_, ?_, trivial⟩ ?_
    · refine sim_aload_n 0 rfl dX11_stone_56 ?_
      refine sim_getR g_RX11_29 sh_0 rh_0_3 dX11_stone_57 ?_
      refine sim_getR g_RX11_54 (LWld_o lay_3) rh_3_0 dX11_stone_60 ?_
      refine sim_getR g_RX11_160 (LIsl_o lay_4) rh_4_8 dX11_stone_63 ?_
      refine sim_iload_n 1 rfl dX11_stone_66 ?_
      refine sim_iaload sh_6 rfl dX11_stone_67 ?_
      exact sim_xret rfl dX11_stone_68
    · refine sim_aload_n 0 rfl dX11_stone_69 ?_
      refine sim_getR g_RX11_29 sh_0 rh_0_3 dX11_stone_70 ?_
      refine sim_getR g_RX11_54 (LWld_o lay_3) rh_3_0 dX11_stone_73 ?_
      refine sim_getR g_RX11_164 (LIsl_o lay_4) rh_4_9 dX11_stone_76 ?_
      refine sim_iload_n 1 rfl dX11_stone_79 ?_
      refine sim_iaload sh_7 rfl dX11_stone_80 ?_
      exact sim_xret rfl dX11_stone_81
    · refine sim_aload_n 0 rfl dX11_stone_82 ?_
      refine sim_getR g_RX11_29 sh_0 rh_0_3 dX11_stone_83 ?_
      refine sim_getR g_RX11_72 (LWld_o lay_3) rh_3_1 dX11_stone_86 ?_
      refine sim_getR g_RX11_167 (LRow_o lay_11) rh_11_1 dX11_stone_89 ?_
      refine sim_iload_n 1 rfl dX11_stone_92 ?_
      refine sim_iaload sh_12 rfl dX11_stone_93 ?_
      exact sim_xret rfl dX11_stone_94
    · refine sim_aload_n 0 rfl dX11_stone_95 ?_
      refine sim_getR g_RX11_29 sh_0 rh_0_3 dX11_stone_96 ?_
      refine sim_getR g_RX11_72 (LWld_o lay_3) rh_3_1 dX11_stone_99 ?_
      refine sim_getR g_RX11_170 (LRow_o lay_11) rh_11_2 dX11_stone_102 ?_
      refine sim_iload_n 1 rfl dX11_stone_105 ?_
      refine sim_iaload sh_13 rfl dX11_stone_106 ?_
      exact sim_xret rfl dX11_stone_107
    · refine sim_aload_n 0 rfl dX11_stone_108 ?_
      refine sim_getR g_RX11_29 sh_0 rh_0_3 dX11_stone_109 ?_
      refine sim_getR g_RX11_72 (LWld_o lay_3) rh_3_1 dX11_stone_112 ?_
      refine sim_iload_n 1 rfl dX11_stone_115 ?_
      refine sim_callVIp v_RX11_173 (LRow_o lay_11) dX11_stone_116 (k_Row_placeOf SH RHO n 11 4 lay_11 lay_4 a1 σ) rfl ⟨by decide, by decide⟩ (S := []) rfl (Nat.le_of_ble_eq_true rfl) (fun r2 => ?_)
      exact sim_xret rfl dX11_stone_119
    · refine sim_aload_n 0 rfl dX11_stone_120 ?_
      refine sim_getR g_RX11_29 sh_0 rh_0_3 dX11_stone_121 ?_
      refine sim_getR g_RX11_72 (LWld_o lay_3) rh_3_1 dX11_stone_124 ?_
      refine sim_getR g_RX11_170 (LRow_o lay_11) rh_11_2 dX11_stone_127 ?_
      refine sim_iload_n 1 rfl dX11_stone_130 ?_
      refine sim_iaload sh_13 rfl dX11_stone_131 ?_
      refine sim_iconst dX11_stone_132 (by decide) ?_
      refine sim_icmp_ne (tgt := 151) dX11_stone_133 (by decide) ?_ ?_
      · refine sim_iconst dX11_stone_151 (by decide) ?_
        exact sim_xret rfl dX11_stone_152
      · refine sim_aload_n 0 rfl dX11_stone_136 ?_
        refine sim_getR g_RX11_29 sh_0 rh_0_3 dX11_stone_137 ?_
        refine sim_getR g_RX11_72 (LWld_o lay_3) rh_3_1 dX11_stone_140 ?_
        refine sim_getR g_RX11_167 (LRow_o lay_11) rh_11_1 dX11_stone_143 ?_
        refine sim_iload_n 1 rfl dX11_stone_146 ?_
        refine sim_iaload sh_12 rfl dX11_stone_147 ?_
        refine sim_goto (tgt := 152) dX11_stone_148 (by decide) ?_
        exact sim_xret rfl dX11_stone_152
    · exact sim_xthrow (text := txT.getD 3 "") w_1408 w_25 (fun w A s h => ⟨w.1 1000003, h.2.1.2.2.2⟩) (by decide) (Nat.le_of_ble_eq_true rfl) dX11_stone_153 dX11_stone_156 dX11_stone_157 dX11_stone_159 dX11_stone_162
  · exact sim_xthrow (text := txT.getD 2 "") w_1408 w_25 (fun w A s h => ⟨w.1 1000002, h.2.1.2.2.1⟩) (by decide) (Nat.le_of_ble_eq_true rfl) dX11_stone_8 dX11_stone_11 dX11_stone_12 dX11_stone_14 dX11_stone_17
