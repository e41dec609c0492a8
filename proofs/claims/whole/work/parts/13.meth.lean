theorem dX12_memory_0 : decode cX12_memory 0 = .ok (.aload_n 0, 1) := by decide +kernel
theorem dX12_memory_1 : decode cX12_memory 1 = .ok (.sipush 400, 3) := by decide +kernel
theorem dX12_memory_4 : decode cX12_memory 4 = .ok (.invokevirtual 228, 3) := by decide +kernel
theorem dX12_memory_7 : decode cX12_memory 7 = .ok (.iconst 0, 1) := by decide +kernel
theorem dX12_memory_8 : decode cX12_memory 8 = .ok (.istore_n 1, 1) := by decide +kernel
theorem dX12_memory_9 : decode cX12_memory 9 = .ok (.iload_n 1, 1) := by decide +kernel
theorem dX12_memory_10 : decode cX12_memory 10 = .ok (.bipush 14, 2) := by decide +kernel
theorem dX12_memory_12 : decode cX12_memory 12 = .ok (.if_icmp .ge 16, 3) := by decide +kernel
theorem dX12_memory_15 : decode cX12_memory 15 = .ok (.aload_n 0, 1) := by decide +kernel
theorem dX12_memory_16 : decode cX12_memory 16 = .ok (.getfield 68, 3) := by decide +kernel
theorem dX12_memory_19 : decode cX12_memory 19 = .ok (.iload_n 1, 1) := by decide +kernel
theorem dX12_memory_20 : decode cX12_memory 20 = .ok (.iconst 0, 1) := by decide +kernel
theorem dX12_memory_21 : decode cX12_memory 21 = .ok (.iastore, 1) := by decide +kernel
theorem dX12_memory_22 : decode cX12_memory 22 = .ok (.iinc 1 1, 3) := by decide +kernel
theorem dX12_memory_25 : decode cX12_memory 25 = .ok (.goto (-16), 3) := by decide +kernel
theorem dX12_memory_28 : decode cX12_memory 28 = .ok (.aload_n 0, 1) := by decide +kernel
theorem dX12_memory_29 : decode cX12_memory 29 = .ok (.iconst 0, 1) := by decide +kernel
theorem dX12_memory_30 : decode cX12_memory 30 = .ok (.putfield 394, 3) := by decide +kernel
theorem dX12_memory_33 : decode cX12_memory 33 = .ok (.aload_n 0, 1) := by decide +kernel
theorem dX12_memory_34 : decode cX12_memory 34 = .ok (.getfield 109, 3) := by decide +kernel
theorem dX12_memory_37 : decode cX12_memory 37 = .ok (.ifCond .eq 87, 3) := by decide +kernel
theorem dX12_memory_40 : decode cX12_memory 40 = .ok (.aload_n 0, 1) := by decide +kernel
theorem dX12_memory_41 : decode cX12_memory 41 = .ok (.iconst 5, 1) := by decide +kernel
theorem dX12_memory_42 : decode cX12_memory 42 = .ok (.invokevirtual 207, 3) := by decide +kernel
theorem dX12_memory_45 : decode cX12_memory 45 = .ok (.ifCond .eq 10, 3) := by decide +kernel
theorem dX12_memory_48 : decode cX12_memory 48 = .ok (.aload_n 0, 1) := by decide +kernel
theorem dX12_memory_49 : decode cX12_memory 49 = .ok (.invokevirtual 397, 3) := by decide +kernel
theorem dX12_memory_52 : decode cX12_memory 52 = .ok (.goto 40, 3) := by decide +kernel
theorem dX12_memory_55 : decode cX12_memory 55 = .ok (.aload_n 0, 1) := by decide +kernel
theorem dX12_memory_56 : decode cX12_memory 56 = .ok (.bipush 6, 2) := by decide +kernel
theorem dX12_memory_58 : decode cX12_memory 58 = .ok (.invokevirtual 207, 3) := by decide +kernel
theorem dX12_memory_61 : decode cX12_memory 61 = .ok (.ifCond .eq 10, 3) := by decide +kernel
theorem dX12_memory_64 : decode cX12_memory 64 = .ok (.aload_n 0, 1) := by decide +kernel
theorem dX12_memory_65 : decode cX12_memory 65 = .ok (.invokevirtual 400, 3) := by decide +kernel
theorem dX12_memory_68 : decode cX12_memory 68 = .ok (.goto 24, 3) := by decide +kernel
theorem dX12_memory_71 : decode cX12_memory 71 = .ok (.aload_n 0, 1) := by decide +kernel
theorem dX12_memory_72 : decode cX12_memory 72 = .ok (.bipush 7, 2) := by decide +kernel
theorem dX12_memory_74 : decode cX12_memory 74 = .ok (.invokevirtual 207, 3) := by decide +kernel
theorem dX12_memory_77 : decode cX12_memory 77 = .ok (.ifCond .eq 10, 3) := by decide +kernel
theorem dX12_memory_80 : decode cX12_memory 80 = .ok (.aload_n 0, 1) := by decide +kernel
theorem dX12_memory_81 : decode cX12_memory 81 = .ok (.invokevirtual 403, 3) := by decide +kernel
theorem dX12_memory_84 : decode cX12_memory 84 = .ok (.goto 8, 3) := by decide +kernel
theorem dX12_memory_87 : decode cX12_memory 87 = .ok (.aload_n 0, 1) := by decide +kernel
theorem dX12_memory_88 : decode cX12_memory 88 = .ok (.iconst 1, 1) := by decide +kernel
theorem dX12_memory_89 : decode cX12_memory 89 = .ok (.invokevirtual 155, 3) := by decide +kernel
theorem dX12_memory_92 : decode cX12_memory 92 = .ok (.istore_n 1, 1) := by decide +kernel
theorem dX12_memory_93 : decode cX12_memory 93 = .ok (.iload_n 1, 1) := by decide +kernel
theorem dX12_memory_94 : decode cX12_memory 94 = .ok (.ifCond .eq 10, 3) := by decide +kernel
theorem dX12_memory_97 : decode cX12_memory 97 = .ok (.aload_n 0, 1) := by decide +kernel
theorem dX12_memory_98 : decode cX12_memory 98 = .ok (.invokevirtual 225, 3) := by decide +kernel
theorem dX12_memory_101 : decode cX12_memory 101 = .ok (.ifCond .ne 10, 3) := by decide +kernel
theorem dX12_memory_104 : decode cX12_memory 104 = .ok (.iconst (-1), 1) := by decide +kernel
theorem dX12_memory_105 : decode cX12_memory 105 = .ok (.aload_n 0, 1) := by decide +kernel
theorem dX12_memory_106 : decode cX12_memory 106 = .ok (.getfield 152, 3) := by decide +kernel
theorem dX12_memory_109 : decode cX12_memory 109 = .ok (.isub, 1) := by decide +kernel
theorem dX12_memory_110 : decode cX12_memory 110 = .ok (.ireturn, 1) := by decide +kernel
theorem dX12_memory_111 : decode cX12_memory 111 = .ok (.aload_n 0, 1) := by decide +kernel
theorem dX12_memory_112 : decode cX12_memory 112 = .ok (.getfield 68, 3) := by decide +kernel
theorem dX12_memory_115 : decode cX12_memory 115 = .ok (.iconst 0, 1) := by decide +kernel
theorem dX12_memory_116 : decode cX12_memory 116 = .ok (.dup2, 1) := by decide +kernel
theorem dX12_memory_117 : decode cX12_memory 117 = .ok (.iaload, 1) := by decide +kernel
theorem dX12_memory_118 : decode cX12_memory 118 = .ok (.iconst 1, 1) := by decide +kernel
theorem dX12_memory_119 : decode cX12_memory 119 = .ok (.iadd, 1) := by decide +kernel
theorem dX12_memory_120 : decode cX12_memory 120 = .ok (.iastore, 1) := by decide +kernel
theorem dX12_memory_121 : decode cX12_memory 121 = .ok (.goto (-88), 3) := by decide +kernel
theorem dX12_memory_124 : decode cX12_memory 124 = .ok (.iconst 0, 1) := by decide +kernel
theorem dX12_memory_125 : decode cX12_memory 125 = .ok (.istore_n 1, 1) := by decide +kernel
theorem dX12_memory_126 : decode cX12_memory 126 = .ok (.iload_n 1, 1) := by decide +kernel
theorem dX12_memory_127 : decode cX12_memory 127 = .ok (.bipush 14, 2) := by decide +kernel
theorem dX12_memory_129 : decode cX12_memory 129 = .ok (.if_icmp .ge 25, 3) := by decide +kernel
theorem dX12_memory_132 : decode cX12_memory 132 = .ok (.aload_n 0, 1) := by decide +kernel
theorem dX12_memory_133 : decode cX12_memory 133 = .ok (.getfield 13, 3) := by decide +kernel
theorem dX12_memory_136 : decode cX12_memory 136 = .ok (.sipush 192, 3) := by decide +kernel
theorem dX12_memory_139 : decode cX12_memory 139 = .ok (.iload_n 1, 1) := by decide +kernel
theorem dX12_memory_140 : decode cX12_memory 140 = .ok (.iadd, 1) := by decide +kernel
theorem dX12_memory_141 : decode cX12_memory 141 = .ok (.aload_n 0, 1) := by decide +kernel
theorem dX12_memory_142 : decode cX12_memory 142 = .ok (.getfield 68, 3) := by decide +kernel
theorem dX12_memory_145 : decode cX12_memory 145 = .ok (.iload_n 1, 1) := by decide +kernel
theorem dX12_memory_146 : decode cX12_memory 146 = .ok (.iaload, 1) := by decide +kernel
theorem dX12_memory_147 : decode cX12_memory 147 = .ok (.iastore, 1) := by decide +kernel
theorem dX12_memory_148 : decode cX12_memory 148 = .ok (.iinc 1 1, 3) := by decide +kernel
theorem dX12_memory_151 : decode cX12_memory 151 = .ok (.goto (-25), 3) := by decide +kernel
theorem dX12_memory_154 : decode cX12_memory 154 = .ok (.aload_n 0, 1) := by decide +kernel
theorem dX12_memory_155 : decode cX12_memory 155 = .ok (.getfield 68, 3) := by decide +kernel
theorem dX12_memory_158 : decode cX12_memory 158 = .ok (.iconst 0, 1) := by decide +kernel
theorem dX12_memory_159 : decode cX12_memory 159 = .ok (.iaload, 1) := by decide +kernel
theorem dX12_memory_160 : decode cX12_memory 160 = .ok (.ireturn, 1) := by decide +kernel
def f_M_memory (n : Nat)   (σ : JSg) : Option (Int × JSg) :=
  bd1 (f_M_begin n 400 σ) fun s1 => lt_ 0 fun v2 => wh2 n (fun rc3 (x4 : Int) (s5 : JSg) => if x4 < 14 then (chk (0 ≤ x4 ∧ x4 < 14) <| lt_ (sp s5 197 x4.toNat 0) fun s35 => lt_ (w32 (x4 + 1)) fun v36 => rc3 v36 s35) else (lt_ (sp s5 179 41 0) fun s6 => wh1 n (fun rc7  (s8 : JSg) => if (s8 179 7) = 0 then (lt_ 0 fun v9 => wh2 n (fun rc10 (x11 : Int) (s12 : JSg) => if x11 < 14 then (chk (0 ≤ x11 ∧ x11 < 14) <| chk (0 ≤ (w32 (192 + x11)) ∧ (w32 (192 + x11)) < 448) <| lt_ (sp s12 181 (w32 (192 + x11)).toNat (s12 197 x11.toNat)) fun s13 => lt_ (w32 (x11 + 1)) fun v14 => rc10 v14 s13) else (some (s12 197 0, s12))) v9 s8) else (bd1 (f_M_isWord 5 s8) fun r15 => jn2 (fun (u18 : Int) (s17 : JSg) => lt_ u18 fun v19 => jn1 (fun  (s21 : JSg) => some (w32 ((-1) - (s21 179 11)), s21)) fun j20 => if v19 = 0 then (j20 s17) else (bd2 (f_M_readEnd n s17) fun r22 s23 => if r22 = 0 then (j20 s23) else (lt_ (sp s23 197 0 (w32 ((s23 197 0) + 1))) fun s24 => rc7 s24))) fun j16 => if r15 = 0 then (bd1 (f_M_isWord 6 s8) fun r25 => if r25 = 0 then (bd1 (f_M_isWord 7 s8) fun r26 => if r26 = 0 then (bd2 (f_M_bad 1 s8) fun r27 s28 => j16 r27 s28) else (bd2 (f_M_readPassed n s8) fun r29 s30 => j16 r29 s30)) else (bd2 (f_M_readSeen n s8) fun r31 s32 => j16 r31 s32)) else (bd2 (f_M_readDeal n s8) fun r33 s34 => j16 r33 s34))) s6)) v2 s1
set_option maxRecDepth 20000 in
set_option maxHeartbeats 4000000 in
theorem k_M_memory  (n : Nat)    (σ : JSg) : Call yX12_memory cX12_memory 2 (some .int) 4 SH RHO [vR 179] σ dIm (f_M_memory n σ) := by
  refine call_of_sim (by decide +kernel) (Nat.le_of_ble_eq_true rfl) ?_
  show Sim RX12 cX12_memory 2 (some .int) 4 SH RHO 0 [(0, vR 179)] [] σ dIm (f_M_memory n σ)
  unfold f_M_memory
  refine sim_aload_n 0 rfl dX12_memory_0 ?_
  refine sim_sipush dX12_memory_1 (by decide +kernel) ?_
  refine sim_callVVm v_RX12_228 sh_179 dX12_memory_4 (k_M_begin n 400 σ) rfl ⟨by decide, by decide⟩ (S := []) rfl (Nat.le_of_ble_eq_true rfl) (fun s1 => ?_)
  refine sim_iconst dX12_memory_7 (by decide) ?_
  refine sim_istore_n (fun v2 => [(1, vI v2), (0, vR 179)]) (fun _ => rfl) (by decide) dX12_memory_8 (fun v2 => ?_)
  refine sim_sub [1, 0] (L' := [(0, vR 179), (1, vI v2)]) rfl ?_
  refine sim_wh2 (fun (x4 : Int) (s5 : JSg) => [(0, vR 179), (1, vI x4)]) (fun (x4 : Int) (s5 : JSg) => s5) ?_ n v2 s1
  intro rc3 hrc3 x4 s5
  refine sim_iload_n 1 rfl dX12_memory_9 ?_
  refine sim_bipush dX12_memory_10 (by decide +kernel) ?_
  refine sim_icmp_ge (tgt := 28) dX12_memory_12 (by decide) ?_ ?_
  · refine sim_aload_n 0 rfl dX12_memory_28 ?_
    refine sim_iconst dX12_memory_29 (by decide) ?_
    refine sim_putI g_RX12_394 sh_179 dX12_memory_30 (fun s6 => ?_)
    refine sim_sub [0] (L' := [(0, vR 179)]) rfl ?_
    refine sim_wh1 (fun  (s8 : JSg) => [(0, vR 179)]) (fun  (s8 : JSg) => s8) ?_ n s6
    intro rc7 hrc7 s8
    refine sim_aload_n 0 rfl dX12_memory_33 ?_
    refine sim_getI g_RX12_109 sh_179 dX12_memory_34 ?_
    refine sim_if_eq (tgt := 124) dX12_memory_37 (by decide) ?_ ?_
    · refine sim_iconst dX12_memory_124 (by decide) ?_
      refine sim_istore_n (fun v9 => [(1, vI v9), (0, vR 179)]) (fun _ => rfl) (by decide) dX12_memory_125 (fun v9 => ?_)
      refine sim_sub [1, 0] (L' := [(0, vR 179), (1, vI v9)]) rfl ?_
      refine sim_wh2 (fun (x11 : Int) (s12 : JSg) => [(0, vR 179), (1, vI x11)]) (fun (x11 : Int) (s12 : JSg) => s12) ?_ n v9 s8
      intro rc10 hrc10 x11 s12
      refine sim_iload_n 1 rfl dX12_memory_126 ?_
      refine sim_bipush dX12_memory_127 (by decide +kernel) ?_
      refine sim_icmp_ge (tgt := 154) dX12_memory_129 (by decide) ?_ ?_
      · refine sim_aload_n 0 rfl dX12_memory_154 ?_
        refine sim_getR g_RX12_68 sh_179 rh_179_40 dX12_memory_155 ?_
        refine sim_iconst dX12_memory_158 (by decide) ?_
        refine sim_ialoadK (j := 0) sh_197 rfl (by decide) dX12_memory_159 ?_
        exact sim_iret rfl rfl dX12_memory_160
      · refine sim_aload_n 0 rfl dX12_memory_132 ?_
        refine sim_getR g_RX12_13 sh_179 rh_179_14 dX12_memory_133 ?_
        refine sim_sipush dX12_memory_136 (by decide +kernel) ?_
        refine sim_iload_n 1 rfl dX12_memory_139 ?_
        refine sim_iadd dX12_memory_140 ?_
        refine sim_aload_n 0 rfl dX12_memory_141 ?_
        refine sim_getR g_RX12_68 sh_179 rh_179_40 dX12_memory_142 ?_
        refine sim_iload_n 1 rfl dX12_memory_145 ?_
        refine sim_iaload sh_197 rfl dX12_memory_146 ?_
        refine sim_iastore sh_181 rfl dX12_memory_147 (fun s13 => ?_)
        refine sim_iinc 1 rfl (fun v14 => [(1, vI v14), (0, vR 179)]) (fun _ => rfl) (by decide) dX12_memory_148 (fun v14 => ?_)
        refine sim_goto (tgt := 126) dX12_memory_151 (by decide) ?_
        exact sim_sub [1, 0] rfl (hrc10 v14 s13)
    · refine sim_aload_n 0 rfl dX12_memory_40 ?_
      refine sim_iconst dX12_memory_41 (by decide) ?_
      refine sim_callVIp v_RX12_207 sh_179 dX12_memory_42 (k_M_isWord 5 s8) rfl ⟨by decide, by decide⟩ (S := []) rfl (Nat.le_of_ble_eq_true rfl) (fun r15 => ?_)
      refine sim_jn2 (pc' := 92) (fun (u18 : Int) (s17 : JSg) => [(0, vR 179)]) (fun (u18 : Int) (s17 : JSg) => [vI u18]) (fun (u18 : Int) (s17 : JSg) => s17) ?_ (fun j16 hj16 => ?_)
      · intro u18 s17
        refine sim_istore_n (fun v19 => [(1, vI v19), (0, vR 179)]) (fun _ => rfl) (by decide) dX12_memory_92 (fun v19 => ?_)
        refine sim_iload_n 0 rfl dX12_memory_93 ?_
        refine sim_jn1 (pc' := 104) (fun  (s21 : JSg) => [(0, vR 179)]) (fun  (s21 : JSg) => []) (fun  (s21 : JSg) => s21) ?_ (fun j20 hj20 => ?_)
        · intro s21
          refine sim_iconst dX12_memory_104 (by decide) ?_
          refine sim_aload_n 0 rfl dX12_memory_105 ?_
          refine sim_getI g_RX12_152 sh_179 dX12_memory_106 ?_
          refine sim_isub dX12_memory_109 ?_
          exact sim_iret rfl rfl dX12_memory_110
        refine sim_if_eq (tgt := 104) dX12_memory_94 (by decide) ?_ ?_
        · exact sim_sub [1] rfl (hj20 s17)
        · refine sim_aload_n 1 rfl dX12_memory_97 ?_
          refine sim_callVIm v_RX12_225 sh_179 dX12_memory_98 (k_M_readEnd n s17) rfl ⟨by decide, by decide⟩ (S := []) rfl (Nat.le_of_ble_eq_true rfl) (fun r22 s23 => ?_)
          refine sim_if_ne (tgt := 111) dX12_memory_101 (by decide) ?_ ?_
          · refine sim_aload_n 1 rfl dX12_memory_111 ?_
            refine sim_getR g_RX12_68 sh_179 rh_179_40 dX12_memory_112 ?_
            refine sim_iconst dX12_memory_115 (by decide) ?_
            refine sim_dup2 rfl rfl dX12_memory_116 ?_
            refine sim_ialoadK (j := 0) sh_197 rfl (by decide) dX12_memory_117 ?_
            refine sim_iconst dX12_memory_118 (by decide) ?_
            refine sim_iadd dX12_memory_119 ?_
            refine sim_iastoreK (j := 0) sh_197 rfl (by decide) dX12_memory_120 (fun s24 => ?_)
            refine sim_goto (tgt := 33) dX12_memory_121 (by decide) ?_
            exact sim_sub [1] rfl (hrc7 s24)
          · exact sim_sub [1] rfl (hj20 s23)
      refine sim_if_eq (tgt := 55) dX12_memory_45 (by decide) ?_ ?_
      · refine sim_aload_n 0 rfl dX12_memory_55 ?_
        refine sim_bipush dX12_memory_56 (by decide +kernel) ?_
        refine sim_callVIp v_RX12_207 sh_179 dX12_memory_58 (k_M_isWord 6 s8) rfl ⟨by decide, by decide⟩ (S := []) rfl (Nat.le_of_ble_eq_true rfl) (fun r25 => ?_)
        refine sim_if_eq (tgt := 71) dX12_memory_61 (by decide) ?_ ?_
        · refine sim_aload_n 0 rfl dX12_memory_71 ?_
          refine sim_bipush dX12_memory_72 (by decide +kernel) ?_
          refine sim_callVIp v_RX12_207 sh_179 dX12_memory_74 (k_M_isWord 7 s8) rfl ⟨by decide, by decide⟩ (S := []) rfl (Nat.le_of_ble_eq_true rfl) (fun r26 => ?_)
          refine sim_if_eq (tgt := 87) dX12_memory_77 (by decide) ?_ ?_
          · refine sim_aload_n 0 rfl dX12_memory_87 ?_
            refine sim_iconst dX12_memory_88 (by decide) ?_
            refine sim_callVIm v_RX12_155 sh_179 dX12_memory_89 (k_M_bad 1 s8) rfl ⟨by decide, by decide⟩ (S := []) rfl (Nat.le_of_ble_eq_true rfl) (fun r27 s28 => ?_)
            exact sim_sub [0] rfl (hj16 r27 s28)
          · refine sim_aload_n 0 rfl dX12_memory_80 ?_
            refine sim_callVIm v_RX12_403 sh_179 dX12_memory_81 (k_M_readPassed n s8) rfl ⟨by decide, by decide⟩ (S := []) rfl (Nat.le_of_ble_eq_true rfl) (fun r29 s30 => ?_)
            refine sim_goto (tgt := 92) dX12_memory_84 (by decide) ?_
            exact sim_sub [0] rfl (hj16 r29 s30)
        · refine sim_aload_n 0 rfl dX12_memory_64 ?_
          refine sim_callVIm v_RX12_400 sh_179 dX12_memory_65 (k_M_readSeen n s8) rfl ⟨by decide, by decide⟩ (S := []) rfl (Nat.le_of_ble_eq_true rfl) (fun r31 s32 => ?_)
          refine sim_goto (tgt := 92) dX12_memory_68 (by decide) ?_
          exact sim_sub [0] rfl (hj16 r31 s32)
      · refine sim_aload_n 0 rfl dX12_memory_48 ?_
        refine sim_callVIm v_RX12_397 sh_179 dX12_memory_49 (k_M_readDeal n s8) rfl ⟨by decide, by decide⟩ (S := []) rfl (Nat.le_of_ble_eq_true rfl) (fun r33 s34 => ?_)
        refine sim_goto (tgt := 92) dX12_memory_52 (by decide) ?_
        exact sim_sub [0] rfl (hj16 r33 s34)
  · refine sim_aload_n 0 rfl dX12_memory_15 ?_
    refine sim_getR g_RX12_68 sh_179 rh_179_40 dX12_memory_16 ?_
    refine sim_iload_n 1 rfl dX12_memory_19 ?_
    refine sim_iconst dX12_memory_20 (by decide) ?_
    refine sim_iastore sh_197 rfl dX12_memory_21 (fun s35 => ?_)
    refine sim_iinc 1 rfl (fun v36 => [(1, vI v36), (0, vR 179)]) (fun _ => rfl) (by decide) dX12_memory_22 (fun v36 => ?_)
    refine sim_goto (tgt := 9) dX12_memory_25 (by decide) ?_
    exact sim_sub [1, 0] rfl (hrc3 v36 s35)
theorem dX12_byteAt_0 : decode cX12_byteAt 0 = .ok (.aload_n 0, 1) := by decide +kernel
theorem dX12_byteAt_1 : decode cX12_byteAt 1 = .ok (.iconst 0, 1) := by decide +kernel
theorem dX12_byteAt_2 : decode cX12_byteAt 2 = .ok (.putfield 87, 3) := by decide +kernel
theorem dX12_byteAt_5 : decode cX12_byteAt 5 = .ok (.iload_n 1, 1) := by decide +kernel
theorem dX12_byteAt_6 : decode cX12_byteAt 6 = .ok (.ifCond .lt 20, 3) := by decide +kernel
theorem dX12_byteAt_9 : decode cX12_byteAt 9 = .ok (.iload_n 1, 1) := by decide +kernel
theorem dX12_byteAt_10 : decode cX12_byteAt 10 = .ok (.aload_n 0, 1) := by decide +kernel
theorem dX12_byteAt_11 : decode cX12_byteAt 11 = .ok (.getfield 391, 3) := by decide +kernel
theorem dX12_byteAt_14 : decode cX12_byteAt 14 = .ok (.if_icmp .ge 12, 3) := by decide +kernel
theorem dX12_byteAt_17 : decode cX12_byteAt 17 = .ok (.aload_n 0, 1) := by decide +kernel
theorem dX12_byteAt_18 : decode cX12_byteAt 18 = .ok (.getfield 65, 3) := by decide +kernel
theorem dX12_byteAt_21 : decode cX12_byteAt 21 = .ok (.iload_n 1, 1) := by decide +kernel
theorem dX12_byteAt_22 : decode cX12_byteAt 22 = .ok (.iaload, 1) := by decide +kernel
theorem dX12_byteAt_23 : decode cX12_byteAt 23 = .ok (.goto 4, 3) := by decide +kernel
theorem dX12_byteAt_26 : decode cX12_byteAt 26 = .ok (.iconst (-1), 1) := by decide +kernel
theorem dX12_byteAt_27 : decode cX12_byteAt 27 = .ok (.ireturn, 1) := by decide +kernel
def f_M_byteAt   (a1 : Int) (σ : JSg) : Option (Int × JSg) :=
  lt_ (sp σ 179 0 0) fun s1 => if a1 < 0 then (some ((-1), s1)) else (if a1 < (s1 179 39) then (chk (0 ≤ a1 ∧ a1 < 120) <| some (s1 196 a1.toNat, s1)) else (some ((-1), s1)))
set_option maxRecDepth 20000 in
set_option maxHeartbeats 4000000 in
theorem k_M_byteAt     (a1 : Int) (σ : JSg) : Call yX12_byteAt cX12_byteAt 2 (some .int) 0 SH RHO [vR 179, vI a1] σ dIm (f_M_byteAt a1 σ) := by
  refine call_of_sim (by decide +kernel) (Nat.le_of_ble_eq_true rfl) ?_
  show Sim RX12 cX12_byteAt 2 (some .int) 0 SH RHO 0 [(0, vR 179), (1, vI a1)] [] σ dIm (f_M_byteAt a1 σ)
  unfold f_M_byteAt
  refine sim_aload_n 0 rfl dX12_byteAt_0 ?_
  refine sim_iconst dX12_byteAt_1 (by decide) ?_
  refine sim_putI g_RX12_87 sh_179 dX12_byteAt_2 (fun s1 => ?_)
  refine sim_iload_n 1 rfl dX12_byteAt_5 ?_
  refine sim_if_lt (tgt := 26) dX12_byteAt_6 (by decide) ?_ ?_
  · refine sim_iconst dX12_byteAt_26 (by decide) ?_
    exact sim_iret rfl rfl dX12_byteAt_27
  · refine sim_iload_n 1 rfl dX12_byteAt_9 ?_
    refine sim_aload_n 0 rfl dX12_byteAt_10 ?_
    refine sim_getI g_RX12_391 sh_179 dX12_byteAt_11 ?_
    refine sim_icmp_ge (tgt := 26) dX12_byteAt_14 (by decide) ?_ ?_
    · refine sim_iconst dX12_byteAt_26 (by decide) ?_
      exact sim_iret rfl rfl dX12_byteAt_27
    · refine sim_aload_n 0 rfl dX12_byteAt_17 ?_
      refine sim_getR g_RX12_65 sh_179 rh_179_38 dX12_byteAt_18 ?_
      refine sim_iload_n 1 rfl dX12_byteAt_21 ?_
      refine sim_iaload sh_196 rfl dX12_byteAt_22 ?_
      refine sim_goto (tgt := 27) dX12_byteAt_23 (by decide) ?_
      exact sim_iret rfl rfl dX12_byteAt_27
theorem dX12_write_0 : decode cX12_write 0 = .ok (.aload_n 0, 1) := by decide +kernel
theorem dX12_write_1 : decode cX12_write 1 = .ok (.iconst 0, 1) := by decide +kernel
theorem dX12_write_2 : decode cX12_write 2 = .ok (.putfield 87, 3) := by decide +kernel
theorem dX12_write_5 : decode cX12_write 5 = .ok (.aload_n 0, 1) := by decide +kernel
theorem dX12_write_6 : decode cX12_write 6 = .ok (.iconst 0, 1) := by decide +kernel
theorem dX12_write_7 : decode cX12_write 7 = .ok (.putfield 391, 3) := by decide +kernel
theorem dX12_write_10 : decode cX12_write 10 = .ok (.iconst 0, 1) := by decide +kernel
theorem dX12_write_11 : decode cX12_write 11 = .ok (.istore_n 1, 1) := by decide +kernel
theorem dX12_write_12 : decode cX12_write 12 = .ok (.iload_n 1, 1) := by decide +kernel
theorem dX12_write_13 : decode cX12_write 13 = .ok (.iconst 2, 1) := by decide +kernel
theorem dX12_write_14 : decode cX12_write 14 = .ok (.aload_n 0, 1) := by decide +kernel
theorem dX12_write_15 : decode cX12_write 15 = .ok (.invokevirtual 250, 3) := by decide +kernel
theorem dX12_write_18 : decode cX12_write 18 = .ok (.imul, 1) := by decide +kernel
theorem dX12_write_19 : decode cX12_write 19 = .ok (.if_icmp .ge 66, 3) := by decide +kernel
theorem dX12_write_22 : decode cX12_write 22 = .ok (.iload_n 1, 1) := by decide +kernel
theorem dX12_write_23 : decode cX12_write 23 = .ok (.ifCond .le 24, 3) := by decide +kernel
theorem dX12_write_26 : decode cX12_write 26 = .ok (.aload_n 0, 1) := by decide +kernel
theorem dX12_write_27 : decode cX12_write 27 = .ok (.getfield 65, 3) := by decide +kernel
theorem dX12_write_30 : decode cX12_write 30 = .ok (.aload_n 0, 1) := by decide +kernel
theorem dX12_write_31 : decode cX12_write 31 = .ok (.getfield 391, 3) := by decide +kernel
theorem dX12_write_34 : decode cX12_write 34 = .ok (.bipush 32, 2) := by decide +kernel
theorem dX12_write_36 : decode cX12_write 36 = .ok (.iastore, 1) := by decide +kernel
theorem dX12_write_37 : decode cX12_write 37 = .ok (.aload_n 0, 1) := by decide +kernel
theorem dX12_write_38 : decode cX12_write 38 = .ok (.dup, 1) := by decide +kernel
theorem dX12_write_39 : decode cX12_write 39 = .ok (.getfield 391, 3) := by decide +kernel
theorem dX12_write_42 : decode cX12_write 42 = .ok (.iconst 1, 1) := by decide +kernel
theorem dX12_write_43 : decode cX12_write 43 = .ok (.iadd, 1) := by decide +kernel
theorem dX12_write_44 : decode cX12_write 44 = .ok (.putfield 391, 3) := by decide +kernel
theorem dX12_write_47 : decode cX12_write 47 = .ok (.aload_n 0, 1) := by decide +kernel
theorem dX12_write_48 : decode cX12_write 48 = .ok (.getfield 65, 3) := by decide +kernel
theorem dX12_write_51 : decode cX12_write 51 = .ok (.aload_n 0, 1) := by decide +kernel
theorem dX12_write_52 : decode cX12_write 52 = .ok (.getfield 391, 3) := by decide +kernel
theorem dX12_write_55 : decode cX12_write 55 = .ok (.bipush 48, 2) := by decide +kernel
theorem dX12_write_57 : decode cX12_write 57 = .ok (.aload_n 0, 1) := by decide +kernel
theorem dX12_write_58 : decode cX12_write 58 = .ok (.iload_n 1, 1) := by decide +kernel
theorem dX12_write_59 : decode cX12_write 59 = .ok (.iconst 2, 1) := by decide +kernel
theorem dX12_write_60 : decode cX12_write 60 = .ok (.idiv, 1) := by decide +kernel
theorem dX12_write_61 : decode cX12_write 61 = .ok (.iload_n 1, 1) := by decide +kernel
theorem dX12_write_62 : decode cX12_write 62 = .ok (.iconst 2, 1) := by decide +kernel
theorem dX12_write_63 : decode cX12_write 63 = .ok (.irem, 1) := by decide +kernel
theorem dX12_write_64 : decode cX12_write 64 = .ok (.invokevirtual 277, 3) := by decide +kernel
theorem dX12_write_67 : decode cX12_write 67 = .ok (.iadd, 1) := by decide +kernel
theorem dX12_write_68 : decode cX12_write 68 = .ok (.iastore, 1) := by decide +kernel
theorem dX12_write_69 : decode cX12_write 69 = .ok (.aload_n 0, 1) := by decide +kernel
theorem dX12_write_70 : decode cX12_write 70 = .ok (.dup, 1) := by decide +kernel
theorem dX12_write_71 : decode cX12_write 71 = .ok (.getfield 391, 3) := by decide +kernel
theorem dX12_write_74 : decode cX12_write 74 = .ok (.iconst 1, 1) := by decide +kernel
theorem dX12_write_75 : decode cX12_write 75 = .ok (.iadd, 1) := by decide +kernel
theorem dX12_write_76 : decode cX12_write 76 = .ok (.putfield 391, 3) := by decide +kernel
theorem dX12_write_79 : decode cX12_write 79 = .ok (.iinc 1 1, 3) := by decide +kernel
theorem dX12_write_82 : decode cX12_write 82 = .ok (.goto (-70), 3) := by decide +kernel
theorem dX12_write_85 : decode cX12_write 85 = .ok (.aload_n 0, 1) := by decide +kernel
theorem dX12_write_86 : decode cX12_write 86 = .ok (.getfield 391, 3) := by decide +kernel
theorem dX12_write_89 : decode cX12_write 89 = .ok (.ireturn, 1) := by decide +kernel
def f_M_write (n : Nat)   (σ : JSg) : Option (Int × JSg) :=
  lt_ (sp σ 179 0 0) fun s1 => lt_ (sp s1 179 39 0) fun s2 => lt_ 0 fun v3 => wh2 n (fun rc4 (x5 : Int) (s6 : JSg) => bd1 (f_M_rowMany s6) fun r7 => if x5 < (w32 (2 * r7)) then (jn1 (fun  (s9 : JSg) => bd1 (f_M_rowPip (dv32 x5 2) (rm32 x5 2) s9) fun r10 => chk (0 ≤ (s9 179 39) ∧ (s9 179 39) < 120) <| lt_ (sp s9 196 (s9 179 39).toNat (w32 (48 + r10))) fun s11 => lt_ (sp s11 179 39 (w32 ((s11 179 39) + 1))) fun s12 => lt_ (w32 (x5 + 1)) fun v13 => rc4 v13 s12) fun j8 => if 0 < x5 then (chk (0 ≤ (s6 179 39) ∧ (s6 179 39) < 120) <| lt_ (sp s6 196 (s6 179 39).toNat 32) fun s14 => lt_ (sp s14 179 39 (w32 ((s14 179 39) + 1))) fun s15 => j8 s15) else (j8 s6)) else (some (s6 179 39, s6))) v3 s2
set_option maxRecDepth 20000 in
set_option maxHeartbeats 4000000 in
theorem k_M_write  (n : Nat)    (σ : JSg) : Call yX12_write cX12_write 2 (some .int) 2 SH RHO [vR 179] σ dIm (f_M_write n σ) := by
  refine call_of_sim (by decide +kernel) (Nat.le_of_ble_eq_true rfl) ?_
  show Sim RX12 cX12_write 2 (some .int) 2 SH RHO 0 [(0, vR 179)] [] σ dIm (f_M_write n σ)
  unfold f_M_write
  refine sim_aload_n 0 rfl dX12_write_0 ?_
  refine sim_iconst dX12_write_1 (by decide) ?_
  refine sim_putI g_RX12_87 sh_179 dX12_write_2 (fun s1 => ?_)
  refine sim_aload_n 0 rfl dX12_write_5 ?_
  refine sim_iconst dX12_write_6 (by decide) ?_
  refine sim_putI g_RX12_391 sh_179 dX12_write_7 (fun s2 => ?_)
  refine sim_iconst dX12_write_10 (by decide) ?_
  refine sim_istore_n (fun v3 => [(1, vI v3), (0, vR 179)]) (fun _ => rfl) (by decide) dX12_write_11 (fun v3 => ?_)
  refine sim_sub [1, 0] (L' := [(0, vR 179), (1, vI v3)]) rfl ?_
  refine sim_wh2 (fun (x5 : Int) (s6 : JSg) => [(0, vR 179), (1, vI x5)]) (fun (x5 : Int) (s6 : JSg) => s6) ?_ n v3 s2
  intro rc4 hrc4 x5 s6
  refine sim_iload_n 1 rfl dX12_write_12 ?_
  refine sim_iconst dX12_write_13 (by decide) ?_
  refine sim_aload_n 0 rfl dX12_write_14 ?_
  refine sim_callVIp v_RX12_250 sh_179 dX12_write_15 (k_M_rowMany s6) rfl ⟨by decide, by decide⟩ (S := [vI 2, vI x5]) rfl (Nat.le_of_ble_eq_true rfl) (fun r7 => ?_)
  refine sim_imul dX12_write_18 ?_
  refine sim_icmp_ge (tgt := 85) dX12_write_19 (by decide) ?_ ?_
  · refine sim_aload_n 0 rfl dX12_write_85 ?_
    refine sim_getI g_RX12_391 sh_179 dX12_write_86 ?_
    exact sim_iret rfl rfl dX12_write_89
  · refine sim_iload_n 1 rfl dX12_write_22 ?_
    refine sim_jn1 (pc' := 47) (fun  (s9 : JSg) => [(0, vR 179), (1, vI x5)]) (fun  (s9 : JSg) => []) (fun  (s9 : JSg) => s9) ?_ (fun j8 hj8 => ?_)
    · intro s9
      refine sim_aload_n 0 rfl dX12_write_47 ?_
      refine sim_getR g_RX12_65 sh_179 rh_179_38 dX12_write_48 ?_
      refine sim_aload_n 0 rfl dX12_write_51 ?_
      refine sim_getI g_RX12_391 sh_179 dX12_write_52 ?_
      refine sim_bipush dX12_write_55 (by decide +kernel) ?_
      refine sim_aload_n 0 rfl dX12_write_57 ?_
      refine sim_iload_n 1 rfl dX12_write_58 ?_
      refine sim_iconst dX12_write_59 (by decide) ?_
      refine sim_idivK (by decide) dX12_write_60 ?_
      refine sim_iload_n 1 rfl dX12_write_61 ?_
      refine sim_iconst dX12_write_62 (by decide) ?_
      refine sim_iremK (by decide) dX12_write_63 ?_
      refine sim_callVIp v_RX12_277 sh_179 dX12_write_64 (k_M_rowPip (dv32 x5 2) (rm32 x5 2) s9) rfl ⟨by decide, by decide⟩ (S := [vI 48, vI (s9 179 39), vR 196]) rfl (Nat.le_of_ble_eq_true rfl) (fun r10 => ?_)
      refine sim_iadd dX12_write_67 ?_
      refine sim_iastore sh_196 rfl dX12_write_68 (fun s11 => ?_)
      refine sim_aload_n 0 rfl dX12_write_69 ?_
      refine sim_dup rfl dX12_write_70 ?_
      refine sim_getI g_RX12_391 sh_179 dX12_write_71 ?_
      refine sim_iconst dX12_write_74 (by decide) ?_
      refine sim_iadd dX12_write_75 ?_
      refine sim_putI g_RX12_391 sh_179 dX12_write_76 (fun s12 => ?_)
      refine sim_iinc 1 rfl (fun v13 => [(1, vI v13), (0, vR 179)]) (fun _ => rfl) (by decide) dX12_write_79 (fun v13 => ?_)
      refine sim_goto (tgt := 12) dX12_write_82 (by decide) ?_
      exact sim_sub [1, 0] rfl (hrc4 v13 s12)
    refine sim_if_le (tgt := 47) dX12_write_23 (by decide) ?_ ?_
    · exact sim_sub [0, 1] rfl (hj8 s6)
    · refine sim_aload_n 0 rfl dX12_write_26 ?_
      refine sim_getR g_RX12_65 sh_179 rh_179_38 dX12_write_27 ?_
      refine sim_aload_n 0 rfl dX12_write_30 ?_
      refine sim_getI g_RX12_391 sh_179 dX12_write_31 ?_
      refine sim_bipush dX12_write_34 (by decide +kernel) ?_
      refine sim_iastore sh_196 rfl dX12_write_36 (fun s14 => ?_)
      refine sim_aload_n 0 rfl dX12_write_37 ?_
      refine sim_dup rfl dX12_write_38 ?_
      refine sim_getI g_RX12_391 sh_179 dX12_write_39 ?_
      refine sim_iconst dX12_write_42 (by decide) ?_
      refine sim_iadd dX12_write_43 ?_
      refine sim_putI g_RX12_391 sh_179 dX12_write_44 (fun s15 => ?_)
      exact sim_sub [0, 1] rfl (hj8 s15)
theorem dX12_layAside_0 : decode cX12_layAside 0 = .ok (.iconst 0, 1) := by decide +kernel
theorem dX12_layAside_1 : decode cX12_layAside 1 = .ok (.istore_n 1, 1) := by decide +kernel
theorem dX12_layAside_2 : decode cX12_layAside 2 = .ok (.iload_n 1, 1) := by decide +kernel
theorem dX12_layAside_3 : decode cX12_layAside 3 = .ok (.bipush 125, 2) := by decide +kernel
theorem dX12_layAside_5 : decode cX12_layAside 5 = .ok (.if_icmp .ge 24, 3) := by decide +kernel
theorem dX12_layAside_8 : decode cX12_layAside 8 = .ok (.aload_n 0, 1) := by decide +kernel
theorem dX12_layAside_9 : decode cX12_layAside 9 = .ok (.getfield 62, 3) := by decide +kernel
theorem dX12_layAside_12 : decode cX12_layAside 12 = .ok (.iload_n 1, 1) := by decide +kernel
theorem dX12_layAside_13 : decode cX12_layAside 13 = .ok (.aload_n 0, 1) := by decide +kernel
theorem dX12_layAside_14 : decode cX12_layAside 14 = .ok (.getfield 13, 3) := by decide +kernel
theorem dX12_layAside_17 : decode cX12_layAside 17 = .ok (.bipush 67, 2) := by decide +kernel
theorem dX12_layAside_19 : decode cX12_layAside 19 = .ok (.iload_n 1, 1) := by decide +kernel
theorem dX12_layAside_20 : decode cX12_layAside 20 = .ok (.iadd, 1) := by decide +kernel
theorem dX12_layAside_21 : decode cX12_layAside 21 = .ok (.iaload, 1) := by decide +kernel
theorem dX12_layAside_22 : decode cX12_layAside 22 = .ok (.iastore, 1) := by decide +kernel
theorem dX12_layAside_23 : decode cX12_layAside 23 = .ok (.iinc 1 1, 3) := by decide +kernel
theorem dX12_layAside_26 : decode cX12_layAside 26 = .ok (.goto (-24), 3) := by decide +kernel
theorem dX12_layAside_29 : decode cX12_layAside 29 = .ok (.return_, 1) := by decide +kernel
def f_M_layAside (n : Nat)   (σ : JSg) : Option (JSg) :=
  lt_ 0 fun v1 => wh2 n (fun rc2 (x3 : Int) (s4 : JSg) => if x3 < 125 then (chk (0 ≤ (w32 (67 + x3)) ∧ (w32 (67 + x3)) < 448) <| chk (0 ≤ x3 ∧ x3 < 125) <| lt_ (sp s4 195 x3.toNat (s4 181 (w32 (67 + x3)).toNat)) fun s5 => lt_ (w32 (x3 + 1)) fun v6 => rc2 v6 s5) else (some s4)) v1 (σ)
set_option maxRecDepth 20000 in
set_option maxHeartbeats 4000000 in
theorem k_M_layAside  (n : Nat)    (σ : JSg) : Call yX12_layAside cX12_layAside 2 none 0 SH RHO [vR 179] σ dVm (f_M_layAside n σ) := by
  refine call_of_sim (by decide +kernel) (Nat.le_of_ble_eq_true rfl) ?_
  show Sim RX12 cX12_layAside 2 none 0 SH RHO 0 [(0, vR 179)] [] σ dVm (f_M_layAside n σ)
  unfold f_M_layAside
  refine sim_iconst dX12_layAside_0 (by decide) ?_
  refine sim_istore_n (fun v1 => [(1, vI v1), (0, vR 179)]) (fun _ => rfl) (by decide) dX12_layAside_1 (fun v1 => ?_)
  refine sim_sub [1, 0] (L' := [(0, vR 179), (1, vI v1)]) rfl ?_
  refine sim_wh2 (fun (x3 : Int) (s4 : JSg) => [(0, vR 179), (1, vI x3)]) (fun (x3 : Int) (s4 : JSg) => s4) ?_ n v1 (σ)
  intro rc2 hrc2 x3 s4
  refine sim_iload_n 1 rfl dX12_layAside_2 ?_
  refine sim_bipush dX12_layAside_3 (by decide +kernel) ?_
  refine sim_icmp_ge (tgt := 29) dX12_layAside_5 (by decide) ?_ ?_
  · exact sim_vret rfl rfl dX12_layAside_29
  · refine sim_aload_n 0 rfl dX12_layAside_8 ?_
    refine sim_getR g_RX12_62 sh_179 rh_179_37 dX12_layAside_9 ?_
    refine sim_iload_n 1 rfl dX12_layAside_12 ?_
    refine sim_aload_n 0 rfl dX12_layAside_13 ?_
    refine sim_getR g_RX12_13 sh_179 rh_179_14 dX12_layAside_14 ?_
    refine sim_bipush dX12_layAside_17 (by decide +kernel) ?_
    refine sim_iload_n 1 rfl dX12_layAside_19 ?_
    refine sim_iadd dX12_layAside_20 ?_
    refine sim_iaload sh_181 rfl dX12_layAside_21 ?_
    refine sim_iastore sh_195 rfl dX12_layAside_22 (fun s5 => ?_)
    refine sim_iinc 1 rfl (fun v6 => [(1, vI v6), (0, vR 179)]) (fun _ => rfl) (by decide) dX12_layAside_23 (fun v6 => ?_)
    refine sim_goto (tgt := 2) dX12_layAside_26 (by decide) ?_
    exact sim_sub [1, 0] rfl (hrc2 v6 s5)
theorem dX12_layBack_0 : decode cX12_layBack 0 = .ok (.iconst 0, 1) := by decide +kernel
theorem dX12_layBack_1 : decode cX12_layBack 1 = .ok (.istore_n 1, 1) := by decide +kernel
theorem dX12_layBack_2 : decode cX12_layBack 2 = .ok (.iload_n 1, 1) := by decide +kernel
theorem dX12_layBack_3 : decode cX12_layBack 3 = .ok (.bipush 125, 2) := by decide +kernel
theorem dX12_layBack_5 : decode cX12_layBack 5 = .ok (.if_icmp .ge 24, 3) := by decide +kernel
theorem dX12_layBack_8 : decode cX12_layBack 8 = .ok (.aload_n 0, 1) := by decide +kernel
theorem dX12_layBack_9 : decode cX12_layBack 9 = .ok (.getfield 13, 3) := by decide +kernel
theorem dX12_layBack_12 : decode cX12_layBack 12 = .ok (.bipush 67, 2) := by decide +kernel
theorem dX12_layBack_14 : decode cX12_layBack 14 = .ok (.iload_n 1, 1) := by decide +kernel
theorem dX12_layBack_15 : decode cX12_layBack 15 = .ok (.iadd, 1) := by decide +kernel
theorem dX12_layBack_16 : decode cX12_layBack 16 = .ok (.aload_n 0, 1) := by decide +kernel
theorem dX12_layBack_17 : decode cX12_layBack 17 = .ok (.getfield 62, 3) := by decide +kernel
theorem dX12_layBack_20 : decode cX12_layBack 20 = .ok (.iload_n 1, 1) := by decide +kernel
theorem dX12_layBack_21 : decode cX12_layBack 21 = .ok (.iaload, 1) := by decide +kernel
theorem dX12_layBack_22 : decode cX12_layBack 22 = .ok (.iastore, 1) := by decide +kernel
theorem dX12_layBack_23 : decode cX12_layBack 23 = .ok (.iinc 1 1, 3) := by decide +kernel
theorem dX12_layBack_26 : decode cX12_layBack 26 = .ok (.goto (-24), 3) := by decide +kernel
theorem dX12_layBack_29 : decode cX12_layBack 29 = .ok (.return_, 1) := by decide +kernel
def f_M_layBack (n : Nat)   (σ : JSg) : Option (JSg) :=
  lt_ 0 fun v1 => wh2 n (fun rc2 (x3 : Int) (s4 : JSg) => if x3 < 125 then (chk (0 ≤ x3 ∧ x3 < 125) <| chk (0 ≤ (w32 (67 + x3)) ∧ (w32 (67 + x3)) < 448) <| lt_ (sp s4 181 (w32 (67 + x3)).toNat (s4 195 x3.toNat)) fun s5 => lt_ (w32 (x3 + 1)) fun v6 => rc2 v6 s5) else (some s4)) v1 (σ)
set_option maxRecDepth 20000 in
set_option maxHeartbeats 4000000 in
theorem k_M_layBack  (n : Nat)    (σ : JSg) : Call yX12_layBack cX12_layBack 2 none 0 SH RHO [vR 179] σ dVm (f_M_layBack n σ) := by
  refine call_of_sim (by decide +kernel) (Nat.le_of_ble_eq_true rfl) ?_
  show Sim RX12 cX12_layBack 2 none 0 SH RHO 0 [(0, vR 179)] [] σ dVm (f_M_layBack n σ)
  unfold f_M_layBack
  refine sim_iconst dX12_layBack_0 (by decide) ?_
  refine sim_istore_n (fun v1 => [(1, vI v1), (0, vR 179)]) (fun _ => rfl) (by decide) dX12_layBack_1 (fun v1 => ?_)
  refine sim_sub [1, 0] (L' := [(0, vR 179), (1, vI v1)]) rfl ?_
  refine sim_wh2 (fun (x3 : Int) (s4 : JSg) => [(0, vR 179), (1, vI x3)]) (fun (x3 : Int) (s4 : JSg) => s4) ?_ n v1 (σ)
  intro rc2 hrc2 x3 s4
  refine sim_iload_n 1 rfl dX12_layBack_2 ?_
  refine sim_bipush dX12_layBack_3 (by decide +kernel) ?_
  refine sim_icmp_ge (tgt := 29) dX12_layBack_5 (by decide) ?_ ?_
  · exact sim_vret rfl rfl dX12_layBack_29
  · refine sim_aload_n 0 rfl dX12_layBack_8 ?_
    refine sim_getR g_RX12_13 sh_179 rh_179_14 dX12_layBack_9 ?_
    refine sim_bipush dX12_layBack_12 (by decide +kernel) ?_
    refine sim_iload_n 1 rfl dX12_layBack_14 ?_
    refine sim_iadd dX12_layBack_15 ?_
    refine sim_aload_n 0 rfl dX12_layBack_16 ?_
    refine sim_getR g_RX12_62 sh_179 rh_179_37 dX12_layBack_17 ?_
    refine sim_iload_n 1 rfl dX12_layBack_20 ?_
    refine sim_iaload sh_195 rfl dX12_layBack_21 ?_
    refine sim_iastore sh_181 rfl dX12_layBack_22 (fun s5 => ?_)
    refine sim_iinc 1 rfl (fun v6 => [(1, vI v6), (0, vR 179)]) (fun _ => rfl) (by decide) dX12_layBack_23 (fun v6 => ?_)
    refine sim_goto (tgt := 2) dX12_layBack_26 (by decide) ?_
    exact sim_sub [1, 0] rfl (hrc2 v6 s5)
theorem dX12_greedy_0 : decode cX12_greedy 0 = .ok (.aload_n 0, 1) := by decide +kernel
theorem dX12_greedy_1 : decode cX12_greedy 1 = .ok (.iconst 0, 1) := by decide +kernel
theorem dX12_greedy_2 : decode cX12_greedy 2 = .ok (.putfield 87, 3) := by decide +kernel
theorem dX12_greedy_5 : decode cX12_greedy 5 = .ok (.aload_n 0, 1) := by decide +kernel
theorem dX12_greedy_6 : decode cX12_greedy 6 = .ok (.invokevirtual 385, 3) := by decide +kernel
theorem dX12_greedy_9 : decode cX12_greedy 9 = .ok (.iconst 0, 1) := by decide +kernel
theorem dX12_greedy_10 : decode cX12_greedy 10 = .ok (.istore_n 1, 1) := by decide +kernel
theorem dX12_greedy_11 : decode cX12_greedy 11 = .ok (.iconst 0, 1) := by decide +kernel
theorem dX12_greedy_12 : decode cX12_greedy 12 = .ok (.istore_n 2, 1) := by decide +kernel
theorem dX12_greedy_13 : decode cX12_greedy 13 = .ok (.iload_n 2, 1) := by decide +kernel
theorem dX12_greedy_14 : decode cX12_greedy 14 = .ok (.iconst 2, 1) := by decide +kernel
theorem dX12_greedy_15 : decode cX12_greedy 15 = .ok (.aload_n 0, 1) := by decide +kernel
theorem dX12_greedy_16 : decode cX12_greedy 16 = .ok (.invokevirtual 240, 3) := by decide +kernel
theorem dX12_greedy_19 : decode cX12_greedy 19 = .ok (.imul, 1) := by decide +kernel
theorem dX12_greedy_20 : decode cX12_greedy 20 = .ok (.if_icmp .ge 58, 3) := by decide +kernel
theorem dX12_greedy_23 : decode cX12_greedy 23 = .ok (.iload_n 2, 1) := by decide +kernel
theorem dX12_greedy_24 : decode cX12_greedy 24 = .ok (.iconst 2, 1) := by decide +kernel
theorem dX12_greedy_25 : decode cX12_greedy 25 = .ok (.idiv, 1) := by decide +kernel
theorem dX12_greedy_26 : decode cX12_greedy 26 = .ok (.istore_n 3, 1) := by decide +kernel
theorem dX12_greedy_27 : decode cX12_greedy 27 = .ok (.aload_n 0, 1) := by decide +kernel
theorem dX12_greedy_28 : decode cX12_greedy 28 = .ok (.aload_n 0, 1) := by decide +kernel
theorem dX12_greedy_29 : decode cX12_greedy 29 = .ok (.getfield 13, 3) := by decide +kernel
theorem dX12_greedy_32 : decode cX12_greedy 32 = .ok (.bipush 67, 2) := by decide +kernel
theorem dX12_greedy_34 : decode cX12_greedy 34 = .ok (.iload_n 3, 1) := by decide +kernel
theorem dX12_greedy_35 : decode cX12_greedy 35 = .ok (.iadd, 1) := by decide +kernel
theorem dX12_greedy_36 : decode cX12_greedy 36 = .ok (.iaload, 1) := by decide +kernel
theorem dX12_greedy_37 : decode cX12_greedy 37 = .ok (.iload_n 3, 1) := by decide +kernel
theorem dX12_greedy_38 : decode cX12_greedy 38 = .ok (.iload_n 2, 1) := by decide +kernel
theorem dX12_greedy_39 : decode cX12_greedy 39 = .ok (.iconst 2, 1) := by decide +kernel
theorem dX12_greedy_40 : decode cX12_greedy 40 = .ok (.irem, 1) := by decide +kernel
theorem dX12_greedy_41 : decode cX12_greedy 41 = .ok (.invokevirtual 289, 3) := by decide +kernel
theorem dX12_greedy_44 : decode cX12_greedy 44 = .ok (.ifCond .ne 28, 3) := by decide +kernel
theorem dX12_greedy_47 : decode cX12_greedy 47 = .ok (.aload_n 0, 1) := by decide +kernel
theorem dX12_greedy_48 : decode cX12_greedy 48 = .ok (.aload_n 0, 1) := by decide +kernel
theorem dX12_greedy_49 : decode cX12_greedy 49 = .ok (.getfield 13, 3) := by decide +kernel
theorem dX12_greedy_52 : decode cX12_greedy 52 = .ok (.bipush 67, 2) := by decide +kernel
theorem dX12_greedy_54 : decode cX12_greedy 54 = .ok (.iload_n 3, 1) := by decide +kernel
theorem dX12_greedy_55 : decode cX12_greedy 55 = .ok (.iadd, 1) := by decide +kernel
theorem dX12_greedy_56 : decode cX12_greedy 56 = .ok (.iaload, 1) := by decide +kernel
theorem dX12_greedy_57 : decode cX12_greedy 57 = .ok (.iload_n 3, 1) := by decide +kernel
theorem dX12_greedy_58 : decode cX12_greedy 58 = .ok (.iload_n 2, 1) := by decide +kernel
theorem dX12_greedy_59 : decode cX12_greedy 59 = .ok (.iconst 2, 1) := by decide +kernel
theorem dX12_greedy_60 : decode cX12_greedy 60 = .ok (.irem, 1) := by decide +kernel
theorem dX12_greedy_61 : decode cX12_greedy 61 = .ok (.invokevirtual 296, 3) := by decide +kernel
theorem dX12_greedy_64 : decode cX12_greedy 64 = .ok (.iinc 1 1, 3) := by decide +kernel
theorem dX12_greedy_67 : decode cX12_greedy 67 = .ok (.iconst 0, 1) := by decide +kernel
theorem dX12_greedy_68 : decode cX12_greedy 68 = .ok (.istore_n 2, 1) := by decide +kernel
theorem dX12_greedy_69 : decode cX12_greedy 69 = .ok (.goto 6, 3) := by decide +kernel
theorem dX12_greedy_72 : decode cX12_greedy 72 = .ok (.iinc 2 1, 3) := by decide +kernel
theorem dX12_greedy_75 : decode cX12_greedy 75 = .ok (.goto (-62), 3) := by decide +kernel
theorem dX12_greedy_78 : decode cX12_greedy 78 = .ok (.aload_n 0, 1) := by decide +kernel
theorem dX12_greedy_79 : decode cX12_greedy 79 = .ok (.invokevirtual 388, 3) := by decide +kernel
theorem dX12_greedy_82 : decode cX12_greedy 82 = .ok (.iload_n 1, 1) := by decide +kernel
theorem dX12_greedy_83 : decode cX12_greedy 83 = .ok (.ireturn, 1) := by decide +kernel
def f_M_greedy (n : Nat)   (σ : JSg) : Option (Int × JSg) :=
  lt_ (sp σ 179 0 0) fun s1 => bd1 (f_M_layAside n s1) fun s2 => lt_ 0 fun v3 => lt_ 0 fun v4 => wh3 n (fun rc5 (x6 : Int) (x7 : Int) (s8 : JSg) => bd1 (f_M_stones s8) fun r9 => if x7 < (w32 (2 * r9)) then (lt_ (dv32 x7 2) fun v11 => chk (0 ≤ (w32 (67 + v11)) ∧ (w32 (67 + v11)) < 448) <| bd1 (f_M_whyNot (s8 181 (w32 (67 + v11)).toNat) v11 (rm32 x7 2) s8) fun r12 => jn3 (fun (y14 : Int) (y15 : Int) (s16 : JSg) => rc5 y14 y15 s16) fun j13 => if r12 = 0 then (chk (0 ≤ (w32 (67 + v11)) ∧ (w32 (67 + v11)) < 448) <| bd1 (f_M_lays n (s8 181 (w32 (67 + v11)).toNat) v11 (rm32 x7 2) s8) fun s18 => lt_ (w32 (x6 + 1)) fun v19 => lt_ 0 fun v20 => j13 v19 v20 s18) else (lt_ (w32 (x7 + 1)) fun v17 => j13 x6 v17 s8)) else (bd1 (f_M_layBack n s8) fun s10 => some (x6, s10))) v3 v4 s2
set_option maxRecDepth 20000 in
set_option maxHeartbeats 4000000 in
theorem k_M_greedy  (n : Nat)    (σ : JSg) : Call yX12_greedy cX12_greedy 4 (some .int) 4 SH RHO [vR 179] σ dIm (f_M_greedy n σ) := by
  refine call_of_sim (by decide +kernel) (Nat.le_of_ble_eq_true rfl) ?_
  show Sim RX12 cX12_greedy 4 (some .int) 4 SH RHO 0 [(0, vR 179)] [] σ dIm (f_M_greedy n σ)
  unfold f_M_greedy
  refine sim_aload_n 0 rfl dX12_greedy_0 ?_
  refine sim_iconst dX12_greedy_1 (by decide) ?_
  refine sim_putI g_RX12_87 sh_179 dX12_greedy_2 (fun s1 => ?_)
  refine sim_aload_n 0 rfl dX12_greedy_5 ?_
  refine sim_callVVm v_RX12_385 sh_179 dX12_greedy_6 (k_M_layAside n s1) rfl ⟨by decide, by decide⟩ (S := []) rfl (Nat.le_of_ble_eq_true rfl) (fun s2 => ?_)
  refine sim_iconst dX12_greedy_9 (by decide) ?_
  refine sim_istore_n (fun v3 => [(1, vI v3), (0, vR 179)]) (fun _ => rfl) (by decide) dX12_greedy_10 (fun v3 => ?_)
  refine sim_iconst dX12_greedy_11 (by decide) ?_
  refine sim_istore_n (fun v4 => [(2, vI v4), (1, vI v3), (0, vR 179)]) (fun _ => rfl) (by decide) dX12_greedy_12 (fun v4 => ?_)
  refine sim_sub [2, 1, 0] (L' := [(0, vR 179), (1, vI v3), (2, vI v4)]) rfl ?_
  refine sim_wh3 (fun (x6 : Int) (x7 : Int) (s8 : JSg) => [(0, vR 179), (1, vI x6), (2, vI x7)]) (fun (x6 : Int) (x7 : Int) (s8 : JSg) => s8) ?_ n v3 v4 s2
  intro rc5 hrc5 x6 x7 s8
  refine sim_iload_n 2 rfl dX12_greedy_13 ?_
  refine sim_iconst dX12_greedy_14 (by decide) ?_
  refine sim_aload_n 0 rfl dX12_greedy_15 ?_
  refine sim_callVIp v_RX12_240 sh_179 dX12_greedy_16 (k_M_stones s8) rfl ⟨by decide, by decide⟩ (S := [vI 2, vI x7]) rfl (Nat.le_of_ble_eq_true rfl) (fun r9 => ?_)
  refine sim_imul dX12_greedy_19 ?_
  refine sim_icmp_ge (tgt := 78) dX12_greedy_20 (by decide) ?_ ?_
  · refine sim_aload_n 0 rfl dX12_greedy_78 ?_
    refine sim_callVVm v_RX12_388 sh_179 dX12_greedy_79 (k_M_layBack n s8) rfl ⟨by decide, by decide⟩ (S := []) rfl (Nat.le_of_ble_eq_true rfl) (fun s10 => ?_)
    refine sim_iload_n 1 rfl dX12_greedy_82 ?_
    exact sim_iret rfl rfl dX12_greedy_83
  · refine sim_iload_n 2 rfl dX12_greedy_23 ?_
    refine sim_iconst dX12_greedy_24 (by decide) ?_
    refine sim_idivK (by decide) dX12_greedy_25 ?_
    refine sim_istore_n (fun v11 => [(3, vI v11), (0, vR 179), (1, vI x6), (2, vI x7)]) (fun _ => rfl) (by decide) dX12_greedy_26 (fun v11 => ?_)
    refine sim_aload_n 1 rfl dX12_greedy_27 ?_
    refine sim_aload_n 1 rfl dX12_greedy_28 ?_
    refine sim_getR g_RX12_13 sh_179 rh_179_14 dX12_greedy_29 ?_
    refine sim_bipush dX12_greedy_32 (by decide +kernel) ?_
    refine sim_iload_n 0 rfl dX12_greedy_34 ?_
    refine sim_iadd dX12_greedy_35 ?_
    refine sim_iaload sh_181 rfl dX12_greedy_36 ?_
    refine sim_iload_n 0 rfl dX12_greedy_37 ?_
    refine sim_iload_n 3 rfl dX12_greedy_38 ?_
    refine sim_iconst dX12_greedy_39 (by decide) ?_
    refine sim_iremK (by decide) dX12_greedy_40 ?_
    refine sim_callVIp v_RX12_289 sh_179 dX12_greedy_41 (k_M_whyNot (s8 181 (w32 (67 + v11)).toNat) v11 (rm32 x7 2) s8) rfl ⟨by decide, by decide⟩ (S := []) rfl (Nat.le_of_ble_eq_true rfl) (fun r12 => ?_)
    refine sim_jn3 (pc' := 75) (fun (y14 : Int) (y15 : Int) (s16 : JSg) => [(0, vR 179), (1, vI y14), (2, vI y15)]) (fun (y14 : Int) (y15 : Int) (s16 : JSg) => []) (fun (y14 : Int) (y15 : Int) (s16 : JSg) => s16) ?_ (fun j13 hj13 => ?_)
    · intro y14 y15 s16
      refine sim_goto (tgt := 13) dX12_greedy_75 (by decide) ?_
      exact sim_sub [0, 1, 2] rfl (hrc5 y14 y15 s16)
    refine sim_if_ne (tgt := 72) dX12_greedy_44 (by decide) ?_ ?_
    · refine sim_iinc 3 rfl (fun v17 => [(2, vI v17), (3, vI v11), (0, vR 179), (1, vI x6)]) (fun _ => rfl) (by decide) dX12_greedy_72 (fun v17 => ?_)
      exact sim_sub [2, 3, 0] rfl (hj13 x6 v17 s8)
    · refine sim_aload_n 1 rfl dX12_greedy_47 ?_
      refine sim_aload_n 1 rfl dX12_greedy_48 ?_
      refine sim_getR g_RX12_13 sh_179 rh_179_14 dX12_greedy_49 ?_
      refine sim_bipush dX12_greedy_52 (by decide +kernel) ?_
      refine sim_iload_n 0 rfl dX12_greedy_54 ?_
      refine sim_iadd dX12_greedy_55 ?_
      refine sim_iaload sh_181 rfl dX12_greedy_56 ?_
      refine sim_iload_n 0 rfl dX12_greedy_57 ?_
      refine sim_iload_n 3 rfl dX12_greedy_58 ?_
      refine sim_iconst dX12_greedy_59 (by decide) ?_
      refine sim_iremK (by decide) dX12_greedy_60 ?_
      refine sim_callVVm v_RX12_296 sh_179 dX12_greedy_61 (k_M_lays n (s8 181 (w32 (67 + v11)).toNat) v11 (rm32 x7 2) s8) rfl ⟨by decide, by decide⟩ (S := []) rfl (Nat.le_of_ble_eq_true rfl) (fun s18 => ?_)
      refine sim_iinc 2 rfl (fun v19 => [(1, vI v19), (3, vI v11), (0, vR 179), (2, vI x7)]) (fun _ => rfl) (by decide) dX12_greedy_64 (fun v19 => ?_)
      refine sim_iconst dX12_greedy_67 (by decide) ?_
      refine sim_istore_n (fun v20 => [(2, vI v20), (1, vI v19), (3, vI v11), (0, vR 179)]) (fun _ => rfl) (by decide) dX12_greedy_68 (fun v20 => ?_)
      refine sim_goto (tgt := 75) dX12_greedy_69 (by decide) ?_
      exact sim_sub [3, 1, 0] rfl (hj13 v19 v20 s18)
theorem dX12_counts_0 : decode cX12_counts 0 = .ok (.aload_n 0, 1) := by decide +kernel
theorem dX12_counts_1 : decode cX12_counts 1 = .ok (.iconst 0, 1) := by decide +kernel
theorem dX12_counts_2 : decode cX12_counts 2 = .ok (.putfield 87, 3) := by decide +kernel
theorem dX12_counts_5 : decode cX12_counts 5 = .ok (.iload_n 1, 1) := by decide +kernel
theorem dX12_counts_6 : decode cX12_counts 6 = .ok (.iconst 0, 1) := by decide +kernel
theorem dX12_counts_7 : decode cX12_counts 7 = .ok (.bipush 6, 2) := by decide +kernel
theorem dX12_counts_9 : decode cX12_counts 9 = .ok (.invokestatic 158, 3) := by decide +kernel
theorem dX12_counts_12 : decode cX12_counts 12 = .ok (.ifCond .eq 12, 3) := by decide +kernel
theorem dX12_counts_15 : decode cX12_counts 15 = .ok (.iload_n 2, 1) := by decide +kernel
theorem dX12_counts_16 : decode cX12_counts 16 = .ok (.iconst 0, 1) := by decide +kernel
theorem dX12_counts_17 : decode cX12_counts 17 = .ok (.iconst 2, 1) := by decide +kernel
theorem dX12_counts_18 : decode cX12_counts 18 = .ok (.invokestatic 158, 3) := by decide +kernel
theorem dX12_counts_21 : decode cX12_counts 21 = .ok (.ifCond .ne 5, 3) := by decide +kernel
theorem dX12_counts_24 : decode cX12_counts 24 = .ok (.iconst (-1), 1) := by decide +kernel
theorem dX12_counts_25 : decode cX12_counts 25 = .ok (.ireturn, 1) := by decide +kernel
theorem dX12_counts_26 : decode cX12_counts 26 = .ok (.iconst 0, 1) := by decide +kernel
theorem dX12_counts_27 : decode cX12_counts 27 = .ok (.istore_n 3, 1) := by decide +kernel
theorem dX12_counts_28 : decode cX12_counts 28 = .ok (.iconst 0, 1) := by decide +kernel
theorem dX12_counts_29 : decode cX12_counts 29 = .ok (.istore 4, 2) := by decide +kernel
theorem dX12_counts_31 : decode cX12_counts 31 = .ok (.iload 4, 2) := by decide +kernel
theorem dX12_counts_33 : decode cX12_counts 33 = .ok (.aload_n 0, 1) := by decide +kernel
theorem dX12_counts_34 : decode cX12_counts 34 = .ok (.invokevirtual 240, 3) := by decide +kernel
theorem dX12_counts_37 : decode cX12_counts 37 = .ok (.if_icmp .ge 53, 3) := by decide +kernel
theorem dX12_counts_40 : decode cX12_counts 40 = .ok (.iconst 0, 1) := by decide +kernel
theorem dX12_counts_41 : decode cX12_counts 41 = .ok (.istore 5, 2) := by decide +kernel
theorem dX12_counts_43 : decode cX12_counts 43 = .ok (.iload 5, 2) := by decide +kernel
theorem dX12_counts_45 : decode cX12_counts 45 = .ok (.iconst 2, 1) := by decide +kernel
theorem dX12_counts_46 : decode cX12_counts 46 = .ok (.if_icmp .ge 38, 3) := by decide +kernel
theorem dX12_counts_49 : decode cX12_counts 49 = .ok (.aload_n 0, 1) := by decide +kernel
theorem dX12_counts_50 : decode cX12_counts 50 = .ok (.getfield 13, 3) := by decide +kernel
theorem dX12_counts_53 : decode cX12_counts 53 = .ok (.bipush 95, 2) := by decide +kernel
theorem dX12_counts_55 : decode cX12_counts 55 = .ok (.iload 4, 2) := by decide +kernel
theorem dX12_counts_57 : decode cX12_counts 57 = .ok (.iadd, 1) := by decide +kernel
theorem dX12_counts_58 : decode cX12_counts 58 = .ok (.iaload, 1) := by decide +kernel
theorem dX12_counts_59 : decode cX12_counts 59 = .ok (.iload_n 2, 1) := by decide +kernel
theorem dX12_counts_60 : decode cX12_counts 60 = .ok (.if_icmp .ne 18, 3) := by decide +kernel
theorem dX12_counts_63 : decode cX12_counts 63 = .ok (.aload_n 0, 1) := by decide +kernel
theorem dX12_counts_64 : decode cX12_counts 64 = .ok (.iload 4, 2) := by decide +kernel
theorem dX12_counts_66 : decode cX12_counts 66 = .ok (.iload 5, 2) := by decide +kernel
theorem dX12_counts_68 : decode cX12_counts 68 = .ok (.invokevirtual 243, 3) := by decide +kernel
theorem dX12_counts_71 : decode cX12_counts 71 = .ok (.iload_n 1, 1) := by decide +kernel
theorem dX12_counts_72 : decode cX12_counts 72 = .ok (.if_icmp .ne 6, 3) := by decide +kernel
theorem dX12_counts_75 : decode cX12_counts 75 = .ok (.iinc 3 1, 3) := by decide +kernel
theorem dX12_counts_78 : decode cX12_counts 78 = .ok (.iinc 5 1, 3) := by decide +kernel
theorem dX12_counts_81 : decode cX12_counts 81 = .ok (.goto (-38), 3) := by decide +kernel
theorem dX12_counts_84 : decode cX12_counts 84 = .ok (.iinc 4 1, 3) := by decide +kernel
theorem dX12_counts_87 : decode cX12_counts 87 = .ok (.goto (-56), 3) := by decide +kernel
theorem dX12_counts_90 : decode cX12_counts 90 = .ok (.iload_n 3, 1) := by decide +kernel
theorem dX12_counts_91 : decode cX12_counts 91 = .ok (.ireturn, 1) := by decide +kernel
def f_M_counts (n : Nat)  (a1 : Int) (a2 : Int) (σ : JSg) : Option (Int × JSg) :=
  lt_ (sp σ 179 0 0) fun s1 => bd1 (f_M_isIn a1 0 6 s1) fun r2 => if r2 = 0 then (some ((-1), s1)) else (bd1 (f_M_isIn a2 0 2 s1) fun r3 => if r3 = 0 then (some ((-1), s1)) else (lt_ 0 fun v4 => lt_ 0 fun v5 => wh2 n (fun rc6 (x7 : Int) (x8 : Int) => bd1 (f_M_stones s1) fun r9 => if x8 < r9 then (lt_ 0 fun v10 => wh2 n (fun rc11 (x12 : Int) (x13 : Int) => if x13 < 2 then (chk (0 ≤ (w32 (95 + x8)) ∧ (w32 (95 + x8)) < 448) <| jn1 (fun (y16 : Int) => lt_ (w32 (x13 + 1)) fun v17 => rc11 y16 v17) fun j15 => if (s1 181 (w32 (95 + x8)).toNat) = a2 then (bd1 (f_M_pip x8 x13 s1) fun r18 => if r18 = a1 then (lt_ (w32 (x12 + 1)) fun v19 => j15 v19) else (j15 x12)) else (j15 x12)) else (lt_ (w32 (x8 + 1)) fun v14 => rc6 x12 v14)) x7 v10) else (some (x7, s1))) v4 v5))
set_option maxRecDepth 20000 in
set_option maxHeartbeats 4000000 in
theorem k_M_counts  (n : Nat)   (a1 : Int) (a2 : Int) (σ : JSg) : Call yX12_counts cX12_counts 6 (some .int) 1 SH RHO [vR 179, vI a1, vI a2] σ dIm (f_M_counts n a1 a2 σ) := by
  refine call_of_sim (by decide +kernel) (Nat.le_of_ble_eq_true rfl) ?_
  show Sim RX12 cX12_counts 6 (some .int) 1 SH RHO 0 [(0, vR 179), (1, vI a1), (2, vI a2)] [] σ dIm (f_M_counts n a1 a2 σ)
  unfold f_M_counts
  refine sim_aload_n 0 rfl dX12_counts_0 ?_
  refine sim_iconst dX12_counts_1 (by decide) ?_
  refine sim_putI g_RX12_87 sh_179 dX12_counts_2 (fun s1 => ?_)
  refine sim_iload_n 1 rfl dX12_counts_5 ?_
  refine sim_iconst dX12_counts_6 (by decide) ?_
  refine sim_bipush dX12_counts_7 (by decide +kernel) ?_
  refine sim_callSIp s_RX12_158 dX12_counts_9 (k_M_isIn SH RHO a1 0 6 s1) rfl ⟨by decide, by decide⟩ (S := []) rfl (Nat.le_of_ble_eq_true rfl) (fun r2 => ?_)
  refine sim_if_eq (tgt := 24) dX12_counts_12 (by decide) ?_ ?_
  · refine sim_iconst dX12_counts_24 (by decide) ?_
    exact sim_iret rfl rfl dX12_counts_25
  · refine sim_iload_n 2 rfl dX12_counts_15 ?_
    refine sim_iconst dX12_counts_16 (by decide) ?_
    refine sim_iconst dX12_counts_17 (by decide) ?_
    refine sim_callSIp s_RX12_158 dX12_counts_18 (k_M_isIn SH RHO a2 0 2 s1) rfl ⟨by decide, by decide⟩ (S := []) rfl (Nat.le_of_ble_eq_true rfl) (fun r3 => ?_)
    refine sim_if_ne (tgt := 26) dX12_counts_21 (by decide) ?_ ?_
    · refine sim_iconst dX12_counts_26 (by decide) ?_
      refine sim_istore_n (fun v4 => [(3, vI v4), (0, vR 179), (1, vI a1), (2, vI a2)]) (fun _ => rfl) (by decide) dX12_counts_27 (fun v4 => ?_)
      refine sim_iconst dX12_counts_28 (by decide) ?_
      refine sim_istore (fun v5 => [(4, vI v5), (3, vI v4), (0, vR 179), (1, vI a1), (2, vI a2)]) (fun _ => rfl) (by decide) dX12_counts_29 (fun v5 => ?_)
      refine sim_sub [2, 3, 4, 1, 0] (L' := [(0, vR 179), (1, vI a1), (2, vI a2), (3, vI v4), (4, vI v5)]) rfl ?_
      refine sim_wh2 (fun (x7 : Int) (x8 : Int) => [(0, vR 179), (1, vI a1), (2, vI a2), (3, vI x7), (4, vI x8)]) (fun (x7 : Int) (x8 : Int) => s1) ?_ n v4 v5
      intro rc6 hrc6 x7 x8
      refine sim_iload 4 rfl dX12_counts_31 ?_
      refine sim_aload_n 0 rfl dX12_counts_33 ?_
      refine sim_callVIp v_RX12_240 sh_179 dX12_counts_34 (k_M_stones s1) rfl ⟨by decide, by decide⟩ (S := [vI x8]) rfl (Nat.le_of_ble_eq_true rfl) (fun r9 => ?_)
      refine sim_icmp_ge (tgt := 90) dX12_counts_37 (by decide) ?_ ?_
      · refine sim_iload_n 3 rfl dX12_counts_90 ?_
        exact sim_iret rfl rfl dX12_counts_91
      · refine sim_iconst dX12_counts_40 (by decide) ?_
        refine sim_istore (fun v10 => [(5, vI v10), (0, vR 179), (1, vI a1), (2, vI a2), (3, vI x7), (4, vI x8)]) (fun _ => rfl) (by decide) dX12_counts_41 (fun v10 => ?_)
        refine sim_sub [1, 2, 3, 4, 5, 0] (L' := [(0, vR 179), (1, vI a1), (2, vI a2), (3, vI x7), (4, vI x8), (5, vI v10)]) rfl ?_
        refine sim_wh2 (fun (x12 : Int) (x13 : Int) => [(0, vR 179), (1, vI a1), (2, vI a2), (3, vI x12), (4, vI x8), (5, vI x13)]) (fun (x12 : Int) (x13 : Int) => s1) ?_ n x7 v10
        intro rc11 hrc11 x12 x13
        refine sim_iload 5 rfl dX12_counts_43 ?_
        refine sim_iconst dX12_counts_45 (by decide) ?_
        refine sim_icmp_ge (tgt := 84) dX12_counts_46 (by decide) ?_ ?_
        · refine sim_iinc 4 rfl (fun v14 => [(4, vI v14), (0, vR 179), (1, vI a1), (2, vI a2), (3, vI x12), (5, vI x13)]) (fun _ => rfl) (by decide) dX12_counts_84 (fun v14 => ?_)
          refine sim_goto (tgt := 31) dX12_counts_87 (by decide) ?_
          exact sim_sub [1, 2, 3, 4, 0] rfl (hrc6 x12 v14)
        · refine sim_aload_n 0 rfl dX12_counts_49 ?_
          refine sim_getR g_RX12_13 sh_179 rh_179_14 dX12_counts_50 ?_
          refine sim_bipush dX12_counts_53 (by decide +kernel) ?_
          refine sim_iload 4 rfl dX12_counts_55 ?_
          refine sim_iadd dX12_counts_57 ?_
          refine sim_iaload sh_181 rfl dX12_counts_58 ?_
          refine sim_iload_n 2 rfl dX12_counts_59 ?_
          refine sim_jn1 (pc' := 78) (fun (y16 : Int) => [(0, vR 179), (1, vI a1), (2, vI a2), (3, vI y16), (4, vI x8), (5, vI x13)]) (fun (y16 : Int) => []) (fun (y16 : Int) => s1) ?_ (fun j15 hj15 => ?_)
          · intro y16
            refine sim_iinc 5 rfl (fun v17 => [(5, vI v17), (0, vR 179), (1, vI a1), (2, vI a2), (3, vI y16), (4, vI x8)]) (fun _ => rfl) (by decide) dX12_counts_78 (fun v17 => ?_)
            refine sim_goto (tgt := 43) dX12_counts_81 (by decide) ?_
            exact sim_sub [1, 2, 3, 4, 5, 0] rfl (hrc11 y16 v17)
          refine sim_icmp_ne (tgt := 78) dX12_counts_60 (by decide) ?_ ?_
          · exact sim_sub [0, 1, 2, 3, 4, 5] rfl (hj15 x12)
          · refine sim_aload_n 0 rfl dX12_counts_63 ?_
            refine sim_iload 4 rfl dX12_counts_64 ?_
            refine sim_iload 5 rfl dX12_counts_66 ?_
            refine sim_callVIp v_RX12_243 sh_179 dX12_counts_68 (k_M_pip x8 x13 s1) rfl ⟨by decide, by decide⟩ (S := []) rfl (Nat.le_of_ble_eq_true rfl) (fun r18 => ?_)
            refine sim_iload_n 1 rfl dX12_counts_71 ?_
            refine sim_icmp_ne (tgt := 78) dX12_counts_72 (by decide) ?_ ?_
            · exact sim_sub [0, 1, 2, 3, 4, 5] rfl (hj15 x12)
            · refine sim_iinc 3 rfl (fun v19 => [(3, vI v19), (0, vR 179), (1, vI a1), (2, vI a2), (4, vI x8), (5, vI x13)]) (fun _ => rfl) (by decide) dX12_counts_75 (fun v19 => ?_)
              exact sim_sub [1, 2, 3, 0, 4, 5] rfl (hj15 v19)
    · refine sim_iconst dX12_counts_24 (by decide) ?_
      exact sim_iret rfl rfl dX12_counts_25
theorem dX12_dearest_0 : decode cX12_dearest 0 = .ok (.aload_n 0, 1) := by decide +kernel
theorem dX12_dearest_1 : decode cX12_dearest 1 = .ok (.iconst 0, 1) := by decide +kernel
theorem dX12_dearest_2 : decode cX12_dearest 2 = .ok (.putfield 87, 3) := by decide +kernel
theorem dX12_dearest_5 : decode cX12_dearest 5 = .ok (.iconst (-1), 1) := by decide +kernel
theorem dX12_dearest_6 : decode cX12_dearest 6 = .ok (.istore_n 1, 1) := by decide +kernel
theorem dX12_dearest_7 : decode cX12_dearest 7 = .ok (.iconst 0, 1) := by decide +kernel
theorem dX12_dearest_8 : decode cX12_dearest 8 = .ok (.istore_n 2, 1) := by decide +kernel
theorem dX12_dearest_9 : decode cX12_dearest 9 = .ok (.iload_n 2, 1) := by decide +kernel
theorem dX12_dearest_10 : decode cX12_dearest 10 = .ok (.aload_n 0, 1) := by decide +kernel
theorem dX12_dearest_11 : decode cX12_dearest 11 = .ok (.invokevirtual 237, 3) := by decide +kernel
theorem dX12_dearest_14 : decode cX12_dearest 14 = .ok (.if_icmp .ge 61, 3) := by decide +kernel
theorem dX12_dearest_17 : decode cX12_dearest 17 = .ok (.iload_n 1, 1) := by decide +kernel
theorem dX12_dearest_18 : decode cX12_dearest 18 = .ok (.iconst (-1), 1) := by decide +kernel
theorem dX12_dearest_19 : decode cX12_dearest 19 = .ok (.if_icmp .eq 48, 3) := by decide +kernel
theorem dX12_dearest_22 : decode cX12_dearest 22 = .ok (.aload_n 0, 1) := by decide +kernel
theorem dX12_dearest_23 : decode cX12_dearest 23 = .ok (.getfield 13, 3) := by decide +kernel
theorem dX12_dearest_26 : decode cX12_dearest 26 = .ok (.sipush 180, 3) := by decide +kernel
theorem dX12_dearest_29 : decode cX12_dearest 29 = .ok (.iload_n 2, 1) := by decide +kernel
theorem dX12_dearest_30 : decode cX12_dearest 30 = .ok (.iadd, 1) := by decide +kernel
theorem dX12_dearest_31 : decode cX12_dearest 31 = .ok (.iaload, 1) := by decide +kernel
theorem dX12_dearest_32 : decode cX12_dearest 32 = .ok (.aload_n 0, 1) := by decide +kernel
theorem dX12_dearest_33 : decode cX12_dearest 33 = .ok (.getfield 13, 3) := by decide +kernel
theorem dX12_dearest_36 : decode cX12_dearest 36 = .ok (.sipush 186, 3) := by decide +kernel
theorem dX12_dearest_39 : decode cX12_dearest 39 = .ok (.iload_n 2, 1) := by decide +kernel
theorem dX12_dearest_40 : decode cX12_dearest 40 = .ok (.iadd, 1) := by decide +kernel
theorem dX12_dearest_41 : decode cX12_dearest 41 = .ok (.iaload, 1) := by decide +kernel
theorem dX12_dearest_42 : decode cX12_dearest 42 = .ok (.isub, 1) := by decide +kernel
theorem dX12_dearest_43 : decode cX12_dearest 43 = .ok (.aload_n 0, 1) := by decide +kernel
theorem dX12_dearest_44 : decode cX12_dearest 44 = .ok (.getfield 13, 3) := by decide +kernel
theorem dX12_dearest_47 : decode cX12_dearest 47 = .ok (.sipush 180, 3) := by decide +kernel
theorem dX12_dearest_50 : decode cX12_dearest 50 = .ok (.iload_n 1, 1) := by decide +kernel
theorem dX12_dearest_51 : decode cX12_dearest 51 = .ok (.iadd, 1) := by decide +kernel
theorem dX12_dearest_52 : decode cX12_dearest 52 = .ok (.iaload, 1) := by decide +kernel
theorem dX12_dearest_53 : decode cX12_dearest 53 = .ok (.aload_n 0, 1) := by decide +kernel
theorem dX12_dearest_54 : decode cX12_dearest 54 = .ok (.getfield 13, 3) := by decide +kernel
theorem dX12_dearest_57 : decode cX12_dearest 57 = .ok (.sipush 186, 3) := by decide +kernel
theorem dX12_dearest_60 : decode cX12_dearest 60 = .ok (.iload_n 1, 1) := by decide +kernel
theorem dX12_dearest_61 : decode cX12_dearest 61 = .ok (.iadd, 1) := by decide +kernel
theorem dX12_dearest_62 : decode cX12_dearest 62 = .ok (.iaload, 1) := by decide +kernel
theorem dX12_dearest_63 : decode cX12_dearest 63 = .ok (.isub, 1) := by decide +kernel
theorem dX12_dearest_64 : decode cX12_dearest 64 = .ok (.if_icmp .le 5, 3) := by decide +kernel
theorem dX12_dearest_67 : decode cX12_dearest 67 = .ok (.iload_n 2, 1) := by decide +kernel
theorem dX12_dearest_68 : decode cX12_dearest 68 = .ok (.istore_n 1, 1) := by decide +kernel
theorem dX12_dearest_69 : decode cX12_dearest 69 = .ok (.iinc 2 1, 3) := by decide +kernel
theorem dX12_dearest_72 : decode cX12_dearest 72 = .ok (.goto (-63), 3) := by decide +kernel
theorem dX12_dearest_75 : decode cX12_dearest 75 = .ok (.iload_n 1, 1) := by decide +kernel
theorem dX12_dearest_76 : decode cX12_dearest 76 = .ok (.ireturn, 1) := by decide +kernel
def f_M_dearest (n : Nat)   (σ : JSg) : Option (Int × JSg) :=
  lt_ (sp σ 179 0 0) fun s1 => lt_ (-1) fun v2 => lt_ 0 fun v3 => wh2 n (fun rc4 (x5 : Int) (x6 : Int) => bd1 (f_M_widows s1) fun r7 => if x6 < r7 then (jn1 (fun (y9 : Int) => lt_ (w32 (x6 + 1)) fun v10 => rc4 y9 v10) fun j8 => jn0 (lt_ x6 fun v12 => j8 v12) fun j11 => if x5 = (-1) then (j11) else (chk (0 ≤ (w32 (180 + x6)) ∧ (w32 (180 + x6)) < 448) <| chk (0 ≤ (w32 (186 + x6)) ∧ (w32 (186 + x6)) < 448) <| lt_ (w32 ((s1 181 (w32 (180 + x6)).toNat) - (s1 181 (w32 (186 + x6)).toNat))) fun t13 => chk (0 ≤ (w32 (180 + x5)) ∧ (w32 (180 + x5)) < 448) <| chk (0 ≤ (w32 (186 + x5)) ∧ (w32 (186 + x5)) < 448) <| lt_ (w32 ((s1 181 (w32 (180 + x5)).toNat) - (s1 181 (w32 (186 + x5)).toNat))) fun t14 => if t14 < t13 then (j11) else (j8 x5))) else (some (x5, s1))) v2 v3
set_option maxRecDepth 20000 in
set_option maxHeartbeats 4000000 in
theorem k_M_dearest  (n : Nat)    (σ : JSg) : Call yX12_dearest cX12_dearest 3 (some .int) 1 SH RHO [vR 179] σ dIm (f_M_dearest n σ) := by
  refine call_of_sim (by decide +kernel) (Nat.le_of_ble_eq_true rfl) ?_
  show Sim RX12 cX12_dearest 3 (some .int) 1 SH RHO 0 [(0, vR 179)] [] σ dIm (f_M_dearest n σ)
  unfold f_M_dearest
  refine sim_aload_n 0 rfl dX12_dearest_0 ?_
  refine sim_iconst dX12_dearest_1 (by decide) ?_
  refine sim_putI g_RX12_87 sh_179 dX12_dearest_2 (fun s1 => ?_)
  refine sim_iconst dX12_dearest_5 (by decide) ?_
  refine sim_istore_n (fun v2 => [(1, vI v2), (0, vR 179)]) (fun _ => rfl) (by decide) dX12_dearest_6 (fun v2 => ?_)
  refine sim_iconst dX12_dearest_7 (by decide) ?_
  refine sim_istore_n (fun v3 => [(2, vI v3), (1, vI v2), (0, vR 179)]) (fun _ => rfl) (by decide) dX12_dearest_8 (fun v3 => ?_)
  refine sim_sub [2, 1, 0] (L' := [(0, vR 179), (1, vI v2), (2, vI v3)]) rfl ?_
  refine sim_wh2 (fun (x5 : Int) (x6 : Int) => [(0, vR 179), (1, vI x5), (2, vI x6)]) (fun (x5 : Int) (x6 : Int) => s1) ?_ n v2 v3
  intro rc4 hrc4 x5 x6
  refine sim_iload_n 2 rfl dX12_dearest_9 ?_
  refine sim_aload_n 0 rfl dX12_dearest_10 ?_
  refine sim_callVIp v_RX12_237 sh_179 dX12_dearest_11 (k_M_widows s1) rfl ⟨by decide, by decide⟩ (S := [vI x6]) rfl (Nat.le_of_ble_eq_true rfl) (fun r7 => ?_)
  refine sim_icmp_ge (tgt := 75) dX12_dearest_14 (by decide) ?_ ?_
  · refine sim_iload_n 1 rfl dX12_dearest_75 ?_
    exact sim_iret rfl rfl dX12_dearest_76
  · refine sim_iload_n 1 rfl dX12_dearest_17 ?_
    refine sim_iconst dX12_dearest_18 (by decide) ?_
    refine sim_jn1 (pc' := 69) (fun (y9 : Int) => [(0, vR 179), (1, vI y9), (2, vI x6)]) (fun (y9 : Int) => []) (fun (y9 : Int) => s1) ?_ (fun j8 hj8 => ?_)
    · intro y9
      refine sim_iinc 2 rfl (fun v10 => [(2, vI v10), (0, vR 179), (1, vI y9)]) (fun _ => rfl) (by decide) dX12_dearest_69 (fun v10 => ?_)
      refine sim_goto (tgt := 9) dX12_dearest_72 (by decide) ?_
      exact sim_sub [1, 2, 0] rfl (hrc4 y9 v10)
    refine sim_jn0 (pc' := 67) ([(0, vR 179), (2, vI x6)]) ([]) (s1) ?_ (fun j11 hj11 => ?_)
    · refine sim_iload_n 1 rfl dX12_dearest_67 ?_
      refine sim_istore_n (fun v12 => [(1, vI v12), (0, vR 179), (2, vI x6)]) (fun _ => rfl) (by decide) dX12_dearest_68 (fun v12 => ?_)
      exact sim_sub [1, 0, 2] rfl (hj8 v12)
    refine sim_icmp_eq (tgt := 67) dX12_dearest_19 (by decide) ?_ ?_
    · exact sim_sub [0, 2] rfl (hj11 )
    · refine sim_aload_n 0 rfl dX12_dearest_22 ?_
      refine sim_getR g_RX12_13 sh_179 rh_179_14 dX12_dearest_23 ?_
      refine sim_sipush dX12_dearest_26 (by decide +kernel) ?_
      refine sim_iload_n 2 rfl dX12_dearest_29 ?_
      refine sim_iadd dX12_dearest_30 ?_
      refine sim_iaload sh_181 rfl dX12_dearest_31 ?_
      refine sim_aload_n 0 rfl dX12_dearest_32 ?_
      refine sim_getR g_RX12_13 sh_179 rh_179_14 dX12_dearest_33 ?_
      refine sim_sipush dX12_dearest_36 (by decide +kernel) ?_
      refine sim_iload_n 2 rfl dX12_dearest_39 ?_
      refine sim_iadd dX12_dearest_40 ?_
      refine sim_iaload sh_181 rfl dX12_dearest_41 ?_
      refine sim_isub dX12_dearest_42 ?_
      refine sim_name (fun t13 => ?_)
      refine sim_aload_n 0 rfl dX12_dearest_43 ?_
      refine sim_getR g_RX12_13 sh_179 rh_179_14 dX12_dearest_44 ?_
      refine sim_sipush dX12_dearest_47 (by decide +kernel) ?_
      refine sim_iload_n 1 rfl dX12_dearest_50 ?_
      refine sim_iadd dX12_dearest_51 ?_
      refine sim_iaload sh_181 rfl dX12_dearest_52 ?_
      refine sim_aload_n 0 rfl dX12_dearest_53 ?_
      refine sim_getR g_RX12_13 sh_179 rh_179_14 dX12_dearest_54 ?_
      refine sim_sipush dX12_dearest_57 (by decide +kernel) ?_
      refine sim_iload_n 1 rfl dX12_dearest_60 ?_
      refine sim_iadd dX12_dearest_61 ?_
      refine sim_iaload sh_181 rfl dX12_dearest_62 ?_
      refine sim_isub dX12_dearest_63 ?_
      refine sim_name (fun t14 => ?_)
      refine sim_icmp_le (tgt := 69) dX12_dearest_64 (by decide) ?_ ?_
      · exact sim_sub [0, 1, 2] rfl (hj8 x5)
      · exact sim_sub [0, 2] rfl (hj11 )
theorem dX12_isGap_0 : decode cX12_isGap 0 = .ok (.aload_n 0, 1) := by decide +kernel
theorem dX12_isGap_1 : decode cX12_isGap 1 = .ok (.aload_n 0, 1) := by decide +kernel
theorem dX12_isGap_2 : decode cX12_isGap 2 = .ok (.iload_n 1, 1) := by decide +kernel
theorem dX12_isGap_3 : decode cX12_isGap 3 = .ok (.iconst 1, 1) := by decide +kernel
theorem dX12_isGap_4 : decode cX12_isGap 4 = .ok (.invokevirtual 277, 3) := by decide +kernel
theorem dX12_isGap_7 : decode cX12_isGap 7 = .ok (.aload_n 0, 1) := by decide +kernel
theorem dX12_isGap_8 : decode cX12_isGap 8 = .ok (.iload_n 1, 1) := by decide +kernel
theorem dX12_isGap_9 : decode cX12_isGap 9 = .ok (.iconst 1, 1) := by decide +kernel
theorem dX12_isGap_10 : decode cX12_isGap 10 = .ok (.iadd, 1) := by decide +kernel
theorem dX12_isGap_11 : decode cX12_isGap 11 = .ok (.iconst 0, 1) := by decide +kernel
theorem dX12_isGap_12 : decode cX12_isGap 12 = .ok (.invokevirtual 277, 3) := by decide +kernel
theorem dX12_isGap_15 : decode cX12_isGap 15 = .ok (.invokevirtual 271, 3) := by decide +kernel
theorem dX12_isGap_18 : decode cX12_isGap 18 = .ok (.ifCond .ne 7, 3) := by decide +kernel
theorem dX12_isGap_21 : decode cX12_isGap 21 = .ok (.iconst 1, 1) := by decide +kernel
theorem dX12_isGap_22 : decode cX12_isGap 22 = .ok (.goto 4, 3) := by decide +kernel
theorem dX12_isGap_25 : decode cX12_isGap 25 = .ok (.iconst 0, 1) := by decide +kernel
theorem dX12_isGap_26 : decode cX12_isGap 26 = .ok (.ireturn, 1) := by decide +kernel
def f_M_isGap   (a1 : Int) (σ : JSg) : Option (Int) :=
  bd1 (f_M_rowPip a1 1 σ) fun r1 => bd1 (f_M_rowPip (w32 (a1 + 1)) 0 σ) fun r2 => bd1 (f_M_fit r1 r2 σ) fun r3 => if r3 = 0 then (some 1) else (some 0)
set_option maxRecDepth 20000 in
set_option maxHeartbeats 4000000 in
theorem k_M_isGap     (a1 : Int) (σ : JSg) : Call yX12_isGap cX12_isGap 2 (some .boolean) 2 SH RHO [vR 179, vI a1] σ (dIp σ) (f_M_isGap a1 σ) := by
  refine call_of_sim (by decide +kernel) (Nat.le_of_ble_eq_true rfl) ?_
  show Sim RX12 cX12_isGap 2 (some .boolean) 2 SH RHO 0 [(0, vR 179), (1, vI a1)] [] σ (dIp σ) (f_M_isGap a1 σ)
  unfold f_M_isGap
  refine sim_aload_n 0 rfl dX12_isGap_0 ?_
  refine sim_aload_n 0 rfl dX12_isGap_1 ?_
  refine sim_iload_n 1 rfl dX12_isGap_2 ?_
  refine sim_iconst dX12_isGap_3 (by decide) ?_
  refine sim_callVIp v_RX12_277 sh_179 dX12_isGap_4 (k_M_rowPip a1 1 σ) rfl ⟨by decide, by decide⟩ (S := [vR 179]) rfl (Nat.le_of_ble_eq_true rfl) (fun r1 => ?_)
  refine sim_aload_n 0 rfl dX12_isGap_7 ?_
  refine sim_iload_n 1 rfl dX12_isGap_8 ?_
  refine sim_iconst dX12_isGap_9 (by decide) ?_
  refine sim_iadd dX12_isGap_10 ?_
  refine sim_iconst dX12_isGap_11 (by decide) ?_
  refine sim_callVIp v_RX12_277 sh_179 dX12_isGap_12 (k_M_rowPip (w32 (a1 + 1)) 0 σ) rfl ⟨by decide, by decide⟩ (S := [vI r1, vR 179]) rfl (Nat.le_of_ble_eq_true rfl) (fun r2 => ?_)
  refine sim_callVIp v_RX12_271 sh_179 dX12_isGap_15 (k_M_fit r1 r2 σ) rfl ⟨by decide, by decide⟩ (S := []) rfl (Nat.le_of_ble_eq_true rfl) (fun r3 => ?_)
  refine sim_if_ne (tgt := 25) dX12_isGap_18 (by decide) ?_ ?_
  · refine sim_iconst dX12_isGap_25 (by decide) ?_
    exact sim_zret (Or.inl rfl) rfl rfl dX12_isGap_26
  · refine sim_iconst dX12_isGap_21 (by decide) ?_
    refine sim_goto (tgt := 26) dX12_isGap_22 (by decide) ?_
    exact sim_zret (Or.inr rfl) rfl rfl dX12_isGap_26
theorem dX12_stretch_0 : decode cX12_stretch 0 = .ok (.aload_n 0, 1) := by decide +kernel
theorem dX12_stretch_1 : decode cX12_stretch 1 = .ok (.iconst 0, 1) := by decide +kernel
theorem dX12_stretch_2 : decode cX12_stretch 2 = .ok (.putfield 87, 3) := by decide +kernel
theorem dX12_stretch_5 : decode cX12_stretch 5 = .ok (.iconst 0, 1) := by decide +kernel
theorem dX12_stretch_6 : decode cX12_stretch 6 = .ok (.istore_n 1, 1) := by decide +kernel
theorem dX12_stretch_7 : decode cX12_stretch 7 = .ok (.iconst 0, 1) := by decide +kernel
theorem dX12_stretch_8 : decode cX12_stretch 8 = .ok (.istore_n 2, 1) := by decide +kernel
theorem dX12_stretch_9 : decode cX12_stretch 9 = .ok (.iconst 0, 1) := by decide +kernel
theorem dX12_stretch_10 : decode cX12_stretch 10 = .ok (.istore_n 3, 1) := by decide +kernel
theorem dX12_stretch_11 : decode cX12_stretch 11 = .ok (.iload_n 3, 1) := by decide +kernel
theorem dX12_stretch_12 : decode cX12_stretch 12 = .ok (.aload_n 0, 1) := by decide +kernel
theorem dX12_stretch_13 : decode cX12_stretch 13 = .ok (.invokevirtual 250, 3) := by decide +kernel
theorem dX12_stretch_16 : decode cX12_stretch 16 = .ok (.if_icmp .ge 37, 3) := by decide +kernel
theorem dX12_stretch_19 : decode cX12_stretch 19 = .ok (.iload_n 3, 1) := by decide +kernel
theorem dX12_stretch_20 : decode cX12_stretch 20 = .ok (.ifCond .le 17, 3) := by decide +kernel
theorem dX12_stretch_23 : decode cX12_stretch 23 = .ok (.aload_n 0, 1) := by decide +kernel
theorem dX12_stretch_24 : decode cX12_stretch 24 = .ok (.iload_n 3, 1) := by decide +kernel
theorem dX12_stretch_25 : decode cX12_stretch 25 = .ok (.iconst 1, 1) := by decide +kernel
theorem dX12_stretch_26 : decode cX12_stretch 26 = .ok (.isub, 1) := by decide +kernel
theorem dX12_stretch_27 : decode cX12_stretch 27 = .ok (.invokevirtual 382, 3) := by decide +kernel
theorem dX12_stretch_30 : decode cX12_stretch 30 = .ok (.ifCond .eq 7, 3) := by decide +kernel
theorem dX12_stretch_33 : decode cX12_stretch 33 = .ok (.iconst 1, 1) := by decide +kernel
theorem dX12_stretch_34 : decode cX12_stretch 34 = .ok (.goto 6, 3) := by decide +kernel
theorem dX12_stretch_37 : decode cX12_stretch 37 = .ok (.iload_n 2, 1) := by decide +kernel
theorem dX12_stretch_38 : decode cX12_stretch 38 = .ok (.iconst 1, 1) := by decide +kernel
theorem dX12_stretch_39 : decode cX12_stretch 39 = .ok (.iadd, 1) := by decide +kernel
theorem dX12_stretch_40 : decode cX12_stretch 40 = .ok (.istore_n 2, 1) := by decide +kernel
theorem dX12_stretch_41 : decode cX12_stretch 41 = .ok (.iload_n 1, 1) := by decide +kernel
theorem dX12_stretch_42 : decode cX12_stretch 42 = .ok (.iload_n 2, 1) := by decide +kernel
theorem dX12_stretch_43 : decode cX12_stretch 43 = .ok (.invokestatic 309, 3) := by decide +kernel
theorem dX12_stretch_46 : decode cX12_stretch 46 = .ok (.istore_n 1, 1) := by decide +kernel
theorem dX12_stretch_47 : decode cX12_stretch 47 = .ok (.iinc 3 1, 3) := by decide +kernel
theorem dX12_stretch_50 : decode cX12_stretch 50 = .ok (.goto (-39), 3) := by decide +kernel
theorem dX12_stretch_53 : decode cX12_stretch 53 = .ok (.iload_n 1, 1) := by decide +kernel
theorem dX12_stretch_54 : decode cX12_stretch 54 = .ok (.ireturn, 1) := by decide +kernel
def f_M_stretch (n : Nat)   (σ : JSg) : Option (Int × JSg) :=
  lt_ (sp σ 179 0 0) fun s1 => lt_ 0 fun v2 => lt_ 0 fun v3 => lt_ 0 fun v4 => wh3 n (fun rc5 (x6 : Int) (x7 : Int) (x8 : Int) => bd1 (f_M_rowMany s1) fun r9 => if x8 < r9 then (jn1 (fun (u11 : Int) => lt_ u11 fun v12 => bd1 (f_M_most x6 v12 s1) fun r13 => lt_ r13 fun v14 => lt_ (w32 (x8 + 1)) fun v15 => rc5 v14 v12 v15) fun j10 => jn0 (j10 (w32 (x7 + 1))) fun j16 => if 0 < x8 then (bd1 (f_M_isGap (w32 (x8 - 1)) s1) fun r17 => if r17 = 0 then (j16) else (j10 1)) else (j16)) else (some (x6, s1))) v2 v3 v4
set_option maxRecDepth 20000 in
set_option maxHeartbeats 4000000 in
theorem k_M_stretch  (n : Nat)    (σ : JSg) : Call yX12_stretch cX12_stretch 4 (some .int) 3 SH RHO [vR 179] σ dIm (f_M_stretch n σ) := by
  refine call_of_sim (by decide +kernel) (Nat.le_of_ble_eq_true rfl) ?_
  show Sim RX12 cX12_stretch 4 (some .int) 3 SH RHO 0 [(0, vR 179)] [] σ dIm (f_M_stretch n σ)
  unfold f_M_stretch
  refine sim_aload_n 0 rfl dX12_stretch_0 ?_
  refine sim_iconst dX12_stretch_1 (by decide) ?_
  refine sim_putI g_RX12_87 sh_179 dX12_stretch_2 (fun s1 => ?_)
  refine sim_iconst dX12_stretch_5 (by decide) ?_
  refine sim_istore_n (fun v2 => [(1, vI v2), (0, vR 179)]) (fun _ => rfl) (by decide) dX12_stretch_6 (fun v2 => ?_)
  refine sim_iconst dX12_stretch_7 (by decide) ?_
  refine sim_istore_n (fun v3 => [(2, vI v3), (1, vI v2), (0, vR 179)]) (fun _ => rfl) (by decide) dX12_stretch_8 (fun v3 => ?_)
  refine sim_iconst dX12_stretch_9 (by decide) ?_
  refine sim_istore_n (fun v4 => [(3, vI v4), (2, vI v3), (1, vI v2), (0, vR 179)]) (fun _ => rfl) (by decide) dX12_stretch_10 (fun v4 => ?_)
  refine sim_sub [3, 2, 1, 0] (L' := [(0, vR 179), (1, vI v2), (2, vI v3), (3, vI v4)]) rfl ?_
  refine sim_wh3 (fun (x6 : Int) (x7 : Int) (x8 : Int) => [(0, vR 179), (1, vI x6), (2, vI x7), (3, vI x8)]) (fun (x6 : Int) (x7 : Int) (x8 : Int) => s1) ?_ n v2 v3 v4
  intro rc5 hrc5 x6 x7 x8
  refine sim_iload_n 3 rfl dX12_stretch_11 ?_
  refine sim_aload_n 0 rfl dX12_stretch_12 ?_
  refine sim_callVIp v_RX12_250 sh_179 dX12_stretch_13 (k_M_rowMany s1) rfl ⟨by decide, by decide⟩ (S := [vI x8]) rfl (Nat.le_of_ble_eq_true rfl) (fun r9 => ?_)
  refine sim_icmp_ge (tgt := 53) dX12_stretch_16 (by decide) ?_ ?_
  · refine sim_iload_n 1 rfl dX12_stretch_53 ?_
    exact sim_iret rfl rfl dX12_stretch_54
  · refine sim_iload_n 3 rfl dX12_stretch_19 ?_
    refine sim_jn1 (pc' := 40) (fun (u11 : Int) => [(0, vR 179), (1, vI x6), (3, vI x8)]) (fun (u11 : Int) => [vI u11]) (fun (u11 : Int) => s1) ?_ (fun j10 hj10 => ?_)
    · intro u11
      refine sim_istore_n (fun v12 => [(2, vI v12), (0, vR 179), (1, vI x6), (3, vI x8)]) (fun _ => rfl) (by decide) dX12_stretch_40 (fun v12 => ?_)
      refine sim_iload_n 2 rfl dX12_stretch_41 ?_
      refine sim_iload_n 0 rfl dX12_stretch_42 ?_
      refine sim_callSIp s_RX12_309 dX12_stretch_43 (k_M_most SH RHO x6 v12 s1) rfl ⟨by decide, by decide⟩ (S := []) rfl (Nat.le_of_ble_eq_true rfl) (fun r13 => ?_)
      refine sim_istore_n (fun v14 => [(1, vI v14), (2, vI v12), (0, vR 179), (3, vI x8)]) (fun _ => rfl) (by decide) dX12_stretch_46 (fun v14 => ?_)
      refine sim_iinc 3 rfl (fun v15 => [(3, vI v15), (1, vI v14), (2, vI v12), (0, vR 179)]) (fun _ => rfl) (by decide) dX12_stretch_47 (fun v15 => ?_)
      refine sim_goto (tgt := 11) dX12_stretch_50 (by decide) ?_
      exact sim_sub [3, 1, 2, 0] rfl (hrc5 v14 v12 v15)
    refine sim_jn0 (pc' := 37) ([(0, vR 179), (1, vI x6), (2, vI x7), (3, vI x8)]) ([]) (s1) ?_ (fun j16 hj16 => ?_)
    · refine sim_iload_n 2 rfl dX12_stretch_37 ?_
      refine sim_iconst dX12_stretch_38 (by decide) ?_
      refine sim_iadd dX12_stretch_39 ?_
      exact sim_sub [0, 1, 3] rfl (hj10 (w32 (x7 + 1)))
    refine sim_if_le (tgt := 37) dX12_stretch_20 (by decide) ?_ ?_
    · exact sim_sub [0, 1, 2, 3] rfl (hj16 )
    · refine sim_aload_n 0 rfl dX12_stretch_23 ?_
      refine sim_iload_n 3 rfl dX12_stretch_24 ?_
      refine sim_iconst dX12_stretch_25 (by decide) ?_
      refine sim_isub dX12_stretch_26 ?_
      refine sim_callVIp v_RX12_382 sh_179 dX12_stretch_27 (k_M_isGap (w32 (x8 - 1)) s1) rfl ⟨by decide, by decide⟩ (S := []) rfl (Nat.le_of_ble_eq_true rfl) (fun r17 => ?_)
      refine sim_if_eq (tgt := 37) dX12_stretch_30 (by decide) ?_ ?_
      · exact sim_sub [0, 1, 2, 3] rfl (hj16 )
      · refine sim_iconst dX12_stretch_33 (by decide) ?_
        refine sim_goto (tgt := 40) dX12_stretch_34 (by decide) ?_
        exact sim_sub [0, 1, 3] rfl (hj10 1)
theorem dX12_gaps_0 : decode cX12_gaps 0 = .ok (.aload_n 0, 1) := by decide +kernel
theorem dX12_gaps_1 : decode cX12_gaps 1 = .ok (.iconst 0, 1) := by decide +kernel
theorem dX12_gaps_2 : decode cX12_gaps 2 = .ok (.putfield 87, 3) := by decide +kernel
theorem dX12_gaps_5 : decode cX12_gaps 5 = .ok (.iconst 0, 1) := by decide +kernel
theorem dX12_gaps_6 : decode cX12_gaps 6 = .ok (.istore_n 2, 1) := by decide +kernel
theorem dX12_gaps_7 : decode cX12_gaps 7 = .ok (.iconst 0, 1) := by decide +kernel
theorem dX12_gaps_8 : decode cX12_gaps 8 = .ok (.istore_n 3, 1) := by decide +kernel
theorem dX12_gaps_9 : decode cX12_gaps 9 = .ok (.iload_n 3, 1) := by decide +kernel
theorem dX12_gaps_10 : decode cX12_gaps 10 = .ok (.iconst 1, 1) := by decide +kernel
theorem dX12_gaps_11 : decode cX12_gaps 11 = .ok (.iadd, 1) := by decide +kernel
theorem dX12_gaps_12 : decode cX12_gaps 12 = .ok (.aload_n 0, 1) := by decide +kernel
theorem dX12_gaps_13 : decode cX12_gaps 13 = .ok (.invokevirtual 250, 3) := by decide +kernel
theorem dX12_gaps_16 : decode cX12_gaps 16 = .ok (.if_icmp .ge 32, 3) := by decide +kernel
theorem dX12_gaps_19 : decode cX12_gaps 19 = .ok (.aload_n 0, 1) := by decide +kernel
theorem dX12_gaps_20 : decode cX12_gaps 20 = .ok (.iload_n 3, 1) := by decide +kernel
theorem dX12_gaps_21 : decode cX12_gaps 21 = .ok (.invokevirtual 382, 3) := by decide +kernel
theorem dX12_gaps_24 : decode cX12_gaps 24 = .ok (.ifCond .ne 6, 3) := by decide +kernel
theorem dX12_gaps_27 : decode cX12_gaps 27 = .ok (.goto 15, 3) := by decide +kernel
theorem dX12_gaps_30 : decode cX12_gaps 30 = .ok (.iload_n 2, 1) := by decide +kernel
theorem dX12_gaps_31 : decode cX12_gaps 31 = .ok (.iload_n 1, 1) := by decide +kernel
theorem dX12_gaps_32 : decode cX12_gaps 32 = .ok (.if_icmp .ne 7, 3) := by decide +kernel
theorem dX12_gaps_35 : decode cX12_gaps 35 = .ok (.iload_n 3, 1) := by decide +kernel
theorem dX12_gaps_36 : decode cX12_gaps 36 = .ok (.iconst 1, 1) := by decide +kernel
theorem dX12_gaps_37 : decode cX12_gaps 37 = .ok (.iadd, 1) := by decide +kernel
theorem dX12_gaps_38 : decode cX12_gaps 38 = .ok (.ireturn, 1) := by decide +kernel
theorem dX12_gaps_39 : decode cX12_gaps 39 = .ok (.iinc 2 1, 3) := by decide +kernel
theorem dX12_gaps_42 : decode cX12_gaps 42 = .ok (.iinc 3 1, 3) := by decide +kernel
theorem dX12_gaps_45 : decode cX12_gaps 45 = .ok (.goto (-36), 3) := by decide +kernel
theorem dX12_gaps_48 : decode cX12_gaps 48 = .ok (.iload_n 1, 1) := by decide +kernel
theorem dX12_gaps_49 : decode cX12_gaps 49 = .ok (.iconst (-1), 1) := by decide +kernel
theorem dX12_gaps_50 : decode cX12_gaps 50 = .ok (.if_icmp .ne 7, 3) := by decide +kernel
theorem dX12_gaps_53 : decode cX12_gaps 53 = .ok (.iload_n 2, 1) := by decide +kernel
theorem dX12_gaps_54 : decode cX12_gaps 54 = .ok (.goto 4, 3) := by decide +kernel
theorem dX12_gaps_57 : decode cX12_gaps 57 = .ok (.iconst (-1), 1) := by decide +kernel
theorem dX12_gaps_58 : decode cX12_gaps 58 = .ok (.ireturn, 1) := by decide +kernel
def f_M_gaps (n : Nat)  (a1 : Int) (σ : JSg) : Option (Int × JSg) :=
  lt_ (sp σ 179 0 0) fun s1 => lt_ 0 fun v2 => lt_ 0 fun v3 => wh2 n (fun rc4 (x5 : Int) (x6 : Int) => bd1 (f_M_rowMany s1) fun r7 => if (w32 (x6 + 1)) < r7 then (bd1 (f_M_isGap x6 s1) fun r8 => jn1 (fun (y10 : Int) => lt_ (w32 (x6 + 1)) fun v11 => rc4 y10 v11) fun j9 => if r8 = 0 then (j9 x5) else (if x5 = a1 then (some (w32 (x6 + 1), s1)) else (lt_ (w32 (x5 + 1)) fun v12 => j9 v12))) else (if a1 = (-1) then (some (x5, s1)) else (some ((-1), s1)))) v2 v3
set_option maxRecDepth 20000 in
set_option maxHeartbeats 4000000 in
theorem k_M_gaps  (n : Nat)   (a1 : Int) (σ : JSg) : Call yX12_gaps cX12_gaps 4 (some .int) 3 SH RHO [vR 179, vI a1] σ dIm (f_M_gaps n a1 σ) := by
  refine call_of_sim (by decide +kernel) (Nat.le_of_ble_eq_true rfl) ?_
  show Sim RX12 cX12_gaps 4 (some .int) 3 SH RHO 0 [(0, vR 179), (1, vI a1)] [] σ dIm (f_M_gaps n a1 σ)
  unfold f_M_gaps
  refine sim_aload_n 0 rfl dX12_gaps_0 ?_
  refine sim_iconst dX12_gaps_1 (by decide) ?_
  refine sim_putI g_RX12_87 sh_179 dX12_gaps_2 (fun s1 => ?_)
  refine sim_iconst dX12_gaps_5 (by decide) ?_
  refine sim_istore_n (fun v2 => [(2, vI v2), (0, vR 179), (1, vI a1)]) (fun _ => rfl) (by decide) dX12_gaps_6 (fun v2 => ?_)
  refine sim_iconst dX12_gaps_7 (by decide) ?_
  refine sim_istore_n (fun v3 => [(3, vI v3), (2, vI v2), (0, vR 179), (1, vI a1)]) (fun _ => rfl) (by decide) dX12_gaps_8 (fun v3 => ?_)
  refine sim_sub [2, 3, 1, 0] (L' := [(0, vR 179), (1, vI a1), (2, vI v2), (3, vI v3)]) rfl ?_
  refine sim_wh2 (fun (x5 : Int) (x6 : Int) => [(0, vR 179), (1, vI a1), (2, vI x5), (3, vI x6)]) (fun (x5 : Int) (x6 : Int) => s1) ?_ n v2 v3
  intro rc4 hrc4 x5 x6
  refine sim_iload_n 3 rfl dX12_gaps_9 ?_
  refine sim_iconst dX12_gaps_10 (by decide) ?_
  refine sim_iadd dX12_gaps_11 ?_
  refine sim_aload_n 0 rfl dX12_gaps_12 ?_
  refine sim_callVIp v_RX12_250 sh_179 dX12_gaps_13 (k_M_rowMany s1) rfl ⟨by decide, by decide⟩ (S := [vI (w32 (x6 + 1))]) rfl (Nat.le_of_ble_eq_true rfl) (fun r7 => ?_)
  refine sim_icmp_ge (tgt := 48) dX12_gaps_16 (by decide) ?_ ?_
  · refine sim_iload_n 1 rfl dX12_gaps_48 ?_
    refine sim_iconst dX12_gaps_49 (by decide) ?_
    refine sim_icmp_ne (tgt := 57) dX12_gaps_50 (by decide) ?_ ?_
    · refine sim_iconst dX12_gaps_57 (by decide) ?_
      exact sim_iret rfl rfl dX12_gaps_58
    · refine sim_iload_n 2 rfl dX12_gaps_53 ?_
      refine sim_goto (tgt := 58) dX12_gaps_54 (by decide) ?_
      exact sim_iret rfl rfl dX12_gaps_58
  · refine sim_aload_n 0 rfl dX12_gaps_19 ?_
    refine sim_iload_n 3 rfl dX12_gaps_20 ?_
    refine sim_callVIp v_RX12_382 sh_179 dX12_gaps_21 (k_M_isGap x6 s1) rfl ⟨by decide, by decide⟩ (S := []) rfl (Nat.le_of_ble_eq_true rfl) (fun r8 => ?_)
    refine sim_jn1 (pc' := 42) (fun (y10 : Int) => [(0, vR 179), (1, vI a1), (2, vI y10), (3, vI x6)]) (fun (y10 : Int) => []) (fun (y10 : Int) => s1) ?_ (fun j9 hj9 => ?_)
    · intro y10
      refine sim_iinc 3 rfl (fun v11 => [(3, vI v11), (0, vR 179), (1, vI a1), (2, vI y10)]) (fun _ => rfl) (by decide) dX12_gaps_42 (fun v11 => ?_)
      refine sim_goto (tgt := 9) dX12_gaps_45 (by decide) ?_
      exact sim_sub [1, 2, 3, 0] rfl (hrc4 y10 v11)
    refine sim_if_ne (tgt := 30) dX12_gaps_24 (by decide) ?_ ?_
    · refine sim_iload_n 2 rfl dX12_gaps_30 ?_
      refine sim_iload_n 1 rfl dX12_gaps_31 ?_
      refine sim_icmp_ne (tgt := 39) dX12_gaps_32 (by decide) ?_ ?_
      · refine sim_iinc 2 rfl (fun v12 => [(2, vI v12), (0, vR 179), (1, vI a1), (3, vI x6)]) (fun _ => rfl) (by decide) dX12_gaps_39 (fun v12 => ?_)
        exact sim_sub [1, 2, 0, 3] rfl (hj9 v12)
      · refine sim_iload_n 3 rfl dX12_gaps_35 ?_
        refine sim_iconst dX12_gaps_36 (by decide) ?_
        refine sim_iadd dX12_gaps_37 ?_
        exact sim_iret rfl rfl dX12_gaps_38
    · refine sim_goto (tgt := 42) dX12_gaps_27 (by decide) ?_
      exact sim_sub [0, 1, 2, 3] rfl (hj9 x5)
theorem dX12_first_0 : decode cX12_first 0 = .ok (.aload_n 0, 1) := by decide +kernel
theorem dX12_first_1 : decode cX12_first 1 = .ok (.iconst 0, 1) := by decide +kernel
theorem dX12_first_2 : decode cX12_first 2 = .ok (.putfield 87, 3) := by decide +kernel
theorem dX12_first_5 : decode cX12_first 5 = .ok (.aload_n 0, 1) := by decide +kernel
theorem dX12_first_6 : decode cX12_first 6 = .ok (.getfield 58, 3) := by decide +kernel
theorem dX12_first_9 : decode cX12_first 9 = .ok (.ireturn, 1) := by decide +kernel
def f_M_first    (σ : JSg) : Option (Int × JSg) :=
  lt_ (sp σ 179 0 0) fun s1 => some (s1 179 36, s1)
set_option maxRecDepth 20000 in
set_option maxHeartbeats 4000000 in
theorem k_M_first      (σ : JSg) : Call yX12_first cX12_first 1 (some .int) 0 SH RHO [vR 179] σ dIm (f_M_first  σ) := by
  refine call_of_sim (by decide +kernel) (Nat.le_of_ble_eq_true rfl) ?_
  show Sim RX12 cX12_first 1 (some .int) 0 SH RHO 0 [(0, vR 179)] [] σ dIm (f_M_first  σ)
  unfold f_M_first
  refine sim_aload_n 0 rfl dX12_first_0 ?_
  refine sim_iconst dX12_first_1 (by decide) ?_
  refine sim_putI g_RX12_87 sh_179 dX12_first_2 (fun s1 => ?_)
  refine sim_aload_n 0 rfl dX12_first_5 ?_
  refine sim_getI g_RX12_58 sh_179 dX12_first_6 ?_
  exact sim_iret rfl rfl dX12_first_9
theorem dX12_isOver_0 : decode cX12_isOver 0 = .ok (.iconst 0, 1) := by decide +kernel
theorem dX12_isOver_1 : decode cX12_isOver 1 = .ok (.istore 4, 2) := by decide +kernel
theorem dX12_isOver_3 : decode cX12_isOver 3 = .ok (.iload 4, 2) := by decide +kernel
theorem dX12_isOver_5 : decode cX12_isOver 5 = .ok (.iload_n 2, 1) := by decide +kernel
theorem dX12_isOver_6 : decode cX12_isOver 6 = .ok (.if_icmp .ge 39, 3) := by decide +kernel
theorem dX12_isOver_9 : decode cX12_isOver 9 = .ok (.aload_n 0, 1) := by decide +kernel
theorem dX12_isOver_10 : decode cX12_isOver 10 = .ok (.getfield 13, 3) := by decide +kernel
theorem dX12_isOver_13 : decode cX12_isOver 13 = .ok (.bipush 67, 2) := by decide +kernel
theorem dX12_isOver_15 : decode cX12_isOver 15 = .ok (.aload_n 0, 1) := by decide +kernel
theorem dX12_isOver_16 : decode cX12_isOver 16 = .ok (.getfield 39, 3) := by decide +kernel
theorem dX12_isOver_19 : decode cX12_isOver 19 = .ok (.iload 4, 2) := by decide +kernel
theorem dX12_isOver_21 : decode cX12_isOver 21 = .ok (.iaload, 1) := by decide +kernel
theorem dX12_isOver_22 : decode cX12_isOver 22 = .ok (.iadd, 1) := by decide +kernel
theorem dX12_isOver_23 : decode cX12_isOver 23 = .ok (.iaload, 1) := by decide +kernel
theorem dX12_isOver_24 : decode cX12_isOver 24 = .ok (.iload_n 3, 1) := by decide +kernel
theorem dX12_isOver_25 : decode cX12_isOver 25 = .ok (.if_icmp .ne 14, 3) := by decide +kernel
theorem dX12_isOver_28 : decode cX12_isOver 28 = .ok (.iload_n 1, 1) := by decide +kernel
theorem dX12_isOver_29 : decode cX12_isOver 29 = .ok (.iload 4, 2) := by decide +kernel
theorem dX12_isOver_31 : decode cX12_isOver 31 = .ok (.invokestatic 201, 3) := by decide +kernel
theorem dX12_isOver_34 : decode cX12_isOver 34 = .ok (.ifCond .ne 5, 3) := by decide +kernel
theorem dX12_isOver_37 : decode cX12_isOver 37 = .ok (.iconst 0, 1) := by decide +kernel
theorem dX12_isOver_38 : decode cX12_isOver 38 = .ok (.ireturn, 1) := by decide +kernel
theorem dX12_isOver_39 : decode cX12_isOver 39 = .ok (.iinc 4 1, 3) := by decide +kernel
theorem dX12_isOver_42 : decode cX12_isOver 42 = .ok (.goto (-39), 3) := by decide +kernel
theorem dX12_isOver_45 : decode cX12_isOver 45 = .ok (.iconst 1, 1) := by decide +kernel
theorem dX12_isOver_46 : decode cX12_isOver 46 = .ok (.ireturn, 1) := by decide +kernel
def f_M_isOver (n : Nat)  (a1 : Int) (a2 : Int) (a3 : Int) (σ : JSg) : Option (Int) :=
  lt_ 0 fun v1 => wh1 n (fun rc2 (x3 : Int) => if x3 < a2 then (chk (0 ≤ x3 ∧ x3 < 28) <| chk (0 ≤ (w32 (67 + (σ 189 x3.toNat))) ∧ (w32 (67 + (σ 189 x3.toNat))) < 448) <| jn0 (lt_ (w32 (x3 + 1)) fun v5 => rc2 v5) fun j4 => if (σ 181 (w32 (67 + (σ 189 x3.toNat))).toNat) = a3 then (bd1 (f_M_has a1 x3 σ) fun r6 => if r6 = 0 then (some 0) else (j4)) else (j4)) else (some 1)) v1
set_option maxRecDepth 20000 in
set_option maxHeartbeats 4000000 in
theorem k_M_isOver  (n : Nat)   (a1 : Int) (a2 : Int) (a3 : Int) (σ : JSg) : Call yX12_isOver cX12_isOver 5 (some .boolean) 1 SH RHO [vR 179, vI a1, vI a2, vI a3] σ (dIp σ) (f_M_isOver n a1 a2 a3 σ) := by
  refine call_of_sim (by decide +kernel) (Nat.le_of_ble_eq_true rfl) ?_
  show Sim RX12 cX12_isOver 5 (some .boolean) 1 SH RHO 0 [(0, vR 179), (1, vI a1), (2, vI a2), (3, vI a3)] [] σ (dIp σ) (f_M_isOver n a1 a2 a3 σ)
  unfold f_M_isOver
  refine sim_iconst dX12_isOver_0 (by decide) ?_
  refine sim_istore (fun v1 => [(4, vI v1), (0, vR 179), (1, vI a1), (2, vI a2), (3, vI a3)]) (fun _ => rfl) (by decide) dX12_isOver_1 (fun v1 => ?_)
  refine sim_sub [1, 2, 3, 4, 0] (L' := [(0, vR 179), (1, vI a1), (2, vI a2), (3, vI a3), (4, vI v1)]) rfl ?_
  refine sim_wh1 (fun (x3 : Int) => [(0, vR 179), (1, vI a1), (2, vI a2), (3, vI a3), (4, vI x3)]) (fun (x3 : Int) => σ) ?_ n v1
  intro rc2 hrc2 x3
  refine sim_iload 4 rfl dX12_isOver_3 ?_
  refine sim_iload_n 2 rfl dX12_isOver_5 ?_
  refine sim_icmp_ge (tgt := 45) dX12_isOver_6 (by decide) ?_ ?_
  · refine sim_iconst dX12_isOver_45 (by decide) ?_
    exact sim_zret (Or.inr rfl) rfl rfl dX12_isOver_46
  · refine sim_aload_n 0 rfl dX12_isOver_9 ?_
    refine sim_getR g_RX12_13 sh_179 rh_179_14 dX12_isOver_10 ?_
    refine sim_bipush dX12_isOver_13 (by decide +kernel) ?_
    refine sim_aload_n 0 rfl dX12_isOver_15 ?_
    refine sim_getR g_RX12_39 sh_179 rh_179_25 dX12_isOver_16 ?_
    refine sim_iload 4 rfl dX12_isOver_19 ?_
    refine sim_iaload sh_189 rfl dX12_isOver_21 ?_
    refine sim_iadd dX12_isOver_22 ?_
    refine sim_iaload sh_181 rfl dX12_isOver_23 ?_
    refine sim_iload_n 3 rfl dX12_isOver_24 ?_
    refine sim_jn0 (pc' := 39) ([(0, vR 179), (1, vI a1), (2, vI a2), (3, vI a3), (4, vI x3)]) ([]) (σ) ?_ (fun j4 hj4 => ?_)
    · refine sim_iinc 4 rfl (fun v5 => [(4, vI v5), (0, vR 179), (1, vI a1), (2, vI a2), (3, vI a3)]) (fun _ => rfl) (by decide) dX12_isOver_39 (fun v5 => ?_)
      refine sim_goto (tgt := 3) dX12_isOver_42 (by decide) ?_
      exact sim_sub [1, 2, 3, 4, 0] rfl (hrc2 v5)
    refine sim_icmp_ne (tgt := 39) dX12_isOver_25 (by decide) ?_ ?_
    · exact sim_sub [0, 1, 2, 3, 4] rfl (hj4 )
    · refine sim_iload_n 1 rfl dX12_isOver_28 ?_
      refine sim_iload 4 rfl dX12_isOver_29 ?_
      refine sim_callSIp s_RX12_201 dX12_isOver_31 (k_M_has SH RHO a1 x3 σ) rfl ⟨by decide, by decide⟩ (S := []) rfl (Nat.le_of_ble_eq_true rfl) (fun r6 => ?_)
      refine sim_if_ne (tgt := 39) dX12_isOver_34 (by decide) ?_ ?_
      · exact sim_sub [0, 1, 2, 3, 4] rfl (hj4 )
      · refine sim_iconst dX12_isOver_37 (by decide) ?_
        exact sim_zret (Or.inl rfl) rfl rfl dX12_isOver_38
theorem dX12_behind_0 : decode cX12_behind 0 = .ok (.aload_n 0, 1) := by decide +kernel
theorem dX12_behind_1 : decode cX12_behind 1 = .ok (.aload_n 0, 1) := by decide +kernel
theorem dX12_behind_2 : decode cX12_behind 2 = .ok (.aload_n 0, 1) := by decide +kernel
theorem dX12_behind_3 : decode cX12_behind 3 = .ok (.getfield 39, 3) := by decide +kernel
theorem dX12_behind_6 : decode cX12_behind 6 = .ok (.iload_n 1, 1) := by decide +kernel
theorem dX12_behind_7 : decode cX12_behind 7 = .ok (.iaload, 1) := by decide +kernel
theorem dX12_behind_8 : decode cX12_behind 8 = .ok (.iconst 0, 1) := by decide +kernel
theorem dX12_behind_9 : decode cX12_behind 9 = .ok (.invokevirtual 243, 3) := by decide +kernel
theorem dX12_behind_12 : decode cX12_behind 12 = .ok (.iload_n 2, 1) := by decide +kernel
theorem dX12_behind_13 : decode cX12_behind 13 = .ok (.invokevirtual 271, 3) := by decide +kernel
theorem dX12_behind_16 : decode cX12_behind 16 = .ok (.ifCond .eq 17, 3) := by decide +kernel
theorem dX12_behind_19 : decode cX12_behind 19 = .ok (.aload_n 0, 1) := by decide +kernel
theorem dX12_behind_20 : decode cX12_behind 20 = .ok (.aload_n 0, 1) := by decide +kernel
theorem dX12_behind_21 : decode cX12_behind 21 = .ok (.getfield 39, 3) := by decide +kernel
theorem dX12_behind_24 : decode cX12_behind 24 = .ok (.iload_n 1, 1) := by decide +kernel
theorem dX12_behind_25 : decode cX12_behind 25 = .ok (.iaload, 1) := by decide +kernel
theorem dX12_behind_26 : decode cX12_behind 26 = .ok (.iconst 1, 1) := by decide +kernel
theorem dX12_behind_27 : decode cX12_behind 27 = .ok (.invokevirtual 243, 3) := by decide +kernel
theorem dX12_behind_30 : decode cX12_behind 30 = .ok (.goto 37, 3) := by decide +kernel
theorem dX12_behind_33 : decode cX12_behind 33 = .ok (.aload_n 0, 1) := by decide +kernel
theorem dX12_behind_34 : decode cX12_behind 34 = .ok (.aload_n 0, 1) := by decide +kernel
theorem dX12_behind_35 : decode cX12_behind 35 = .ok (.aload_n 0, 1) := by decide +kernel
theorem dX12_behind_36 : decode cX12_behind 36 = .ok (.getfield 39, 3) := by decide +kernel
theorem dX12_behind_39 : decode cX12_behind 39 = .ok (.iload_n 1, 1) := by decide +kernel
theorem dX12_behind_40 : decode cX12_behind 40 = .ok (.iaload, 1) := by decide +kernel
theorem dX12_behind_41 : decode cX12_behind 41 = .ok (.iconst 1, 1) := by decide +kernel
theorem dX12_behind_42 : decode cX12_behind 42 = .ok (.invokevirtual 243, 3) := by decide +kernel
theorem dX12_behind_45 : decode cX12_behind 45 = .ok (.iload_n 2, 1) := by decide +kernel
theorem dX12_behind_46 : decode cX12_behind 46 = .ok (.invokevirtual 271, 3) := by decide +kernel
theorem dX12_behind_49 : decode cX12_behind 49 = .ok (.ifCond .eq 17, 3) := by decide +kernel
theorem dX12_behind_52 : decode cX12_behind 52 = .ok (.aload_n 0, 1) := by decide +kernel
theorem dX12_behind_53 : decode cX12_behind 53 = .ok (.aload_n 0, 1) := by decide +kernel
theorem dX12_behind_54 : decode cX12_behind 54 = .ok (.getfield 39, 3) := by decide +kernel
theorem dX12_behind_57 : decode cX12_behind 57 = .ok (.iload_n 1, 1) := by decide +kernel
theorem dX12_behind_58 : decode cX12_behind 58 = .ok (.iaload, 1) := by decide +kernel
theorem dX12_behind_59 : decode cX12_behind 59 = .ok (.iconst 0, 1) := by decide +kernel
theorem dX12_behind_60 : decode cX12_behind 60 = .ok (.invokevirtual 243, 3) := by decide +kernel
theorem dX12_behind_63 : decode cX12_behind 63 = .ok (.goto 4, 3) := by decide +kernel
theorem dX12_behind_66 : decode cX12_behind 66 = .ok (.iconst (-1), 1) := by decide +kernel
theorem dX12_behind_67 : decode cX12_behind 67 = .ok (.ireturn, 1) := by decide +kernel
def f_M_behind   (a1 : Int) (a2 : Int) (σ : JSg) : Option (Int) :=
  chk (0 ≤ a1 ∧ a1 < 28) <| bd1 (f_M_pip (σ 189 a1.toNat) 0 σ) fun r1 => bd1 (f_M_fit r1 a2 σ) fun r2 => if r2 = 0 then (chk (0 ≤ a1 ∧ a1 < 28) <| bd1 (f_M_pip (σ 189 a1.toNat) 1 σ) fun r3 => bd1 (f_M_fit r3 a2 σ) fun r4 => if r4 = 0 then (some (-1)) else (chk (0 ≤ a1 ∧ a1 < 28) <| bd1 (f_M_pip (σ 189 a1.toNat) 0 σ) fun r5 => some r5)) else (chk (0 ≤ a1 ∧ a1 < 28) <| bd1 (f_M_pip (σ 189 a1.toNat) 1 σ) fun r6 => some r6)
set_option maxRecDepth 20000 in
set_option maxHeartbeats 4000000 in
theorem k_M_behind     (a1 : Int) (a2 : Int) (σ : JSg) : Call yX12_behind cX12_behind 3 (some .int) 2 SH RHO [vR 179, vI a1, vI a2] σ (dIp σ) (f_M_behind a1 a2 σ) := by
  refine call_of_sim (by decide +kernel) (Nat.le_of_ble_eq_true rfl) ?_
  show Sim RX12 cX12_behind 3 (some .int) 2 SH RHO 0 [(0, vR 179), (1, vI a1), (2, vI a2)] [] σ (dIp σ) (f_M_behind a1 a2 σ)
  unfold f_M_behind
  refine sim_aload_n 0 rfl dX12_behind_0 ?_
  refine sim_aload_n 0 rfl dX12_behind_1 ?_
  refine sim_aload_n 0 rfl dX12_behind_2 ?_
  refine sim_getR g_RX12_39 sh_179 rh_179_25 dX12_behind_3 ?_
  refine sim_iload_n 1 rfl dX12_behind_6 ?_
  refine sim_iaload sh_189 rfl dX12_behind_7 ?_
  refine sim_iconst dX12_behind_8 (by decide) ?_
  refine sim_callVIp v_RX12_243 sh_179 dX12_behind_9 (k_M_pip (σ 189 a1.toNat) 0 σ) rfl ⟨by decide, by decide⟩ (S := [vR 179]) rfl (Nat.le_of_ble_eq_true rfl) (fun r1 => ?_)
  refine sim_iload_n 2 rfl dX12_behind_12 ?_
  refine sim_callVIp v_RX12_271 sh_179 dX12_behind_13 (k_M_fit r1 a2 σ) rfl ⟨by decide, by decide⟩ (S := []) rfl (Nat.le_of_ble_eq_true rfl) (fun r2 => ?_)
  refine sim_if_eq (tgt := 33) dX12_behind_16 (by decide) ?_ ?_
  · refine sim_aload_n 0 rfl dX12_behind_33 ?_
    refine sim_aload_n 0 rfl dX12_behind_34 ?_
    refine sim_aload_n 0 rfl dX12_behind_35 ?_
    refine sim_getR g_RX12_39 sh_179 rh_179_25 dX12_behind_36 ?_
    refine sim_iload_n 1 rfl dX12_behind_39 ?_
    refine sim_iaload sh_189 rfl dX12_behind_40 ?_
    refine sim_iconst dX12_behind_41 (by decide) ?_
    refine sim_callVIp v_RX12_243 sh_179 dX12_behind_42 (k_M_pip (σ 189 a1.toNat) 1 σ) rfl ⟨by decide, by decide⟩ (S := [vR 179]) rfl (Nat.le_of_ble_eq_true rfl) (fun r3 => ?_)
    refine sim_iload_n 2 rfl dX12_behind_45 ?_
    refine sim_callVIp v_RX12_271 sh_179 dX12_behind_46 (k_M_fit r3 a2 σ) rfl ⟨by decide, by decide⟩ (S := []) rfl (Nat.le_of_ble_eq_true rfl) (fun r4 => ?_)
    refine sim_if_eq (tgt := 66) dX12_behind_49 (by decide) ?_ ?_
    · refine sim_iconst dX12_behind_66 (by decide) ?_
      exact sim_iret rfl rfl dX12_behind_67
    · refine sim_aload_n 0 rfl dX12_behind_52 ?_
      refine sim_aload_n 0 rfl dX12_behind_53 ?_
      refine sim_getR g_RX12_39 sh_179 rh_179_25 dX12_behind_54 ?_
      refine sim_iload_n 1 rfl dX12_behind_57 ?_
      refine sim_iaload sh_189 rfl dX12_behind_58 ?_
      refine sim_iconst dX12_behind_59 (by decide) ?_
      refine sim_callVIp v_RX12_243 sh_179 dX12_behind_60 (k_M_pip (σ 189 a1.toNat) 0 σ) rfl ⟨by decide, by decide⟩ (S := []) rfl (Nat.le_of_ble_eq_true rfl) (fun r5 => ?_)
      refine sim_goto (tgt := 67) dX12_behind_63 (by decide) ?_
      exact sim_iret rfl rfl dX12_behind_67
  · refine sim_aload_n 0 rfl dX12_behind_19 ?_
    refine sim_aload_n 0 rfl dX12_behind_20 ?_
    refine sim_getR g_RX12_39 sh_179 rh_179_25 dX12_behind_21 ?_
    refine sim_iload_n 1 rfl dX12_behind_24 ?_
    refine sim_iaload sh_189 rfl dX12_behind_25 ?_
    refine sim_iconst dX12_behind_26 (by decide) ?_
    refine sim_callVIp v_RX12_243 sh_179 dX12_behind_27 (k_M_pip (σ 189 a1.toNat) 1 σ) rfl ⟨by decide, by decide⟩ (S := []) rfl (Nat.le_of_ble_eq_true rfl) (fun r6 => ?_)
    refine sim_goto (tgt := 67) dX12_behind_30 (by decide) ?_
    exact sim_iret rfl rfl dX12_behind_67
theorem dX12_canLay_0 : decode cX12_canLay 0 = .ok (.iconst 0, 1) := by decide +kernel
theorem dX12_canLay_1 : decode cX12_canLay 1 = .ok (.istore 6, 2) := by decide +kernel
theorem dX12_canLay_3 : decode cX12_canLay 3 = .ok (.iload 6, 2) := by decide +kernel
theorem dX12_canLay_5 : decode cX12_canLay 5 = .ok (.iload 5, 2) := by decide +kernel
theorem dX12_canLay_7 : decode cX12_canLay 7 = .ok (.if_icmp .ge 62, 3) := by decide +kernel
theorem dX12_canLay_10 : decode cX12_canLay 10 = .ok (.aload_n 0, 1) := by decide +kernel
theorem dX12_canLay_11 : decode cX12_canLay 11 = .ok (.getfield 13, 3) := by decide +kernel
theorem dX12_canLay_14 : decode cX12_canLay 14 = .ok (.bipush 67, 2) := by decide +kernel
theorem dX12_canLay_16 : decode cX12_canLay 16 = .ok (.aload_n 0, 1) := by decide +kernel
theorem dX12_canLay_17 : decode cX12_canLay 17 = .ok (.getfield 39, 3) := by decide +kernel
theorem dX12_canLay_20 : decode cX12_canLay 20 = .ok (.iload 6, 2) := by decide +kernel
theorem dX12_canLay_22 : decode cX12_canLay 22 = .ok (.iaload, 1) := by decide +kernel
theorem dX12_canLay_23 : decode cX12_canLay 23 = .ok (.iadd, 1) := by decide +kernel
theorem dX12_canLay_24 : decode cX12_canLay 24 = .ok (.iaload, 1) := by decide +kernel
theorem dX12_canLay_25 : decode cX12_canLay 25 = .ok (.iload 4, 2) := by decide +kernel
theorem dX12_canLay_27 : decode cX12_canLay 27 = .ok (.if_icmp .ne 36, 3) := by decide +kernel
theorem dX12_canLay_30 : decode cX12_canLay 30 = .ok (.iload_n 1, 1) := by decide +kernel
theorem dX12_canLay_31 : decode cX12_canLay 31 = .ok (.iload 6, 2) := by decide +kernel
theorem dX12_canLay_33 : decode cX12_canLay 33 = .ok (.invokestatic 201, 3) := by decide +kernel
theorem dX12_canLay_36 : decode cX12_canLay 36 = .ok (.ifCond .ne 27, 3) := by decide +kernel
theorem dX12_canLay_39 : decode cX12_canLay 39 = .ok (.aload_n 0, 1) := by decide +kernel
theorem dX12_canLay_40 : decode cX12_canLay 40 = .ok (.iload 6, 2) := by decide +kernel
theorem dX12_canLay_42 : decode cX12_canLay 42 = .ok (.iload_n 2, 1) := by decide +kernel
theorem dX12_canLay_43 : decode cX12_canLay 43 = .ok (.invokevirtual 352, 3) := by decide +kernel
theorem dX12_canLay_46 : decode cX12_canLay 46 = .ok (.iconst (-1), 1) := by decide +kernel
theorem dX12_canLay_47 : decode cX12_canLay 47 = .ok (.if_icmp .ne 14, 3) := by decide +kernel
theorem dX12_canLay_50 : decode cX12_canLay 50 = .ok (.aload_n 0, 1) := by decide +kernel
theorem dX12_canLay_51 : decode cX12_canLay 51 = .ok (.iload 6, 2) := by decide +kernel
theorem dX12_canLay_53 : decode cX12_canLay 53 = .ok (.iload_n 3, 1) := by decide +kernel
theorem dX12_canLay_54 : decode cX12_canLay 54 = .ok (.invokevirtual 352, 3) := by decide +kernel
theorem dX12_canLay_57 : decode cX12_canLay 57 = .ok (.iconst (-1), 1) := by decide +kernel
theorem dX12_canLay_58 : decode cX12_canLay 58 = .ok (.if_icmp .eq 5, 3) := by decide +kernel
theorem dX12_canLay_61 : decode cX12_canLay 61 = .ok (.iconst 1, 1) := by decide +kernel
theorem dX12_canLay_62 : decode cX12_canLay 62 = .ok (.ireturn, 1) := by decide +kernel
theorem dX12_canLay_63 : decode cX12_canLay 63 = .ok (.iinc 6 1, 3) := by decide +kernel
theorem dX12_canLay_66 : decode cX12_canLay 66 = .ok (.goto (-63), 3) := by decide +kernel
theorem dX12_canLay_69 : decode cX12_canLay 69 = .ok (.iconst 0, 1) := by decide +kernel
theorem dX12_canLay_70 : decode cX12_canLay 70 = .ok (.ireturn, 1) := by decide +kernel
def f_M_canLay (n : Nat)  (a1 : Int) (a2 : Int) (a3 : Int) (a4 : Int) (a5 : Int) (σ : JSg) : Option (Int) :=
  lt_ 0 fun v1 => wh1 n (fun rc2 (x3 : Int) => if x3 < a5 then (chk (0 ≤ x3 ∧ x3 < 28) <| chk (0 ≤ (w32 (67 + (σ 189 x3.toNat))) ∧ (w32 (67 + (σ 189 x3.toNat))) < 448) <| jn0 (lt_ (w32 (x3 + 1)) fun v5 => rc2 v5) fun j4 => if (σ 181 (w32 (67 + (σ 189 x3.toNat))).toNat) = a4 then (bd1 (f_M_has a1 x3 σ) fun r6 => if r6 = 0 then (bd1 (f_M_behind x3 a2 σ) fun r7 => if r7 = (-1) then (bd1 (f_M_behind x3 a3 σ) fun r8 => if r8 = (-1) then (j4) else (some 1)) else (some 1)) else (j4)) else (j4)) else (some 0)) v1
set_option maxRecDepth 20000 in
set_option maxHeartbeats 4000000 in
theorem k_M_canLay  (n : Nat)   (a1 : Int) (a2 : Int) (a3 : Int) (a4 : Int) (a5 : Int) (σ : JSg) : Call yX12_canLay cX12_canLay 7 (some .boolean) 3 SH RHO [vR 179, vI a1, vI a2, vI a3, vI a4, vI a5] σ (dIp σ) (f_M_canLay n a1 a2 a3 a4 a5 σ) := by
  refine call_of_sim (by decide +kernel) (Nat.le_of_ble_eq_true rfl) ?_
  show Sim RX12 cX12_canLay 7 (some .boolean) 3 SH RHO 0 [(0, vR 179), (1, vI a1), (2, vI a2), (3, vI a3), (4, vI a4), (5, vI a5)] [] σ (dIp σ) (f_M_canLay n a1 a2 a3 a4 a5 σ)
  unfold f_M_canLay
  refine sim_iconst dX12_canLay_0 (by decide) ?_
  refine sim_istore (fun v1 => [(6, vI v1), (0, vR 179), (1, vI a1), (2, vI a2), (3, vI a3), (4, vI a4), (5, vI a5)]) (fun _ => rfl) (by decide) dX12_canLay_1 (fun v1 => ?_)
  refine sim_sub [1, 2, 3, 4, 5, 6, 0] (L' := [(0, vR 179), (1, vI a1), (2, vI a2), (3, vI a3), (4, vI a4), (5, vI a5), (6, vI v1)]) rfl ?_
  refine sim_wh1 (fun (x3 : Int) => [(0, vR 179), (1, vI a1), (2, vI a2), (3, vI a3), (4, vI a4), (5, vI a5), (6, vI x3)]) (fun (x3 : Int) => σ) ?_ n v1
  intro rc2 hrc2 x3
  refine sim_iload 6 rfl dX12_canLay_3 ?_
  refine sim_iload 5 rfl dX12_canLay_5 ?_
  refine sim_icmp_ge (tgt := 69) dX12_canLay_7 (by decide) ?_ ?_
  · refine sim_iconst dX12_canLay_69 (by decide) ?_
    exact sim_zret (Or.inl rfl) rfl rfl dX12_canLay_70
  · refine sim_aload_n 0 rfl dX12_canLay_10 ?_
    refine sim_getR g_RX12_13 sh_179 rh_179_14 dX12_canLay_11 ?_
    refine sim_bipush dX12_canLay_14 (by decide +kernel) ?_
    refine sim_aload_n 0 rfl dX12_canLay_16 ?_
    refine sim_getR g_RX12_39 sh_179 rh_179_25 dX12_canLay_17 ?_
    refine sim_iload 6 rfl dX12_canLay_20 ?_
    refine sim_iaload sh_189 rfl dX12_canLay_22 ?_
    refine sim_iadd dX12_canLay_23 ?_
    refine sim_iaload sh_181 rfl dX12_canLay_24 ?_
    refine sim_iload 4 rfl dX12_canLay_25 ?_
    refine sim_jn0 (pc' := 63) ([(0, vR 179), (1, vI a1), (2, vI a2), (3, vI a3), (4, vI a4), (5, vI a5), (6, vI x3)]) ([]) (σ) ?_ (fun j4 hj4 => ?_)
    · refine sim_iinc 6 rfl (fun v5 => [(6, vI v5), (0, vR 179), (1, vI a1), (2, vI a2), (3, vI a3), (4, vI a4), (5, vI a5)]) (fun _ => rfl) (by decide) dX12_canLay_63 (fun v5 => ?_)
      refine sim_goto (tgt := 3) dX12_canLay_66 (by decide) ?_
      exact sim_sub [1, 2, 3, 4, 5, 6, 0] rfl (hrc2 v5)
    refine sim_icmp_ne (tgt := 63) dX12_canLay_27 (by decide) ?_ ?_
    · exact sim_sub [0, 1, 2, 3, 4, 5, 6] rfl (hj4 )
    · refine sim_iload_n 1 rfl dX12_canLay_30 ?_
      refine sim_iload 6 rfl dX12_canLay_31 ?_
      refine sim_callSIp s_RX12_201 dX12_canLay_33 (k_M_has SH RHO a1 x3 σ) rfl ⟨by decide, by decide⟩ (S := []) rfl (Nat.le_of_ble_eq_true rfl) (fun r6 => ?_)
      refine sim_if_ne (tgt := 63) dX12_canLay_36 (by decide) ?_ ?_
      · exact sim_sub [0, 1, 2, 3, 4, 5, 6] rfl (hj4 )
      · refine sim_aload_n 0 rfl dX12_canLay_39 ?_
        refine sim_iload 6 rfl dX12_canLay_40 ?_
        refine sim_iload_n 2 rfl dX12_canLay_42 ?_
        refine sim_callVIp v_RX12_352 sh_179 dX12_canLay_43 (k_M_behind x3 a2 σ) rfl ⟨by decide, by decide⟩ (S := []) rfl (Nat.le_of_ble_eq_true rfl) (fun r7 => ?_)
        refine sim_iconst dX12_canLay_46 (by decide) ?_
        refine sim_icmp_ne (tgt := 61) dX12_canLay_47 (by decide) ?_ ?_
        · refine sim_iconst dX12_canLay_61 (by decide) ?_
          exact sim_zret (Or.inr rfl) rfl rfl dX12_canLay_62
        · refine sim_aload_n 0 rfl dX12_canLay_50 ?_
          refine sim_iload 6 rfl dX12_canLay_51 ?_
          refine sim_iload_n 3 rfl dX12_canLay_53 ?_
          refine sim_callVIp v_RX12_352 sh_179 dX12_canLay_54 (k_M_behind x3 a3 σ) rfl ⟨by decide, by decide⟩ (S := []) rfl (Nat.le_of_ble_eq_true rfl) (fun r8 => ?_)
          refine sim_iconst dX12_canLay_57 (by decide) ?_
          refine sim_icmp_eq (tgt := 63) dX12_canLay_58 (by decide) ?_ ?_
          · exact sim_sub [0, 1, 2, 3, 4, 5, 6] rfl (hj4 )
          · refine sim_iconst dX12_canLay_61 (by decide) ?_
            exact sim_zret (Or.inr rfl) rfl rfl dX12_canLay_62
theorem dX12_gameOf_0 : decode cX12_gameOf 0 = .ok (.iload_n 0, 1) := by decide +kernel
theorem dX12_gameOf_1 : decode cX12_gameOf 1 = .ok (.bipush 7, 2) := by decide +kernel
theorem dX12_gameOf_3 : decode cX12_gameOf 3 = .ok (.imul, 1) := by decide +kernel
theorem dX12_gameOf_4 : decode cX12_gameOf 4 = .ok (.iload_n 1, 1) := by decide +kernel
theorem dX12_gameOf_5 : decode cX12_gameOf 5 = .ok (.iadd, 1) := by decide +kernel
theorem dX12_gameOf_6 : decode cX12_gameOf 6 = .ok (.bipush 7, 2) := by decide +kernel
theorem dX12_gameOf_8 : decode cX12_gameOf 8 = .ok (.imul, 1) := by decide +kernel
theorem dX12_gameOf_9 : decode cX12_gameOf 9 = .ok (.iload_n 2, 1) := by decide +kernel
theorem dX12_gameOf_10 : decode cX12_gameOf 10 = .ok (.iadd, 1) := by decide +kernel
theorem dX12_gameOf_11 : decode cX12_gameOf 11 = .ok (.iconst 2, 1) := by decide +kernel
theorem dX12_gameOf_12 : decode cX12_gameOf 12 = .ok (.imul, 1) := by decide +kernel
theorem dX12_gameOf_13 : decode cX12_gameOf 13 = .ok (.iload_n 3, 1) := by decide +kernel
theorem dX12_gameOf_14 : decode cX12_gameOf 14 = .ok (.iadd, 1) := by decide +kernel
theorem dX12_gameOf_15 : decode cX12_gameOf 15 = .ok (.ireturn, 1) := by decide +kernel
def f_M_gameOf   (a1 : Int) (a2 : Int) (a3 : Int) (a4 : Int) (σ : JSg) : Option (Int) :=
  lt_ (w32 ((w32 ((w32 ((w32 ((w32 ((w32 (a1 * 7)) + a2)) * 7)) + a3)) * 2)) + a4)) fun t1 => some t1
set_option maxRecDepth 20000 in
set_option maxHeartbeats 4000000 in
theorem k_M_gameOf (Sh : JSh) (ρ : JRo)    (a1 : Int) (a2 : Int) (a3 : Int) (a4 : Int) (σ : JSg) : Call yX12_gameOf cX12_gameOf 4 (some .int) 0 Sh ρ [vI a1, vI a2, vI a3, vI a4] σ (dIp σ) (f_M_gameOf a1 a2 a3 a4 σ) := by
  refine call_of_sim (by decide +kernel) (Nat.le_of_ble_eq_true rfl) ?_
  show Sim RX12 cX12_gameOf 4 (some .int) 0 Sh ρ 0 [(0, vI a1), (1, vI a2), (2, vI a3), (3, vI a4)] [] σ (dIp σ) (f_M_gameOf a1 a2 a3 a4 σ)
  unfold f_M_gameOf
  refine sim_iload_n 0 rfl dX12_gameOf_0 ?_
  refine sim_bipush dX12_gameOf_1 (by decide +kernel) ?_
  refine sim_imul dX12_gameOf_3 ?_
  refine sim_iload_n 1 rfl dX12_gameOf_4 ?_
  refine sim_iadd dX12_gameOf_5 ?_
  refine sim_bipush dX12_gameOf_6 (by decide +kernel) ?_
  refine sim_imul dX12_gameOf_8 ?_
  refine sim_iload_n 2 rfl dX12_gameOf_9 ?_
  refine sim_iadd dX12_gameOf_10 ?_
  refine sim_iconst dX12_gameOf_11 (by decide) ?_
  refine sim_imul dX12_gameOf_12 ?_
  refine sim_iload_n 3 rfl dX12_gameOf_13 ?_
  refine sim_iadd dX12_gameOf_14 ?_
  refine sim_name (fun t1 => ?_)
  exact sim_iret rfl rfl dX12_gameOf_15
theorem dX12_sum_0 : decode cX12_sum 0 = .ok (.aload_n 0, 1) := by decide +kernel
theorem dX12_sum_1 : decode cX12_sum 1 = .ok (.iload_n 1, 1) := by decide +kernel
theorem dX12_sum_2 : decode cX12_sum 2 = .ok (.iconst 0, 1) := by decide +kernel
theorem dX12_sum_3 : decode cX12_sum 3 = .ok (.invokevirtual 243, 3) := by decide +kernel
theorem dX12_sum_6 : decode cX12_sum 6 = .ok (.aload_n 0, 1) := by decide +kernel
theorem dX12_sum_7 : decode cX12_sum 7 = .ok (.iload_n 1, 1) := by decide +kernel
theorem dX12_sum_8 : decode cX12_sum 8 = .ok (.iconst 1, 1) := by decide +kernel
theorem dX12_sum_9 : decode cX12_sum 9 = .ok (.invokevirtual 243, 3) := by decide +kernel
theorem dX12_sum_12 : decode cX12_sum 12 = .ok (.iadd, 1) := by decide +kernel
theorem dX12_sum_13 : decode cX12_sum 13 = .ok (.ireturn, 1) := by decide +kernel
def f_M_sum   (a1 : Int) (σ : JSg) : Option (Int) :=
  bd1 (f_M_pip a1 0 σ) fun r1 => bd1 (f_M_pip a1 1 σ) fun r2 => some (w32 (r1 + r2))
set_option maxRecDepth 20000 in
set_option maxHeartbeats 4000000 in
theorem k_M_sum     (a1 : Int) (σ : JSg) : Call yX12_sum cX12_sum 2 (some .int) 1 SH RHO [vR 179, vI a1] σ (dIp σ) (f_M_sum a1 σ) := by
  refine call_of_sim (by decide +kernel) (Nat.le_of_ble_eq_true rfl) ?_
  show Sim RX12 cX12_sum 2 (some .int) 1 SH RHO 0 [(0, vR 179), (1, vI a1)] [] σ (dIp σ) (f_M_sum a1 σ)
  unfold f_M_sum
  refine sim_aload_n 0 rfl dX12_sum_0 ?_
  refine sim_iload_n 1 rfl dX12_sum_1 ?_
  refine sim_iconst dX12_sum_2 (by decide) ?_
  refine sim_callVIp v_RX12_243 sh_179 dX12_sum_3 (k_M_pip a1 0 σ) rfl ⟨by decide, by decide⟩ (S := []) rfl (Nat.le_of_ble_eq_true rfl) (fun r1 => ?_)
  refine sim_aload_n 0 rfl dX12_sum_6 ?_
  refine sim_iload_n 1 rfl dX12_sum_7 ?_
  refine sim_iconst dX12_sum_8 (by decide) ?_
  refine sim_callVIp v_RX12_243 sh_179 dX12_sum_9 (k_M_pip a1 1 σ) rfl ⟨by decide, by decide⟩ (S := [vI r1]) rfl (Nat.le_of_ble_eq_true rfl) (fun r2 => ?_)
  refine sim_iadd dX12_sum_12 ?_
  exact sim_iret rfl rfl dX12_sum_13
theorem dX12_pipsLeft_0 : decode cX12_pipsLeft 0 = .ok (.iconst 0, 1) := by decide +kernel
theorem dX12_pipsLeft_1 : decode cX12_pipsLeft 1 = .ok (.istore 4, 2) := by decide +kernel
theorem dX12_pipsLeft_3 : decode cX12_pipsLeft 3 = .ok (.iconst 0, 1) := by decide +kernel
theorem dX12_pipsLeft_4 : decode cX12_pipsLeft 4 = .ok (.istore 5, 2) := by decide +kernel
theorem dX12_pipsLeft_6 : decode cX12_pipsLeft 6 = .ok (.iload 5, 2) := by decide +kernel
theorem dX12_pipsLeft_8 : decode cX12_pipsLeft 8 = .ok (.iload_n 2, 1) := by decide +kernel
theorem dX12_pipsLeft_9 : decode cX12_pipsLeft 9 = .ok (.if_icmp .ge 53, 3) := by decide +kernel
theorem dX12_pipsLeft_12 : decode cX12_pipsLeft 12 = .ok (.aload_n 0, 1) := by decide +kernel
theorem dX12_pipsLeft_13 : decode cX12_pipsLeft 13 = .ok (.getfield 13, 3) := by decide +kernel
theorem dX12_pipsLeft_16 : decode cX12_pipsLeft 16 = .ok (.bipush 67, 2) := by decide +kernel
theorem dX12_pipsLeft_18 : decode cX12_pipsLeft 18 = .ok (.aload_n 0, 1) := by decide +kernel
theorem dX12_pipsLeft_19 : decode cX12_pipsLeft 19 = .ok (.getfield 39, 3) := by decide +kernel
theorem dX12_pipsLeft_22 : decode cX12_pipsLeft 22 = .ok (.iload 5, 2) := by decide +kernel
theorem dX12_pipsLeft_24 : decode cX12_pipsLeft 24 = .ok (.iaload, 1) := by decide +kernel
theorem dX12_pipsLeft_25 : decode cX12_pipsLeft 25 = .ok (.iadd, 1) := by decide +kernel
theorem dX12_pipsLeft_26 : decode cX12_pipsLeft 26 = .ok (.iaload, 1) := by decide +kernel
theorem dX12_pipsLeft_27 : decode cX12_pipsLeft 27 = .ok (.iload_n 3, 1) := by decide +kernel
theorem dX12_pipsLeft_28 : decode cX12_pipsLeft 28 = .ok (.if_icmp .ne 28, 3) := by decide +kernel
theorem dX12_pipsLeft_31 : decode cX12_pipsLeft 31 = .ok (.iload_n 1, 1) := by decide +kernel
theorem dX12_pipsLeft_32 : decode cX12_pipsLeft 32 = .ok (.iload 5, 2) := by decide +kernel
theorem dX12_pipsLeft_34 : decode cX12_pipsLeft 34 = .ok (.invokestatic 201, 3) := by decide +kernel
theorem dX12_pipsLeft_37 : decode cX12_pipsLeft 37 = .ok (.ifCond .ne 19, 3) := by decide +kernel
theorem dX12_pipsLeft_40 : decode cX12_pipsLeft 40 = .ok (.iload 4, 2) := by decide +kernel
theorem dX12_pipsLeft_42 : decode cX12_pipsLeft 42 = .ok (.aload_n 0, 1) := by decide +kernel
theorem dX12_pipsLeft_43 : decode cX12_pipsLeft 43 = .ok (.aload_n 0, 1) := by decide +kernel
theorem dX12_pipsLeft_44 : decode cX12_pipsLeft 44 = .ok (.getfield 39, 3) := by decide +kernel
theorem dX12_pipsLeft_47 : decode cX12_pipsLeft 47 = .ok (.iload 5, 2) := by decide +kernel
theorem dX12_pipsLeft_49 : decode cX12_pipsLeft 49 = .ok (.iaload, 1) := by decide +kernel
theorem dX12_pipsLeft_50 : decode cX12_pipsLeft 50 = .ok (.invokevirtual 268, 3) := by decide +kernel
theorem dX12_pipsLeft_53 : decode cX12_pipsLeft 53 = .ok (.iadd, 1) := by decide +kernel
theorem dX12_pipsLeft_54 : decode cX12_pipsLeft 54 = .ok (.istore 4, 2) := by decide +kernel
theorem dX12_pipsLeft_56 : decode cX12_pipsLeft 56 = .ok (.iinc 5 1, 3) := by decide +kernel
theorem dX12_pipsLeft_59 : decode cX12_pipsLeft 59 = .ok (.goto (-53), 3) := by decide +kernel
theorem dX12_pipsLeft_62 : decode cX12_pipsLeft 62 = .ok (.iload 4, 2) := by decide +kernel
theorem dX12_pipsLeft_64 : decode cX12_pipsLeft 64 = .ok (.ireturn, 1) := by decide +kernel
def f_M_pipsLeft (n : Nat)  (a1 : Int) (a2 : Int) (a3 : Int) (σ : JSg) : Option (Int) :=
  lt_ 0 fun v1 => lt_ 0 fun v2 => wh2 n (fun rc3 (x4 : Int) (x5 : Int) => if x5 < a2 then (chk (0 ≤ x5 ∧ x5 < 28) <| chk (0 ≤ (w32 (67 + (σ 189 x5.toNat))) ∧ (w32 (67 + (σ 189 x5.toNat))) < 448) <| jn1 (fun (y7 : Int) => lt_ (w32 (x5 + 1)) fun v8 => rc3 y7 v8) fun j6 => if (σ 181 (w32 (67 + (σ 189 x5.toNat))).toNat) = a3 then (bd1 (f_M_has a1 x5 σ) fun r9 => if r9 = 0 then (chk (0 ≤ x5 ∧ x5 < 28) <| bd1 (f_M_sum (σ 189 x5.toNat) σ) fun r10 => lt_ (w32 (x4 + r10)) fun v11 => j6 v11) else (j6 x4)) else (j6 x4)) else (some x4)) v1 v2
set_option maxRecDepth 20000 in
set_option maxHeartbeats 4000000 in
theorem k_M_pipsLeft  (n : Nat)   (a1 : Int) (a2 : Int) (a3 : Int) (σ : JSg) : Call yX12_pipsLeft cX12_pipsLeft 6 (some .int) 2 SH RHO [vR 179, vI a1, vI a2, vI a3] σ (dIp σ) (f_M_pipsLeft n a1 a2 a3 σ) := by
  refine call_of_sim (by decide +kernel) (Nat.le_of_ble_eq_true rfl) ?_
  show Sim RX12 cX12_pipsLeft 6 (some .int) 2 SH RHO 0 [(0, vR 179), (1, vI a1), (2, vI a2), (3, vI a3)] [] σ (dIp σ) (f_M_pipsLeft n a1 a2 a3 σ)
  unfold f_M_pipsLeft
  refine sim_iconst dX12_pipsLeft_0 (by decide) ?_
  refine sim_istore (fun v1 => [(4, vI v1), (0, vR 179), (1, vI a1), (2, vI a2), (3, vI a3)]) (fun _ => rfl) (by decide) dX12_pipsLeft_1 (fun v1 => ?_)
  refine sim_iconst dX12_pipsLeft_3 (by decide) ?_
  refine sim_istore (fun v2 => [(5, vI v2), (4, vI v1), (0, vR 179), (1, vI a1), (2, vI a2), (3, vI a3)]) (fun _ => rfl) (by decide) dX12_pipsLeft_4 (fun v2 => ?_)
  refine sim_sub [2, 3, 4, 5, 1, 0] (L' := [(0, vR 179), (1, vI a1), (2, vI a2), (3, vI a3), (4, vI v1), (5, vI v2)]) rfl ?_
  refine sim_wh2 (fun (x4 : Int) (x5 : Int) => [(0, vR 179), (1, vI a1), (2, vI a2), (3, vI a3), (4, vI x4), (5, vI x5)]) (fun (x4 : Int) (x5 : Int) => σ) ?_ n v1 v2
  intro rc3 hrc3 x4 x5
  refine sim_iload 5 rfl dX12_pipsLeft_6 ?_
  refine sim_iload_n 2 rfl dX12_pipsLeft_8 ?_
  refine sim_icmp_ge (tgt := 62) dX12_pipsLeft_9 (by decide) ?_ ?_
  · refine sim_iload 4 rfl dX12_pipsLeft_62 ?_
    exact sim_iret rfl rfl dX12_pipsLeft_64
  · refine sim_aload_n 0 rfl dX12_pipsLeft_12 ?_
    refine sim_getR g_RX12_13 sh_179 rh_179_14 dX12_pipsLeft_13 ?_
    refine sim_bipush dX12_pipsLeft_16 (by decide +kernel) ?_
    refine sim_aload_n 0 rfl dX12_pipsLeft_18 ?_
    refine sim_getR g_RX12_39 sh_179 rh_179_25 dX12_pipsLeft_19 ?_
    refine sim_iload 5 rfl dX12_pipsLeft_22 ?_
    refine sim_iaload sh_189 rfl dX12_pipsLeft_24 ?_
    refine sim_iadd dX12_pipsLeft_25 ?_
    refine sim_iaload sh_181 rfl dX12_pipsLeft_26 ?_
    refine sim_iload_n 3 rfl dX12_pipsLeft_27 ?_
    refine sim_jn1 (pc' := 56) (fun (y7 : Int) => [(0, vR 179), (1, vI a1), (2, vI a2), (3, vI a3), (4, vI y7), (5, vI x5)]) (fun (y7 : Int) => []) (fun (y7 : Int) => σ) ?_ (fun j6 hj6 => ?_)
    · intro y7
      refine sim_iinc 5 rfl (fun v8 => [(5, vI v8), (0, vR 179), (1, vI a1), (2, vI a2), (3, vI a3), (4, vI y7)]) (fun _ => rfl) (by decide) dX12_pipsLeft_56 (fun v8 => ?_)
      refine sim_goto (tgt := 6) dX12_pipsLeft_59 (by decide) ?_
      exact sim_sub [1, 2, 3, 4, 5, 0] rfl (hrc3 y7 v8)
    refine sim_icmp_ne (tgt := 56) dX12_pipsLeft_28 (by decide) ?_ ?_
    · exact sim_sub [0, 1, 2, 3, 4, 5] rfl (hj6 x4)
    · refine sim_iload_n 1 rfl dX12_pipsLeft_31 ?_
      refine sim_iload 5 rfl dX12_pipsLeft_32 ?_
      refine sim_callSIp s_RX12_201 dX12_pipsLeft_34 (k_M_has SH RHO a1 x5 σ) rfl ⟨by decide, by decide⟩ (S := []) rfl (Nat.le_of_ble_eq_true rfl) (fun r9 => ?_)
      refine sim_if_ne (tgt := 56) dX12_pipsLeft_37 (by decide) ?_ ?_
      · exact sim_sub [0, 1, 2, 3, 4, 5] rfl (hj6 x4)
      · refine sim_iload 4 rfl dX12_pipsLeft_40 ?_
        refine sim_aload_n 0 rfl dX12_pipsLeft_42 ?_
        refine sim_aload_n 0 rfl dX12_pipsLeft_43 ?_
        refine sim_getR g_RX12_39 sh_179 rh_179_25 dX12_pipsLeft_44 ?_
        refine sim_iload 5 rfl dX12_pipsLeft_47 ?_
        refine sim_iaload sh_189 rfl dX12_pipsLeft_49 ?_
        refine sim_callVIp v_RX12_268 sh_179 dX12_pipsLeft_50 (k_M_sum (σ 189 x5.toNat) σ) rfl ⟨by decide, by decide⟩ (S := [vI x4]) rfl (Nat.le_of_ble_eq_true rfl) (fun r10 => ?_)
        refine sim_iadd dX12_pipsLeft_53 ?_
        refine sim_istore (fun v11 => [(4, vI v11), (0, vR 179), (1, vI a1), (2, vI a2), (3, vI a3), (5, vI x5)]) (fun _ => rfl) (by decide) dX12_pipsLeft_54 (fun v11 => ?_)
        exact sim_sub [1, 2, 3, 4, 0, 5] rfl (hj6 v11)
theorem dX12_bestOf_0 : decode cX12_bestOf 0 = .ok (.iload 4, 2) := by decide +kernel
theorem dX12_bestOf_2 : decode cX12_bestOf 2 = .ok (.ifCond .ne 10, 3) := by decide +kernel
theorem dX12_bestOf_5 : decode cX12_bestOf 5 = .ok (.aload_n 0, 1) := by decide +kernel
theorem dX12_bestOf_6 : decode cX12_bestOf 6 = .ok (.getfield 355, 3) := by decide +kernel
theorem dX12_bestOf_9 : decode cX12_bestOf 9 = .ok (.goto 7, 3) := by decide +kernel
theorem dX12_bestOf_12 : decode cX12_bestOf 12 = .ok (.aload_n 0, 1) := by decide +kernel
theorem dX12_bestOf_13 : decode cX12_bestOf 13 = .ok (.getfield 361, 3) := by decide +kernel
theorem dX12_bestOf_16 : decode cX12_bestOf 16 = .ok (.istore 6, 2) := by decide +kernel
theorem dX12_bestOf_18 : decode cX12_bestOf 18 = .ok (.iconst (-1), 1) := by decide +kernel
theorem dX12_bestOf_19 : decode cX12_bestOf 19 = .ok (.istore 7, 2) := by decide +kernel
theorem dX12_bestOf_21 : decode cX12_bestOf 21 = .ok (.iconst 0, 1) := by decide +kernel
theorem dX12_bestOf_22 : decode cX12_bestOf 22 = .ok (.istore 8, 2) := by decide +kernel
theorem dX12_bestOf_24 : decode cX12_bestOf 24 = .ok (.iconst 0, 1) := by decide +kernel
theorem dX12_bestOf_25 : decode cX12_bestOf 25 = .ok (.istore 9, 2) := by decide +kernel
theorem dX12_bestOf_27 : decode cX12_bestOf 27 = .ok (.iload 9, 2) := by decide +kernel
theorem dX12_bestOf_29 : decode cX12_bestOf 29 = .ok (.iconst 2, 1) := by decide +kernel
theorem dX12_bestOf_30 : decode cX12_bestOf 30 = .ok (.iload 5, 2) := by decide +kernel
theorem dX12_bestOf_32 : decode cX12_bestOf 32 = .ok (.imul, 1) := by decide +kernel
theorem dX12_bestOf_33 : decode cX12_bestOf 33 = .ok (.if_icmp .ge 159, 3) := by decide +kernel
theorem dX12_bestOf_36 : decode cX12_bestOf 36 = .ok (.iload 9, 2) := by decide +kernel
theorem dX12_bestOf_38 : decode cX12_bestOf 38 = .ok (.iconst 2, 1) := by decide +kernel
theorem dX12_bestOf_39 : decode cX12_bestOf 39 = .ok (.idiv, 1) := by decide +kernel
theorem dX12_bestOf_40 : decode cX12_bestOf 40 = .ok (.istore 10, 2) := by decide +kernel
theorem dX12_bestOf_42 : decode cX12_bestOf 42 = .ok (.aload_n 0, 1) := by decide +kernel
theorem dX12_bestOf_43 : decode cX12_bestOf 43 = .ok (.getfield 13, 3) := by decide +kernel
theorem dX12_bestOf_46 : decode cX12_bestOf 46 = .ok (.bipush 67, 2) := by decide +kernel
theorem dX12_bestOf_48 : decode cX12_bestOf 48 = .ok (.aload_n 0, 1) := by decide +kernel
theorem dX12_bestOf_49 : decode cX12_bestOf 49 = .ok (.getfield 39, 3) := by decide +kernel
theorem dX12_bestOf_52 : decode cX12_bestOf 52 = .ok (.iload 10, 2) := by decide +kernel
theorem dX12_bestOf_54 : decode cX12_bestOf 54 = .ok (.iaload, 1) := by decide +kernel
theorem dX12_bestOf_55 : decode cX12_bestOf 55 = .ok (.iadd, 1) := by decide +kernel
theorem dX12_bestOf_56 : decode cX12_bestOf 56 = .ok (.iaload, 1) := by decide +kernel
theorem dX12_bestOf_57 : decode cX12_bestOf 57 = .ok (.iload 6, 2) := by decide +kernel
theorem dX12_bestOf_59 : decode cX12_bestOf 59 = .ok (.if_icmp .ne 127, 3) := by decide +kernel
theorem dX12_bestOf_62 : decode cX12_bestOf 62 = .ok (.iload_n 1, 1) := by decide +kernel
theorem dX12_bestOf_63 : decode cX12_bestOf 63 = .ok (.iload 10, 2) := by decide +kernel
theorem dX12_bestOf_65 : decode cX12_bestOf 65 = .ok (.invokestatic 201, 3) := by decide +kernel
theorem dX12_bestOf_68 : decode cX12_bestOf 68 = .ok (.ifCond .eq 6, 3) := by decide +kernel
theorem dX12_bestOf_71 : decode cX12_bestOf 71 = .ok (.goto 115, 3) := by decide +kernel
theorem dX12_bestOf_74 : decode cX12_bestOf 74 = .ok (.aload_n 0, 1) := by decide +kernel
theorem dX12_bestOf_75 : decode cX12_bestOf 75 = .ok (.iload 10, 2) := by decide +kernel
theorem dX12_bestOf_77 : decode cX12_bestOf 77 = .ok (.iload 9, 2) := by decide +kernel
theorem dX12_bestOf_79 : decode cX12_bestOf 79 = .ok (.iconst 2, 1) := by decide +kernel
theorem dX12_bestOf_80 : decode cX12_bestOf 80 = .ok (.irem, 1) := by decide +kernel
theorem dX12_bestOf_81 : decode cX12_bestOf 81 = .ok (.ifCond .ne 7, 3) := by decide +kernel
theorem dX12_bestOf_84 : decode cX12_bestOf 84 = .ok (.iload_n 2, 1) := by decide +kernel
theorem dX12_bestOf_85 : decode cX12_bestOf 85 = .ok (.goto 4, 3) := by decide +kernel
theorem dX12_bestOf_88 : decode cX12_bestOf 88 = .ok (.iload_n 3, 1) := by decide +kernel
theorem dX12_bestOf_89 : decode cX12_bestOf 89 = .ok (.invokevirtual 352, 3) := by decide +kernel
theorem dX12_bestOf_92 : decode cX12_bestOf 92 = .ok (.istore 11, 2) := by decide +kernel
theorem dX12_bestOf_94 : decode cX12_bestOf 94 = .ok (.iload 11, 2) := by decide +kernel
theorem dX12_bestOf_96 : decode cX12_bestOf 96 = .ok (.iconst (-1), 1) := by decide +kernel
theorem dX12_bestOf_97 : decode cX12_bestOf 97 = .ok (.if_icmp .ne 6, 3) := by decide +kernel
theorem dX12_bestOf_100 : decode cX12_bestOf 100 = .ok (.goto 86, 3) := by decide +kernel
theorem dX12_bestOf_103 : decode cX12_bestOf 103 = .ok (.aload_n 0, 1) := by decide +kernel
theorem dX12_bestOf_104 : decode cX12_bestOf 104 = .ok (.iload_n 1, 1) := by decide +kernel
theorem dX12_bestOf_105 : decode cX12_bestOf 105 = .ok (.iconst 1, 1) := by decide +kernel
theorem dX12_bestOf_106 : decode cX12_bestOf 106 = .ok (.iload 10, 2) := by decide +kernel
theorem dX12_bestOf_108 : decode cX12_bestOf 108 = .ok (.ishl, 1) := by decide +kernel
theorem dX12_bestOf_109 : decode cX12_bestOf 109 = .ok (.ior, 1) := by decide +kernel
theorem dX12_bestOf_110 : decode cX12_bestOf 110 = .ok (.iload 9, 2) := by decide +kernel
theorem dX12_bestOf_112 : decode cX12_bestOf 112 = .ok (.iconst 2, 1) := by decide +kernel
theorem dX12_bestOf_113 : decode cX12_bestOf 113 = .ok (.irem, 1) := by decide +kernel
theorem dX12_bestOf_114 : decode cX12_bestOf 114 = .ok (.ifCond .ne 8, 3) := by decide +kernel
theorem dX12_bestOf_117 : decode cX12_bestOf 117 = .ok (.iload 11, 2) := by decide +kernel
theorem dX12_bestOf_119 : decode cX12_bestOf 119 = .ok (.goto 4, 3) := by decide +kernel
theorem dX12_bestOf_122 : decode cX12_bestOf 122 = .ok (.iload_n 2, 1) := by decide +kernel
theorem dX12_bestOf_123 : decode cX12_bestOf 123 = .ok (.iload 9, 2) := by decide +kernel
theorem dX12_bestOf_125 : decode cX12_bestOf 125 = .ok (.iconst 2, 1) := by decide +kernel
theorem dX12_bestOf_126 : decode cX12_bestOf 126 = .ok (.irem, 1) := by decide +kernel
theorem dX12_bestOf_127 : decode cX12_bestOf 127 = .ok (.ifCond .ne 7, 3) := by decide +kernel
theorem dX12_bestOf_130 : decode cX12_bestOf 130 = .ok (.iload_n 3, 1) := by decide +kernel
theorem dX12_bestOf_131 : decode cX12_bestOf 131 = .ok (.goto 5, 3) := by decide +kernel
theorem dX12_bestOf_134 : decode cX12_bestOf 134 = .ok (.iload 11, 2) := by decide +kernel
theorem dX12_bestOf_136 : decode cX12_bestOf 136 = .ok (.iconst 1, 1) := by decide +kernel
theorem dX12_bestOf_137 : decode cX12_bestOf 137 = .ok (.iload 4, 2) := by decide +kernel
theorem dX12_bestOf_139 : decode cX12_bestOf 139 = .ok (.isub, 1) := by decide +kernel
theorem dX12_bestOf_140 : decode cX12_bestOf 140 = .ok (.iload 5, 2) := by decide +kernel
theorem dX12_bestOf_142 : decode cX12_bestOf 142 = .ok (.invokevirtual 376, 3) := by decide +kernel
theorem dX12_bestOf_145 : decode cX12_bestOf 145 = .ok (.istore 12, 2) := by decide +kernel
theorem dX12_bestOf_147 : decode cX12_bestOf 147 = .ok (.iload 7, 2) := by decide +kernel
theorem dX12_bestOf_149 : decode cX12_bestOf 149 = .ok (.iconst (-1), 1) := by decide +kernel
theorem dX12_bestOf_150 : decode cX12_bestOf 150 = .ok (.if_icmp .eq 28, 3) := by decide +kernel
theorem dX12_bestOf_153 : decode cX12_bestOf 153 = .ok (.iload 4, 2) := by decide +kernel
theorem dX12_bestOf_155 : decode cX12_bestOf 155 = .ok (.ifCond .ne 13, 3) := by decide +kernel
theorem dX12_bestOf_158 : decode cX12_bestOf 158 = .ok (.iload 12, 2) := by decide +kernel
theorem dX12_bestOf_160 : decode cX12_bestOf 160 = .ok (.iload 8, 2) := by decide +kernel
theorem dX12_bestOf_162 : decode cX12_bestOf 162 = .ok (.if_icmp .gt 16, 3) := by decide +kernel
theorem dX12_bestOf_165 : decode cX12_bestOf 165 = .ok (.goto 21, 3) := by decide +kernel
theorem dX12_bestOf_168 : decode cX12_bestOf 168 = .ok (.iload 12, 2) := by decide +kernel
theorem dX12_bestOf_170 : decode cX12_bestOf 170 = .ok (.iload 8, 2) := by decide +kernel
theorem dX12_bestOf_172 : decode cX12_bestOf 172 = .ok (.if_icmp .lt 6, 3) := by decide +kernel
theorem dX12_bestOf_175 : decode cX12_bestOf 175 = .ok (.goto 11, 3) := by decide +kernel
theorem dX12_bestOf_178 : decode cX12_bestOf 178 = .ok (.iload 9, 2) := by decide +kernel
theorem dX12_bestOf_180 : decode cX12_bestOf 180 = .ok (.istore 7, 2) := by decide +kernel
theorem dX12_bestOf_182 : decode cX12_bestOf 182 = .ok (.iload 12, 2) := by decide +kernel
theorem dX12_bestOf_184 : decode cX12_bestOf 184 = .ok (.istore 8, 2) := by decide +kernel
theorem dX12_bestOf_186 : decode cX12_bestOf 186 = .ok (.iinc 9 1, 3) := by decide +kernel
theorem dX12_bestOf_189 : decode cX12_bestOf 189 = .ok (.goto (-162), 3) := by decide +kernel
theorem dX12_bestOf_192 : decode cX12_bestOf 192 = .ok (.bipush 100, 2) := by decide +kernel
theorem dX12_bestOf_194 : decode cX12_bestOf 194 = .ok (.iload 8, 2) := by decide +kernel
theorem dX12_bestOf_196 : decode cX12_bestOf 196 = .ok (.iconst 1, 1) := by decide +kernel
theorem dX12_bestOf_197 : decode cX12_bestOf 197 = .ok (.iadd, 1) := by decide +kernel
theorem dX12_bestOf_198 : decode cX12_bestOf 198 = .ok (.imul, 1) := by decide +kernel
theorem dX12_bestOf_199 : decode cX12_bestOf 199 = .ok (.iload 7, 2) := by decide +kernel
theorem dX12_bestOf_201 : decode cX12_bestOf 201 = .ok (.iadd, 1) := by decide +kernel
theorem dX12_bestOf_202 : decode cX12_bestOf 202 = .ok (.ireturn, 1) := by decide +kernel
theorem dX12_play_0 : decode cX12_play 0 = .ok (.aload_n 0, 1) := by decide +kernel
theorem dX12_play_1 : decode cX12_play 1 = .ok (.iload_n 1, 1) := by decide +kernel
theorem dX12_play_2 : decode cX12_play 2 = .ok (.iload 5, 2) := by decide +kernel
theorem dX12_play_4 : decode cX12_play 4 = .ok (.aload_n 0, 1) := by decide +kernel
theorem dX12_play_5 : decode cX12_play 5 = .ok (.getfield 355, 3) := by decide +kernel
theorem dX12_play_8 : decode cX12_play 8 = .ok (.invokevirtual 358, 3) := by decide +kernel
theorem dX12_play_11 : decode cX12_play 11 = .ok (.ifCond .eq 33, 3) := by decide +kernel
theorem dX12_play_14 : decode cX12_play 14 = .ok (.iload_n 1, 1) := by decide +kernel
theorem dX12_play_15 : decode cX12_play 15 = .ok (.ifCond .eq 23, 3) := by decide +kernel
theorem dX12_play_18 : decode cX12_play 18 = .ok (.iload 4, 2) := by decide +kernel
theorem dX12_play_20 : decode cX12_play 20 = .ok (.iconst 1, 1) := by decide +kernel
theorem dX12_play_21 : decode cX12_play 21 = .ok (.if_icmp .eq 17, 3) := by decide +kernel
theorem dX12_play_24 : decode cX12_play 24 = .ok (.aload_n 0, 1) := by decide +kernel
theorem dX12_play_25 : decode cX12_play 25 = .ok (.iload_n 1, 1) := by decide +kernel
theorem dX12_play_26 : decode cX12_play 26 = .ok (.iload 5, 2) := by decide +kernel
theorem dX12_play_28 : decode cX12_play 28 = .ok (.aload_n 0, 1) := by decide +kernel
theorem dX12_play_29 : decode cX12_play 29 = .ok (.getfield 361, 3) := by decide +kernel
theorem dX12_play_32 : decode cX12_play 32 = .ok (.invokevirtual 358, 3) := by decide +kernel
theorem dX12_play_35 : decode cX12_play 35 = .ok (.ifCond .ne 7, 3) := by decide +kernel
theorem dX12_play_38 : decode cX12_play 38 = .ok (.iconst 1, 1) := by decide +kernel
theorem dX12_play_39 : decode cX12_play 39 = .ok (.goto 4, 3) := by decide +kernel
theorem dX12_play_42 : decode cX12_play 42 = .ok (.iconst (-1), 1) := by decide +kernel
theorem dX12_play_43 : decode cX12_play 43 = .ok (.ireturn, 1) := by decide +kernel
theorem dX12_play_44 : decode cX12_play 44 = .ok (.aload_n 0, 1) := by decide +kernel
theorem dX12_play_45 : decode cX12_play 45 = .ok (.iload_n 1, 1) := by decide +kernel
theorem dX12_play_46 : decode cX12_play 46 = .ok (.iload 5, 2) := by decide +kernel
theorem dX12_play_48 : decode cX12_play 48 = .ok (.aload_n 0, 1) := by decide +kernel
theorem dX12_play_49 : decode cX12_play 49 = .ok (.getfield 361, 3) := by decide +kernel
theorem dX12_play_52 : decode cX12_play 52 = .ok (.invokevirtual 358, 3) := by decide +kernel
theorem dX12_play_55 : decode cX12_play 55 = .ok (.ifCond .eq 5, 3) := by decide +kernel
theorem dX12_play_58 : decode cX12_play 58 = .ok (.iconst (-1), 1) := by decide +kernel
theorem dX12_play_59 : decode cX12_play 59 = .ok (.ireturn, 1) := by decide +kernel
theorem dX12_play_60 : decode cX12_play 60 = .ok (.iload_n 1, 1) := by decide +kernel
theorem dX12_play_61 : decode cX12_play 61 = .ok (.iload_n 2, 1) := by decide +kernel
theorem dX12_play_62 : decode cX12_play 62 = .ok (.iload_n 3, 1) := by decide +kernel
theorem dX12_play_63 : decode cX12_play 63 = .ok (.iload 4, 2) := by decide +kernel
theorem dX12_play_65 : decode cX12_play 65 = .ok (.invokestatic 364, 3) := by decide +kernel
theorem dX12_play_68 : decode cX12_play 68 = .ok (.istore 6, 2) := by decide +kernel
theorem dX12_play_70 : decode cX12_play 70 = .ok (.aload_n 0, 1) := by decide +kernel
theorem dX12_play_71 : decode cX12_play 71 = .ok (.getfield 52, 3) := by decide +kernel
theorem dX12_play_74 : decode cX12_play 74 = .ok (.iload 6, 2) := by decide +kernel
theorem dX12_play_76 : decode cX12_play 76 = .ok (.iaload, 1) := by decide +kernel
theorem dX12_play_77 : decode cX12_play 77 = .ok (.bipush (-2), 2) := by decide +kernel
theorem dX12_play_79 : decode cX12_play 79 = .ok (.if_icmp .eq 11, 3) := by decide +kernel
theorem dX12_play_82 : decode cX12_play 82 = .ok (.aload_n 0, 1) := by decide +kernel
theorem dX12_play_83 : decode cX12_play 83 = .ok (.getfield 52, 3) := by decide +kernel
theorem dX12_play_86 : decode cX12_play 86 = .ok (.iload 6, 2) := by decide +kernel
theorem dX12_play_88 : decode cX12_play 88 = .ok (.iaload, 1) := by decide +kernel
theorem dX12_play_89 : decode cX12_play 89 = .ok (.ireturn, 1) := by decide +kernel
theorem dX12_play_90 : decode cX12_play 90 = .ok (.iload 4, 2) := by decide +kernel
theorem dX12_play_92 : decode cX12_play 92 = .ok (.ifCond .ne 10, 3) := by decide +kernel
theorem dX12_play_95 : decode cX12_play 95 = .ok (.aload_n 0, 1) := by decide +kernel
theorem dX12_play_96 : decode cX12_play 96 = .ok (.getfield 355, 3) := by decide +kernel
theorem dX12_play_99 : decode cX12_play 99 = .ok (.goto 7, 3) := by decide +kernel
theorem dX12_play_102 : decode cX12_play 102 = .ok (.aload_n 0, 1) := by decide +kernel
theorem dX12_play_103 : decode cX12_play 103 = .ok (.getfield 361, 3) := by decide +kernel
theorem dX12_play_106 : decode cX12_play 106 = .ok (.istore 7, 2) := by decide +kernel
theorem dX12_play_108 : decode cX12_play 108 = .ok (.aload_n 0, 1) := by decide +kernel
theorem dX12_play_109 : decode cX12_play 109 = .ok (.iload_n 1, 1) := by decide +kernel
theorem dX12_play_110 : decode cX12_play 110 = .ok (.iload_n 2, 1) := by decide +kernel
theorem dX12_play_111 : decode cX12_play 111 = .ok (.iload_n 3, 1) := by decide +kernel
theorem dX12_play_112 : decode cX12_play 112 = .ok (.iload 7, 2) := by decide +kernel
theorem dX12_play_114 : decode cX12_play 114 = .ok (.iload 5, 2) := by decide +kernel
theorem dX12_play_116 : decode cX12_play 116 = .ok (.invokevirtual 368, 3) := by decide +kernel
theorem dX12_play_119 : decode cX12_play 119 = .ok (.ifCond .eq 24, 3) := by decide +kernel
theorem dX12_play_122 : decode cX12_play 122 = .ok (.aload_n 0, 1) := by decide +kernel
theorem dX12_play_123 : decode cX12_play 123 = .ok (.iload_n 1, 1) := by decide +kernel
theorem dX12_play_124 : decode cX12_play 124 = .ok (.iload_n 2, 1) := by decide +kernel
theorem dX12_play_125 : decode cX12_play 125 = .ok (.iload_n 3, 1) := by decide +kernel
theorem dX12_play_126 : decode cX12_play 126 = .ok (.iload 4, 2) := by decide +kernel
theorem dX12_play_128 : decode cX12_play 128 = .ok (.iload 5, 2) := by decide +kernel
theorem dX12_play_130 : decode cX12_play 130 = .ok (.invokevirtual 372, 3) := by decide +kernel
theorem dX12_play_133 : decode cX12_play 133 = .ok (.bipush 100, 2) := by decide +kernel
theorem dX12_play_135 : decode cX12_play 135 = .ok (.idiv, 1) := by decide +kernel
theorem dX12_play_136 : decode cX12_play 136 = .ok (.iconst 1, 1) := by decide +kernel
theorem dX12_play_137 : decode cX12_play 137 = .ok (.isub, 1) := by decide +kernel
theorem dX12_play_138 : decode cX12_play 138 = .ok (.istore 8, 2) := by decide +kernel
theorem dX12_play_140 : decode cX12_play 140 = .ok (.goto 100, 3) := by decide +kernel
theorem dX12_play_143 : decode cX12_play 143 = .ok (.aload_n 0, 1) := by decide +kernel
theorem dX12_play_144 : decode cX12_play 144 = .ok (.iload_n 1, 1) := by decide +kernel
theorem dX12_play_145 : decode cX12_play 145 = .ok (.iload_n 2, 1) := by decide +kernel
theorem dX12_play_146 : decode cX12_play 146 = .ok (.iload_n 3, 1) := by decide +kernel
theorem dX12_play_147 : decode cX12_play 147 = .ok (.iload 4, 2) := by decide +kernel
theorem dX12_play_149 : decode cX12_play 149 = .ok (.ifCond .ne 10, 3) := by decide +kernel
theorem dX12_play_152 : decode cX12_play 152 = .ok (.aload_n 0, 1) := by decide +kernel
theorem dX12_play_153 : decode cX12_play 153 = .ok (.getfield 361, 3) := by decide +kernel
theorem dX12_play_156 : decode cX12_play 156 = .ok (.goto 7, 3) := by decide +kernel
theorem dX12_play_159 : decode cX12_play 159 = .ok (.aload_n 0, 1) := by decide +kernel
theorem dX12_play_160 : decode cX12_play 160 = .ok (.getfield 355, 3) := by decide +kernel
theorem dX12_play_163 : decode cX12_play 163 = .ok (.iload 5, 2) := by decide +kernel
theorem dX12_play_165 : decode cX12_play 165 = .ok (.invokevirtual 368, 3) := by decide +kernel
theorem dX12_play_168 : decode cX12_play 168 = .ok (.ifCond .eq 21, 3) := by decide +kernel
theorem dX12_play_171 : decode cX12_play 171 = .ok (.aload_n 0, 1) := by decide +kernel
theorem dX12_play_172 : decode cX12_play 172 = .ok (.iload_n 1, 1) := by decide +kernel
theorem dX12_play_173 : decode cX12_play 173 = .ok (.iload_n 2, 1) := by decide +kernel
theorem dX12_play_174 : decode cX12_play 174 = .ok (.iload_n 3, 1) := by decide +kernel
theorem dX12_play_175 : decode cX12_play 175 = .ok (.iconst 1, 1) := by decide +kernel
theorem dX12_play_176 : decode cX12_play 176 = .ok (.iload 4, 2) := by decide +kernel
theorem dX12_play_178 : decode cX12_play 178 = .ok (.isub, 1) := by decide +kernel
theorem dX12_play_179 : decode cX12_play 179 = .ok (.iload 5, 2) := by decide +kernel
theorem dX12_play_181 : decode cX12_play 181 = .ok (.invokevirtual 376, 3) := by decide +kernel
theorem dX12_play_184 : decode cX12_play 184 = .ok (.istore 8, 2) := by decide +kernel
theorem dX12_play_186 : decode cX12_play 186 = .ok (.goto 54, 3) := by decide +kernel
theorem dX12_play_189 : decode cX12_play 189 = .ok (.aload_n 0, 1) := by decide +kernel
theorem dX12_play_190 : decode cX12_play 190 = .ok (.iload_n 1, 1) := by decide +kernel
theorem dX12_play_191 : decode cX12_play 191 = .ok (.iload 5, 2) := by decide +kernel
theorem dX12_play_193 : decode cX12_play 193 = .ok (.aload_n 0, 1) := by decide +kernel
theorem dX12_play_194 : decode cX12_play 194 = .ok (.getfield 355, 3) := by decide +kernel
theorem dX12_play_197 : decode cX12_play 197 = .ok (.invokevirtual 379, 3) := by decide +kernel
theorem dX12_play_200 : decode cX12_play 200 = .ok (.istore 9, 2) := by decide +kernel
theorem dX12_play_202 : decode cX12_play 202 = .ok (.aload_n 0, 1) := by decide +kernel
theorem dX12_play_203 : decode cX12_play 203 = .ok (.iload_n 1, 1) := by decide +kernel
theorem dX12_play_204 : decode cX12_play 204 = .ok (.iload 5, 2) := by decide +kernel
theorem dX12_play_206 : decode cX12_play 206 = .ok (.aload_n 0, 1) := by decide +kernel
theorem dX12_play_207 : decode cX12_play 207 = .ok (.getfield 361, 3) := by decide +kernel
theorem dX12_play_210 : decode cX12_play 210 = .ok (.invokevirtual 379, 3) := by decide +kernel
theorem dX12_play_213 : decode cX12_play 213 = .ok (.istore 10, 2) := by decide +kernel
theorem dX12_play_215 : decode cX12_play 215 = .ok (.iload 9, 2) := by decide +kernel
theorem dX12_play_217 : decode cX12_play 217 = .ok (.iload 10, 2) := by decide +kernel
theorem dX12_play_219 : decode cX12_play 219 = .ok (.if_icmp .ge 7, 3) := by decide +kernel
theorem dX12_play_222 : decode cX12_play 222 = .ok (.iconst 1, 1) := by decide +kernel
theorem dX12_play_223 : decode cX12_play 223 = .ok (.goto 15, 3) := by decide +kernel
theorem dX12_play_226 : decode cX12_play 226 = .ok (.iload 9, 2) := by decide +kernel
theorem dX12_play_228 : decode cX12_play 228 = .ok (.iload 10, 2) := by decide +kernel
theorem dX12_play_230 : decode cX12_play 230 = .ok (.if_icmp .le 7, 3) := by decide +kernel
theorem dX12_play_233 : decode cX12_play 233 = .ok (.iconst (-1), 1) := by decide +kernel
theorem dX12_play_234 : decode cX12_play 234 = .ok (.goto 4, 3) := by decide +kernel
theorem dX12_play_237 : decode cX12_play 237 = .ok (.iconst 0, 1) := by decide +kernel
theorem dX12_play_238 : decode cX12_play 238 = .ok (.istore 8, 2) := by decide +kernel
theorem dX12_play_240 : decode cX12_play 240 = .ok (.aload_n 0, 1) := by decide +kernel
theorem dX12_play_241 : decode cX12_play 241 = .ok (.getfield 52, 3) := by decide +kernel
theorem dX12_play_244 : decode cX12_play 244 = .ok (.iload 6, 2) := by decide +kernel
theorem dX12_play_246 : decode cX12_play 246 = .ok (.iload 8, 2) := by decide +kernel
theorem dX12_play_248 : decode cX12_play 248 = .ok (.iastore, 1) := by decide +kernel
theorem dX12_play_249 : decode cX12_play 249 = .ok (.iload 8, 2) := by decide +kernel
theorem dX12_play_251 : decode cX12_play 251 = .ok (.ireturn, 1) := by decide +kernel
def f_M_bestOf_s (n : Nat)  (gbestOf : Int → Int → Int → Int → Int → JSg → Option (Int × JSg)) (gplay : Int → Int → Int → Int → Int → JSg → Option (Int × JSg)) (a1 : Int) (a2 : Int) (a3 : Int) (a4 : Int) (a5 : Int) (σ : JSg) : Option (Int × JSg) :=
  jn1 (fun (u2 : Int) => lt_ u2 fun v3 => lt_ (-1) fun v4 => lt_ 0 fun v5 => lt_ 0 fun v6 => wh4 n (fun rc7 (x8 : Int) (x9 : Int) (x10 : Int) (s11 : JSg) => if x10 < (w32 (2 * a5)) then (lt_ (dv32 x10 2) fun v12 => chk (0 ≤ v12 ∧ v12 < 28) <| chk (0 ≤ (w32 (67 + (s11 189 v12.toNat))) ∧ (w32 (67 + (s11 189 v12.toNat))) < 448) <| jn3 (fun (y14 : Int) (y15 : Int) (s16 : JSg) => lt_ (w32 (x10 + 1)) fun v17 => rc7 y14 y15 v17 s16) fun j13 => if (s11 181 (w32 (67 + (s11 189 v12.toNat))).toNat) = v3 then (bd1 (f_M_has a1 v12 s11) fun r18 => if r18 = 0 then (jn1 (fun (u20 : Int) => bd1 (f_M_behind v12 u20 s11) fun r21 => lt_ r21 fun v22 => if v22 = (-1) then (j13 x8 x9 s11) else (jn1 (fun (u24 : Int) => jn1 (fun (u26 : Int) => bd2 (gplay (or32 a1 (sl32 1 v12)) u24 u26 (w32 (1 - a4)) a5 s11) fun r27 s28 => lt_ r27 fun v29 => jn0 (lt_ x10 fun v31 => lt_ v29 fun v32 => j13 v31 v32 s28) fun j30 => if x8 = (-1) then (j30) else (if a4 = 0 then (if x9 < v29 then (j30) else (j13 x8 x9 s28)) else (if v29 < x9 then (j30) else (j13 x8 x9 s28)))) fun j25 => if (rm32 x10 2) = 0 then (j25 a3) else (j25 v22)) fun j23 => if (rm32 x10 2) = 0 then (j23 v22) else (j23 a2))) fun j19 => if (rm32 x10 2) = 0 then (j19 a2) else (j19 a3)) else (j13 x8 x9 s11)) else (j13 x8 x9 s11)) else (some (w32 ((w32 (100 * (w32 (x9 + 1)))) + x8), s11))) v4 v5 v6 (σ)) fun j1 => if a4 = 0 then (j1 (σ 179 34)) else (j1 (σ 179 35))
set_option maxRecDepth 20000 in
set_option maxHeartbeats 4000000 in
theorem k_M_bestOf_s  (n : Nat)   (gbestOf : Int → Int → Int → Int → Int → JSg → Option (Int × JSg)) (gplay : Int → Int → Int → Int → Int → JSg → Option (Int × JSg)) (d : Nat) (hd9 : 4 ≤ d) (hgbestOf : ∀ (a1 : Int) (a2 : Int) (a3 : Int) (a4 : Int) (a5 : Int) (σ : JSg), Call yX12_bestOf cX12_bestOf 13 (some .int) d SH RHO [vR 179, vI a1, vI a2, vI a3, vI a4, vI a5] σ dIm (gbestOf a1 a2 a3 a4 a5 σ)) (hgplay : ∀ (a1 : Int) (a2 : Int) (a3 : Int) (a4 : Int) (a5 : Int) (σ : JSg), Call yX12_play cX12_play 11 (some .int) d SH RHO [vR 179, vI a1, vI a2, vI a3, vI a4, vI a5] σ dIm (gplay a1 a2 a3 a4 a5 σ)) (a1 : Int) (a2 : Int) (a3 : Int) (a4 : Int) (a5 : Int) (σ : JSg) : Call yX12_bestOf cX12_bestOf 13 (some .int) (d + 1) SH RHO [vR 179, vI a1, vI a2, vI a3, vI a4, vI a5] σ dIm (f_M_bestOf_s n gbestOf gplay a1 a2 a3 a4 a5 σ) := by
  refine call_of_sim (by decide +kernel) (Nat.le_of_ble_eq_true rfl) ?_
  show Sim RX12 cX12_bestOf 13 (some .int) (d + 1) SH RHO 0 [(0, vR 179), (1, vI a1), (2, vI a2), (3, vI a3), (4, vI a4), (5, vI a5)] [] σ dIm (f_M_bestOf_s n gbestOf gplay a1 a2 a3 a4 a5 σ)
  unfold f_M_bestOf_s
  refine sim_iload 4 rfl dX12_bestOf_0 ?_
  refine sim_jn1 (pc' := 16) (fun (u2 : Int) => [(0, vR 179), (1, vI a1), (2, vI a2), (3, vI a3), (4, vI a4), (5, vI a5)]) (fun (u2 : Int) => [vI u2]) (fun (u2 : Int) => σ) ?_ (fun j1 hj1 => ?_)
  · intro u2
    refine sim_istore (fun v3 => [(6, vI v3), (0, vR 179), (1, vI a1), (2, vI a2), (3, vI a3), (4, vI a4), (5, vI a5)]) (fun _ => rfl) (by decide) dX12_bestOf_16 (fun v3 => ?_)
    refine sim_iconst dX12_bestOf_18 (by decide) ?_
    refine sim_istore (fun v4 => [(7, vI v4), (6, vI v3), (0, vR 179), (1, vI a1), (2, vI a2), (3, vI a3), (4, vI a4), (5, vI a5)]) (fun _ => rfl) (by decide) dX12_bestOf_19 (fun v4 => ?_)
    refine sim_iconst dX12_bestOf_21 (by decide) ?_
    refine sim_istore (fun v5 => [(8, vI v5), (7, vI v4), (6, vI v3), (0, vR 179), (1, vI a1), (2, vI a2), (3, vI a3), (4, vI a4), (5, vI a5)]) (fun _ => rfl) (by decide) dX12_bestOf_22 (fun v5 => ?_)
    refine sim_iconst dX12_bestOf_24 (by decide) ?_
    refine sim_istore (fun v6 => [(9, vI v6), (8, vI v5), (7, vI v4), (6, vI v3), (0, vR 179), (1, vI a1), (2, vI a2), (3, vI a3), (4, vI a4), (5, vI a5)]) (fun _ => rfl) (by decide) dX12_bestOf_25 (fun v6 => ?_)
    refine sim_sub [4, 5, 6, 7, 8, 9, 3, 2, 1, 0] (L' := [(0, vR 179), (1, vI a1), (2, vI a2), (3, vI a3), (4, vI a4), (5, vI a5), (6, vI v3), (7, vI v4), (8, vI v5), (9, vI v6)]) rfl ?_
    refine sim_wh4 (fun (x8 : Int) (x9 : Int) (x10 : Int) (s11 : JSg) => [(0, vR 179), (1, vI a1), (2, vI a2), (3, vI a3), (4, vI a4), (5, vI a5), (6, vI v3), (7, vI x8), (8, vI x9), (9, vI x10)]) (fun (x8 : Int) (x9 : Int) (x10 : Int) (s11 : JSg) => s11) ?_ n v4 v5 v6 (σ)
    intro rc7 hrc7 x8 x9 x10 s11
    refine sim_iload 9 rfl dX12_bestOf_27 ?_
    refine sim_iconst dX12_bestOf_29 (by decide) ?_
    refine sim_iload 5 rfl dX12_bestOf_30 ?_
    refine sim_imul dX12_bestOf_32 ?_
    refine sim_icmp_ge (tgt := 192) dX12_bestOf_33 (by decide) ?_ ?_
    · refine sim_bipush dX12_bestOf_192 (by decide +kernel) ?_
      refine sim_iload 8 rfl dX12_bestOf_194 ?_
      refine sim_iconst dX12_bestOf_196 (by decide) ?_
      refine sim_iadd dX12_bestOf_197 ?_
      refine sim_imul dX12_bestOf_198 ?_
      refine sim_iload 7 rfl dX12_bestOf_199 ?_
      refine sim_iadd dX12_bestOf_201 ?_
      exact sim_iret rfl rfl dX12_bestOf_202
    · refine sim_iload 9 rfl dX12_bestOf_36 ?_
      refine sim_iconst dX12_bestOf_38 (by decide) ?_
      refine sim_idivK (by decide) dX12_bestOf_39 ?_
      refine sim_istore (fun v12 => [(10, vI v12), (0, vR 179), (1, vI a1), (2, vI a2), (3, vI a3), (4, vI a4), (5, vI a5), (6, vI v3), (7, vI x8), (8, vI x9), (9, vI x10)]) (fun _ => rfl) (by decide) dX12_bestOf_40 (fun v12 => ?_)
      refine sim_aload_n 1 rfl dX12_bestOf_42 ?_
      refine sim_getR g_RX12_13 sh_179 rh_179_14 dX12_bestOf_43 ?_
      refine sim_bipush dX12_bestOf_46 (by decide +kernel) ?_
      refine sim_aload_n 1 rfl dX12_bestOf_48 ?_
      refine sim_getR g_RX12_39 sh_179 rh_179_25 dX12_bestOf_49 ?_
      refine sim_iload 0 rfl dX12_bestOf_52 ?_
      refine sim_iaload sh_189 rfl dX12_bestOf_54 ?_
      refine sim_iadd dX12_bestOf_55 ?_
      refine sim_iaload sh_181 rfl dX12_bestOf_56 ?_
      refine sim_iload 7 rfl dX12_bestOf_57 ?_
      refine sim_jn3 (pc' := 186) (fun (y14 : Int) (y15 : Int) (s16 : JSg) => [(0, vR 179), (1, vI a1), (2, vI a2), (3, vI a3), (4, vI a4), (5, vI a5), (6, vI v3), (7, vI y14), (8, vI y15), (9, vI x10)]) (fun (y14 : Int) (y15 : Int) (s16 : JSg) => []) (fun (y14 : Int) (y15 : Int) (s16 : JSg) => s16) ?_ (fun j13 hj13 => ?_)
      · intro y14 y15 s16
        refine sim_iinc 9 rfl (fun v17 => [(9, vI v17), (0, vR 179), (1, vI a1), (2, vI a2), (3, vI a3), (4, vI a4), (5, vI a5), (6, vI v3), (7, vI y14), (8, vI y15)]) (fun _ => rfl) (by decide) dX12_bestOf_186 (fun v17 => ?_)
        refine sim_goto (tgt := 27) dX12_bestOf_189 (by decide) ?_
        exact sim_sub [1, 2, 3, 4, 5, 6, 7, 8, 9, 0] rfl (hrc7 y14 y15 v17 s16)
      refine sim_icmp_ne (tgt := 186) dX12_bestOf_59 (by decide) ?_ ?_
      · exact sim_sub [1, 2, 3, 4, 5, 6, 7, 8, 9, 10] rfl (hj13 x8 x9 s11)
      · refine sim_iload_n 2 rfl dX12_bestOf_62 ?_
        refine sim_iload 0 rfl dX12_bestOf_63 ?_
        refine sim_callSIp s_RX12_201 dX12_bestOf_65 (k_M_has SH RHO a1 v12 s11) rfl ⟨by omega, by decide⟩ (S := []) rfl (Nat.le_of_ble_eq_true rfl) (fun r18 => ?_)
        refine sim_if_eq (tgt := 74) dX12_bestOf_68 (by decide) ?_ ?_
        · refine sim_aload_n 1 rfl dX12_bestOf_74 ?_
          refine sim_iload 0 rfl dX12_bestOf_75 ?_
          refine sim_iload 10 rfl dX12_bestOf_77 ?_
          refine sim_iconst dX12_bestOf_79 (by decide) ?_
          refine sim_iremK (by decide) dX12_bestOf_80 ?_
          refine sim_jn1 (pc' := 89) (fun (u20 : Int) => [(0, vR 179), (1, vI a1), (2, vI a2), (3, vI a3), (4, vI a4), (5, vI a5), (6, vI v3), (7, vI x8), (8, vI x9), (9, vI x10), (10, vI v12)]) (fun (u20 : Int) => [vI u20, vI v12, vR 179]) (fun (u20 : Int) => s11) ?_ (fun j19 hj19 => ?_)
          · intro u20
            refine sim_callVIp v_RX12_352 sh_179 dX12_bestOf_89 (k_M_behind v12 u20 s11) rfl ⟨by omega, by decide⟩ (S := []) rfl (Nat.le_of_ble_eq_true rfl) (fun r21 => ?_)
            refine sim_istore (fun v22 => [(11, vI v22), (0, vR 179), (1, vI a1), (2, vI a2), (3, vI a3), (4, vI a4), (5, vI a5), (6, vI v3), (7, vI x8), (8, vI x9), (9, vI x10), (10, vI v12)]) (fun _ => rfl) (by decide) dX12_bestOf_92 (fun v22 => ?_)
            refine sim_iload 0 rfl dX12_bestOf_94 ?_
            refine sim_iconst dX12_bestOf_96 (by decide) ?_
            refine sim_icmp_ne (tgt := 103) dX12_bestOf_97 (by decide) ?_ ?_
            · refine sim_aload_n 1 rfl dX12_bestOf_103 ?_
              refine sim_iload_n 2 rfl dX12_bestOf_104 ?_
              refine sim_iconst dX12_bestOf_105 (by decide) ?_
              refine sim_iload 11 rfl dX12_bestOf_106 ?_
              refine sim_ishl dX12_bestOf_108 ?_
              refine sim_ior dX12_bestOf_109 ?_
              refine sim_iload 10 rfl dX12_bestOf_110 ?_
              refine sim_iconst dX12_bestOf_112 (by decide) ?_
              refine sim_iremK (by decide) dX12_bestOf_113 ?_
              refine sim_jn1 (pc' := 123) (fun (u24 : Int) => [(0, vR 179), (1, vI a1), (2, vI a2), (3, vI a3), (4, vI a4), (5, vI a5), (6, vI v3), (7, vI x8), (8, vI x9), (9, vI x10), (11, vI v22)]) (fun (u24 : Int) => [vI u24, vI (or32 a1 (sl32 1 v12)), vR 179]) (fun (u24 : Int) => s11) ?_ (fun j23 hj23 => ?_)
              · intro u24
                refine sim_iload 9 rfl dX12_bestOf_123 ?_
                refine sim_iconst dX12_bestOf_125 (by decide) ?_
                refine sim_iremK (by decide) dX12_bestOf_126 ?_
                refine sim_jn1 (pc' := 136) (fun (u26 : Int) => [(0, vR 179), (1, vI a1), (2, vI a2), (3, vI a3), (4, vI a4), (5, vI a5), (6, vI v3), (7, vI x8), (8, vI x9), (9, vI x10)]) (fun (u26 : Int) => [vI u26, vI u24, vI (or32 a1 (sl32 1 v12)), vR 179]) (fun (u26 : Int) => s11) ?_ (fun j25 hj25 => ?_)
                · intro u26
                  refine sim_iconst dX12_bestOf_136 (by decide) ?_
                  refine sim_iload 4 rfl dX12_bestOf_137 ?_
                  refine sim_isub dX12_bestOf_139 ?_
                  refine sim_iload 5 rfl dX12_bestOf_140 ?_
                  refine sim_callVIm v_RX12_376 sh_179 dX12_bestOf_142 (hgplay (or32 a1 (sl32 1 v12)) u24 u26 (w32 (1 - a4)) a5 s11) rfl ⟨by omega, by decide⟩ (S := []) rfl (Nat.le_of_ble_eq_true rfl) (fun r27 s28 => ?_)
                  refine sim_istore (fun v29 => [(12, vI v29), (0, vR 179), (1, vI a1), (2, vI a2), (3, vI a3), (4, vI a4), (5, vI a5), (6, vI v3), (7, vI x8), (8, vI x9), (9, vI x10)]) (fun _ => rfl) (by decide) dX12_bestOf_145 (fun v29 => ?_)
                  refine sim_iload 8 rfl dX12_bestOf_147 ?_
                  refine sim_iconst dX12_bestOf_149 (by decide) ?_
                  refine sim_jn0 (pc' := 178) ([(0, vR 179), (1, vI a1), (2, vI a2), (3, vI a3), (4, vI a4), (5, vI a5), (6, vI v3), (9, vI x10), (12, vI v29)]) ([]) (s28) ?_ (fun j30 hj30 => ?_)
                  · refine sim_iload 7 rfl dX12_bestOf_178 ?_
                    refine sim_istore (fun v31 => [(7, vI v31), (0, vR 179), (1, vI a1), (2, vI a2), (3, vI a3), (4, vI a4), (5, vI a5), (6, vI v3), (9, vI x10), (12, vI v29)]) (fun _ => rfl) (by decide) dX12_bestOf_180 (fun v31 => ?_)
                    refine sim_iload 9 rfl dX12_bestOf_182 ?_
                    refine sim_istore (fun v32 => [(8, vI v32), (7, vI v31), (0, vR 179), (1, vI a1), (2, vI a2), (3, vI a3), (4, vI a4), (5, vI a5), (6, vI v3), (9, vI x10), (12, vI v29)]) (fun _ => rfl) (by decide) dX12_bestOf_184 (fun v32 => ?_)
                    exact sim_sub [2, 3, 4, 5, 6, 7, 8, 1, 0, 9] rfl (hj13 v31 v32 s28)
                  refine sim_icmp_eq (tgt := 178) dX12_bestOf_150 (by decide) ?_ ?_
                  · exact sim_sub [1, 2, 3, 4, 5, 6, 7, 10, 0] rfl (hj30 )
                  · refine sim_iload 5 rfl dX12_bestOf_153 ?_
                    refine sim_if_ne (tgt := 168) dX12_bestOf_155 (by decide) ?_ ?_
                    · refine sim_iload 0 rfl dX12_bestOf_168 ?_
                      refine sim_iload 9 rfl dX12_bestOf_170 ?_
                      refine sim_icmp_lt (tgt := 178) dX12_bestOf_172 (by decide) ?_ ?_
                      · exact sim_sub [1, 2, 3, 4, 5, 6, 7, 10, 0] rfl (hj30 )
                      · refine sim_goto (tgt := 186) dX12_bestOf_175 (by decide) ?_
                        exact sim_sub [1, 2, 3, 4, 5, 6, 7, 8, 9, 10] rfl (hj13 x8 x9 s28)
                    · refine sim_iload 0 rfl dX12_bestOf_158 ?_
                      refine sim_iload 9 rfl dX12_bestOf_160 ?_
                      refine sim_icmp_gt (tgt := 178) dX12_bestOf_162 (by decide) ?_ ?_
                      · exact sim_sub [1, 2, 3, 4, 5, 6, 7, 10, 0] rfl (hj30 )
                      · refine sim_goto (tgt := 186) dX12_bestOf_165 (by decide) ?_
                        exact sim_sub [1, 2, 3, 4, 5, 6, 7, 8, 9, 10] rfl (hj13 x8 x9 s28)
                refine sim_if_ne (tgt := 134) dX12_bestOf_127 (by decide) ?_ ?_
                · refine sim_iload 10 rfl dX12_bestOf_134 ?_
                  exact sim_sub [0, 1, 2, 3, 4, 5, 6, 7, 8, 9] rfl (hj25 v22)
                · refine sim_iload_n 3 rfl dX12_bestOf_130 ?_
                  refine sim_goto (tgt := 136) dX12_bestOf_131 (by decide) ?_
                  exact sim_sub [0, 1, 2, 3, 4, 5, 6, 7, 8, 9] rfl (hj25 a3)
              refine sim_if_ne (tgt := 122) dX12_bestOf_114 (by decide) ?_ ?_
              · refine sim_iload_n 3 rfl dX12_bestOf_122 ?_
                exact sim_sub [1, 2, 3, 4, 5, 6, 7, 8, 9, 10, 0] rfl (hj23 a2)
              · refine sim_iload 0 rfl dX12_bestOf_117 ?_
                refine sim_goto (tgt := 123) dX12_bestOf_119 (by decide) ?_
                exact sim_sub [1, 2, 3, 4, 5, 6, 7, 8, 9, 10, 0] rfl (hj23 v22)
            · refine sim_goto (tgt := 186) dX12_bestOf_100 (by decide) ?_
              exact sim_sub [1, 2, 3, 4, 5, 6, 7, 8, 9, 10] rfl (hj13 x8 x9 s11)
          refine sim_if_ne (tgt := 88) dX12_bestOf_81 (by decide) ?_ ?_
          · refine sim_iload_n 4 rfl dX12_bestOf_88 ?_
            exact sim_sub [1, 2, 3, 4, 5, 6, 7, 8, 9, 10, 0] rfl (hj19 a3)
          · refine sim_iload_n 3 rfl dX12_bestOf_84 ?_
            refine sim_goto (tgt := 89) dX12_bestOf_85 (by decide) ?_
            exact sim_sub [1, 2, 3, 4, 5, 6, 7, 8, 9, 10, 0] rfl (hj19 a2)
        · refine sim_goto (tgt := 186) dX12_bestOf_71 (by decide) ?_
          exact sim_sub [1, 2, 3, 4, 5, 6, 7, 8, 9, 10] rfl (hj13 x8 x9 s11)
  refine sim_if_ne (tgt := 12) dX12_bestOf_2 (by decide) ?_ ?_
  · refine sim_aload_n 0 rfl dX12_bestOf_12 ?_
    refine sim_getI g_RX12_361 sh_179 dX12_bestOf_13 ?_
    exact sim_sub [0, 1, 2, 3, 4, 5] rfl (hj1 (σ 179 35))
  · refine sim_aload_n 0 rfl dX12_bestOf_5 ?_
    refine sim_getI g_RX12_355 sh_179 dX12_bestOf_6 ?_
    refine sim_goto (tgt := 16) dX12_bestOf_9 (by decide) ?_
    exact sim_sub [0, 1, 2, 3, 4, 5] rfl (hj1 (σ 179 34))
def f_M_play_s (n : Nat)  (gbestOf : Int → Int → Int → Int → Int → JSg → Option (Int × JSg)) (gplay : Int → Int → Int → Int → Int → JSg → Option (Int × JSg)) (a1 : Int) (a2 : Int) (a3 : Int) (a4 : Int) (a5 : Int) (σ : JSg) : Option (Int × JSg) :=
  bd1 (f_M_isOver n a1 a5 (σ 179 34) σ) fun r1 => if r1 = 0 then (bd1 (f_M_isOver n a1 a5 (σ 179 35) σ) fun r2 => if r2 = 0 then (bd1 (f_M_gameOf a1 a2 a3 a4 σ) fun r3 => lt_ r3 fun v4 => chk (0 ≤ v4 ∧ v4 < 495616) <| if (σ 193 v4.toNat) = (-2) then (jn1 (fun (u6 : Int) => lt_ u6 fun v7 => bd1 (f_M_canLay n a1 a2 a3 v7 a5 σ) fun r8 => jn2 (fun (y10 : Int) (s11 : JSg) => chk (0 ≤ v4 ∧ v4 < 495616) <| lt_ (sp s11 193 v4.toNat y10) fun s12 => some (y10, s12)) fun j9 => if r8 = 0 then (jn1 (fun (u14 : Int) => bd1 (f_M_canLay n a1 a2 a3 u14 a5 σ) fun r15 => if r15 = 0 then (bd1 (f_M_pipsLeft n a1 a5 (σ 179 34) σ) fun r16 => lt_ r16 fun v17 => bd1 (f_M_pipsLeft n a1 a5 (σ 179 35) σ) fun r18 => lt_ r18 fun v19 => jn1 (fun (u21 : Int) => lt_ u21 fun v22 => j9 v22 (σ)) fun j20 => if v17 < v19 then (j20 1) else (if v19 < v17 then (j20 (-1)) else (j20 0))) else (bd2 (gplay a1 a2 a3 (w32 (1 - a4)) a5 σ) fun r23 s24 => lt_ r23 fun v25 => j9 v25 s24)) fun j13 => if a4 = 0 then (j13 (σ 179 35)) else (j13 (σ 179 34))) else (bd2 (gbestOf a1 a2 a3 a4 a5 σ) fun r26 s27 => lt_ (w32 ((dv32 r26 100) - 1)) fun v28 => j9 v28 s27)) fun j5 => if a4 = 0 then (j5 (σ 179 34)) else (j5 (σ 179 35))) else (chk (0 ≤ v4 ∧ v4 < 495616) <| some (σ 193 v4.toNat, σ))) else (some ((-1), σ))) else (jn0 (some (1, σ)) fun j29 => if a1 = 0 then (j29) else (if a4 = 1 then (j29) else (bd1 (f_M_isOver n a1 a5 (σ 179 35) σ) fun r30 => if r30 = 0 then (j29) else (some ((-1), σ)))))
set_option maxRecDepth 20000 in
set_option maxHeartbeats 4000000 in
theorem k_M_play_s  (n : Nat)   (gbestOf : Int → Int → Int → Int → Int → JSg → Option (Int × JSg)) (gplay : Int → Int → Int → Int → Int → JSg → Option (Int × JSg)) (d : Nat) (hd9 : 4 ≤ d) (hgbestOf : ∀ (a1 : Int) (a2 : Int) (a3 : Int) (a4 : Int) (a5 : Int) (σ : JSg), Call yX12_bestOf cX12_bestOf 13 (some .int) d SH RHO [vR 179, vI a1, vI a2, vI a3, vI a4, vI a5] σ dIm (gbestOf a1 a2 a3 a4 a5 σ)) (hgplay : ∀ (a1 : Int) (a2 : Int) (a3 : Int) (a4 : Int) (a5 : Int) (σ : JSg), Call yX12_play cX12_play 11 (some .int) d SH RHO [vR 179, vI a1, vI a2, vI a3, vI a4, vI a5] σ dIm (gplay a1 a2 a3 a4 a5 σ)) (a1 : Int) (a2 : Int) (a3 : Int) (a4 : Int) (a5 : Int) (σ : JSg) : Call yX12_play cX12_play 11 (some .int) (d + 1) SH RHO [vR 179, vI a1, vI a2, vI a3, vI a4, vI a5] σ dIm (f_M_play_s n gbestOf gplay a1 a2 a3 a4 a5 σ) := by
  refine call_of_sim (by decide +kernel) (Nat.le_of_ble_eq_true rfl) ?_
  show Sim RX12 cX12_play 11 (some .int) (d + 1) SH RHO 0 [(0, vR 179), (1, vI a1), (2, vI a2), (3, vI a3), (4, vI a4), (5, vI a5)] [] σ dIm (f_M_play_s n gbestOf gplay a1 a2 a3 a4 a5 σ)
  unfold f_M_play_s
  refine sim_aload_n 0 rfl dX12_play_0 ?_
  refine sim_iload_n 1 rfl dX12_play_1 ?_
  refine sim_iload 5 rfl dX12_play_2 ?_
  refine sim_aload_n 0 rfl dX12_play_4 ?_
  refine sim_getI g_RX12_355 sh_179 dX12_play_5 ?_
  refine sim_callVIp v_RX12_358 sh_179 dX12_play_8 (k_M_isOver n a1 a5 (σ 179 34) σ) rfl ⟨by omega, by decide⟩ (S := []) rfl (Nat.le_of_ble_eq_true rfl) (fun r1 => ?_)
  refine sim_if_eq (tgt := 44) dX12_play_11 (by decide) ?_ ?_
  · refine sim_aload_n 0 rfl dX12_play_44 ?_
    refine sim_iload_n 1 rfl dX12_play_45 ?_
    refine sim_iload 5 rfl dX12_play_46 ?_
    refine sim_aload_n 0 rfl dX12_play_48 ?_
    refine sim_getI g_RX12_361 sh_179 dX12_play_49 ?_
    refine sim_callVIp v_RX12_358 sh_179 dX12_play_52 (k_M_isOver n a1 a5 (σ 179 35) σ) rfl ⟨by omega, by decide⟩ (S := []) rfl (Nat.le_of_ble_eq_true rfl) (fun r2 => ?_)
    refine sim_if_eq (tgt := 60) dX12_play_55 (by decide) ?_ ?_
    · refine sim_iload_n 1 rfl dX12_play_60 ?_
      refine sim_iload_n 2 rfl dX12_play_61 ?_
      refine sim_iload_n 3 rfl dX12_play_62 ?_
      refine sim_iload 4 rfl dX12_play_63 ?_
      refine sim_callSIp s_RX12_364 dX12_play_65 (k_M_gameOf SH RHO a1 a2 a3 a4 σ) rfl ⟨by omega, by decide⟩ (S := []) rfl (Nat.le_of_ble_eq_true rfl) (fun r3 => ?_)
      refine sim_istore (fun v4 => [(6, vI v4), (0, vR 179), (1, vI a1), (2, vI a2), (3, vI a3), (4, vI a4), (5, vI a5)]) (fun _ => rfl) (by decide) dX12_play_68 (fun v4 => ?_)
      refine sim_aload_n 1 rfl dX12_play_70 ?_
      refine sim_getR g_RX12_52 sh_179 rh_179_30 dX12_play_71 ?_
      refine sim_iload 0 rfl dX12_play_74 ?_
      refine sim_iaload sh_193 rfl dX12_play_76 ?_
      refine sim_bipush dX12_play_77 (by decide +kernel) ?_
      refine sim_icmp_eq (tgt := 90) dX12_play_79 (by decide) ?_ ?_
      · refine sim_iload 5 rfl dX12_play_90 ?_
        refine sim_jn1 (pc' := 106) (fun (u6 : Int) => [(0, vR 179), (1, vI a1), (2, vI a2), (3, vI a3), (4, vI a4), (5, vI a5), (6, vI v4)]) (fun (u6 : Int) => [vI u6]) (fun (u6 : Int) => σ) ?_ (fun j5 hj5 => ?_)
        · intro u6
          refine sim_istore (fun v7 => [(7, vI v7), (0, vR 179), (1, vI a1), (2, vI a2), (3, vI a3), (4, vI a4), (5, vI a5), (6, vI v4)]) (fun _ => rfl) (by decide) dX12_play_106 (fun v7 => ?_)
          refine sim_aload_n 1 rfl dX12_play_108 ?_
          refine sim_iload_n 2 rfl dX12_play_109 ?_
          refine sim_iload_n 3 rfl dX12_play_110 ?_
          refine sim_iload_n 4 rfl dX12_play_111 ?_
          refine sim_iload 0 rfl dX12_play_112 ?_
          refine sim_iload 6 rfl dX12_play_114 ?_
          refine sim_callVIp v_RX12_368 sh_179 dX12_play_116 (k_M_canLay n a1 a2 a3 v7 a5 σ) rfl ⟨by omega, by decide⟩ (S := []) rfl (Nat.le_of_ble_eq_true rfl) (fun r8 => ?_)
          refine sim_jn2 (pc' := 240) (fun (y10 : Int) (s11 : JSg) => [(0, vR 179), (6, vI v4), (8, vI y10)]) (fun (y10 : Int) (s11 : JSg) => []) (fun (y10 : Int) (s11 : JSg) => s11) ?_ (fun j9 hj9 => ?_)
          · intro y10 s11
            refine sim_aload_n 0 rfl dX12_play_240 ?_
            refine sim_getR g_RX12_52 sh_179 rh_179_30 dX12_play_241 ?_
            refine sim_iload 1 rfl dX12_play_244 ?_
            refine sim_iload 2 rfl dX12_play_246 ?_
            refine sim_iastore sh_193 rfl dX12_play_248 (fun s12 => ?_)
            refine sim_iload 2 rfl dX12_play_249 ?_
            exact sim_iret rfl rfl dX12_play_251
          refine sim_if_eq (tgt := 143) dX12_play_119 (by decide) ?_ ?_
          · refine sim_aload_n 1 rfl dX12_play_143 ?_
            refine sim_iload_n 2 rfl dX12_play_144 ?_
            refine sim_iload_n 3 rfl dX12_play_145 ?_
            refine sim_iload_n 4 rfl dX12_play_146 ?_
            refine sim_iload 5 rfl dX12_play_147 ?_
            refine sim_jn1 (pc' := 163) (fun (u14 : Int) => [(0, vR 179), (1, vI a1), (2, vI a2), (3, vI a3), (4, vI a4), (5, vI a5), (6, vI v4)]) (fun (u14 : Int) => [vI u14, vI a3, vI a2, vI a1, vR 179]) (fun (u14 : Int) => σ) ?_ (fun j13 hj13 => ?_)
            · intro u14
              refine sim_iload 5 rfl dX12_play_163 ?_
              refine sim_callVIp v_RX12_368 sh_179 dX12_play_165 (k_M_canLay n a1 a2 a3 u14 a5 σ) rfl ⟨by omega, by decide⟩ (S := []) rfl (Nat.le_of_ble_eq_true rfl) (fun r15 => ?_)
              refine sim_if_eq (tgt := 189) dX12_play_168 (by decide) ?_ ?_
              · refine sim_aload_n 0 rfl dX12_play_189 ?_
                refine sim_iload_n 1 rfl dX12_play_190 ?_
                refine sim_iload 5 rfl dX12_play_191 ?_
                refine sim_aload_n 0 rfl dX12_play_193 ?_
                refine sim_getI g_RX12_355 sh_179 dX12_play_194 ?_
                refine sim_callVIp v_RX12_379 sh_179 dX12_play_197 (k_M_pipsLeft n a1 a5 (σ 179 34) σ) rfl ⟨by omega, by decide⟩ (S := []) rfl (Nat.le_of_ble_eq_true rfl) (fun r16 => ?_)
                refine sim_istore (fun v17 => [(9, vI v17), (0, vR 179), (1, vI a1), (2, vI a2), (3, vI a3), (4, vI a4), (5, vI a5), (6, vI v4)]) (fun _ => rfl) (by decide) dX12_play_200 (fun v17 => ?_)
                refine sim_aload_n 1 rfl dX12_play_202 ?_
                refine sim_iload_n 2 rfl dX12_play_203 ?_
                refine sim_iload 6 rfl dX12_play_204 ?_
                refine sim_aload_n 1 rfl dX12_play_206 ?_
                refine sim_getI g_RX12_361 sh_179 dX12_play_207 ?_
                refine sim_callVIp v_RX12_379 sh_179 dX12_play_210 (k_M_pipsLeft n a1 a5 (σ 179 35) σ) rfl ⟨by omega, by decide⟩ (S := []) rfl (Nat.le_of_ble_eq_true rfl) (fun r18 => ?_)
                refine sim_istore (fun v19 => [(10, vI v19), (9, vI v17), (0, vR 179), (1, vI a1), (2, vI a2), (3, vI a3), (4, vI a4), (5, vI a5), (6, vI v4)]) (fun _ => rfl) (by decide) dX12_play_213 (fun v19 => ?_)
                refine sim_iload 1 rfl dX12_play_215 ?_
                refine sim_iload 0 rfl dX12_play_217 ?_
                refine sim_jn1 (pc' := 238) (fun (u21 : Int) => [(0, vR 179), (6, vI v4)]) (fun (u21 : Int) => [vI u21]) (fun (u21 : Int) => σ) ?_ (fun j20 hj20 => ?_)
                · intro u21
                  refine sim_istore (fun v22 => [(8, vI v22), (0, vR 179), (6, vI v4)]) (fun _ => rfl) (by decide) dX12_play_238 (fun v22 => ?_)
                  exact sim_sub [1, 2, 0] rfl (hj9 v22 (σ))
                refine sim_icmp_ge (tgt := 226) dX12_play_219 (by decide) ?_ ?_
                · refine sim_iload 1 rfl dX12_play_226 ?_
                  refine sim_iload 0 rfl dX12_play_228 ?_
                  refine sim_icmp_le (tgt := 237) dX12_play_230 (by decide) ?_ ?_
                  · refine sim_iconst dX12_play_237 (by decide) ?_
                    exact sim_sub [2, 8] rfl (hj20 0)
                  · refine sim_iconst dX12_play_233 (by decide) ?_
                    refine sim_goto (tgt := 238) dX12_play_234 (by decide) ?_
                    exact sim_sub [2, 8] rfl (hj20 (-1))
                · refine sim_iconst dX12_play_222 (by decide) ?_
                  refine sim_goto (tgt := 238) dX12_play_223 (by decide) ?_
                  exact sim_sub [2, 8] rfl (hj20 1)
              · refine sim_aload_n 0 rfl dX12_play_171 ?_
                refine sim_iload_n 1 rfl dX12_play_172 ?_
                refine sim_iload_n 2 rfl dX12_play_173 ?_
                refine sim_iload_n 3 rfl dX12_play_174 ?_
                refine sim_iconst dX12_play_175 (by decide) ?_
                refine sim_iload 4 rfl dX12_play_176 ?_
                refine sim_isub dX12_play_178 ?_
                refine sim_iload 5 rfl dX12_play_179 ?_
                refine sim_callVIm v_RX12_376 sh_179 dX12_play_181 (hgplay a1 a2 a3 (w32 (1 - a4)) a5 σ) rfl ⟨by omega, by decide⟩ (S := []) rfl (Nat.le_of_ble_eq_true rfl) (fun r23 s24 => ?_)
                refine sim_istore (fun v25 => [(8, vI v25), (0, vR 179), (1, vI a1), (2, vI a2), (3, vI a3), (4, vI a4), (5, vI a5), (6, vI v4)]) (fun _ => rfl) (by decide) dX12_play_184 (fun v25 => ?_)
                refine sim_goto (tgt := 240) dX12_play_186 (by decide) ?_
                exact sim_sub [1, 7, 0] rfl (hj9 v25 s24)
            refine sim_if_ne (tgt := 159) dX12_play_149 (by decide) ?_ ?_
            · refine sim_aload_n 1 rfl dX12_play_159 ?_
              refine sim_getI g_RX12_355 sh_179 dX12_play_160 ?_
              exact sim_sub [1, 2, 3, 4, 5, 6, 7] rfl (hj13 (σ 179 34))
            · refine sim_aload_n 1 rfl dX12_play_152 ?_
              refine sim_getI g_RX12_361 sh_179 dX12_play_153 ?_
              refine sim_goto (tgt := 163) dX12_play_156 (by decide) ?_
              exact sim_sub [1, 2, 3, 4, 5, 6, 7] rfl (hj13 (σ 179 35))
          · refine sim_aload_n 1 rfl dX12_play_122 ?_
            refine sim_iload_n 2 rfl dX12_play_123 ?_
            refine sim_iload_n 3 rfl dX12_play_124 ?_
            refine sim_iload_n 4 rfl dX12_play_125 ?_
            refine sim_iload 5 rfl dX12_play_126 ?_
            refine sim_iload 6 rfl dX12_play_128 ?_
            refine sim_callVIm v_RX12_372 sh_179 dX12_play_130 (hgbestOf a1 a2 a3 a4 a5 σ) rfl ⟨by omega, by decide⟩ (S := []) rfl (Nat.le_of_ble_eq_true rfl) (fun r26 s27 => ?_)
            refine sim_bipush dX12_play_133 (by decide +kernel) ?_
            refine sim_idivK (by decide) dX12_play_135 ?_
            refine sim_iconst dX12_play_136 (by decide) ?_
            refine sim_isub dX12_play_137 ?_
            refine sim_istore (fun v28 => [(8, vI v28), (7, vI v7), (0, vR 179), (1, vI a1), (2, vI a2), (3, vI a3), (4, vI a4), (5, vI a5), (6, vI v4)]) (fun _ => rfl) (by decide) dX12_play_138 (fun v28 => ?_)
            refine sim_goto (tgt := 240) dX12_play_140 (by decide) ?_
            exact sim_sub [2, 8, 0] rfl (hj9 v28 s27)
        refine sim_if_ne (tgt := 102) dX12_play_92 (by decide) ?_ ?_
        · refine sim_aload_n 1 rfl dX12_play_102 ?_
          refine sim_getI g_RX12_361 sh_179 dX12_play_103 ?_
          exact sim_sub [1, 2, 3, 4, 5, 6, 0] rfl (hj5 (σ 179 35))
        · refine sim_aload_n 1 rfl dX12_play_95 ?_
          refine sim_getI g_RX12_355 sh_179 dX12_play_96 ?_
          refine sim_goto (tgt := 106) dX12_play_99 (by decide) ?_
          exact sim_sub [1, 2, 3, 4, 5, 6, 0] rfl (hj5 (σ 179 34))
      · refine sim_aload_n 1 rfl dX12_play_82 ?_
        refine sim_getR g_RX12_52 sh_179 rh_179_30 dX12_play_83 ?_
        refine sim_iload 0 rfl dX12_play_86 ?_
        refine sim_iaload sh_193 rfl dX12_play_88 ?_
        exact sim_iret rfl rfl dX12_play_89
    · refine sim_iconst dX12_play_58 (by decide) ?_
      exact sim_iret rfl rfl dX12_play_59
  · refine sim_iload_n 1 rfl dX12_play_14 ?_
    refine sim_jn0 (pc' := 38) ([]) ([]) (σ) ?_ (fun j29 hj29 => ?_)
    · refine sim_iconst dX12_play_38 (by decide) ?_
      refine sim_goto (tgt := 43) dX12_play_39 (by decide) ?_
      exact sim_iret rfl rfl dX12_play_43
    refine sim_if_eq (tgt := 38) dX12_play_15 (by decide) ?_ ?_
    · exact sim_sub [] rfl (hj29 )
    · refine sim_iload 4 rfl dX12_play_18 ?_
      refine sim_iconst dX12_play_20 (by decide) ?_
      refine sim_icmp_eq (tgt := 38) dX12_play_21 (by decide) ?_ ?_
      · exact sim_sub [] rfl (hj29 )
      · refine sim_aload_n 0 rfl dX12_play_24 ?_
        refine sim_iload_n 1 rfl dX12_play_25 ?_
        refine sim_iload 5 rfl dX12_play_26 ?_
        refine sim_aload_n 0 rfl dX12_play_28 ?_
        refine sim_getI g_RX12_361 sh_179 dX12_play_29 ?_
        refine sim_callVIp v_RX12_358 sh_179 dX12_play_32 (k_M_isOver n a1 a5 (σ 179 35) σ) rfl ⟨by omega, by decide⟩ (S := []) rfl (Nat.le_of_ble_eq_true rfl) (fun r30 => ?_)
        refine sim_if_ne (tgt := 42) dX12_play_35 (by decide) ?_ ?_
        · refine sim_iconst dX12_play_42 (by decide) ?_
          exact sim_iret rfl rfl dX12_play_43
        · exact sim_sub [] rfl (hj29 )
def fg_M_bestOf (n : Nat)  : Nat → (Int → Int → Int → Int → Int → JSg → Option (Int × JSg)) × (Int → Int → Int → Int → Int → JSg → Option (Int × JSg))
  | 0 => (fun _ _ _ _ _ _ => none, fun _ _ _ _ _ _ => none)
  | r + 1 => (f_M_bestOf_s n (fg_M_bestOf n r).1 (fg_M_bestOf n r).2, f_M_play_s n (fg_M_bestOf n r).1 (fg_M_bestOf n r).2)
def f_M_bestOf (n : Nat)  (a1 : Int) (a2 : Int) (a3 : Int) (a4 : Int) (a5 : Int) (σ : JSg) : Option (Int × JSg) := (fg_M_bestOf n 64).1 a1 a2 a3 a4 a5 σ
def f_M_play (n : Nat)  (a1 : Int) (a2 : Int) (a3 : Int) (a4 : Int) (a5 : Int) (σ : JSg) : Option (Int × JSg) := (fg_M_bestOf n 64).2 a1 a2 a3 a4 a5 σ
theorem kg_M_bestOf  (n : Nat)   : ∀ r : Nat, (∀ (a1 : Int) (a2 : Int) (a3 : Int) (a4 : Int) (a5 : Int) (σ : JSg), Call yX12_bestOf cX12_bestOf 13 (some .int) (4 + r) SH RHO [vR 179, vI a1, vI a2, vI a3, vI a4, vI a5] σ dIm ((fg_M_bestOf n r).1 a1 a2 a3 a4 a5 σ)) ∧ (∀ (a1 : Int) (a2 : Int) (a3 : Int) (a4 : Int) (a5 : Int) (σ : JSg), Call yX12_play cX12_play 11 (some .int) (4 + r) SH RHO [vR 179, vI a1, vI a2, vI a3, vI a4, vI a5] σ dIm ((fg_M_bestOf n r).2 a1 a2 a3 a4 a5 σ)) := by
  intro r
  induction r with
  | zero => exact ⟨fun _ _ _ _ _ _ _ _ _ h => (by cases h), fun _ _ _ _ _ _ _ _ _ h => (by cases h)⟩
  | succ r ih =>
    obtain ⟨h0, h1⟩ := ih
    exact ⟨fun a1 a2 a3 a4 a5 σ => k_M_bestOf_s n _ _ (4 + r) (by omega) h0 h1 a1 a2 a3 a4 a5 σ, fun a1 a2 a3 a4 a5 σ => k_M_play_s n _ _ (4 + r) (by omega) h0 h1 a1 a2 a3 a4 a5 σ⟩
theorem k_M_bestOf  (n : Nat)   (a1 : Int) (a2 : Int) (a3 : Int) (a4 : Int) (a5 : Int) (σ : JSg) : Call yX12_bestOf cX12_bestOf 13 (some .int) 68 SH RHO [vR 179, vI a1, vI a2, vI a3, vI a4, vI a5] σ dIm (f_M_bestOf n a1 a2 a3 a4 a5 σ) := (kg_M_bestOf n 64).1 a1 a2 a3 a4 a5 σ
theorem k_M_play  (n : Nat)   (a1 : Int) (a2 : Int) (a3 : Int) (a4 : Int) (a5 : Int) (σ : JSg) : Call yX12_play cX12_play 11 (some .int) 68 SH RHO [vR 179, vI a1, vI a2, vI a3, vI a4, vI a5] σ dIm (f_M_play n a1 a2 a3 a4 a5 σ) := (kg_M_bestOf n 64).2 a1 a2 a3 a4 a5 σ
