theorem dX12_readStone_0 : decode cX12_readStone 0 = .ok (.aload_n 0, 1) := by decide +kernel
theorem dX12_readStone_1 : decode cX12_readStone 1 = .ok (.getfield 16, 3) := by decide +kernel
theorem dX12_readStone_4 : decode cX12_readStone 4 = .ok (.iconst 1, 1) := by decide +kernel
theorem dX12_readStone_5 : decode cX12_readStone 5 = .ok (.iaload, 1) := by decide +kernel
theorem dX12_readStone_6 : decode cX12_readStone 6 = .ok (.istore_n 1, 1) := by decide +kernel
theorem dX12_readStone_7 : decode cX12_readStone 7 = .ok (.iload_n 1, 1) := by decide +kernel
theorem dX12_readStone_8 : decode cX12_readStone 8 = .ok (.bipush 28, 2) := by decide +kernel
theorem dX12_readStone_10 : decode cX12_readStone 10 = .ok (.if_icmp .ne 9, 3) := by decide +kernel
theorem dX12_readStone_13 : decode cX12_readStone 13 = .ok (.aload_n 0, 1) := by decide +kernel
theorem dX12_readStone_14 : decode cX12_readStone 14 = .ok (.iconst 4, 1) := by decide +kernel
theorem dX12_readStone_15 : decode cX12_readStone 15 = .ok (.invokevirtual 155, 3) := by decide +kernel
theorem dX12_readStone_18 : decode cX12_readStone 18 = .ok (.ireturn, 1) := by decide +kernel
theorem dX12_readStone_19 : decode cX12_readStone 19 = .ok (.aload_n 0, 1) := by decide +kernel
theorem dX12_readStone_20 : decode cX12_readStone 20 = .ok (.invokevirtual 169, 3) := by decide +kernel
theorem dX12_readStone_23 : decode cX12_readStone 23 = .ok (.aload_n 0, 1) := by decide +kernel
theorem dX12_readStone_24 : decode cX12_readStone 24 = .ok (.iconst 0, 1) := by decide +kernel
theorem dX12_readStone_25 : decode cX12_readStone 25 = .ok (.bipush 6, 2) := by decide +kernel
theorem dX12_readStone_27 : decode cX12_readStone 27 = .ok (.invokevirtual 194, 3) := by decide +kernel
theorem dX12_readStone_30 : decode cX12_readStone 30 = .ok (.ifCond .ne 5, 3) := by decide +kernel
theorem dX12_readStone_33 : decode cX12_readStone 33 = .ok (.iconst 0, 1) := by decide +kernel
theorem dX12_readStone_34 : decode cX12_readStone 34 = .ok (.ireturn, 1) := by decide +kernel
theorem dX12_readStone_35 : decode cX12_readStone 35 = .ok (.aload_n 0, 1) := by decide +kernel
theorem dX12_readStone_36 : decode cX12_readStone 36 = .ok (.getfield 162, 3) := by decide +kernel
theorem dX12_readStone_39 : decode cX12_readStone 39 = .ok (.istore_n 2, 1) := by decide +kernel
theorem dX12_readStone_40 : decode cX12_readStone 40 = .ok (.aload_n 0, 1) := by decide +kernel
theorem dX12_readStone_41 : decode cX12_readStone 41 = .ok (.iconst 0, 1) := by decide +kernel
theorem dX12_readStone_42 : decode cX12_readStone 42 = .ok (.bipush 6, 2) := by decide +kernel
theorem dX12_readStone_44 : decode cX12_readStone 44 = .ok (.invokevirtual 165, 3) := by decide +kernel
theorem dX12_readStone_47 : decode cX12_readStone 47 = .ok (.ifCond .ne 5, 3) := by decide +kernel
theorem dX12_readStone_50 : decode cX12_readStone 50 = .ok (.iconst 0, 1) := by decide +kernel
theorem dX12_readStone_51 : decode cX12_readStone 51 = .ok (.ireturn, 1) := by decide +kernel
theorem dX12_readStone_52 : decode cX12_readStone 52 = .ok (.aload_n 0, 1) := by decide +kernel
theorem dX12_readStone_53 : decode cX12_readStone 53 = .ok (.getfield 16, 3) := by decide +kernel
theorem dX12_readStone_56 : decode cX12_readStone 56 = .ok (.iload_n 2, 1) := by decide +kernel
theorem dX12_readStone_57 : decode cX12_readStone 57 = .ok (.aload_n 0, 1) := by decide +kernel
theorem dX12_readStone_58 : decode cX12_readStone 58 = .ok (.getfield 162, 3) := by decide +kernel
theorem dX12_readStone_61 : decode cX12_readStone 61 = .ok (.invokestatic 197, 3) := by decide +kernel
theorem dX12_readStone_64 : decode cX12_readStone 64 = .ok (.iconst (-1), 1) := by decide +kernel
theorem dX12_readStone_65 : decode cX12_readStone 65 = .ok (.if_icmp .eq 9, 3) := by decide +kernel
theorem dX12_readStone_68 : decode cX12_readStone 68 = .ok (.aload_n 0, 1) := by decide +kernel
theorem dX12_readStone_69 : decode cX12_readStone 69 = .ok (.iconst 3, 1) := by decide +kernel
theorem dX12_readStone_70 : decode cX12_readStone 70 = .ok (.invokevirtual 155, 3) := by decide +kernel
theorem dX12_readStone_73 : decode cX12_readStone 73 = .ok (.ireturn, 1) := by decide +kernel
theorem dX12_readStone_74 : decode cX12_readStone 74 = .ok (.aload_n 0, 1) := by decide +kernel
theorem dX12_readStone_75 : decode cX12_readStone 75 = .ok (.getfield 16, 3) := by decide +kernel
theorem dX12_readStone_78 : decode cX12_readStone 78 = .ok (.bipush 11, 2) := by decide +kernel
theorem dX12_readStone_80 : decode cX12_readStone 80 = .ok (.iconst 2, 1) := by decide +kernel
theorem dX12_readStone_81 : decode cX12_readStone 81 = .ok (.iload_n 1, 1) := by decide +kernel
theorem dX12_readStone_82 : decode cX12_readStone 82 = .ok (.imul, 1) := by decide +kernel
theorem dX12_readStone_83 : decode cX12_readStone 83 = .ok (.iadd, 1) := by decide +kernel
theorem dX12_readStone_84 : decode cX12_readStone 84 = .ok (.iload_n 2, 1) := by decide +kernel
theorem dX12_readStone_85 : decode cX12_readStone 85 = .ok (.iastore, 1) := by decide +kernel
theorem dX12_readStone_86 : decode cX12_readStone 86 = .ok (.aload_n 0, 1) := by decide +kernel
theorem dX12_readStone_87 : decode cX12_readStone 87 = .ok (.getfield 16, 3) := by decide +kernel
theorem dX12_readStone_90 : decode cX12_readStone 90 = .ok (.bipush 11, 2) := by decide +kernel
theorem dX12_readStone_92 : decode cX12_readStone 92 = .ok (.iconst 2, 1) := by decide +kernel
theorem dX12_readStone_93 : decode cX12_readStone 93 = .ok (.iload_n 1, 1) := by decide +kernel
theorem dX12_readStone_94 : decode cX12_readStone 94 = .ok (.imul, 1) := by decide +kernel
theorem dX12_readStone_95 : decode cX12_readStone 95 = .ok (.iadd, 1) := by decide +kernel
theorem dX12_readStone_96 : decode cX12_readStone 96 = .ok (.iconst 1, 1) := by decide +kernel
theorem dX12_readStone_97 : decode cX12_readStone 97 = .ok (.iadd, 1) := by decide +kernel
theorem dX12_readStone_98 : decode cX12_readStone 98 = .ok (.aload_n 0, 1) := by decide +kernel
theorem dX12_readStone_99 : decode cX12_readStone 99 = .ok (.getfield 162, 3) := by decide +kernel
theorem dX12_readStone_102 : decode cX12_readStone 102 = .ok (.iastore, 1) := by decide +kernel
theorem dX12_readStone_103 : decode cX12_readStone 103 = .ok (.aload_n 0, 1) := by decide +kernel
theorem dX12_readStone_104 : decode cX12_readStone 104 = .ok (.invokevirtual 169, 3) := by decide +kernel
theorem dX12_readStone_107 : decode cX12_readStone 107 = .ok (.aload_n 0, 1) := by decide +kernel
theorem dX12_readStone_108 : decode cX12_readStone 108 = .ok (.invokevirtual 186, 3) := by decide +kernel
theorem dX12_readStone_111 : decode cX12_readStone 111 = .ok (.ifCond .ne 9, 3) := by decide +kernel
theorem dX12_readStone_114 : decode cX12_readStone 114 = .ok (.aload_n 0, 1) := by decide +kernel
theorem dX12_readStone_115 : decode cX12_readStone 115 = .ok (.iconst 1, 1) := by decide +kernel
theorem dX12_readStone_116 : decode cX12_readStone 116 = .ok (.invokevirtual 155, 3) := by decide +kernel
theorem dX12_readStone_119 : decode cX12_readStone 119 = .ok (.ireturn, 1) := by decide +kernel
theorem dX12_readStone_120 : decode cX12_readStone 120 = .ok (.aload_n 0, 1) := by decide +kernel
theorem dX12_readStone_121 : decode cX12_readStone 121 = .ok (.getfield 29, 3) := by decide +kernel
theorem dX12_readStone_124 : decode cX12_readStone 124 = .ok (.aload_n 0, 1) := by decide +kernel
theorem dX12_readStone_125 : decode cX12_readStone 125 = .ok (.getfield 16, 3) := by decide +kernel
theorem dX12_readStone_128 : decode cX12_readStone 128 = .ok (.iconst 0, 1) := by decide +kernel
theorem dX12_readStone_129 : decode cX12_readStone 129 = .ok (.iaload, 1) := by decide +kernel
theorem dX12_readStone_130 : decode cX12_readStone 130 = .ok (.aload_n 0, 1) := by decide +kernel
theorem dX12_readStone_131 : decode cX12_readStone 131 = .ok (.getfield 122, 3) := by decide +kernel
theorem dX12_readStone_134 : decode cX12_readStone 134 = .ok (.invokestatic 190, 3) := by decide +kernel
theorem dX12_readStone_137 : decode cX12_readStone 137 = .ok (.istore_n 3, 1) := by decide +kernel
theorem dX12_readStone_138 : decode cX12_readStone 138 = .ok (.iload_n 3, 1) := by decide +kernel
theorem dX12_readStone_139 : decode cX12_readStone 139 = .ok (.iconst (-1), 1) := by decide +kernel
theorem dX12_readStone_140 : decode cX12_readStone 140 = .ok (.if_icmp .ne 9, 3) := by decide +kernel
theorem dX12_readStone_143 : decode cX12_readStone 143 = .ok (.aload_n 0, 1) := by decide +kernel
theorem dX12_readStone_144 : decode cX12_readStone 144 = .ok (.iconst 3, 1) := by decide +kernel
theorem dX12_readStone_145 : decode cX12_readStone 145 = .ok (.invokevirtual 155, 3) := by decide +kernel
theorem dX12_readStone_148 : decode cX12_readStone 148 = .ok (.ireturn, 1) := by decide +kernel
theorem dX12_readStone_149 : decode cX12_readStone 149 = .ok (.aload_n 0, 1) := by decide +kernel
theorem dX12_readStone_150 : decode cX12_readStone 150 = .ok (.getfield 16, 3) := by decide +kernel
theorem dX12_readStone_153 : decode cX12_readStone 153 = .ok (.bipush 67, 2) := by decide +kernel
theorem dX12_readStone_155 : decode cX12_readStone 155 = .ok (.iload_n 1, 1) := by decide +kernel
theorem dX12_readStone_156 : decode cX12_readStone 156 = .ok (.iadd, 1) := by decide +kernel
theorem dX12_readStone_157 : decode cX12_readStone 157 = .ok (.iload_n 3, 1) := by decide +kernel
theorem dX12_readStone_158 : decode cX12_readStone 158 = .ok (.iastore, 1) := by decide +kernel
theorem dX12_readStone_159 : decode cX12_readStone 159 = .ok (.aload_n 0, 1) := by decide +kernel
theorem dX12_readStone_160 : decode cX12_readStone 160 = .ok (.getfield 16, 3) := by decide +kernel
theorem dX12_readStone_163 : decode cX12_readStone 163 = .ok (.iconst 1, 1) := by decide +kernel
theorem dX12_readStone_164 : decode cX12_readStone 164 = .ok (.dup2, 1) := by decide +kernel
theorem dX12_readStone_165 : decode cX12_readStone 165 = .ok (.iaload, 1) := by decide +kernel
theorem dX12_readStone_166 : decode cX12_readStone 166 = .ok (.iconst 1, 1) := by decide +kernel
theorem dX12_readStone_167 : decode cX12_readStone 167 = .ok (.iadd, 1) := by decide +kernel
theorem dX12_readStone_168 : decode cX12_readStone 168 = .ok (.iastore, 1) := by decide +kernel
theorem dX12_readStone_169 : decode cX12_readStone 169 = .ok (.aload_n 0, 1) := by decide +kernel
theorem dX12_readStone_170 : decode cX12_readStone 170 = .ok (.invokevirtual 169, 3) := by decide +kernel
theorem dX12_readStone_173 : decode cX12_readStone 173 = .ok (.iconst 1, 1) := by decide +kernel
theorem dX12_readStone_174 : decode cX12_readStone 174 = .ok (.ireturn, 1) := by decide +kernel
def f_M_readStone (n : Nat)   (σ : JSg) : Option (Int × JSg) :=
  lt_ (σ 182 1) fun v1 => if v1 = 28 then (bd2 (f_M_bad 4 σ) fun r24 s25 => chk (r24 = 0 ∨ r24 = 1) <| some (r24, s25)) else (bd1 (f_M_go n σ) fun s2 => bd2 (f_M_readNumber n 0 6 s2) fun r3 s4 => if r3 = 0 then (some (0, s4)) else (lt_ (s4 179 13) fun v5 => bd2 (f_M_isNumber 0 6 s4) fun r6 s7 => if r6 = 0 then (some (0, s7)) else (bd1 (f_M_findStone n 182 192 v5 (s7 179 13) s7) fun r8 => if r8 = (-1) then (chk (0 ≤ (w32 (11 + (w32 (2 * v1)))) ∧ (w32 (11 + (w32 (2 * v1)))) < 192) <| lt_ (sp s7 182 (w32 (11 + (w32 (2 * v1)))).toNat v5) fun s9 => chk (0 ≤ (w32 ((w32 (11 + (w32 (2 * v1)))) + 1)) ∧ (w32 ((w32 (11 + (w32 (2 * v1)))) + 1)) < 192) <| lt_ (sp s9 182 (w32 ((w32 (11 + (w32 (2 * v1)))) + 1)).toNat (s9 179 13)) fun s10 => bd1 (f_M_go n s10) fun s11 => bd1 (f_M_isName n s11) fun r12 => if r12 = 0 then (bd2 (f_M_bad 1 s11) fun r20 s21 => chk (r20 = 0 ∨ r20 = 1) <| some (r20, s21)) else (bd1 (f_M_findIn n 186 6 (s11 182 0) (s11 179 12) s11) fun r13 => lt_ r13 fun v14 => if v14 = (-1) then (bd2 (f_M_bad 3 s11) fun r18 s19 => chk (r18 = 0 ∨ r18 = 1) <| some (r18, s19)) else (chk (0 ≤ (w32 (67 + v1)) ∧ (w32 (67 + v1)) < 192) <| lt_ (sp s11 182 (w32 (67 + v1)).toNat v14) fun s15 => lt_ (sp s15 182 1 (w32 ((s15 182 1) + 1))) fun s16 => bd1 (f_M_go n s16) fun s17 => some (1, s17)))) else (bd2 (f_M_bad 3 s7) fun r22 s23 => chk (r22 = 0 ∨ r22 = 1) <| some (r22, s23)))))
set_option maxRecDepth 20000 in
set_option maxHeartbeats 4000000 in
theorem k_M_readStone  (n : Nat)    (σ : JSg) : Call yX12_readStone cX12_readStone 4 (some .boolean) 3 SH RHO [vR 179] σ dIm (f_M_readStone n σ) := by
  refine call_of_sim (by decide +kernel) (Nat.le_of_ble_eq_true rfl) ?_
  show Sim RX12 cX12_readStone 4 (some .boolean) 3 SH RHO 0 [(0, vR 179)] [] σ dIm (f_M_readStone n σ)
  unfold f_M_readStone
  refine sim_aload_n 0 rfl dX12_readStone_0 ?_
  refine sim_getR g_RX12_16 sh_179 rh_179_15 dX12_readStone_1 ?_
  refine sim_iconst dX12_readStone_4 (by decide) ?_
  refine sim_ialoadK (j := 1) sh_182 rfl (by decide) dX12_readStone_5 ?_
  refine sim_istore_n (fun v1 => [(1, vI v1), (0, vR 179)]) (fun _ => rfl) (by decide) dX12_readStone_6 (fun v1 => ?_)
  refine sim_iload_n 0 rfl dX12_readStone_7 ?_
  refine sim_bipush dX12_readStone_8 (by decide +kernel) ?_
  refine sim_icmp_ne (tgt := 19) dX12_readStone_10 (by decide) ?_ ?_
  · refine sim_aload_n 1 rfl dX12_readStone_19 ?_
    refine sim_callVVm v_RX12_169 sh_179 dX12_readStone_20 (k_M_go n σ) rfl ⟨by decide, by decide⟩ (S := []) rfl (Nat.le_of_ble_eq_true rfl) (fun s2 => ?_)
    refine sim_aload_n 1 rfl dX12_readStone_23 ?_
    refine sim_iconst dX12_readStone_24 (by decide) ?_
    refine sim_bipush dX12_readStone_25 (by decide +kernel) ?_
    refine sim_callVIm v_RX12_194 sh_179 dX12_readStone_27 (k_M_readNumber n 0 6 s2) rfl ⟨by decide, by decide⟩ (S := []) rfl (Nat.le_of_ble_eq_true rfl) (fun r3 s4 => ?_)
    refine sim_if_ne (tgt := 35) dX12_readStone_30 (by decide) ?_ ?_
    · refine sim_aload_n 1 rfl dX12_readStone_35 ?_
      refine sim_getI g_RX12_162 sh_179 dX12_readStone_36 ?_
      refine sim_istore_n (fun v5 => [(2, vI v5), (1, vI v1), (0, vR 179)]) (fun _ => rfl) (by decide) dX12_readStone_39 (fun v5 => ?_)
      refine sim_aload_n 2 rfl dX12_readStone_40 ?_
      refine sim_iconst dX12_readStone_41 (by decide) ?_
      refine sim_bipush dX12_readStone_42 (by decide +kernel) ?_
      refine sim_callVIm v_RX12_165 sh_179 dX12_readStone_44 (k_M_isNumber 0 6 s4) rfl ⟨by decide, by decide⟩ (S := []) rfl (Nat.le_of_ble_eq_true rfl) (fun r6 s7 => ?_)
      refine sim_if_ne (tgt := 52) dX12_readStone_47 (by decide) ?_ ?_
      · refine sim_aload_n 2 rfl dX12_readStone_52 ?_
        refine sim_getR g_RX12_16 sh_179 rh_179_15 dX12_readStone_53 ?_
        refine sim_iload_n 0 rfl dX12_readStone_56 ?_
        refine sim_aload_n 2 rfl dX12_readStone_57 ?_
        refine sim_getI g_RX12_162 sh_179 dX12_readStone_58 ?_
        refine sim_callSIp s_RX12_197 dX12_readStone_61 (k_M_findStone SH RHO n 182 192 sh_182 (okI_lit (by decide)) v5 (s7 179 13) s7) rfl ⟨by decide, by decide⟩ (S := []) rfl (Nat.le_of_ble_eq_true rfl) (fun r8 => ?_)
        refine sim_iconst dX12_readStone_64 (by decide) ?_
        refine sim_icmp_eq (tgt := 74) dX12_readStone_65 (by decide) ?_ ?_
        · refine sim_aload_n 2 rfl dX12_readStone_74 ?_
          refine sim_getR g_RX12_16 sh_179 rh_179_15 dX12_readStone_75 ?_
          refine sim_bipush dX12_readStone_78 (by decide +kernel) ?_
          refine sim_iconst dX12_readStone_80 (by decide) ?_
          refine sim_iload_n 1 rfl dX12_readStone_81 ?_
          refine sim_imul dX12_readStone_82 ?_
          refine sim_iadd dX12_readStone_83 ?_
          refine sim_iload_n 0 rfl dX12_readStone_84 ?_
          refine sim_iastore sh_182 rfl dX12_readStone_85 (fun s9 => ?_)
          refine sim_aload_n 2 rfl dX12_readStone_86 ?_
          refine sim_getR g_RX12_16 sh_179 rh_179_15 dX12_readStone_87 ?_
          refine sim_bipush dX12_readStone_90 (by decide +kernel) ?_
          refine sim_iconst dX12_readStone_92 (by decide) ?_
          refine sim_iload_n 1 rfl dX12_readStone_93 ?_
          refine sim_imul dX12_readStone_94 ?_
          refine sim_iadd dX12_readStone_95 ?_
          refine sim_iconst dX12_readStone_96 (by decide) ?_
          refine sim_iadd dX12_readStone_97 ?_
          refine sim_aload_n 2 rfl dX12_readStone_98 ?_
          refine sim_getI g_RX12_162 sh_179 dX12_readStone_99 ?_
          refine sim_iastore sh_182 rfl dX12_readStone_102 (fun s10 => ?_)
          refine sim_aload_n 2 rfl dX12_readStone_103 ?_
          refine sim_callVVm v_RX12_169 sh_179 dX12_readStone_104 (k_M_go n s10) rfl ⟨by decide, by decide⟩ (S := []) rfl (Nat.le_of_ble_eq_true rfl) (fun s11 => ?_)
          refine sim_aload_n 2 rfl dX12_readStone_107 ?_
          refine sim_callVIp v_RX12_186 sh_179 dX12_readStone_108 (k_M_isName n s11) rfl ⟨by decide, by decide⟩ (S := []) rfl (Nat.le_of_ble_eq_true rfl) (fun r12 => ?_)
          refine sim_if_ne (tgt := 120) dX12_readStone_111 (by decide) ?_ ?_
          · refine sim_aload_n 2 rfl dX12_readStone_120 ?_
            refine sim_getR g_RX12_29 sh_179 rh_179_19 dX12_readStone_121 ?_
            refine sim_aload_n 2 rfl dX12_readStone_124 ?_
            refine sim_getR g_RX12_16 sh_179 rh_179_15 dX12_readStone_125 ?_
            refine sim_iconst dX12_readStone_128 (by decide) ?_
            refine sim_ialoadK (j := 0) sh_182 rfl (by decide) dX12_readStone_129 ?_
            refine sim_aload_n 2 rfl dX12_readStone_130 ?_
            refine sim_getL g_RX12_122 sh_179 dX12_readStone_131 ?_
            refine sim_callSIp s_RX12_190 dX12_readStone_134 (k_M_findIn SH RHO n 186 6 sh_186 (okI_lit (by decide)) (s11 182 0) (s11 179 12) s11) rfl ⟨by decide, by decide⟩ (S := []) rfl (Nat.le_of_ble_eq_true rfl) (fun r13 => ?_)
            refine sim_istore_n (fun v14 => [(3, vI v14), (2, vI v5), (1, vI v1), (0, vR 179)]) (fun _ => rfl) (by decide) dX12_readStone_137 (fun v14 => ?_)
            refine sim_iload_n 0 rfl dX12_readStone_138 ?_
            refine sim_iconst dX12_readStone_139 (by decide) ?_
            refine sim_icmp_ne (tgt := 149) dX12_readStone_140 (by decide) ?_ ?_
            · refine sim_aload_n 3 rfl dX12_readStone_149 ?_
              refine sim_getR g_RX12_16 sh_179 rh_179_15 dX12_readStone_150 ?_
              refine sim_bipush dX12_readStone_153 (by decide +kernel) ?_
              refine sim_iload_n 2 rfl dX12_readStone_155 ?_
              refine sim_iadd dX12_readStone_156 ?_
              refine sim_iload_n 0 rfl dX12_readStone_157 ?_
              refine sim_iastore sh_182 rfl dX12_readStone_158 (fun s15 => ?_)
              refine sim_aload_n 3 rfl dX12_readStone_159 ?_
              refine sim_getR g_RX12_16 sh_179 rh_179_15 dX12_readStone_160 ?_
              refine sim_iconst dX12_readStone_163 (by decide) ?_
              refine sim_dup2 rfl rfl dX12_readStone_164 ?_
              refine sim_ialoadK (j := 1) sh_182 rfl (by decide) dX12_readStone_165 ?_
              refine sim_iconst dX12_readStone_166 (by decide) ?_
              refine sim_iadd dX12_readStone_167 ?_
              refine sim_iastoreK (j := 1) sh_182 rfl (by decide) dX12_readStone_168 (fun s16 => ?_)
              refine sim_aload_n 3 rfl dX12_readStone_169 ?_
              refine sim_callVVm v_RX12_169 sh_179 dX12_readStone_170 (k_M_go n s16) rfl ⟨by decide, by decide⟩ (S := []) rfl (Nat.le_of_ble_eq_true rfl) (fun s17 => ?_)
              refine sim_iconst dX12_readStone_173 (by decide) ?_
              exact sim_zret (Or.inr rfl) rfl rfl dX12_readStone_174
            · refine sim_aload_n 3 rfl dX12_readStone_143 ?_
              refine sim_iconst dX12_readStone_144 (by decide) ?_
              refine sim_callVIm v_RX12_155 sh_179 dX12_readStone_145 (k_M_bad 3 s11) rfl ⟨by decide, by decide⟩ (S := []) rfl (Nat.le_of_ble_eq_true rfl) (fun r18 s19 => ?_)
              exact sim_zretc rfl rfl dX12_readStone_148
          · refine sim_aload_n 2 rfl dX12_readStone_114 ?_
            refine sim_iconst dX12_readStone_115 (by decide) ?_
            refine sim_callVIm v_RX12_155 sh_179 dX12_readStone_116 (k_M_bad 1 s11) rfl ⟨by decide, by decide⟩ (S := []) rfl (Nat.le_of_ble_eq_true rfl) (fun r20 s21 => ?_)
            exact sim_zretc rfl rfl dX12_readStone_119
        · refine sim_aload_n 2 rfl dX12_readStone_68 ?_
          refine sim_iconst dX12_readStone_69 (by decide) ?_
          refine sim_callVIm v_RX12_155 sh_179 dX12_readStone_70 (k_M_bad 3 s7) rfl ⟨by decide, by decide⟩ (S := []) rfl (Nat.le_of_ble_eq_true rfl) (fun r22 s23 => ?_)
          exact sim_zretc rfl rfl dX12_readStone_73
      · refine sim_iconst dX12_readStone_50 (by decide) ?_
        exact sim_zret (Or.inl rfl) rfl rfl dX12_readStone_51
    · refine sim_iconst dX12_readStone_33 (by decide) ?_
      exact sim_zret (Or.inl rfl) rfl rfl dX12_readStone_34
  · refine sim_aload_n 1 rfl dX12_readStone_13 ?_
    refine sim_iconst dX12_readStone_14 (by decide) ?_
    refine sim_callVIm v_RX12_155 sh_179 dX12_readStone_15 (k_M_bad 4 σ) rfl ⟨by decide, by decide⟩ (S := []) rfl (Nat.le_of_ble_eq_true rfl) (fun r24 s25 => ?_)
    exact sim_zretc rfl rfl dX12_readStone_18
theorem dX12_readForgive_0 : decode cX12_readForgive 0 = .ok (.aload_n 0, 1) := by decide +kernel
theorem dX12_readForgive_1 : decode cX12_readForgive 1 = .ok (.invokevirtual 169, 3) := by decide +kernel
theorem dX12_readForgive_4 : decode cX12_readForgive 4 = .ok (.aload_n 0, 1) := by decide +kernel
theorem dX12_readForgive_5 : decode cX12_readForgive 5 = .ok (.iconst 0, 1) := by decide +kernel
theorem dX12_readForgive_6 : decode cX12_readForgive 6 = .ok (.bipush 6, 2) := by decide +kernel
theorem dX12_readForgive_8 : decode cX12_readForgive 8 = .ok (.invokevirtual 165, 3) := by decide +kernel
theorem dX12_readForgive_11 : decode cX12_readForgive 11 = .ok (.ifCond .ne 5, 3) := by decide +kernel
theorem dX12_readForgive_14 : decode cX12_readForgive 14 = .ok (.iconst 0, 1) := by decide +kernel
theorem dX12_readForgive_15 : decode cX12_readForgive 15 = .ok (.ireturn, 1) := by decide +kernel
theorem dX12_readForgive_16 : decode cX12_readForgive 16 = .ok (.aload_n 0, 1) := by decide +kernel
theorem dX12_readForgive_17 : decode cX12_readForgive 17 = .ok (.getfield 16, 3) := by decide +kernel
theorem dX12_readForgive_20 : decode cX12_readForgive 20 = .ok (.iconst 2, 1) := by decide +kernel
theorem dX12_readForgive_21 : decode cX12_readForgive 21 = .ok (.iaload, 1) := by decide +kernel
theorem dX12_readForgive_22 : decode cX12_readForgive 22 = .ok (.aload_n 0, 1) := by decide +kernel
theorem dX12_readForgive_23 : decode cX12_readForgive 23 = .ok (.getfield 162, 3) := by decide +kernel
theorem dX12_readForgive_26 : decode cX12_readForgive 26 = .ok (.invokestatic 201, 3) := by decide +kernel
theorem dX12_readForgive_29 : decode cX12_readForgive 29 = .ok (.ifCond .eq 9, 3) := by decide +kernel
theorem dX12_readForgive_32 : decode cX12_readForgive 32 = .ok (.aload_n 0, 1) := by decide +kernel
theorem dX12_readForgive_33 : decode cX12_readForgive 33 = .ok (.iconst 3, 1) := by decide +kernel
theorem dX12_readForgive_34 : decode cX12_readForgive 34 = .ok (.invokevirtual 155, 3) := by decide +kernel
theorem dX12_readForgive_37 : decode cX12_readForgive 37 = .ok (.ireturn, 1) := by decide +kernel
theorem dX12_readForgive_38 : decode cX12_readForgive 38 = .ok (.aload_n 0, 1) := by decide +kernel
theorem dX12_readForgive_39 : decode cX12_readForgive 39 = .ok (.getfield 16, 3) := by decide +kernel
theorem dX12_readForgive_42 : decode cX12_readForgive 42 = .ok (.iconst 2, 1) := by decide +kernel
theorem dX12_readForgive_43 : decode cX12_readForgive 43 = .ok (.dup2, 1) := by decide +kernel
theorem dX12_readForgive_44 : decode cX12_readForgive 44 = .ok (.iaload, 1) := by decide +kernel
theorem dX12_readForgive_45 : decode cX12_readForgive 45 = .ok (.iconst 1, 1) := by decide +kernel
theorem dX12_readForgive_46 : decode cX12_readForgive 46 = .ok (.aload_n 0, 1) := by decide +kernel
theorem dX12_readForgive_47 : decode cX12_readForgive 47 = .ok (.getfield 162, 3) := by decide +kernel
theorem dX12_readForgive_50 : decode cX12_readForgive 50 = .ok (.ishl, 1) := by decide +kernel
theorem dX12_readForgive_51 : decode cX12_readForgive 51 = .ok (.ior, 1) := by decide +kernel
theorem dX12_readForgive_52 : decode cX12_readForgive 52 = .ok (.iastore, 1) := by decide +kernel
theorem dX12_readForgive_53 : decode cX12_readForgive 53 = .ok (.aload_n 0, 1) := by decide +kernel
theorem dX12_readForgive_54 : decode cX12_readForgive 54 = .ok (.invokevirtual 169, 3) := by decide +kernel
theorem dX12_readForgive_57 : decode cX12_readForgive 57 = .ok (.iconst 1, 1) := by decide +kernel
theorem dX12_readForgive_58 : decode cX12_readForgive 58 = .ok (.ireturn, 1) := by decide +kernel
def f_M_readForgive (n : Nat)   (σ : JSg) : Option (Int × JSg) :=
  bd1 (f_M_go n σ) fun s1 => bd2 (f_M_isNumber 0 6 s1) fun r2 s3 => if r2 = 0 then (some (0, s3)) else (bd1 (f_M_has (s3 182 2) (s3 179 13) s3) fun r4 => if r4 = 0 then (lt_ (sp s3 182 2 (or32 (s3 182 2) (sl32 1 (s3 179 13)))) fun s5 => bd1 (f_M_go n s5) fun s6 => some (1, s6)) else (bd2 (f_M_bad 3 s3) fun r7 s8 => chk (r7 = 0 ∨ r7 = 1) <| some (r7, s8)))
set_option maxRecDepth 20000 in
set_option maxHeartbeats 4000000 in
theorem k_M_readForgive  (n : Nat)    (σ : JSg) : Call yX12_readForgive cX12_readForgive 1 (some .boolean) 2 SH RHO [vR 179] σ dIm (f_M_readForgive n σ) := by
  refine call_of_sim (by decide +kernel) (Nat.le_of_ble_eq_true rfl) ?_
  show Sim RX12 cX12_readForgive 1 (some .boolean) 2 SH RHO 0 [(0, vR 179)] [] σ dIm (f_M_readForgive n σ)
  unfold f_M_readForgive
  refine sim_aload_n 0 rfl dX12_readForgive_0 ?_
  refine sim_callVVm v_RX12_169 sh_179 dX12_readForgive_1 (k_M_go n σ) rfl ⟨by decide, by decide⟩ (S := []) rfl (Nat.le_of_ble_eq_true rfl) (fun s1 => ?_)
  refine sim_aload_n 0 rfl dX12_readForgive_4 ?_
  refine sim_iconst dX12_readForgive_5 (by decide) ?_
  refine sim_bipush dX12_readForgive_6 (by decide +kernel) ?_
  refine sim_callVIm v_RX12_165 sh_179 dX12_readForgive_8 (k_M_isNumber 0 6 s1) rfl ⟨by decide, by decide⟩ (S := []) rfl (Nat.le_of_ble_eq_true rfl) (fun r2 s3 => ?_)
  refine sim_if_ne (tgt := 16) dX12_readForgive_11 (by decide) ?_ ?_
  · refine sim_aload_n 0 rfl dX12_readForgive_16 ?_
    refine sim_getR g_RX12_16 sh_179 rh_179_15 dX12_readForgive_17 ?_
    refine sim_iconst dX12_readForgive_20 (by decide) ?_
    refine sim_ialoadK (j := 2) sh_182 rfl (by decide) dX12_readForgive_21 ?_
    refine sim_aload_n 0 rfl dX12_readForgive_22 ?_
    refine sim_getI g_RX12_162 sh_179 dX12_readForgive_23 ?_
    refine sim_callSIp s_RX12_201 dX12_readForgive_26 (k_M_has SH RHO (s3 182 2) (s3 179 13) s3) rfl ⟨by decide, by decide⟩ (S := []) rfl (Nat.le_of_ble_eq_true rfl) (fun r4 => ?_)
    refine sim_if_eq (tgt := 38) dX12_readForgive_29 (by decide) ?_ ?_
    · refine sim_aload_n 0 rfl dX12_readForgive_38 ?_
      refine sim_getR g_RX12_16 sh_179 rh_179_15 dX12_readForgive_39 ?_
      refine sim_iconst dX12_readForgive_42 (by decide) ?_
      refine sim_dup2 rfl rfl dX12_readForgive_43 ?_
      refine sim_ialoadK (j := 2) sh_182 rfl (by decide) dX12_readForgive_44 ?_
      refine sim_iconst dX12_readForgive_45 (by decide) ?_
      refine sim_aload_n 0 rfl dX12_readForgive_46 ?_
      refine sim_getI g_RX12_162 sh_179 dX12_readForgive_47 ?_
      refine sim_ishl dX12_readForgive_50 ?_
      refine sim_ior dX12_readForgive_51 ?_
      refine sim_iastoreK (j := 2) sh_182 rfl (by decide) dX12_readForgive_52 (fun s5 => ?_)
      refine sim_aload_n 0 rfl dX12_readForgive_53 ?_
      refine sim_callVVm v_RX12_169 sh_179 dX12_readForgive_54 (k_M_go n s5) rfl ⟨by decide, by decide⟩ (S := []) rfl (Nat.le_of_ble_eq_true rfl) (fun s6 => ?_)
      refine sim_iconst dX12_readForgive_57 (by decide) ?_
      exact sim_zret (Or.inr rfl) rfl rfl dX12_readForgive_58
    · refine sim_aload_n 0 rfl dX12_readForgive_32 ?_
      refine sim_iconst dX12_readForgive_33 (by decide) ?_
      refine sim_callVIm v_RX12_155 sh_179 dX12_readForgive_34 (k_M_bad 3 s3) rfl ⟨by decide, by decide⟩ (S := []) rfl (Nat.le_of_ble_eq_true rfl) (fun r7 s8 => ?_)
      exact sim_zretc rfl rfl dX12_readForgive_37
  · refine sim_iconst dX12_readForgive_14 (by decide) ?_
    exact sim_zret (Or.inl rfl) rfl rfl dX12_readForgive_15
theorem dX12_readQuarrel_0 : decode cX12_readQuarrel 0 = .ok (.aload_n 0, 1) := by decide +kernel
theorem dX12_readQuarrel_1 : decode cX12_readQuarrel 1 = .ok (.invokevirtual 169, 3) := by decide +kernel
theorem dX12_readQuarrel_4 : decode cX12_readQuarrel 4 = .ok (.aload_n 0, 1) := by decide +kernel
theorem dX12_readQuarrel_5 : decode cX12_readQuarrel 5 = .ok (.iconst 0, 1) := by decide +kernel
theorem dX12_readQuarrel_6 : decode cX12_readQuarrel 6 = .ok (.bipush 6, 2) := by decide +kernel
theorem dX12_readQuarrel_8 : decode cX12_readQuarrel 8 = .ok (.invokevirtual 194, 3) := by decide +kernel
theorem dX12_readQuarrel_11 : decode cX12_readQuarrel 11 = .ok (.ifCond .ne 5, 3) := by decide +kernel
theorem dX12_readQuarrel_14 : decode cX12_readQuarrel 14 = .ok (.iconst 0, 1) := by decide +kernel
theorem dX12_readQuarrel_15 : decode cX12_readQuarrel 15 = .ok (.ireturn, 1) := by decide +kernel
theorem dX12_readQuarrel_16 : decode cX12_readQuarrel 16 = .ok (.aload_n 0, 1) := by decide +kernel
theorem dX12_readQuarrel_17 : decode cX12_readQuarrel 17 = .ok (.getfield 162, 3) := by decide +kernel
theorem dX12_readQuarrel_20 : decode cX12_readQuarrel 20 = .ok (.istore_n 1, 1) := by decide +kernel
theorem dX12_readQuarrel_21 : decode cX12_readQuarrel 21 = .ok (.aload_n 0, 1) := by decide +kernel
theorem dX12_readQuarrel_22 : decode cX12_readQuarrel 22 = .ok (.iconst 0, 1) := by decide +kernel
theorem dX12_readQuarrel_23 : decode cX12_readQuarrel 23 = .ok (.bipush 6, 2) := by decide +kernel
theorem dX12_readQuarrel_25 : decode cX12_readQuarrel 25 = .ok (.invokevirtual 165, 3) := by decide +kernel
theorem dX12_readQuarrel_28 : decode cX12_readQuarrel 28 = .ok (.ifCond .ne 5, 3) := by decide +kernel
theorem dX12_readQuarrel_31 : decode cX12_readQuarrel 31 = .ok (.iconst 0, 1) := by decide +kernel
theorem dX12_readQuarrel_32 : decode cX12_readQuarrel 32 = .ok (.ireturn, 1) := by decide +kernel
theorem dX12_readQuarrel_33 : decode cX12_readQuarrel 33 = .ok (.aload_n 0, 1) := by decide +kernel
theorem dX12_readQuarrel_34 : decode cX12_readQuarrel 34 = .ok (.getfield 16, 3) := by decide +kernel
theorem dX12_readQuarrel_37 : decode cX12_readQuarrel 37 = .ok (.iconst 4, 1) := by decide +kernel
theorem dX12_readQuarrel_38 : decode cX12_readQuarrel 38 = .ok (.iload_n 1, 1) := by decide +kernel
theorem dX12_readQuarrel_39 : decode cX12_readQuarrel 39 = .ok (.iadd, 1) := by decide +kernel
theorem dX12_readQuarrel_40 : decode cX12_readQuarrel 40 = .ok (.iaload, 1) := by decide +kernel
theorem dX12_readQuarrel_41 : decode cX12_readQuarrel 41 = .ok (.aload_n 0, 1) := by decide +kernel
theorem dX12_readQuarrel_42 : decode cX12_readQuarrel 42 = .ok (.getfield 162, 3) := by decide +kernel
theorem dX12_readQuarrel_45 : decode cX12_readQuarrel 45 = .ok (.invokestatic 201, 3) := by decide +kernel
theorem dX12_readQuarrel_48 : decode cX12_readQuarrel 48 = .ok (.ifCond .eq 9, 3) := by decide +kernel
theorem dX12_readQuarrel_51 : decode cX12_readQuarrel 51 = .ok (.aload_n 0, 1) := by decide +kernel
theorem dX12_readQuarrel_52 : decode cX12_readQuarrel 52 = .ok (.iconst 3, 1) := by decide +kernel
theorem dX12_readQuarrel_53 : decode cX12_readQuarrel 53 = .ok (.invokevirtual 155, 3) := by decide +kernel
theorem dX12_readQuarrel_56 : decode cX12_readQuarrel 56 = .ok (.ireturn, 1) := by decide +kernel
theorem dX12_readQuarrel_57 : decode cX12_readQuarrel 57 = .ok (.aload_n 0, 1) := by decide +kernel
theorem dX12_readQuarrel_58 : decode cX12_readQuarrel 58 = .ok (.getfield 16, 3) := by decide +kernel
theorem dX12_readQuarrel_61 : decode cX12_readQuarrel 61 = .ok (.iconst 4, 1) := by decide +kernel
theorem dX12_readQuarrel_62 : decode cX12_readQuarrel 62 = .ok (.iload_n 1, 1) := by decide +kernel
theorem dX12_readQuarrel_63 : decode cX12_readQuarrel 63 = .ok (.iadd, 1) := by decide +kernel
theorem dX12_readQuarrel_64 : decode cX12_readQuarrel 64 = .ok (.dup2, 1) := by decide +kernel
theorem dX12_readQuarrel_65 : decode cX12_readQuarrel 65 = .ok (.iaload, 1) := by decide +kernel
theorem dX12_readQuarrel_66 : decode cX12_readQuarrel 66 = .ok (.iconst 1, 1) := by decide +kernel
theorem dX12_readQuarrel_67 : decode cX12_readQuarrel 67 = .ok (.aload_n 0, 1) := by decide +kernel
theorem dX12_readQuarrel_68 : decode cX12_readQuarrel 68 = .ok (.getfield 162, 3) := by decide +kernel
theorem dX12_readQuarrel_71 : decode cX12_readQuarrel 71 = .ok (.ishl, 1) := by decide +kernel
theorem dX12_readQuarrel_72 : decode cX12_readQuarrel 72 = .ok (.ior, 1) := by decide +kernel
theorem dX12_readQuarrel_73 : decode cX12_readQuarrel 73 = .ok (.iastore, 1) := by decide +kernel
theorem dX12_readQuarrel_74 : decode cX12_readQuarrel 74 = .ok (.aload_n 0, 1) := by decide +kernel
theorem dX12_readQuarrel_75 : decode cX12_readQuarrel 75 = .ok (.getfield 16, 3) := by decide +kernel
theorem dX12_readQuarrel_78 : decode cX12_readQuarrel 78 = .ok (.iconst 4, 1) := by decide +kernel
theorem dX12_readQuarrel_79 : decode cX12_readQuarrel 79 = .ok (.aload_n 0, 1) := by decide +kernel
theorem dX12_readQuarrel_80 : decode cX12_readQuarrel 80 = .ok (.getfield 162, 3) := by decide +kernel
theorem dX12_readQuarrel_83 : decode cX12_readQuarrel 83 = .ok (.iadd, 1) := by decide +kernel
theorem dX12_readQuarrel_84 : decode cX12_readQuarrel 84 = .ok (.dup2, 1) := by decide +kernel
theorem dX12_readQuarrel_85 : decode cX12_readQuarrel 85 = .ok (.iaload, 1) := by decide +kernel
theorem dX12_readQuarrel_86 : decode cX12_readQuarrel 86 = .ok (.iconst 1, 1) := by decide +kernel
theorem dX12_readQuarrel_87 : decode cX12_readQuarrel 87 = .ok (.iload_n 1, 1) := by decide +kernel
theorem dX12_readQuarrel_88 : decode cX12_readQuarrel 88 = .ok (.ishl, 1) := by decide +kernel
theorem dX12_readQuarrel_89 : decode cX12_readQuarrel 89 = .ok (.ior, 1) := by decide +kernel
theorem dX12_readQuarrel_90 : decode cX12_readQuarrel 90 = .ok (.iastore, 1) := by decide +kernel
theorem dX12_readQuarrel_91 : decode cX12_readQuarrel 91 = .ok (.aload_n 0, 1) := by decide +kernel
theorem dX12_readQuarrel_92 : decode cX12_readQuarrel 92 = .ok (.invokevirtual 169, 3) := by decide +kernel
theorem dX12_readQuarrel_95 : decode cX12_readQuarrel 95 = .ok (.iconst 1, 1) := by decide +kernel
theorem dX12_readQuarrel_96 : decode cX12_readQuarrel 96 = .ok (.ireturn, 1) := by decide +kernel
def f_M_readQuarrel (n : Nat)   (σ : JSg) : Option (Int × JSg) :=
  bd1 (f_M_go n σ) fun s1 => bd2 (f_M_readNumber n 0 6 s1) fun r2 s3 => if r2 = 0 then (some (0, s3)) else (lt_ (s3 179 13) fun v4 => bd2 (f_M_isNumber 0 6 s3) fun r5 s6 => if r5 = 0 then (some (0, s6)) else (chk (0 ≤ (w32 (4 + v4)) ∧ (w32 (4 + v4)) < 192) <| bd1 (f_M_has (s6 182 (w32 (4 + v4)).toNat) (s6 179 13) s6) fun r7 => if r7 = 0 then (chk (0 ≤ (w32 (4 + v4)) ∧ (w32 (4 + v4)) < 192) <| chk (0 ≤ (w32 (4 + v4)) ∧ (w32 (4 + v4)) < 192) <| lt_ (sp s6 182 (w32 (4 + v4)).toNat (or32 (s6 182 (w32 (4 + v4)).toNat) (sl32 1 (s6 179 13)))) fun s8 => chk (0 ≤ (w32 (4 + (s8 179 13))) ∧ (w32 (4 + (s8 179 13))) < 192) <| chk (0 ≤ (w32 (4 + (s8 179 13))) ∧ (w32 (4 + (s8 179 13))) < 192) <| lt_ (sp s8 182 (w32 (4 + (s8 179 13))).toNat (or32 (s8 182 (w32 (4 + (s8 179 13))).toNat) (sl32 1 v4))) fun s9 => bd1 (f_M_go n s9) fun s10 => some (1, s10)) else (bd2 (f_M_bad 3 s6) fun r11 s12 => chk (r11 = 0 ∨ r11 = 1) <| some (r11, s12))))
set_option maxRecDepth 20000 in
set_option maxHeartbeats 4000000 in
theorem k_M_readQuarrel  (n : Nat)    (σ : JSg) : Call yX12_readQuarrel cX12_readQuarrel 2 (some .boolean) 3 SH RHO [vR 179] σ dIm (f_M_readQuarrel n σ) := by
  refine call_of_sim (by decide +kernel) (Nat.le_of_ble_eq_true rfl) ?_
  show Sim RX12 cX12_readQuarrel 2 (some .boolean) 3 SH RHO 0 [(0, vR 179)] [] σ dIm (f_M_readQuarrel n σ)
  unfold f_M_readQuarrel
  refine sim_aload_n 0 rfl dX12_readQuarrel_0 ?_
  refine sim_callVVm v_RX12_169 sh_179 dX12_readQuarrel_1 (k_M_go n σ) rfl ⟨by decide, by decide⟩ (S := []) rfl (Nat.le_of_ble_eq_true rfl) (fun s1 => ?_)
  refine sim_aload_n 0 rfl dX12_readQuarrel_4 ?_
  refine sim_iconst dX12_readQuarrel_5 (by decide) ?_
  refine sim_bipush dX12_readQuarrel_6 (by decide +kernel) ?_
  refine sim_callVIm v_RX12_194 sh_179 dX12_readQuarrel_8 (k_M_readNumber n 0 6 s1) rfl ⟨by decide, by decide⟩ (S := []) rfl (Nat.le_of_ble_eq_true rfl) (fun r2 s3 => ?_)
  refine sim_if_ne (tgt := 16) dX12_readQuarrel_11 (by decide) ?_ ?_
  · refine sim_aload_n 0 rfl dX12_readQuarrel_16 ?_
    refine sim_getI g_RX12_162 sh_179 dX12_readQuarrel_17 ?_
    refine sim_istore_n (fun v4 => [(1, vI v4), (0, vR 179)]) (fun _ => rfl) (by decide) dX12_readQuarrel_20 (fun v4 => ?_)
    refine sim_aload_n 1 rfl dX12_readQuarrel_21 ?_
    refine sim_iconst dX12_readQuarrel_22 (by decide) ?_
    refine sim_bipush dX12_readQuarrel_23 (by decide +kernel) ?_
    refine sim_callVIm v_RX12_165 sh_179 dX12_readQuarrel_25 (k_M_isNumber 0 6 s3) rfl ⟨by decide, by decide⟩ (S := []) rfl (Nat.le_of_ble_eq_true rfl) (fun r5 s6 => ?_)
    refine sim_if_ne (tgt := 33) dX12_readQuarrel_28 (by decide) ?_ ?_
    · refine sim_aload_n 1 rfl dX12_readQuarrel_33 ?_
      refine sim_getR g_RX12_16 sh_179 rh_179_15 dX12_readQuarrel_34 ?_
      refine sim_iconst dX12_readQuarrel_37 (by decide) ?_
      refine sim_iload_n 0 rfl dX12_readQuarrel_38 ?_
      refine sim_iadd dX12_readQuarrel_39 ?_
      refine sim_iaload sh_182 rfl dX12_readQuarrel_40 ?_
      refine sim_aload_n 1 rfl dX12_readQuarrel_41 ?_
      refine sim_getI g_RX12_162 sh_179 dX12_readQuarrel_42 ?_
      refine sim_callSIp s_RX12_201 dX12_readQuarrel_45 (k_M_has SH RHO (s6 182 (w32 (4 + v4)).toNat) (s6 179 13) s6) rfl ⟨by decide, by decide⟩ (S := []) rfl (Nat.le_of_ble_eq_true rfl) (fun r7 => ?_)
      refine sim_if_eq (tgt := 57) dX12_readQuarrel_48 (by decide) ?_ ?_
      · refine sim_aload_n 1 rfl dX12_readQuarrel_57 ?_
        refine sim_getR g_RX12_16 sh_179 rh_179_15 dX12_readQuarrel_58 ?_
        refine sim_iconst dX12_readQuarrel_61 (by decide) ?_
        refine sim_iload_n 0 rfl dX12_readQuarrel_62 ?_
        refine sim_iadd dX12_readQuarrel_63 ?_
        refine sim_dup2 rfl rfl dX12_readQuarrel_64 ?_
        refine sim_iaload sh_182 rfl dX12_readQuarrel_65 ?_
        refine sim_iconst dX12_readQuarrel_66 (by decide) ?_
        refine sim_aload_n 1 rfl dX12_readQuarrel_67 ?_
        refine sim_getI g_RX12_162 sh_179 dX12_readQuarrel_68 ?_
        refine sim_ishl dX12_readQuarrel_71 ?_
        refine sim_ior dX12_readQuarrel_72 ?_
        refine sim_iastore sh_182 rfl dX12_readQuarrel_73 (fun s8 => ?_)
        refine sim_aload_n 1 rfl dX12_readQuarrel_74 ?_
        refine sim_getR g_RX12_16 sh_179 rh_179_15 dX12_readQuarrel_75 ?_
        refine sim_iconst dX12_readQuarrel_78 (by decide) ?_
        refine sim_aload_n 1 rfl dX12_readQuarrel_79 ?_
        refine sim_getI g_RX12_162 sh_179 dX12_readQuarrel_80 ?_
        refine sim_iadd dX12_readQuarrel_83 ?_
        refine sim_dup2 rfl rfl dX12_readQuarrel_84 ?_
        refine sim_iaload sh_182 rfl dX12_readQuarrel_85 ?_
        refine sim_iconst dX12_readQuarrel_86 (by decide) ?_
        refine sim_iload_n 0 rfl dX12_readQuarrel_87 ?_
        refine sim_ishl dX12_readQuarrel_88 ?_
        refine sim_ior dX12_readQuarrel_89 ?_
        refine sim_iastore sh_182 rfl dX12_readQuarrel_90 (fun s9 => ?_)
        refine sim_aload_n 1 rfl dX12_readQuarrel_91 ?_
        refine sim_callVVm v_RX12_169 sh_179 dX12_readQuarrel_92 (k_M_go n s9) rfl ⟨by decide, by decide⟩ (S := []) rfl (Nat.le_of_ble_eq_true rfl) (fun s10 => ?_)
        refine sim_iconst dX12_readQuarrel_95 (by decide) ?_
        exact sim_zret (Or.inr rfl) rfl rfl dX12_readQuarrel_96
      · refine sim_aload_n 1 rfl dX12_readQuarrel_51 ?_
        refine sim_iconst dX12_readQuarrel_52 (by decide) ?_
        refine sim_callVIm v_RX12_155 sh_179 dX12_readQuarrel_53 (k_M_bad 3 s6) rfl ⟨by decide, by decide⟩ (S := []) rfl (Nat.le_of_ble_eq_true rfl) (fun r11 s12 => ?_)
        exact sim_zretc rfl rfl dX12_readQuarrel_56
    · refine sim_iconst dX12_readQuarrel_31 (by decide) ?_
      exact sim_zret (Or.inl rfl) rfl rfl dX12_readQuarrel_32
  · refine sim_iconst dX12_readQuarrel_14 (by decide) ?_
    exact sim_zret (Or.inl rfl) rfl rfl dX12_readQuarrel_15
theorem dX12_readPawn_0 : decode cX12_readPawn 0 = .ok (.aload_n 0, 1) := by decide +kernel
theorem dX12_readPawn_1 : decode cX12_readPawn 1 = .ok (.getfield 204, 3) := by decide +kernel
theorem dX12_readPawn_4 : decode cX12_readPawn 4 = .ok (.ifCond .eq 9, 3) := by decide +kernel
theorem dX12_readPawn_7 : decode cX12_readPawn 7 = .ok (.aload_n 0, 1) := by decide +kernel
theorem dX12_readPawn_8 : decode cX12_readPawn 8 = .ok (.iconst 3, 1) := by decide +kernel
theorem dX12_readPawn_9 : decode cX12_readPawn 9 = .ok (.invokevirtual 155, 3) := by decide +kernel
theorem dX12_readPawn_12 : decode cX12_readPawn 12 = .ok (.ireturn, 1) := by decide +kernel
theorem dX12_readPawn_13 : decode cX12_readPawn 13 = .ok (.aload_n 0, 1) := by decide +kernel
theorem dX12_readPawn_14 : decode cX12_readPawn 14 = .ok (.iconst 1, 1) := by decide +kernel
theorem dX12_readPawn_15 : decode cX12_readPawn 15 = .ok (.putfield 204, 3) := by decide +kernel
theorem dX12_readPawn_18 : decode cX12_readPawn 18 = .ok (.aload_n 0, 1) := by decide +kernel
theorem dX12_readPawn_19 : decode cX12_readPawn 19 = .ok (.invokevirtual 169, 3) := by decide +kernel
theorem dX12_readPawn_22 : decode cX12_readPawn 22 = .ok (.aload_n 0, 1) := by decide +kernel
theorem dX12_readPawn_23 : decode cX12_readPawn 23 = .ok (.iconst 0, 1) := by decide +kernel
theorem dX12_readPawn_24 : decode cX12_readPawn 24 = .ok (.bipush 99, 2) := by decide +kernel
theorem dX12_readPawn_26 : decode cX12_readPawn 26 = .ok (.invokevirtual 194, 3) := by decide +kernel
theorem dX12_readPawn_29 : decode cX12_readPawn 29 = .ok (.ifCond .ne 5, 3) := by decide +kernel
theorem dX12_readPawn_32 : decode cX12_readPawn 32 = .ok (.iconst 0, 1) := by decide +kernel
theorem dX12_readPawn_33 : decode cX12_readPawn 33 = .ok (.ireturn, 1) := by decide +kernel
theorem dX12_readPawn_34 : decode cX12_readPawn 34 = .ok (.aload_n 0, 1) := by decide +kernel
theorem dX12_readPawn_35 : decode cX12_readPawn 35 = .ok (.getfield 16, 3) := by decide +kernel
theorem dX12_readPawn_38 : decode cX12_readPawn 38 = .ok (.iconst 3, 1) := by decide +kernel
theorem dX12_readPawn_39 : decode cX12_readPawn 39 = .ok (.aload_n 0, 1) := by decide +kernel
theorem dX12_readPawn_40 : decode cX12_readPawn 40 = .ok (.getfield 162, 3) := by decide +kernel
theorem dX12_readPawn_43 : decode cX12_readPawn 43 = .ok (.iastore, 1) := by decide +kernel
theorem dX12_readPawn_44 : decode cX12_readPawn 44 = .ok (.iconst 1, 1) := by decide +kernel
theorem dX12_readPawn_45 : decode cX12_readPawn 45 = .ok (.ireturn, 1) := by decide +kernel
def f_M_readPawn (n : Nat)   (σ : JSg) : Option (Int × JSg) :=
  if (σ 179 24) = 0 then (lt_ (sp σ 179 24 1) fun s1 => bd1 (f_M_go n s1) fun s2 => bd2 (f_M_readNumber n 0 99 s2) fun r3 s4 => if r3 = 0 then (some (0, s4)) else (lt_ (sp s4 182 3 (s4 179 13)) fun s5 => some (1, s5))) else (bd2 (f_M_bad 3 σ) fun r6 s7 => chk (r6 = 0 ∨ r6 = 1) <| some (r6, s7))
set_option maxRecDepth 20000 in
set_option maxHeartbeats 4000000 in
theorem k_M_readPawn  (n : Nat)    (σ : JSg) : Call yX12_readPawn cX12_readPawn 1 (some .boolean) 3 SH RHO [vR 179] σ dIm (f_M_readPawn n σ) := by
  refine call_of_sim (by decide +kernel) (Nat.le_of_ble_eq_true rfl) ?_
  show Sim RX12 cX12_readPawn 1 (some .boolean) 3 SH RHO 0 [(0, vR 179)] [] σ dIm (f_M_readPawn n σ)
  unfold f_M_readPawn
  refine sim_aload_n 0 rfl dX12_readPawn_0 ?_
  refine sim_getZ g_RX12_204 sh_179 dX12_readPawn_1 ?_
  refine sim_if_eq (tgt := 13) dX12_readPawn_4 (by decide) ?_ ?_
  · refine sim_aload_n 0 rfl dX12_readPawn_13 ?_
    refine sim_iconst dX12_readPawn_14 (by decide) ?_
    refine sim_putZ (Or.inr rfl) g_RX12_204 sh_179 dX12_readPawn_15 (fun s1 => ?_)
    refine sim_aload_n 0 rfl dX12_readPawn_18 ?_
    refine sim_callVVm v_RX12_169 sh_179 dX12_readPawn_19 (k_M_go n s1) rfl ⟨by decide, by decide⟩ (S := []) rfl (Nat.le_of_ble_eq_true rfl) (fun s2 => ?_)
    refine sim_aload_n 0 rfl dX12_readPawn_22 ?_
    refine sim_iconst dX12_readPawn_23 (by decide) ?_
    refine sim_bipush dX12_readPawn_24 (by decide +kernel) ?_
    refine sim_callVIm v_RX12_194 sh_179 dX12_readPawn_26 (k_M_readNumber n 0 99 s2) rfl ⟨by decide, by decide⟩ (S := []) rfl (Nat.le_of_ble_eq_true rfl) (fun r3 s4 => ?_)
    refine sim_if_ne (tgt := 34) dX12_readPawn_29 (by decide) ?_ ?_
    · refine sim_aload_n 0 rfl dX12_readPawn_34 ?_
      refine sim_getR g_RX12_16 sh_179 rh_179_15 dX12_readPawn_35 ?_
      refine sim_iconst dX12_readPawn_38 (by decide) ?_
      refine sim_aload_n 0 rfl dX12_readPawn_39 ?_
      refine sim_getI g_RX12_162 sh_179 dX12_readPawn_40 ?_
      refine sim_iastoreK (j := 3) sh_182 rfl (by decide) dX12_readPawn_43 (fun s5 => ?_)
      refine sim_iconst dX12_readPawn_44 (by decide) ?_
      exact sim_zret (Or.inr rfl) rfl rfl dX12_readPawn_45
    · refine sim_iconst dX12_readPawn_32 (by decide) ?_
      exact sim_zret (Or.inl rfl) rfl rfl dX12_readPawn_33
  · refine sim_aload_n 0 rfl dX12_readPawn_7 ?_
    refine sim_iconst dX12_readPawn_8 (by decide) ?_
    refine sim_callVIm v_RX12_155 sh_179 dX12_readPawn_9 (k_M_bad 3 σ) rfl ⟨by decide, by decide⟩ (S := []) rfl (Nat.le_of_ble_eq_true rfl) (fun r6 s7 => ?_)
    exact sim_zretc rfl rfl dX12_readPawn_12
theorem dX12_readLine_0 : decode cX12_readLine 0 = .ok (.aload_n 0, 1) := by decide +kernel
theorem dX12_readLine_1 : decode cX12_readLine 1 = .ok (.iconst 0, 1) := by decide +kernel
theorem dX12_readLine_2 : decode cX12_readLine 2 = .ok (.invokevirtual 207, 3) := by decide +kernel
theorem dX12_readLine_5 : decode cX12_readLine 5 = .ok (.ifCond .eq 11, 3) := by decide +kernel
theorem dX12_readLine_8 : decode cX12_readLine 8 = .ok (.aload_n 0, 1) := by decide +kernel
theorem dX12_readLine_9 : decode cX12_readLine 9 = .ok (.invokevirtual 210, 3) := by decide +kernel
theorem dX12_readLine_12 : decode cX12_readLine 12 = .ok (.istore_n 1, 1) := by decide +kernel
theorem dX12_readLine_13 : decode cX12_readLine 13 = .ok (.goto 72, 3) := by decide +kernel
theorem dX12_readLine_16 : decode cX12_readLine 16 = .ok (.aload_n 0, 1) := by decide +kernel
theorem dX12_readLine_17 : decode cX12_readLine 17 = .ok (.iconst 1, 1) := by decide +kernel
theorem dX12_readLine_18 : decode cX12_readLine 18 = .ok (.invokevirtual 207, 3) := by decide +kernel
theorem dX12_readLine_21 : decode cX12_readLine 21 = .ok (.ifCond .eq 11, 3) := by decide +kernel
theorem dX12_readLine_24 : decode cX12_readLine 24 = .ok (.aload_n 0, 1) := by decide +kernel
theorem dX12_readLine_25 : decode cX12_readLine 25 = .ok (.invokevirtual 213, 3) := by decide +kernel
theorem dX12_readLine_28 : decode cX12_readLine 28 = .ok (.istore_n 1, 1) := by decide +kernel
theorem dX12_readLine_29 : decode cX12_readLine 29 = .ok (.goto 56, 3) := by decide +kernel
theorem dX12_readLine_32 : decode cX12_readLine 32 = .ok (.aload_n 0, 1) := by decide +kernel
theorem dX12_readLine_33 : decode cX12_readLine 33 = .ok (.iconst 2, 1) := by decide +kernel
theorem dX12_readLine_34 : decode cX12_readLine 34 = .ok (.invokevirtual 207, 3) := by decide +kernel
theorem dX12_readLine_37 : decode cX12_readLine 37 = .ok (.ifCond .eq 11, 3) := by decide +kernel
theorem dX12_readLine_40 : decode cX12_readLine 40 = .ok (.aload_n 0, 1) := by decide +kernel
theorem dX12_readLine_41 : decode cX12_readLine 41 = .ok (.invokevirtual 216, 3) := by decide +kernel
theorem dX12_readLine_44 : decode cX12_readLine 44 = .ok (.istore_n 1, 1) := by decide +kernel
theorem dX12_readLine_45 : decode cX12_readLine 45 = .ok (.goto 40, 3) := by decide +kernel
theorem dX12_readLine_48 : decode cX12_readLine 48 = .ok (.aload_n 0, 1) := by decide +kernel
theorem dX12_readLine_49 : decode cX12_readLine 49 = .ok (.iconst 3, 1) := by decide +kernel
theorem dX12_readLine_50 : decode cX12_readLine 50 = .ok (.invokevirtual 207, 3) := by decide +kernel
theorem dX12_readLine_53 : decode cX12_readLine 53 = .ok (.ifCond .eq 11, 3) := by decide +kernel
theorem dX12_readLine_56 : decode cX12_readLine 56 = .ok (.aload_n 0, 1) := by decide +kernel
theorem dX12_readLine_57 : decode cX12_readLine 57 = .ok (.invokevirtual 219, 3) := by decide +kernel
theorem dX12_readLine_60 : decode cX12_readLine 60 = .ok (.istore_n 1, 1) := by decide +kernel
theorem dX12_readLine_61 : decode cX12_readLine 61 = .ok (.goto 24, 3) := by decide +kernel
theorem dX12_readLine_64 : decode cX12_readLine 64 = .ok (.aload_n 0, 1) := by decide +kernel
theorem dX12_readLine_65 : decode cX12_readLine 65 = .ok (.iconst 4, 1) := by decide +kernel
theorem dX12_readLine_66 : decode cX12_readLine 66 = .ok (.invokevirtual 207, 3) := by decide +kernel
theorem dX12_readLine_69 : decode cX12_readLine 69 = .ok (.ifCond .eq 10, 3) := by decide +kernel
theorem dX12_readLine_72 : decode cX12_readLine 72 = .ok (.aload_n 0, 1) := by decide +kernel
theorem dX12_readLine_73 : decode cX12_readLine 73 = .ok (.invokevirtual 222, 3) := by decide +kernel
theorem dX12_readLine_76 : decode cX12_readLine 76 = .ok (.goto 8, 3) := by decide +kernel
theorem dX12_readLine_79 : decode cX12_readLine 79 = .ok (.aload_n 0, 1) := by decide +kernel
theorem dX12_readLine_80 : decode cX12_readLine 80 = .ok (.iconst 1, 1) := by decide +kernel
theorem dX12_readLine_81 : decode cX12_readLine 81 = .ok (.invokevirtual 155, 3) := by decide +kernel
theorem dX12_readLine_84 : decode cX12_readLine 84 = .ok (.istore_n 1, 1) := by decide +kernel
theorem dX12_readLine_85 : decode cX12_readLine 85 = .ok (.iload_n 1, 1) := by decide +kernel
theorem dX12_readLine_86 : decode cX12_readLine 86 = .ok (.ifCond .eq 14, 3) := by decide +kernel
theorem dX12_readLine_89 : decode cX12_readLine 89 = .ok (.aload_n 0, 1) := by decide +kernel
theorem dX12_readLine_90 : decode cX12_readLine 90 = .ok (.invokevirtual 225, 3) := by decide +kernel
theorem dX12_readLine_93 : decode cX12_readLine 93 = .ok (.ifCond .eq 7, 3) := by decide +kernel
theorem dX12_readLine_96 : decode cX12_readLine 96 = .ok (.iconst 1, 1) := by decide +kernel
theorem dX12_readLine_97 : decode cX12_readLine 97 = .ok (.goto 4, 3) := by decide +kernel
theorem dX12_readLine_100 : decode cX12_readLine 100 = .ok (.iconst 0, 1) := by decide +kernel
theorem dX12_readLine_101 : decode cX12_readLine 101 = .ok (.ireturn, 1) := by decide +kernel
def f_M_readLine (n : Nat)   (σ : JSg) : Option (Int × JSg) :=
  bd1 (f_M_isWord 0 σ) fun r1 => jn2 (fun (y3 : Int) (s4 : JSg) => if y3 = 0 then (some (0, s4)) else (bd2 (f_M_readEnd n s4) fun r5 s6 => if r5 = 0 then (some (0, s6)) else (some (1, s6)))) fun j2 => if r1 = 0 then (bd1 (f_M_isWord 1 σ) fun r7 => if r7 = 0 then (bd1 (f_M_isWord 2 σ) fun r8 => if r8 = 0 then (bd1 (f_M_isWord 3 σ) fun r9 => if r9 = 0 then (bd1 (f_M_isWord 4 σ) fun r10 => jn2 (fun (u13 : Int) (s12 : JSg) => lt_ u13 fun v14 => j2 v14 s12) fun j11 => if r10 = 0 then (bd2 (f_M_bad 1 σ) fun r15 s16 => j11 r15 s16) else (bd2 (f_M_readPawn n σ) fun r17 s18 => j11 r17 s18)) else (bd2 (f_M_readQuarrel n σ) fun r19 s20 => lt_ r19 fun v21 => j2 v21 s20)) else (bd2 (f_M_readForgive n σ) fun r22 s23 => lt_ r22 fun v24 => j2 v24 s23)) else (bd2 (f_M_readStone n σ) fun r25 s26 => lt_ r25 fun v27 => j2 v27 s26)) else (bd2 (f_M_readWidow n σ) fun r28 s29 => lt_ r28 fun v30 => j2 v30 s29)
set_option maxRecDepth 20000 in
set_option maxHeartbeats 4000000 in
theorem k_M_readLine  (n : Nat)    (σ : JSg) : Call yX12_readLine cX12_readLine 2 (some .boolean) 4 SH RHO [vR 179] σ dIm (f_M_readLine n σ) := by
  refine call_of_sim (by decide +kernel) (Nat.le_of_ble_eq_true rfl) ?_
  show Sim RX12 cX12_readLine 2 (some .boolean) 4 SH RHO 0 [(0, vR 179)] [] σ dIm (f_M_readLine n σ)
  unfold f_M_readLine
  refine sim_aload_n 0 rfl dX12_readLine_0 ?_
  refine sim_iconst dX12_readLine_1 (by decide) ?_
  refine sim_callVIp v_RX12_207 sh_179 dX12_readLine_2 (k_M_isWord 0 σ) rfl ⟨by decide, by decide⟩ (S := []) rfl (Nat.le_of_ble_eq_true rfl) (fun r1 => ?_)
  refine sim_jn2 (pc' := 85) (fun (y3 : Int) (s4 : JSg) => [(0, vR 179), (1, vI y3)]) (fun (y3 : Int) (s4 : JSg) => []) (fun (y3 : Int) (s4 : JSg) => s4) ?_ (fun j2 hj2 => ?_)
  · intro y3 s4
    refine sim_iload_n 1 rfl dX12_readLine_85 ?_
    refine sim_if_eq (tgt := 100) dX12_readLine_86 (by decide) ?_ ?_
    · refine sim_iconst dX12_readLine_100 (by decide) ?_
      exact sim_zret (Or.inl rfl) rfl rfl dX12_readLine_101
    · refine sim_aload_n 0 rfl dX12_readLine_89 ?_
      refine sim_callVIm v_RX12_225 sh_179 dX12_readLine_90 (k_M_readEnd n s4) rfl ⟨by decide, by decide⟩ (S := []) rfl (Nat.le_of_ble_eq_true rfl) (fun r5 s6 => ?_)
      refine sim_if_eq (tgt := 100) dX12_readLine_93 (by decide) ?_ ?_
      · refine sim_iconst dX12_readLine_100 (by decide) ?_
        exact sim_zret (Or.inl rfl) rfl rfl dX12_readLine_101
      · refine sim_iconst dX12_readLine_96 (by decide) ?_
        refine sim_goto (tgt := 101) dX12_readLine_97 (by decide) ?_
        exact sim_zret (Or.inr rfl) rfl rfl dX12_readLine_101
  refine sim_if_eq (tgt := 16) dX12_readLine_5 (by decide) ?_ ?_
  · refine sim_aload_n 0 rfl dX12_readLine_16 ?_
    refine sim_iconst dX12_readLine_17 (by decide) ?_
    refine sim_callVIp v_RX12_207 sh_179 dX12_readLine_18 (k_M_isWord 1 σ) rfl ⟨by decide, by decide⟩ (S := []) rfl (Nat.le_of_ble_eq_true rfl) (fun r7 => ?_)
    refine sim_if_eq (tgt := 32) dX12_readLine_21 (by decide) ?_ ?_
    · refine sim_aload_n 0 rfl dX12_readLine_32 ?_
      refine sim_iconst dX12_readLine_33 (by decide) ?_
      refine sim_callVIp v_RX12_207 sh_179 dX12_readLine_34 (k_M_isWord 2 σ) rfl ⟨by decide, by decide⟩ (S := []) rfl (Nat.le_of_ble_eq_true rfl) (fun r8 => ?_)
      refine sim_if_eq (tgt := 48) dX12_readLine_37 (by decide) ?_ ?_
      · refine sim_aload_n 0 rfl dX12_readLine_48 ?_
        refine sim_iconst dX12_readLine_49 (by decide) ?_
        refine sim_callVIp v_RX12_207 sh_179 dX12_readLine_50 (k_M_isWord 3 σ) rfl ⟨by decide, by decide⟩ (S := []) rfl (Nat.le_of_ble_eq_true rfl) (fun r9 => ?_)
        refine sim_if_eq (tgt := 64) dX12_readLine_53 (by decide) ?_ ?_
        · refine sim_aload_n 0 rfl dX12_readLine_64 ?_
          refine sim_iconst dX12_readLine_65 (by decide) ?_
          refine sim_callVIp v_RX12_207 sh_179 dX12_readLine_66 (k_M_isWord 4 σ) rfl ⟨by decide, by decide⟩ (S := []) rfl (Nat.le_of_ble_eq_true rfl) (fun r10 => ?_)
          refine sim_jn2 (pc' := 84) (fun (u13 : Int) (s12 : JSg) => [(0, vR 179)]) (fun (u13 : Int) (s12 : JSg) => [vI u13]) (fun (u13 : Int) (s12 : JSg) => s12) ?_ (fun j11 hj11 => ?_)
          · intro u13 s12
            refine sim_istore_n (fun v14 => [(1, vI v14), (0, vR 179)]) (fun _ => rfl) (by decide) dX12_readLine_84 (fun v14 => ?_)
            exact sim_sub [1, 0] rfl (hj2 v14 s12)
          refine sim_if_eq (tgt := 79) dX12_readLine_69 (by decide) ?_ ?_
          · refine sim_aload_n 0 rfl dX12_readLine_79 ?_
            refine sim_iconst dX12_readLine_80 (by decide) ?_
            refine sim_callVIm v_RX12_155 sh_179 dX12_readLine_81 (k_M_bad 1 σ) rfl ⟨by decide, by decide⟩ (S := []) rfl (Nat.le_of_ble_eq_true rfl) (fun r15 s16 => ?_)
            exact sim_sub [0] rfl (hj11 r15 s16)
          · refine sim_aload_n 0 rfl dX12_readLine_72 ?_
            refine sim_callVIm v_RX12_222 sh_179 dX12_readLine_73 (k_M_readPawn n σ) rfl ⟨by decide, by decide⟩ (S := []) rfl (Nat.le_of_ble_eq_true rfl) (fun r17 s18 => ?_)
            refine sim_goto (tgt := 84) dX12_readLine_76 (by decide) ?_
            exact sim_sub [0] rfl (hj11 r17 s18)
        · refine sim_aload_n 0 rfl dX12_readLine_56 ?_
          refine sim_callVIm v_RX12_219 sh_179 dX12_readLine_57 (k_M_readQuarrel n σ) rfl ⟨by decide, by decide⟩ (S := []) rfl (Nat.le_of_ble_eq_true rfl) (fun r19 s20 => ?_)
          refine sim_istore_n (fun v21 => [(1, vI v21), (0, vR 179)]) (fun _ => rfl) (by decide) dX12_readLine_60 (fun v21 => ?_)
          refine sim_goto (tgt := 85) dX12_readLine_61 (by decide) ?_
          exact sim_sub [1, 0] rfl (hj2 v21 s20)
      · refine sim_aload_n 0 rfl dX12_readLine_40 ?_
        refine sim_callVIm v_RX12_216 sh_179 dX12_readLine_41 (k_M_readForgive n σ) rfl ⟨by decide, by decide⟩ (S := []) rfl (Nat.le_of_ble_eq_true rfl) (fun r22 s23 => ?_)
        refine sim_istore_n (fun v24 => [(1, vI v24), (0, vR 179)]) (fun _ => rfl) (by decide) dX12_readLine_44 (fun v24 => ?_)
        refine sim_goto (tgt := 85) dX12_readLine_45 (by decide) ?_
        exact sim_sub [1, 0] rfl (hj2 v24 s23)
    · refine sim_aload_n 0 rfl dX12_readLine_24 ?_
      refine sim_callVIm v_RX12_213 sh_179 dX12_readLine_25 (k_M_readStone n σ) rfl ⟨by decide, by decide⟩ (S := []) rfl (Nat.le_of_ble_eq_true rfl) (fun r25 s26 => ?_)
      refine sim_istore_n (fun v27 => [(1, vI v27), (0, vR 179)]) (fun _ => rfl) (by decide) dX12_readLine_28 (fun v27 => ?_)
      refine sim_goto (tgt := 85) dX12_readLine_29 (by decide) ?_
      exact sim_sub [1, 0] rfl (hj2 v27 s26)
  · refine sim_aload_n 0 rfl dX12_readLine_8 ?_
    refine sim_callVIm v_RX12_210 sh_179 dX12_readLine_9 (k_M_readWidow n σ) rfl ⟨by decide, by decide⟩ (S := []) rfl (Nat.le_of_ble_eq_true rfl) (fun r28 s29 => ?_)
    refine sim_istore_n (fun v30 => [(1, vI v30), (0, vR 179)]) (fun _ => rfl) (by decide) dX12_readLine_12 (fun v30 => ?_)
    refine sim_goto (tgt := 85) dX12_readLine_13 (by decide) ?_
    exact sim_sub [1, 0] rfl (hj2 v30 s29)
theorem dX12_island_0 : decode cX12_island 0 = .ok (.aload_n 0, 1) := by decide +kernel
theorem dX12_island_1 : decode cX12_island 1 = .ok (.sipush 900, 3) := by decide +kernel
theorem dX12_island_4 : decode cX12_island 4 = .ok (.invokevirtual 228, 3) := by decide +kernel
theorem dX12_island_7 : decode cX12_island 7 = .ok (.iconst 0, 1) := by decide +kernel
theorem dX12_island_8 : decode cX12_island 8 = .ok (.istore_n 1, 1) := by decide +kernel
theorem dX12_island_9 : decode cX12_island 9 = .ok (.iload_n 1, 1) := by decide +kernel
theorem dX12_island_10 : decode cX12_island 10 = .ok (.sipush 192, 3) := by decide +kernel
theorem dX12_island_13 : decode cX12_island 13 = .ok (.if_icmp .ge 16, 3) := by decide +kernel
theorem dX12_island_16 : decode cX12_island 16 = .ok (.aload_n 0, 1) := by decide +kernel
theorem dX12_island_17 : decode cX12_island 17 = .ok (.getfield 16, 3) := by decide +kernel
theorem dX12_island_20 : decode cX12_island 20 = .ok (.iload_n 1, 1) := by decide +kernel
theorem dX12_island_21 : decode cX12_island 21 = .ok (.iconst 0, 1) := by decide +kernel
theorem dX12_island_22 : decode cX12_island 22 = .ok (.iastore, 1) := by decide +kernel
theorem dX12_island_23 : decode cX12_island 23 = .ok (.iinc 1 1, 3) := by decide +kernel
theorem dX12_island_26 : decode cX12_island 26 = .ok (.goto (-17), 3) := by decide +kernel
theorem dX12_island_29 : decode cX12_island 29 = .ok (.aload_n 0, 1) := by decide +kernel
theorem dX12_island_30 : decode cX12_island 30 = .ok (.getfield 16, 3) := by decide +kernel
theorem dX12_island_33 : decode cX12_island 33 = .ok (.iconst 3, 1) := by decide +kernel
theorem dX12_island_34 : decode cX12_island 34 = .ok (.iconst 5, 1) := by decide +kernel
theorem dX12_island_35 : decode cX12_island 35 = .ok (.iastore, 1) := by decide +kernel
theorem dX12_island_36 : decode cX12_island 36 = .ok (.aload_n 0, 1) := by decide +kernel
theorem dX12_island_37 : decode cX12_island 37 = .ok (.iconst 0, 1) := by decide +kernel
theorem dX12_island_38 : decode cX12_island 38 = .ok (.putfield 204, 3) := by decide +kernel
theorem dX12_island_41 : decode cX12_island 41 = .ok (.iconst 0, 1) := by decide +kernel
theorem dX12_island_42 : decode cX12_island 42 = .ok (.istore_n 1, 1) := by decide +kernel
theorem dX12_island_43 : decode cX12_island 43 = .ok (.aload_n 0, 1) := by decide +kernel
theorem dX12_island_44 : decode cX12_island 44 = .ok (.getfield 109, 3) := by decide +kernel
theorem dX12_island_47 : decode cX12_island 47 = .ok (.ifCond .eq 23, 3) := by decide +kernel
theorem dX12_island_50 : decode cX12_island 50 = .ok (.aload_n 0, 1) := by decide +kernel
theorem dX12_island_51 : decode cX12_island 51 = .ok (.invokevirtual 231, 3) := by decide +kernel
theorem dX12_island_54 : decode cX12_island 54 = .ok (.ifCond .ne 10, 3) := by decide +kernel
theorem dX12_island_57 : decode cX12_island 57 = .ok (.iconst (-1), 1) := by decide +kernel
theorem dX12_island_58 : decode cX12_island 58 = .ok (.aload_n 0, 1) := by decide +kernel
theorem dX12_island_59 : decode cX12_island 59 = .ok (.getfield 152, 3) := by decide +kernel
theorem dX12_island_62 : decode cX12_island 62 = .ok (.isub, 1) := by decide +kernel
theorem dX12_island_63 : decode cX12_island 63 = .ok (.ireturn, 1) := by decide +kernel
theorem dX12_island_64 : decode cX12_island 64 = .ok (.iinc 1 1, 3) := by decide +kernel
theorem dX12_island_67 : decode cX12_island 67 = .ok (.goto (-24), 3) := by decide +kernel
theorem dX12_island_70 : decode cX12_island 70 = .ok (.iconst 0, 1) := by decide +kernel
theorem dX12_island_71 : decode cX12_island 71 = .ok (.istore_n 2, 1) := by decide +kernel
theorem dX12_island_72 : decode cX12_island 72 = .ok (.iload_n 2, 1) := by decide +kernel
theorem dX12_island_73 : decode cX12_island 73 = .ok (.sipush 448, 3) := by decide +kernel
theorem dX12_island_76 : decode cX12_island 76 = .ok (.if_icmp .ge 32, 3) := by decide +kernel
theorem dX12_island_79 : decode cX12_island 79 = .ok (.aload_n 0, 1) := by decide +kernel
theorem dX12_island_80 : decode cX12_island 80 = .ok (.getfield 13, 3) := by decide +kernel
theorem dX12_island_83 : decode cX12_island 83 = .ok (.iload_n 2, 1) := by decide +kernel
theorem dX12_island_84 : decode cX12_island 84 = .ok (.iload_n 2, 1) := by decide +kernel
theorem dX12_island_85 : decode cX12_island 85 = .ok (.sipush 192, 3) := by decide +kernel
theorem dX12_island_88 : decode cX12_island 88 = .ok (.if_icmp .ge 12, 3) := by decide +kernel
theorem dX12_island_91 : decode cX12_island 91 = .ok (.aload_n 0, 1) := by decide +kernel
theorem dX12_island_92 : decode cX12_island 92 = .ok (.getfield 16, 3) := by decide +kernel
theorem dX12_island_95 : decode cX12_island 95 = .ok (.iload_n 2, 1) := by decide +kernel
theorem dX12_island_96 : decode cX12_island 96 = .ok (.iaload, 1) := by decide +kernel
theorem dX12_island_97 : decode cX12_island 97 = .ok (.goto 4, 3) := by decide +kernel
theorem dX12_island_100 : decode cX12_island 100 = .ok (.iconst 0, 1) := by decide +kernel
theorem dX12_island_101 : decode cX12_island 101 = .ok (.iastore, 1) := by decide +kernel
theorem dX12_island_102 : decode cX12_island 102 = .ok (.iinc 2 1, 3) := by decide +kernel
theorem dX12_island_105 : decode cX12_island 105 = .ok (.goto (-33), 3) := by decide +kernel
theorem dX12_island_108 : decode cX12_island 108 = .ok (.iconst 0, 1) := by decide +kernel
theorem dX12_island_109 : decode cX12_island 109 = .ok (.istore_n 2, 1) := by decide +kernel
theorem dX12_island_110 : decode cX12_island 110 = .ok (.iload_n 2, 1) := by decide +kernel
theorem dX12_island_111 : decode cX12_island 111 = .ok (.bipush 6, 2) := by decide +kernel
theorem dX12_island_113 : decode cX12_island 113 = .ok (.if_icmp .ge 21, 3) := by decide +kernel
theorem dX12_island_116 : decode cX12_island 116 = .ok (.aload_n 0, 1) := by decide +kernel
theorem dX12_island_117 : decode cX12_island 117 = .ok (.getfield 25, 3) := by decide +kernel
theorem dX12_island_120 : decode cX12_island 120 = .ok (.iload_n 2, 1) := by decide +kernel
theorem dX12_island_121 : decode cX12_island 121 = .ok (.aload_n 0, 1) := by decide +kernel
theorem dX12_island_122 : decode cX12_island 122 = .ok (.getfield 29, 3) := by decide +kernel
theorem dX12_island_125 : decode cX12_island 125 = .ok (.iload_n 2, 1) := by decide +kernel
theorem dX12_island_126 : decode cX12_island 126 = .ok (.laload, 1) := by decide +kernel
theorem dX12_island_127 : decode cX12_island 127 = .ok (.lastore, 1) := by decide +kernel
theorem dX12_island_128 : decode cX12_island 128 = .ok (.iinc 2 1, 3) := by decide +kernel
theorem dX12_island_131 : decode cX12_island 131 = .ok (.goto (-21), 3) := by decide +kernel
theorem dX12_island_134 : decode cX12_island 134 = .ok (.aload_n 0, 1) := by decide +kernel
theorem dX12_island_135 : decode cX12_island 135 = .ok (.iconst 0, 1) := by decide +kernel
theorem dX12_island_136 : decode cX12_island 136 = .ok (.putfield 234, 3) := by decide +kernel
theorem dX12_island_139 : decode cX12_island 139 = .ok (.iload_n 1, 1) := by decide +kernel
theorem dX12_island_140 : decode cX12_island 140 = .ok (.ireturn, 1) := by decide +kernel
def f_M_island (n : Nat)   (σ : JSg) : Option (Int × JSg) :=
  bd1 (f_M_begin n 900 σ) fun s1 => lt_ 0 fun v2 => wh2 n (fun rc3 (x4 : Int) (s5 : JSg) => if x4 < 192 then (chk (0 ≤ x4 ∧ x4 < 192) <| lt_ (sp s5 182 x4.toNat 0) fun s30 => lt_ (w32 (x4 + 1)) fun v31 => rc3 v31 s30) else (lt_ (sp s5 182 3 5) fun s6 => lt_ (sp s6 179 24 0) fun s7 => lt_ 0 fun v8 => wh2 n (fun rc9 (x10 : Int) (s11 : JSg) => if (s11 179 7) = 0 then (lt_ 0 fun v12 => wh2 n (fun rc13 (x14 : Int) (s15 : JSg) => if x14 < 448 then (jn1 (fun (u24 : Int) => chk (0 ≤ x14 ∧ x14 < 448) <| lt_ (sp s15 181 x14.toNat u24) fun s25 => lt_ (w32 (x14 + 1)) fun v26 => rc13 v26 s25) fun j23 => if x14 < 192 then (chk (0 ≤ x14 ∧ x14 < 192) <| j23 (s15 182 x14.toNat)) else (j23 0)) else (lt_ 0 fun v16 => wh2 n (fun rc17 (x18 : Int) (s19 : JSg) => if x18 < 6 then (chk (0 ≤ x18 ∧ x18 < 6) <| chk (0 ≤ x18 ∧ x18 < 6) <| lt_ (sp s19 185 x18.toNat (s19 186 x18.toNat)) fun s21 => lt_ (w32 (x18 + 1)) fun v22 => rc17 v22 s21) else (lt_ (sp s19 179 22 0) fun s20 => some (x10, s20))) v16 s15)) v12 s11) else (bd2 (f_M_readLine n s11) fun r27 s28 => if r27 = 0 then (some (w32 ((-1) - (s28 179 11)), s28)) else (lt_ (w32 (x10 + 1)) fun v29 => rc9 v29 s28))) v8 s7)) v2 s1
set_option maxRecDepth 20000 in
set_option maxHeartbeats 4000000 in
theorem k_M_island  (n : Nat)    (σ : JSg) : Call yX12_island cX12_island 3 (some .int) 5 SH RHO [vR 179] σ dIm (f_M_island n σ) := by
  refine call_of_sim (by decide +kernel) (Nat.le_of_ble_eq_true rfl) ?_
  show Sim RX12 cX12_island 3 (some .int) 5 SH RHO 0 [(0, vR 179)] [] σ dIm (f_M_island n σ)
  unfold f_M_island
  refine sim_aload_n 0 rfl dX12_island_0 ?_
  refine sim_sipush dX12_island_1 (by decide +kernel) ?_
  refine sim_callVVm v_RX12_228 sh_179 dX12_island_4 (k_M_begin n 900 σ) rfl ⟨by decide, by decide⟩ (S := []) rfl (Nat.le_of_ble_eq_true rfl) (fun s1 => ?_)
  refine sim_iconst dX12_island_7 (by decide) ?_
  refine sim_istore_n (fun v2 => [(1, vI v2), (0, vR 179)]) (fun _ => rfl) (by decide) dX12_island_8 (fun v2 => ?_)
  refine sim_sub [1, 0] (L' := [(0, vR 179), (1, vI v2)]) rfl ?_
  refine sim_wh2 (fun (x4 : Int) (s5 : JSg) => [(0, vR 179), (1, vI x4)]) (fun (x4 : Int) (s5 : JSg) => s5) ?_ n v2 s1
  intro rc3 hrc3 x4 s5
  refine sim_iload_n 1 rfl dX12_island_9 ?_
  refine sim_sipush dX12_island_10 (by decide +kernel) ?_
  refine sim_icmp_ge (tgt := 29) dX12_island_13 (by decide) ?_ ?_
  · refine sim_aload_n 0 rfl dX12_island_29 ?_
    refine sim_getR g_RX12_16 sh_179 rh_179_15 dX12_island_30 ?_
    refine sim_iconst dX12_island_33 (by decide) ?_
    refine sim_iconst dX12_island_34 (by decide) ?_
    refine sim_iastoreK (j := 3) sh_182 rfl (by decide) dX12_island_35 (fun s6 => ?_)
    refine sim_aload_n 0 rfl dX12_island_36 ?_
    refine sim_iconst dX12_island_37 (by decide) ?_
    refine sim_putZ (Or.inl rfl) g_RX12_204 sh_179 dX12_island_38 (fun s7 => ?_)
    refine sim_iconst dX12_island_41 (by decide) ?_
    refine sim_istore_n (fun v8 => [(1, vI v8), (0, vR 179)]) (fun _ => rfl) (by decide) dX12_island_42 (fun v8 => ?_)
    refine sim_sub [1, 0] (L' := [(0, vR 179), (1, vI v8)]) rfl ?_
    refine sim_wh2 (fun (x10 : Int) (s11 : JSg) => [(0, vR 179), (1, vI x10)]) (fun (x10 : Int) (s11 : JSg) => s11) ?_ n v8 s7
    intro rc9 hrc9 x10 s11
    refine sim_aload_n 0 rfl dX12_island_43 ?_
    refine sim_getI g_RX12_109 sh_179 dX12_island_44 ?_
    refine sim_if_eq (tgt := 70) dX12_island_47 (by decide) ?_ ?_
    · refine sim_iconst dX12_island_70 (by decide) ?_
      refine sim_istore_n (fun v12 => [(2, vI v12), (0, vR 179), (1, vI x10)]) (fun _ => rfl) (by decide) dX12_island_71 (fun v12 => ?_)
      refine sim_sub [1, 2, 0] (L' := [(0, vR 179), (1, vI x10), (2, vI v12)]) rfl ?_
      refine sim_wh2 (fun (x14 : Int) (s15 : JSg) => [(0, vR 179), (1, vI x10), (2, vI x14)]) (fun (x14 : Int) (s15 : JSg) => s15) ?_ n v12 s11
      intro rc13 hrc13 x14 s15
      refine sim_iload_n 2 rfl dX12_island_72 ?_
      refine sim_sipush dX12_island_73 (by decide +kernel) ?_
      refine sim_icmp_ge (tgt := 108) dX12_island_76 (by decide) ?_ ?_
      · refine sim_iconst dX12_island_108 (by decide) ?_
        refine sim_istore_n (fun v16 => [(2, vI v16), (0, vR 179), (1, vI x10)]) (fun _ => rfl) (by decide) dX12_island_109 (fun v16 => ?_)
        refine sim_sub [1, 2, 0] (L' := [(0, vR 179), (1, vI x10), (2, vI v16)]) rfl ?_
        refine sim_wh2 (fun (x18 : Int) (s19 : JSg) => [(0, vR 179), (1, vI x10), (2, vI x18)]) (fun (x18 : Int) (s19 : JSg) => s19) ?_ n v16 s15
        intro rc17 hrc17 x18 s19
        refine sim_iload_n 2 rfl dX12_island_110 ?_
        refine sim_bipush dX12_island_111 (by decide +kernel) ?_
        refine sim_icmp_ge (tgt := 134) dX12_island_113 (by decide) ?_ ?_
        · refine sim_aload_n 0 rfl dX12_island_134 ?_
          refine sim_iconst dX12_island_135 (by decide) ?_
          refine sim_putI g_RX12_234 sh_179 dX12_island_136 (fun s20 => ?_)
          refine sim_iload_n 1 rfl dX12_island_139 ?_
          exact sim_iret rfl rfl dX12_island_140
        · refine sim_aload_n 0 rfl dX12_island_116 ?_
          refine sim_getR g_RX12_25 sh_179 rh_179_18 dX12_island_117 ?_
          refine sim_iload_n 2 rfl dX12_island_120 ?_
          refine sim_aload_n 0 rfl dX12_island_121 ?_
          refine sim_getR g_RX12_29 sh_179 rh_179_19 dX12_island_122 ?_
          refine sim_iload_n 2 rfl dX12_island_125 ?_
          refine sim_laload sh_186 rfl dX12_island_126 ?_
          refine sim_lastore sh_185 rfl dX12_island_127 (fun s21 => ?_)
          refine sim_iinc 2 rfl (fun v22 => [(2, vI v22), (0, vR 179), (1, vI x10)]) (fun _ => rfl) (by decide) dX12_island_128 (fun v22 => ?_)
          refine sim_goto (tgt := 110) dX12_island_131 (by decide) ?_
          exact sim_sub [1, 2, 0] rfl (hrc17 v22 s21)
      · refine sim_aload_n 0 rfl dX12_island_79 ?_
        refine sim_getR g_RX12_13 sh_179 rh_179_14 dX12_island_80 ?_
        refine sim_iload_n 2 rfl dX12_island_83 ?_
        refine sim_iload_n 2 rfl dX12_island_84 ?_
        refine sim_sipush dX12_island_85 (by decide +kernel) ?_
        refine sim_jn1 (pc' := 101) (fun (u24 : Int) => [(0, vR 179), (1, vI x10), (2, vI x14)]) (fun (u24 : Int) => [vI u24, vI x14, vR 181]) (fun (u24 : Int) => s15) ?_ (fun j23 hj23 => ?_)
        · intro u24
          refine sim_iastore sh_181 rfl dX12_island_101 (fun s25 => ?_)
          refine sim_iinc 2 rfl (fun v26 => [(2, vI v26), (0, vR 179), (1, vI x10)]) (fun _ => rfl) (by decide) dX12_island_102 (fun v26 => ?_)
          refine sim_goto (tgt := 72) dX12_island_105 (by decide) ?_
          exact sim_sub [1, 2, 0] rfl (hrc13 v26 s25)
        refine sim_icmp_ge (tgt := 100) dX12_island_88 (by decide) ?_ ?_
        · refine sim_iconst dX12_island_100 (by decide) ?_
          exact sim_sub [0, 1, 2] rfl (hj23 0)
        · refine sim_aload_n 0 rfl dX12_island_91 ?_
          refine sim_getR g_RX12_16 sh_179 rh_179_15 dX12_island_92 ?_
          refine sim_iload_n 2 rfl dX12_island_95 ?_
          refine sim_iaload sh_182 rfl dX12_island_96 ?_
          refine sim_goto (tgt := 101) dX12_island_97 (by decide) ?_
          exact sim_sub [0, 1, 2] rfl (hj23 (s15 182 x14.toNat))
    · refine sim_aload_n 0 rfl dX12_island_50 ?_
      refine sim_callVIm v_RX12_231 sh_179 dX12_island_51 (k_M_readLine n s11) rfl ⟨by decide, by decide⟩ (S := []) rfl (Nat.le_of_ble_eq_true rfl) (fun r27 s28 => ?_)
      refine sim_if_ne (tgt := 64) dX12_island_54 (by decide) ?_ ?_
      · refine sim_iinc 1 rfl (fun v29 => [(1, vI v29), (0, vR 179)]) (fun _ => rfl) (by decide) dX12_island_64 (fun v29 => ?_)
        refine sim_goto (tgt := 43) dX12_island_67 (by decide) ?_
        exact sim_sub [1, 0] rfl (hrc9 v29 s28)
      · refine sim_iconst dX12_island_57 (by decide) ?_
        refine sim_aload_n 0 rfl dX12_island_58 ?_
        refine sim_getI g_RX12_152 sh_179 dX12_island_59 ?_
        refine sim_isub dX12_island_62 ?_
        exact sim_iret rfl rfl dX12_island_63
  · refine sim_aload_n 0 rfl dX12_island_16 ?_
    refine sim_getR g_RX12_16 sh_179 rh_179_15 dX12_island_17 ?_
    refine sim_iload_n 1 rfl dX12_island_20 ?_
    refine sim_iconst dX12_island_21 (by decide) ?_
    refine sim_iastore sh_182 rfl dX12_island_22 (fun s30 => ?_)
    refine sim_iinc 1 rfl (fun v31 => [(1, vI v31), (0, vR 179)]) (fun _ => rfl) (by decide) dX12_island_23 (fun v31 => ?_)
    refine sim_goto (tgt := 9) dX12_island_26 (by decide) ?_
    exact sim_sub [1, 0] rfl (hrc3 v31 s30)
theorem dX12_end_0 : decode cX12_end 0 = .ok (.aload_n 0, 1) := by decide +kernel
theorem dX12_end_1 : decode cX12_end 1 = .ok (.iconst 0, 1) := by decide +kernel
theorem dX12_end_2 : decode cX12_end 2 = .ok (.putfield 87, 3) := by decide +kernel
theorem dX12_end_5 : decode cX12_end 5 = .ok (.iload_n 1, 1) := by decide +kernel
theorem dX12_end_6 : decode cX12_end 6 = .ok (.ifCond .lt 11, 3) := by decide +kernel
theorem dX12_end_9 : decode cX12_end 9 = .ok (.iload_n 1, 1) := by decide +kernel
theorem dX12_end_10 : decode cX12_end 10 = .ok (.aload_n 0, 1) := by decide +kernel
theorem dX12_end_11 : decode cX12_end 11 = .ok (.getfield 90, 3) := by decide +kernel
theorem dX12_end_14 : decode cX12_end 14 = .ok (.if_icmp .le 5, 3) := by decide +kernel
theorem dX12_end_17 : decode cX12_end 17 = .ok (.iconst 0, 1) := by decide +kernel
theorem dX12_end_18 : decode cX12_end 18 = .ok (.ireturn, 1) := by decide +kernel
theorem dX12_end_19 : decode cX12_end 19 = .ok (.aload_n 0, 1) := by decide +kernel
theorem dX12_end_20 : decode cX12_end 20 = .ok (.iload_n 1, 1) := by decide +kernel
theorem dX12_end_21 : decode cX12_end 21 = .ok (.putfield 90, 3) := by decide +kernel
theorem dX12_end_24 : decode cX12_end 24 = .ok (.iconst 1, 1) := by decide +kernel
theorem dX12_end_25 : decode cX12_end 25 = .ok (.ireturn, 1) := by decide +kernel
def f_M_end   (a1 : Int) (σ : JSg) : Option (Int × JSg) :=
  lt_ (sp σ 179 0 0) fun s1 => if a1 < 0 then (some (0, s1)) else (if (s1 179 2) < a1 then (some (0, s1)) else (lt_ (sp s1 179 2 a1) fun s2 => some (1, s2)))
set_option maxRecDepth 20000 in
set_option maxHeartbeats 4000000 in
theorem k_M_end     (a1 : Int) (σ : JSg) : Call yX12_end cX12_end 2 (some .boolean) 0 SH RHO [vR 179, vI a1] σ dIm (f_M_end a1 σ) := by
  refine call_of_sim (by decide +kernel) (Nat.le_of_ble_eq_true rfl) ?_
  show Sim RX12 cX12_end 2 (some .boolean) 0 SH RHO 0 [(0, vR 179), (1, vI a1)] [] σ dIm (f_M_end a1 σ)
  unfold f_M_end
  refine sim_aload_n 0 rfl dX12_end_0 ?_
  refine sim_iconst dX12_end_1 (by decide) ?_
  refine sim_putI g_RX12_87 sh_179 dX12_end_2 (fun s1 => ?_)
  refine sim_iload_n 1 rfl dX12_end_5 ?_
  refine sim_if_lt (tgt := 17) dX12_end_6 (by decide) ?_ ?_
  · refine sim_iconst dX12_end_17 (by decide) ?_
    exact sim_zret (Or.inl rfl) rfl rfl dX12_end_18
  · refine sim_iload_n 1 rfl dX12_end_9 ?_
    refine sim_aload_n 0 rfl dX12_end_10 ?_
    refine sim_getI g_RX12_90 sh_179 dX12_end_11 ?_
    refine sim_icmp_le (tgt := 19) dX12_end_14 (by decide) ?_ ?_
    · refine sim_aload_n 0 rfl dX12_end_19 ?_
      refine sim_iload_n 1 rfl dX12_end_20 ?_
      refine sim_putI g_RX12_90 sh_179 dX12_end_21 (fun s2 => ?_)
      refine sim_iconst dX12_end_24 (by decide) ?_
      exact sim_zret (Or.inr rfl) rfl rfl dX12_end_25
    · refine sim_iconst dX12_end_17 (by decide) ?_
      exact sim_zret (Or.inl rfl) rfl rfl dX12_end_18
theorem dX12_come_0 : decode cX12_come 0 = .ok (.bipush 24, 2) := by decide +kernel
theorem dX12_come_2 : decode cX12_come 2 = .ok (.istore_n 2, 1) := by decide +kernel
theorem dX12_come_3 : decode cX12_come 3 = .ok (.iload_n 2, 1) := by decide +kernel
theorem dX12_come_4 : decode cX12_come 4 = .ok (.ifCond .lt 35, 3) := by decide +kernel
theorem dX12_come_7 : decode cX12_come 7 = .ok (.aload_n 0, 1) := by decide +kernel
theorem dX12_come_8 : decode cX12_come 8 = .ok (.getfield 7, 3) := by decide +kernel
theorem dX12_come_11 : decode cX12_come 11 = .ok (.aload_n 0, 1) := by decide +kernel
theorem dX12_come_12 : decode cX12_come 12 = .ok (.getfield 90, 3) := by decide +kernel
theorem dX12_come_15 : decode cX12_come 15 = .ok (.iload_n 1, 1) := by decide +kernel
theorem dX12_come_16 : decode cX12_come 16 = .ok (.iload_n 2, 1) := by decide +kernel
theorem dX12_come_17 : decode cX12_come 17 = .ok (.iushr, 1) := by decide +kernel
theorem dX12_come_18 : decode cX12_come 18 = .ok (.sipush 255, 3) := by decide +kernel
theorem dX12_come_21 : decode cX12_come 21 = .ok (.iand, 1) := by decide +kernel
theorem dX12_come_22 : decode cX12_come 22 = .ok (.iastore, 1) := by decide +kernel
theorem dX12_come_23 : decode cX12_come 23 = .ok (.aload_n 0, 1) := by decide +kernel
theorem dX12_come_24 : decode cX12_come 24 = .ok (.dup, 1) := by decide +kernel
theorem dX12_come_25 : decode cX12_come 25 = .ok (.getfield 90, 3) := by decide +kernel
theorem dX12_come_28 : decode cX12_come 28 = .ok (.iconst 1, 1) := by decide +kernel
theorem dX12_come_29 : decode cX12_come 29 = .ok (.iadd, 1) := by decide +kernel
theorem dX12_come_30 : decode cX12_come 30 = .ok (.putfield 90, 3) := by decide +kernel
theorem dX12_come_33 : decode cX12_come 33 = .ok (.iinc 2 (-8), 3) := by decide +kernel
theorem dX12_come_36 : decode cX12_come 36 = .ok (.goto (-33), 3) := by decide +kernel
theorem dX12_come_39 : decode cX12_come 39 = .ok (.return_, 1) := by decide +kernel
def f_M_come (n : Nat)  (a1 : Int) (σ : JSg) : Option (JSg) :=
  lt_ 24 fun v1 => wh2 n (fun rc2 (x3 : Int) (s4 : JSg) => if x3 < 0 then (some s4) else (chk (0 ≤ (s4 179 2) ∧ (s4 179 2) < 940) <| lt_ (sp s4 180 (s4 179 2).toNat (an32 (ur32 a1 x3) 255)) fun s5 => lt_ (sp s5 179 2 (w32 ((s5 179 2) + 1))) fun s6 => lt_ (w32 (x3 + (-8))) fun v7 => rc2 v7 s6)) v1 (σ)
set_option maxRecDepth 20000 in
set_option maxHeartbeats 4000000 in
theorem k_M_come  (n : Nat)   (a1 : Int) (σ : JSg) : Call yX12_come cX12_come 3 none 0 SH RHO [vR 179, vI a1] σ dVm (f_M_come n a1 σ) := by
  refine call_of_sim (by decide +kernel) (Nat.le_of_ble_eq_true rfl) ?_
  show Sim RX12 cX12_come 3 none 0 SH RHO 0 [(0, vR 179), (1, vI a1)] [] σ dVm (f_M_come n a1 σ)
  unfold f_M_come
  refine sim_bipush dX12_come_0 (by decide +kernel) ?_
  refine sim_istore_n (fun v1 => [(2, vI v1), (0, vR 179), (1, vI a1)]) (fun _ => rfl) (by decide) dX12_come_2 (fun v1 => ?_)
  refine sim_sub [1, 2, 0] (L' := [(0, vR 179), (1, vI a1), (2, vI v1)]) rfl ?_
  refine sim_wh2 (fun (x3 : Int) (s4 : JSg) => [(0, vR 179), (1, vI a1), (2, vI x3)]) (fun (x3 : Int) (s4 : JSg) => s4) ?_ n v1 (σ)
  intro rc2 hrc2 x3 s4
  refine sim_iload_n 2 rfl dX12_come_3 ?_
  refine sim_if_lt (tgt := 39) dX12_come_4 (by decide) ?_ ?_
  · exact sim_vret rfl rfl dX12_come_39
  · refine sim_aload_n 0 rfl dX12_come_7 ?_
    refine sim_getR g_RX12_7 sh_179 rh_179_1 dX12_come_8 ?_
    refine sim_aload_n 0 rfl dX12_come_11 ?_
    refine sim_getI g_RX12_90 sh_179 dX12_come_12 ?_
    refine sim_iload_n 1 rfl dX12_come_15 ?_
    refine sim_iload_n 2 rfl dX12_come_16 ?_
    refine sim_iushr dX12_come_17 ?_
    refine sim_sipush dX12_come_18 (by decide +kernel) ?_
    refine sim_iand dX12_come_21 ?_
    refine sim_iastore sh_180 rfl dX12_come_22 (fun s5 => ?_)
    refine sim_aload_n 0 rfl dX12_come_23 ?_
    refine sim_dup rfl dX12_come_24 ?_
    refine sim_getI g_RX12_90 sh_179 dX12_come_25 ?_
    refine sim_iconst dX12_come_28 (by decide) ?_
    refine sim_iadd dX12_come_29 ?_
    refine sim_putI g_RX12_90 sh_179 dX12_come_30 (fun s6 => ?_)
    refine sim_iinc 2 rfl (fun v7 => [(2, vI v7), (0, vR 179), (1, vI a1)]) (fun _ => rfl) (by decide) dX12_come_33 (fun v7 => ?_)
    refine sim_goto (tgt := 3) dX12_come_36 (by decide) ?_
    exact sim_sub [1, 2, 0] rfl (hrc2 v7 s6)
theorem dX12_feed_0 : decode cX12_feed 0 = .ok (.aload_n 0, 1) := by decide +kernel
theorem dX12_feed_1 : decode cX12_feed 1 = .ok (.iconst 0, 1) := by decide +kernel
theorem dX12_feed_2 : decode cX12_feed 2 = .ok (.putfield 87, 3) := by decide +kernel
theorem dX12_feed_5 : decode cX12_feed 5 = .ok (.aload_n 0, 1) := by decide +kernel
theorem dX12_feed_6 : decode cX12_feed 6 = .ok (.getfield 90, 3) := by decide +kernel
theorem dX12_feed_9 : decode cX12_feed 9 = .ok (.bipush 20, 2) := by decide +kernel
theorem dX12_feed_11 : decode cX12_feed 11 = .ok (.iadd, 1) := by decide +kernel
theorem dX12_feed_12 : decode cX12_feed 12 = .ok (.sipush 940, 3) := by decide +kernel
theorem dX12_feed_15 : decode cX12_feed 15 = .ok (.if_icmp .le 5, 3) := by decide +kernel
theorem dX12_feed_18 : decode cX12_feed 18 = .ok (.iconst (-1), 1) := by decide +kernel
theorem dX12_feed_19 : decode cX12_feed 19 = .ok (.ireturn, 1) := by decide +kernel
theorem dX12_feed_20 : decode cX12_feed 20 = .ok (.aload_n 0, 1) := by decide +kernel
theorem dX12_feed_21 : decode cX12_feed 21 = .ok (.iload_n 1, 1) := by decide +kernel
theorem dX12_feed_22 : decode cX12_feed 22 = .ok (.invokevirtual 93, 3) := by decide +kernel
theorem dX12_feed_25 : decode cX12_feed 25 = .ok (.aload_n 0, 1) := by decide +kernel
theorem dX12_feed_26 : decode cX12_feed 26 = .ok (.iload_n 2, 1) := by decide +kernel
theorem dX12_feed_27 : decode cX12_feed 27 = .ok (.invokevirtual 93, 3) := by decide +kernel
theorem dX12_feed_30 : decode cX12_feed 30 = .ok (.aload_n 0, 1) := by decide +kernel
theorem dX12_feed_31 : decode cX12_feed 31 = .ok (.iload_n 3, 1) := by decide +kernel
theorem dX12_feed_32 : decode cX12_feed 32 = .ok (.invokevirtual 93, 3) := by decide +kernel
theorem dX12_feed_35 : decode cX12_feed 35 = .ok (.aload_n 0, 1) := by decide +kernel
theorem dX12_feed_36 : decode cX12_feed 36 = .ok (.iload 4, 2) := by decide +kernel
theorem dX12_feed_38 : decode cX12_feed 38 = .ok (.invokevirtual 93, 3) := by decide +kernel
theorem dX12_feed_41 : decode cX12_feed 41 = .ok (.aload_n 0, 1) := by decide +kernel
theorem dX12_feed_42 : decode cX12_feed 42 = .ok (.iload 5, 2) := by decide +kernel
theorem dX12_feed_44 : decode cX12_feed 44 = .ok (.invokevirtual 93, 3) := by decide +kernel
theorem dX12_feed_47 : decode cX12_feed 47 = .ok (.aload_n 0, 1) := by decide +kernel
theorem dX12_feed_48 : decode cX12_feed 48 = .ok (.getfield 90, 3) := by decide +kernel
theorem dX12_feed_51 : decode cX12_feed 51 = .ok (.ireturn, 1) := by decide +kernel
def f_M_feed (n : Nat)  (a1 : Int) (a2 : Int) (a3 : Int) (a4 : Int) (a5 : Int) (σ : JSg) : Option (Int × JSg) :=
  lt_ (sp σ 179 0 0) fun s1 => if 940 < (w32 ((s1 179 2) + 20)) then (some ((-1), s1)) else (bd1 (f_M_come n a1 s1) fun s2 => bd1 (f_M_come n a2 s2) fun s3 => bd1 (f_M_come n a3 s3) fun s4 => bd1 (f_M_come n a4 s4) fun s5 => bd1 (f_M_come n a5 s5) fun s6 => some (s6 179 2, s6))
set_option maxRecDepth 20000 in
set_option maxHeartbeats 4000000 in
theorem k_M_feed  (n : Nat)   (a1 : Int) (a2 : Int) (a3 : Int) (a4 : Int) (a5 : Int) (σ : JSg) : Call yX12_feed cX12_feed 6 (some .int) 1 SH RHO [vR 179, vI a1, vI a2, vI a3, vI a4, vI a5] σ dIm (f_M_feed n a1 a2 a3 a4 a5 σ) := by
  refine call_of_sim (by decide +kernel) (Nat.le_of_ble_eq_true rfl) ?_
  show Sim RX12 cX12_feed 6 (some .int) 1 SH RHO 0 [(0, vR 179), (1, vI a1), (2, vI a2), (3, vI a3), (4, vI a4), (5, vI a5)] [] σ dIm (f_M_feed n a1 a2 a3 a4 a5 σ)
  unfold f_M_feed
  refine sim_aload_n 0 rfl dX12_feed_0 ?_
  refine sim_iconst dX12_feed_1 (by decide) ?_
  refine sim_putI g_RX12_87 sh_179 dX12_feed_2 (fun s1 => ?_)
  refine sim_aload_n 0 rfl dX12_feed_5 ?_
  refine sim_getI g_RX12_90 sh_179 dX12_feed_6 ?_
  refine sim_bipush dX12_feed_9 (by decide +kernel) ?_
  refine sim_iadd dX12_feed_11 ?_
  refine sim_sipush dX12_feed_12 (by decide +kernel) ?_
  refine sim_icmp_le (tgt := 20) dX12_feed_15 (by decide) ?_ ?_
  · refine sim_aload_n 0 rfl dX12_feed_20 ?_
    refine sim_iload_n 1 rfl dX12_feed_21 ?_
    refine sim_callVVm v_RX12_93 sh_179 dX12_feed_22 (k_M_come n a1 s1) rfl ⟨by decide, by decide⟩ (S := []) rfl (Nat.le_of_ble_eq_true rfl) (fun s2 => ?_)
    refine sim_aload_n 0 rfl dX12_feed_25 ?_
    refine sim_iload_n 2 rfl dX12_feed_26 ?_
    refine sim_callVVm v_RX12_93 sh_179 dX12_feed_27 (k_M_come n a2 s2) rfl ⟨by decide, by decide⟩ (S := []) rfl (Nat.le_of_ble_eq_true rfl) (fun s3 => ?_)
    refine sim_aload_n 0 rfl dX12_feed_30 ?_
    refine sim_iload_n 3 rfl dX12_feed_31 ?_
    refine sim_callVVm v_RX12_93 sh_179 dX12_feed_32 (k_M_come n a3 s3) rfl ⟨by decide, by decide⟩ (S := []) rfl (Nat.le_of_ble_eq_true rfl) (fun s4 => ?_)
    refine sim_aload_n 0 rfl dX12_feed_35 ?_
    refine sim_iload 4 rfl dX12_feed_36 ?_
    refine sim_callVVm v_RX12_93 sh_179 dX12_feed_38 (k_M_come n a4 s4) rfl ⟨by decide, by decide⟩ (S := []) rfl (Nat.le_of_ble_eq_true rfl) (fun s5 => ?_)
    refine sim_aload_n 0 rfl dX12_feed_41 ?_
    refine sim_iload 5 rfl dX12_feed_42 ?_
    refine sim_callVVm v_RX12_93 sh_179 dX12_feed_44 (k_M_come n a5 s5) rfl ⟨by decide, by decide⟩ (S := []) rfl (Nat.le_of_ble_eq_true rfl) (fun s6 => ?_)
    refine sim_aload_n 0 rfl dX12_feed_47 ?_
    refine sim_getI g_RX12_90 sh_179 dX12_feed_48 ?_
    exact sim_iret rfl rfl dX12_feed_51
  · refine sim_iconst dX12_feed_18 (by decide) ?_
    exact sim_iret rfl rfl dX12_feed_19
theorem dX12_thrown_0 : decode cX12_thrown 0 = .ok (.aload_n 0, 1) := by decide +kernel
theorem dX12_thrown_1 : decode cX12_thrown 1 = .ok (.getfield 87, 3) := by decide +kernel
theorem dX12_thrown_4 : decode cX12_thrown 4 = .ok (.ireturn, 1) := by decide +kernel
def f_M_thrown    (σ : JSg) : Option (Int) :=
  some (σ 179 0)
set_option maxRecDepth 20000 in
set_option maxHeartbeats 4000000 in
theorem k_M_thrown      (σ : JSg) : Call yX12_thrown cX12_thrown 1 (some .int) 0 SH RHO [vR 179] σ (dIp σ) (f_M_thrown  σ) := by
  refine call_of_sim (by decide +kernel) (Nat.le_of_ble_eq_true rfl) ?_
  show Sim RX12 cX12_thrown 1 (some .int) 0 SH RHO 0 [(0, vR 179)] [] σ (dIp σ) (f_M_thrown  σ)
  unfold f_M_thrown
  refine sim_aload_n 0 rfl dX12_thrown_0 ?_
  refine sim_getI g_RX12_87 sh_179 dX12_thrown_1 ?_
  exact sim_iret rfl rfl dX12_thrown_4
theorem dX11_isPips_0 : decode cX11_isPips 0 = .ok (.iload_n 0, 1) := by decide +kernel
theorem dX11_isPips_1 : decode cX11_isPips 1 = .ok (.ifCond .lt 13, 3) := by decide +kernel
theorem dX11_isPips_4 : decode cX11_isPips 4 = .ok (.iload_n 0, 1) := by decide +kernel
theorem dX11_isPips_5 : decode cX11_isPips 5 = .ok (.bipush 7, 2) := by decide +kernel
theorem dX11_isPips_7 : decode cX11_isPips 7 = .ok (.if_icmp .ge 7, 3) := by decide +kernel
theorem dX11_isPips_10 : decode cX11_isPips 10 = .ok (.iconst 1, 1) := by decide +kernel
theorem dX11_isPips_11 : decode cX11_isPips 11 = .ok (.goto 4, 3) := by decide +kernel
theorem dX11_isPips_14 : decode cX11_isPips 14 = .ok (.iconst 0, 1) := by decide +kernel
theorem dX11_isPips_15 : decode cX11_isPips 15 = .ok (.ireturn, 1) := by decide +kernel
def f_W_isPips   (a1 : Int) (σ : JSg) : Option (Int) :=
  if a1 < 0 then (some 0) else (if a1 < 7 then (some 1) else (some 0))
set_option maxRecDepth 20000 in
set_option maxHeartbeats 4000000 in
theorem k_W_isPips (Sh : JSh) (ρ : JRo)    (a1 : Int) (σ : JSg) : Call yX11_isPips cX11_isPips 1 (some .boolean) 0 Sh ρ [vI a1] σ (dIp σ) (f_W_isPips a1 σ) := by
  refine call_of_sim (by decide +kernel) (Nat.le_of_ble_eq_true rfl) ?_
  show Sim RX11 cX11_isPips 1 (some .boolean) 0 Sh ρ 0 [(0, vI a1)] [] σ (dIp σ) (f_W_isPips a1 σ)
  unfold f_W_isPips
  refine sim_iload_n 0 rfl dX11_isPips_0 ?_
  refine sim_if_lt (tgt := 14) dX11_isPips_1 (by decide) ?_ ?_
  · refine sim_iconst dX11_isPips_14 (by decide) ?_
    exact sim_zret (Or.inl rfl) rfl rfl dX11_isPips_15
  · refine sim_iload_n 0 rfl dX11_isPips_4 ?_
    refine sim_bipush dX11_isPips_5 (by decide +kernel) ?_
    refine sim_icmp_ge (tgt := 14) dX11_isPips_7 (by decide) ?_ ?_
    · refine sim_iconst dX11_isPips_14 (by decide) ?_
      exact sim_zret (Or.inl rfl) rfl rfl dX11_isPips_15
    · refine sim_iconst dX11_isPips_10 (by decide) ?_
      refine sim_goto (tgt := 15) dX11_isPips_11 (by decide) ?_
      exact sim_zret (Or.inr rfl) rfl rfl dX11_isPips_15
theorem dX11_isPlace_0 : decode cX11_isPlace 0 = .ok (.iload_n 0, 1) := by decide +kernel
theorem dX11_isPlace_1 : decode cX11_isPlace 1 = .ok (.ifCond .eq 8, 3) := by decide +kernel
theorem dX11_isPlace_4 : decode cX11_isPlace 4 = .ok (.iload_n 0, 1) := by decide +kernel
theorem dX11_isPlace_5 : decode cX11_isPlace 5 = .ok (.iconst 1, 1) := by decide +kernel
theorem dX11_isPlace_6 : decode cX11_isPlace 6 = .ok (.if_icmp .ne 7, 3) := by decide +kernel
theorem dX11_isPlace_9 : decode cX11_isPlace 9 = .ok (.iconst 1, 1) := by decide +kernel
theorem dX11_isPlace_10 : decode cX11_isPlace 10 = .ok (.goto 4, 3) := by decide +kernel
theorem dX11_isPlace_13 : decode cX11_isPlace 13 = .ok (.iconst 0, 1) := by decide +kernel
theorem dX11_isPlace_14 : decode cX11_isPlace 14 = .ok (.ireturn, 1) := by decide +kernel
def f_W_isPlace   (a1 : Int) (σ : JSg) : Option (Int) :=
  jn0 (some 1) fun j1 => if a1 = 0 then (j1) else (if a1 = 1 then (j1) else (some 0))
set_option maxRecDepth 20000 in
set_option maxHeartbeats 4000000 in
theorem k_W_isPlace (Sh : JSh) (ρ : JRo)    (a1 : Int) (σ : JSg) : Call yX11_isPlace cX11_isPlace 1 (some .boolean) 0 Sh ρ [vI a1] σ (dIp σ) (f_W_isPlace a1 σ) := by
  refine call_of_sim (by decide +kernel) (Nat.le_of_ble_eq_true rfl) ?_
  show Sim RX11 cX11_isPlace 1 (some .boolean) 0 Sh ρ 0 [(0, vI a1)] [] σ (dIp σ) (f_W_isPlace a1 σ)
  unfold f_W_isPlace
  refine sim_iload_n 0 rfl dX11_isPlace_0 ?_
  refine sim_jn0 (pc' := 9) ([]) ([]) (σ) ?_ (fun j1 hj1 => ?_)
  · refine sim_iconst dX11_isPlace_9 (by decide) ?_
    refine sim_goto (tgt := 14) dX11_isPlace_10 (by decide) ?_
    exact sim_zret (Or.inr rfl) rfl rfl dX11_isPlace_14
  refine sim_if_eq (tgt := 9) dX11_isPlace_1 (by decide) ?_ ?_
  · exact sim_sub [] rfl (hj1 )
  · refine sim_iload_n 0 rfl dX11_isPlace_4 ?_
    refine sim_iconst dX11_isPlace_5 (by decide) ?_
    refine sim_icmp_ne (tgt := 13) dX11_isPlace_6 (by decide) ?_ ?_
    · refine sim_iconst dX11_isPlace_13 (by decide) ?_
      exact sim_zret (Or.inl rfl) rfl rfl dX11_isPlace_14
    · exact sim_sub [] rfl (hj1 )
theorem dX11_isEnd_0 : decode cX11_isEnd 0 = .ok (.iload_n 0, 1) := by decide +kernel
theorem dX11_isEnd_1 : decode cX11_isEnd 1 = .ok (.ifCond .eq 8, 3) := by decide +kernel
theorem dX11_isEnd_4 : decode cX11_isEnd 4 = .ok (.iload_n 0, 1) := by decide +kernel
theorem dX11_isEnd_5 : decode cX11_isEnd 5 = .ok (.iconst 1, 1) := by decide +kernel
theorem dX11_isEnd_6 : decode cX11_isEnd 6 = .ok (.if_icmp .ne 7, 3) := by decide +kernel
theorem dX11_isEnd_9 : decode cX11_isEnd 9 = .ok (.iconst 1, 1) := by decide +kernel
theorem dX11_isEnd_10 : decode cX11_isEnd 10 = .ok (.goto 4, 3) := by decide +kernel
theorem dX11_isEnd_13 : decode cX11_isEnd 13 = .ok (.iconst 0, 1) := by decide +kernel
theorem dX11_isEnd_14 : decode cX11_isEnd 14 = .ok (.ireturn, 1) := by decide +kernel
def f_W_isEnd   (a1 : Int) (σ : JSg) : Option (Int) :=
  jn0 (some 1) fun j1 => if a1 = 0 then (j1) else (if a1 = 1 then (j1) else (some 0))
set_option maxRecDepth 20000 in
set_option maxHeartbeats 4000000 in
theorem k_W_isEnd (Sh : JSh) (ρ : JRo)    (a1 : Int) (σ : JSg) : Call yX11_isEnd cX11_isEnd 1 (some .boolean) 0 Sh ρ [vI a1] σ (dIp σ) (f_W_isEnd a1 σ) := by
  refine call_of_sim (by decide +kernel) (Nat.le_of_ble_eq_true rfl) ?_
  show Sim RX11 cX11_isEnd 1 (some .boolean) 0 Sh ρ 0 [(0, vI a1)] [] σ (dIp σ) (f_W_isEnd a1 σ)
  unfold f_W_isEnd
  refine sim_iload_n 0 rfl dX11_isEnd_0 ?_
  refine sim_jn0 (pc' := 9) ([]) ([]) (σ) ?_ (fun j1 hj1 => ?_)
  · refine sim_iconst dX11_isEnd_9 (by decide) ?_
    refine sim_goto (tgt := 14) dX11_isEnd_10 (by decide) ?_
    exact sim_zret (Or.inr rfl) rfl rfl dX11_isEnd_14
  refine sim_if_eq (tgt := 9) dX11_isEnd_1 (by decide) ?_ ?_
  · exact sim_sub [] rfl (hj1 )
  · refine sim_iload_n 0 rfl dX11_isEnd_4 ?_
    refine sim_iconst dX11_isEnd_5 (by decide) ?_
    refine sim_icmp_ne (tgt := 13) dX11_isEnd_6 (by decide) ?_ ?_
    · refine sim_iconst dX11_isEnd_13 (by decide) ?_
      exact sim_zret (Or.inl rfl) rfl rfl dX11_isEnd_14
    · exact sim_sub [] rfl (hj1 )
theorem dX11_isWidow_0 : decode cX11_isWidow 0 = .ok (.iload_n 1, 1) := by decide +kernel
theorem dX11_isWidow_1 : decode cX11_isWidow 1 = .ok (.ifCond .lt 21, 3) := by decide +kernel
theorem dX11_isWidow_4 : decode cX11_isWidow 4 = .ok (.iload_n 1, 1) := by decide +kernel
theorem dX11_isWidow_5 : decode cX11_isWidow 5 = .ok (.aload_n 0, 1) := by decide +kernel
theorem dX11_isWidow_6 : decode cX11_isWidow 6 = .ok (.getfield 29, 3) := by decide +kernel
theorem dX11_isWidow_9 : decode cX11_isWidow 9 = .ok (.getfield 54, 3) := by decide +kernel
theorem dX11_isWidow_12 : decode cX11_isWidow 12 = .ok (.getfield 257, 3) := by decide +kernel
theorem dX11_isWidow_15 : decode cX11_isWidow 15 = .ok (.if_icmp .ge 7, 3) := by decide +kernel
theorem dX11_isWidow_18 : decode cX11_isWidow 18 = .ok (.iconst 1, 1) := by decide +kernel
theorem dX11_isWidow_19 : decode cX11_isWidow 19 = .ok (.goto 4, 3) := by decide +kernel
theorem dX11_isWidow_22 : decode cX11_isWidow 22 = .ok (.iconst 0, 1) := by decide +kernel
theorem dX11_isWidow_23 : decode cX11_isWidow 23 = .ok (.ireturn, 1) := by decide +kernel
def f_W_isWidow   (a1 : Int) (σ : JSg) : Option (Int) :=
  if a1 < 0 then (some 0) else (if a1 < (σ 4 1) then (some 1) else (some 0))
set_option maxRecDepth 20000 in
set_option maxHeartbeats 4000000 in
theorem k_W_isWidow     (a1 : Int) (σ : JSg) : Call yX11_isWidow cX11_isWidow 2 (some .boolean) 0 SH RHO [vR 0, vI a1] σ (dIp σ) (f_W_isWidow a1 σ) := by
  refine call_of_sim (by decide +kernel) (Nat.le_of_ble_eq_true rfl) ?_
  show Sim RX11 cX11_isWidow 2 (some .boolean) 0 SH RHO 0 [(0, vR 0), (1, vI a1)] [] σ (dIp σ) (f_W_isWidow a1 σ)
  unfold f_W_isWidow
  refine sim_iload_n 1 rfl dX11_isWidow_0 ?_
  refine sim_if_lt (tgt := 22) dX11_isWidow_1 (by decide) ?_ ?_
  · refine sim_iconst dX11_isWidow_22 (by decide) ?_
    exact sim_zret (Or.inl rfl) rfl rfl dX11_isWidow_23
  · refine sim_iload_n 1 rfl dX11_isWidow_4 ?_
    refine sim_aload_n 0 rfl dX11_isWidow_5 ?_
    refine sim_getR g_RX11_29 sh_0 rh_0_3 dX11_isWidow_6 ?_
    refine sim_getR g_RX11_54 (LWld_o lay_3) rh_3_0 dX11_isWidow_9 ?_
    refine sim_getI g_RX11_257 (LIsl_o lay_4) dX11_isWidow_12 ?_
    refine sim_icmp_ge (tgt := 22) dX11_isWidow_15 (by decide) ?_ ?_
    · refine sim_iconst dX11_isWidow_22 (by decide) ?_
      exact sim_zret (Or.inl rfl) rfl rfl dX11_isWidow_23
    · refine sim_iconst dX11_isWidow_18 (by decide) ?_
      refine sim_goto (tgt := 23) dX11_isWidow_19 (by decide) ?_
      exact sim_zret (Or.inr rfl) rfl rfl dX11_isWidow_23
theorem dX11_isStone_0 : decode cX11_isStone 0 = .ok (.iload_n 1, 1) := by decide +kernel
theorem dX11_isStone_1 : decode cX11_isStone 1 = .ok (.ifCond .lt 21, 3) := by decide +kernel
theorem dX11_isStone_4 : decode cX11_isStone 4 = .ok (.iload_n 1, 1) := by decide +kernel
theorem dX11_isStone_5 : decode cX11_isStone 5 = .ok (.aload_n 0, 1) := by decide +kernel
theorem dX11_isStone_6 : decode cX11_isStone 6 = .ok (.getfield 29, 3) := by decide +kernel
theorem dX11_isStone_9 : decode cX11_isStone 9 = .ok (.getfield 54, 3) := by decide +kernel
theorem dX11_isStone_12 : decode cX11_isStone 12 = .ok (.getfield 279, 3) := by decide +kernel
theorem dX11_isStone_15 : decode cX11_isStone 15 = .ok (.if_icmp .ge 7, 3) := by decide +kernel
theorem dX11_isStone_18 : decode cX11_isStone 18 = .ok (.iconst 1, 1) := by decide +kernel
theorem dX11_isStone_19 : decode cX11_isStone 19 = .ok (.goto 4, 3) := by decide +kernel
theorem dX11_isStone_22 : decode cX11_isStone 22 = .ok (.iconst 0, 1) := by decide +kernel
theorem dX11_isStone_23 : decode cX11_isStone 23 = .ok (.ireturn, 1) := by decide +kernel
def f_W_isStone   (a1 : Int) (σ : JSg) : Option (Int) :=
  if a1 < 0 then (some 0) else (if a1 < (σ 4 2) then (some 1) else (some 0))
set_option maxRecDepth 20000 in
set_option maxHeartbeats 4000000 in
theorem k_W_isStone     (a1 : Int) (σ : JSg) : Call yX11_isStone cX11_isStone 2 (some .boolean) 0 SH RHO [vR 0, vI a1] σ (dIp σ) (f_W_isStone a1 σ) := by
  refine call_of_sim (by decide +kernel) (Nat.le_of_ble_eq_true rfl) ?_
  show Sim RX11 cX11_isStone 2 (some .boolean) 0 SH RHO 0 [(0, vR 0), (1, vI a1)] [] σ (dIp σ) (f_W_isStone a1 σ)
  unfold f_W_isStone
  refine sim_iload_n 1 rfl dX11_isStone_0 ?_
  refine sim_if_lt (tgt := 22) dX11_isStone_1 (by decide) ?_ ?_
  · refine sim_iconst dX11_isStone_22 (by decide) ?_
    exact sim_zret (Or.inl rfl) rfl rfl dX11_isStone_23
  · refine sim_iload_n 1 rfl dX11_isStone_4 ?_
    refine sim_aload_n 0 rfl dX11_isStone_5 ?_
    refine sim_getR g_RX11_29 sh_0 rh_0_3 dX11_isStone_6 ?_
    refine sim_getR g_RX11_54 (LWld_o lay_3) rh_3_0 dX11_isStone_9 ?_
    refine sim_getI g_RX11_279 (LIsl_o lay_4) dX11_isStone_12 ?_
    refine sim_icmp_ge (tgt := 22) dX11_isStone_15 (by decide) ?_ ?_
    · refine sim_iconst dX11_isStone_22 (by decide) ?_
      exact sim_zret (Or.inl rfl) rfl rfl dX11_isStone_23
    · refine sim_iconst dX11_isStone_18 (by decide) ?_
      refine sim_goto (tgt := 23) dX11_isStone_19 (by decide) ?_
      exact sim_zret (Or.inr rfl) rfl rfl dX11_isStone_23
theorem dX9_readRun_0 : decode cX9_readRun 0 = .ok (.iconst 0, 1) := by decide +kernel
theorem dX9_readRun_1 : decode cX9_readRun 1 = .ok (.istore_n 1, 1) := by decide +kernel
theorem dX9_readRun_2 : decode cX9_readRun 2 = .ok (.iconst 0, 1) := by decide +kernel
theorem dX9_readRun_3 : decode cX9_readRun 3 = .ok (.istore_n 2, 1) := by decide +kernel
theorem dX9_readRun_4 : decode cX9_readRun 4 = .ok (.aload_n 0, 1) := by decide +kernel
theorem dX9_readRun_5 : decode cX9_readRun 5 = .ok (.lconst 0, 1) := by decide +kernel
theorem dX9_readRun_6 : decode cX9_readRun 6 = .ok (.putfield 30, 3) := by decide +kernel
theorem dX9_readRun_9 : decode cX9_readRun 9 = .ok (.aload_n 0, 1) := by decide +kernel
theorem dX9_readRun_10 : decode cX9_readRun 10 = .ok (.iconst 0, 1) := by decide +kernel
theorem dX9_readRun_11 : decode cX9_readRun 11 = .ok (.putfield 34, 3) := by decide +kernel
theorem dX9_readRun_14 : decode cX9_readRun 14 = .ok (.aload_n 0, 1) := by decide +kernel
theorem dX9_readRun_15 : decode cX9_readRun 15 = .ok (.getfield 18, 3) := by decide +kernel
theorem dX9_readRun_18 : decode cX9_readRun 18 = .ok (.aload_n 0, 1) := by decide +kernel
theorem dX9_readRun_19 : decode cX9_readRun 19 = .ok (.getfield 9, 3) := by decide +kernel
theorem dX9_readRun_22 : decode cX9_readRun 22 = .ok (.if_icmp .ge 91, 3) := by decide +kernel
theorem dX9_readRun_25 : decode cX9_readRun 25 = .ok (.aload_n 0, 1) := by decide +kernel
theorem dX9_readRun_26 : decode cX9_readRun 26 = .ok (.getfield 52, 3) := by decide +kernel
theorem dX9_readRun_29 : decode cX9_readRun 29 = .ok (.aload_n 0, 1) := by decide +kernel
theorem dX9_readRun_30 : decode cX9_readRun 30 = .ok (.getfield 18, 3) := by decide +kernel
theorem dX9_readRun_33 : decode cX9_readRun 33 = .ok (.baload, 1) := by decide +kernel
theorem dX9_readRun_34 : decode cX9_readRun 34 = .ok (.istore_n 3, 1) := by decide +kernel
theorem dX9_readRun_35 : decode cX9_readRun 35 = .ok (.iload_n 3, 1) := by decide +kernel
theorem dX9_readRun_36 : decode cX9_readRun 36 = .ok (.bipush 97, 2) := by decide +kernel
theorem dX9_readRun_38 : decode cX9_readRun 38 = .ok (.if_icmp .lt 31, 3) := by decide +kernel
theorem dX9_readRun_41 : decode cX9_readRun 41 = .ok (.iload_n 3, 1) := by decide +kernel
theorem dX9_readRun_42 : decode cX9_readRun 42 = .ok (.bipush 122, 2) := by decide +kernel
theorem dX9_readRun_44 : decode cX9_readRun 44 = .ok (.if_icmp .gt 25, 3) := by decide +kernel
theorem dX9_readRun_47 : decode cX9_readRun 47 = .ok (.iinc 1 1, 3) := by decide +kernel
theorem dX9_readRun_50 : decode cX9_readRun 50 = .ok (.aload_n 0, 1) := by decide +kernel
theorem dX9_readRun_51 : decode cX9_readRun 51 = .ok (.aload_n 0, 1) := by decide +kernel
theorem dX9_readRun_52 : decode cX9_readRun 52 = .ok (.getfield 30, 3) := by decide +kernel
theorem dX9_readRun_55 : decode cX9_readRun 55 = .ok (.iconst 5, 1) := by decide +kernel
theorem dX9_readRun_56 : decode cX9_readRun 56 = .ok (.lshl, 1) := by decide +kernel
theorem dX9_readRun_57 : decode cX9_readRun 57 = .ok (.iload_n 3, 1) := by decide +kernel
theorem dX9_readRun_58 : decode cX9_readRun 58 = .ok (.bipush 31, 2) := by decide +kernel
theorem dX9_readRun_60 : decode cX9_readRun 60 = .ok (.iand, 1) := by decide +kernel
theorem dX9_readRun_61 : decode cX9_readRun 61 = .ok (.i2l, 1) := by decide +kernel
theorem dX9_readRun_62 : decode cX9_readRun 62 = .ok (.lor, 1) := by decide +kernel
theorem dX9_readRun_63 : decode cX9_readRun 63 = .ok (.putfield 30, 3) := by decide +kernel
theorem dX9_readRun_66 : decode cX9_readRun 66 = .ok (.goto 34, 3) := by decide +kernel
theorem dX9_readRun_69 : decode cX9_readRun 69 = .ok (.iload_n 3, 1) := by decide +kernel
theorem dX9_readRun_70 : decode cX9_readRun 70 = .ok (.bipush 48, 2) := by decide +kernel
theorem dX9_readRun_72 : decode cX9_readRun 72 = .ok (.if_icmp .lt 41, 3) := by decide +kernel
theorem dX9_readRun_75 : decode cX9_readRun 75 = .ok (.iload_n 3, 1) := by decide +kernel
theorem dX9_readRun_76 : decode cX9_readRun 76 = .ok (.bipush 57, 2) := by decide +kernel
theorem dX9_readRun_78 : decode cX9_readRun 78 = .ok (.if_icmp .gt 35, 3) := by decide +kernel
theorem dX9_readRun_81 : decode cX9_readRun 81 = .ok (.iinc 2 1, 3) := by decide +kernel
theorem dX9_readRun_84 : decode cX9_readRun 84 = .ok (.aload_n 0, 1) := by decide +kernel
theorem dX9_readRun_85 : decode cX9_readRun 85 = .ok (.bipush 10, 2) := by decide +kernel
theorem dX9_readRun_87 : decode cX9_readRun 87 = .ok (.aload_n 0, 1) := by decide +kernel
theorem dX9_readRun_88 : decode cX9_readRun 88 = .ok (.getfield 34, 3) := by decide +kernel
theorem dX9_readRun_91 : decode cX9_readRun 91 = .ok (.imul, 1) := by decide +kernel
theorem dX9_readRun_92 : decode cX9_readRun 92 = .ok (.iload_n 3, 1) := by decide +kernel
theorem dX9_readRun_93 : decode cX9_readRun 93 = .ok (.iadd, 1) := by decide +kernel
theorem dX9_readRun_94 : decode cX9_readRun 94 = .ok (.bipush 48, 2) := by decide +kernel
theorem dX9_readRun_96 : decode cX9_readRun 96 = .ok (.isub, 1) := by decide +kernel
theorem dX9_readRun_97 : decode cX9_readRun 97 = .ok (.putfield 34, 3) := by decide +kernel
theorem dX9_readRun_100 : decode cX9_readRun 100 = .ok (.aload_n 0, 1) := by decide +kernel
theorem dX9_readRun_101 : decode cX9_readRun 101 = .ok (.dup, 1) := by decide +kernel
theorem dX9_readRun_102 : decode cX9_readRun 102 = .ok (.getfield 18, 3) := by decide +kernel
theorem dX9_readRun_105 : decode cX9_readRun 105 = .ok (.iconst 1, 1) := by decide +kernel
theorem dX9_readRun_106 : decode cX9_readRun 106 = .ok (.iadd, 1) := by decide +kernel
theorem dX9_readRun_107 : decode cX9_readRun 107 = .ok (.putfield 18, 3) := by decide +kernel
theorem dX9_readRun_110 : decode cX9_readRun 110 = .ok (.goto (-96), 3) := by decide +kernel
theorem dX9_readRun_113 : decode cX9_readRun 113 = .ok (.aload_n 0, 1) := by decide +kernel
theorem dX9_readRun_114 : decode cX9_readRun 114 = .ok (.iconst 2, 1) := by decide +kernel
theorem dX9_readRun_115 : decode cX9_readRun 115 = .ok (.putfield 21, 3) := by decide +kernel
theorem dX9_readRun_118 : decode cX9_readRun 118 = .ok (.iload_n 2, 1) := by decide +kernel
theorem dX9_readRun_119 : decode cX9_readRun 119 = .ok (.ifCond .ne 17, 3) := by decide +kernel
theorem dX9_readRun_122 : decode cX9_readRun 122 = .ok (.iload_n 1, 1) := by decide +kernel
theorem dX9_readRun_123 : decode cX9_readRun 123 = .ok (.bipush 7, 2) := by decide +kernel
theorem dX9_readRun_125 : decode cX9_readRun 125 = .ok (.if_icmp .gt 11, 3) := by decide +kernel
theorem dX9_readRun_128 : decode cX9_readRun 128 = .ok (.aload_n 0, 1) := by decide +kernel
theorem dX9_readRun_129 : decode cX9_readRun 129 = .ok (.iconst 3, 1) := by decide +kernel
theorem dX9_readRun_130 : decode cX9_readRun 130 = .ok (.putfield 21, 3) := by decide +kernel
theorem dX9_readRun_133 : decode cX9_readRun 133 = .ok (.goto 17, 3) := by decide +kernel
theorem dX9_readRun_136 : decode cX9_readRun 136 = .ok (.iload_n 1, 1) := by decide +kernel
theorem dX9_readRun_137 : decode cX9_readRun 137 = .ok (.ifCond .ne 13, 3) := by decide +kernel
theorem dX9_readRun_140 : decode cX9_readRun 140 = .ok (.iload_n 2, 1) := by decide +kernel
theorem dX9_readRun_141 : decode cX9_readRun 141 = .ok (.iconst 3, 1) := by decide +kernel
theorem dX9_readRun_142 : decode cX9_readRun 142 = .ok (.if_icmp .gt 8, 3) := by decide +kernel
theorem dX9_readRun_145 : decode cX9_readRun 145 = .ok (.aload_n 0, 1) := by decide +kernel
theorem dX9_readRun_146 : decode cX9_readRun 146 = .ok (.iconst 4, 1) := by decide +kernel
theorem dX9_readRun_147 : decode cX9_readRun 147 = .ok (.putfield 21, 3) := by decide +kernel
theorem dX9_readRun_150 : decode cX9_readRun 150 = .ok (.return_, 1) := by decide +kernel
def f_Tok_readRun (n : Nat)   (σ : JSg) : Option (JSg) :=
  lt_ 0 fun v1 => lt_ 0 fun v2 => lt_ (sp σ 2 7 0) fun s3 => lt_ (sp s3 2 8 0) fun s4 => wh3 n (fun rc5 (x6 : Int) (x7 : Int) (s8 : JSg) => jn0 (lt_ (sp s8 2 4 2) fun s10 => jn0 (if x6 = 0 then (if 3 < x7 then (some s10) else (lt_ (sp s10 2 4 4) fun s12 => some s12)) else (some s10)) fun j11 => if x7 = 0 then (if 7 < x6 then (j11) else (lt_ (sp s10 2 4 3) fun s13 => some s13)) else (j11)) fun j9 => if (s8 2 3) < (s8 2 1) then (chk (0 ≤ (s8 2 3) ∧ (s8 2 3) < 940) <| lt_ (s8 1 (s8 2 3).toNat) fun v14 => jn3 (fun (y16 : Int) (y17 : Int) (s18 : JSg) => lt_ (sp s18 2 3 (w32 ((s18 2 3) + 1))) fun s19 => rc5 y16 y17 s19) fun j15 => jn0 (if v14 < 48 then (j9) else (if 57 < v14 then (j9) else (lt_ (w32 (x7 + 1)) fun v21 => lt_ (sp s8 2 8 (w32 ((w32 ((w32 (10 * (s8 2 8))) + v14)) - 48))) fun s22 => j15 x6 v21 s22))) fun j20 => if v14 < 97 then (j20) else (if 122 < v14 then (j20) else (lt_ (w32 (x6 + 1)) fun v23 => lt_ (sp s8 2 7 (or64 (sl64 (s8 2 7) 5) (an32 v14 31))) fun s24 => j15 v23 x7 s24))) else (j9)) v1 v2 s4
set_option maxRecDepth 20000 in
set_option maxHeartbeats 4000000 in
theorem k_Tok_readRun  (n : Nat)    (σ : JSg) : Call yX9_readRun cX9_readRun 4 none 0 SH RHO [vR 2] σ dVm (f_Tok_readRun n σ) := by
  refine call_of_sim (by decide +kernel) (Nat.le_of_ble_eq_true rfl) ?_
  show Sim RX9 cX9_readRun 4 none 0 SH RHO 0 [(0, vR 2)] [] σ dVm (f_Tok_readRun n σ)
  unfold f_Tok_readRun
  refine sim_iconst dX9_readRun_0 (by decide) ?_
  refine sim_istore_n (fun v1 => [(1, vI v1), (0, vR 2)]) (fun _ => rfl) (by decide) dX9_readRun_1 (fun v1 => ?_)
  refine sim_iconst dX9_readRun_2 (by decide) ?_
  refine sim_istore_n (fun v2 => [(2, vI v2), (1, vI v1), (0, vR 2)]) (fun _ => rfl) (by decide) dX9_readRun_3 (fun v2 => ?_)
  refine sim_aload_n 2 rfl dX9_readRun_4 ?_
  refine sim_lconst (v := 0) dX9_readRun_5 (by decide +kernel) ?_
  refine sim_putL g_RX9_30 sh_2 dX9_readRun_6 (fun s3 => ?_)
  refine sim_aload_n 2 rfl dX9_readRun_9 ?_
  refine sim_iconst dX9_readRun_10 (by decide) ?_
  refine sim_putI g_RX9_34 sh_2 dX9_readRun_11 (fun s4 => ?_)
  refine sim_sub [2, 1, 0] (L' := [(0, vR 2), (1, vI v1), (2, vI v2)]) rfl ?_
  refine sim_wh3 (fun (x6 : Int) (x7 : Int) (s8 : JSg) => [(0, vR 2), (1, vI x6), (2, vI x7)]) (fun (x6 : Int) (x7 : Int) (s8 : JSg) => s8) ?_ n v1 v2 s4
  intro rc5 hrc5 x6 x7 s8
  refine sim_aload_n 0 rfl dX9_readRun_14 ?_
  refine sim_getI g_RX9_18 sh_2 dX9_readRun_15 ?_
  refine sim_aload_n 0 rfl dX9_readRun_18 ?_
  refine sim_getI g_RX9_9 sh_2 dX9_readRun_19 ?_
  refine sim_jn0 (pc' := 113) ([(0, vR 2), (1, vI x6), (2, vI x7)]) ([]) (s8) ?_ (fun j9 hj9 => ?_)
  · refine sim_aload_n 0 rfl dX9_readRun_113 ?_
    refine sim_iconst dX9_readRun_114 (by decide) ?_
    refine sim_putI g_RX9_21 sh_2 dX9_readRun_115 (fun s10 => ?_)
    refine sim_iload_n 2 rfl dX9_readRun_118 ?_
    refine sim_jn0 (pc' := 136) ([(0, vR 2), (1, vI x6), (2, vI x7)]) ([]) (s10) ?_ (fun j11 hj11 => ?_)
    · refine sim_iload_n 1 rfl dX9_readRun_136 ?_
      refine sim_if_ne (tgt := 150) dX9_readRun_137 (by decide) ?_ ?_
      · exact sim_vret rfl rfl dX9_readRun_150
      · refine sim_iload_n 2 rfl dX9_readRun_140 ?_
        refine sim_iconst dX9_readRun_141 (by decide) ?_
        refine sim_icmp_gt (tgt := 150) dX9_readRun_142 (by decide) ?_ ?_
        · exact sim_vret rfl rfl dX9_readRun_150
        · refine sim_aload_n 0 rfl dX9_readRun_145 ?_
          refine sim_iconst dX9_readRun_146 (by decide) ?_
          refine sim_putI g_RX9_21 sh_2 dX9_readRun_147 (fun s12 => ?_)
          exact sim_vret rfl rfl dX9_readRun_150
    refine sim_if_ne (tgt := 136) dX9_readRun_119 (by decide) ?_ ?_
    · exact sim_sub [0, 1, 2] rfl (hj11 )
    · refine sim_iload_n 1 rfl dX9_readRun_122 ?_
      refine sim_bipush dX9_readRun_123 (by decide +kernel) ?_
      refine sim_icmp_gt (tgt := 136) dX9_readRun_125 (by decide) ?_ ?_
      · exact sim_sub [0, 1, 2] rfl (hj11 )
      · refine sim_aload_n 0 rfl dX9_readRun_128 ?_
        refine sim_iconst dX9_readRun_129 (by decide) ?_
        refine sim_putI g_RX9_21 sh_2 dX9_readRun_130 (fun s13 => ?_)
        refine sim_goto (tgt := 150) dX9_readRun_133 (by decide) ?_
        exact sim_vret rfl rfl dX9_readRun_150
  refine sim_icmp_ge (tgt := 113) dX9_readRun_22 (by decide) ?_ ?_
  · exact sim_sub [0, 1, 2] rfl (hj9 )
  · refine sim_aload_n 0 rfl dX9_readRun_25 ?_
    refine sim_getR g_RX9_52 sh_2 rh_2_0 dX9_readRun_26 ?_
    refine sim_aload_n 0 rfl dX9_readRun_29 ?_
    refine sim_getI g_RX9_18 sh_2 dX9_readRun_30 ?_
    refine sim_baload sh_1 rfl dX9_readRun_33 ?_
    refine sim_istore_n (fun v14 => [(3, vI v14), (0, vR 2), (1, vI x6), (2, vI x7)]) (fun _ => rfl) (by decide) dX9_readRun_34 (fun v14 => ?_)
    refine sim_iload_n 0 rfl dX9_readRun_35 ?_
    refine sim_bipush dX9_readRun_36 (by decide +kernel) ?_
    refine sim_jn3 (pc' := 100) (fun (y16 : Int) (y17 : Int) (s18 : JSg) => [(0, vR 2), (1, vI y16), (2, vI y17)]) (fun (y16 : Int) (y17 : Int) (s18 : JSg) => []) (fun (y16 : Int) (y17 : Int) (s18 : JSg) => s18) ?_ (fun j15 hj15 => ?_)
    · intro y16 y17 s18
      refine sim_aload_n 0 rfl dX9_readRun_100 ?_
      refine sim_dup rfl dX9_readRun_101 ?_
      refine sim_getI g_RX9_18 sh_2 dX9_readRun_102 ?_
      refine sim_iconst dX9_readRun_105 (by decide) ?_
      refine sim_iadd dX9_readRun_106 ?_
      refine sim_putI g_RX9_18 sh_2 dX9_readRun_107 (fun s19 => ?_)
      refine sim_goto (tgt := 14) dX9_readRun_110 (by decide) ?_
      exact sim_sub [0, 1, 2] rfl (hrc5 y16 y17 s19)
    refine sim_jn0 (pc' := 69) ([(0, vR 2), (1, vI x6), (2, vI x7), (3, vI v14)]) ([]) (s8) ?_ (fun j20 hj20 => ?_)
    · refine sim_iload_n 3 rfl dX9_readRun_69 ?_
      refine sim_bipush dX9_readRun_70 (by decide +kernel) ?_
      refine sim_icmp_lt (tgt := 113) dX9_readRun_72 (by decide) ?_ ?_
      · exact sim_sub [0, 1, 2] rfl (hj9 )
      · refine sim_iload_n 3 rfl dX9_readRun_75 ?_
        refine sim_bipush dX9_readRun_76 (by decide +kernel) ?_
        refine sim_icmp_gt (tgt := 113) dX9_readRun_78 (by decide) ?_ ?_
        · exact sim_sub [0, 1, 2] rfl (hj9 )
        · refine sim_iinc 2 rfl (fun v21 => [(2, vI v21), (0, vR 2), (1, vI x6), (3, vI v14)]) (fun _ => rfl) (by decide) dX9_readRun_81 (fun v21 => ?_)
          refine sim_aload_n 1 rfl dX9_readRun_84 ?_
          refine sim_bipush dX9_readRun_85 (by decide +kernel) ?_
          refine sim_aload_n 1 rfl dX9_readRun_87 ?_
          refine sim_getI g_RX9_34 sh_2 dX9_readRun_88 ?_
          refine sim_imul dX9_readRun_91 ?_
          refine sim_iload_n 3 rfl dX9_readRun_92 ?_
          refine sim_iadd dX9_readRun_93 ?_
          refine sim_bipush dX9_readRun_94 (by decide +kernel) ?_
          refine sim_isub dX9_readRun_96 ?_
          refine sim_putI g_RX9_34 sh_2 dX9_readRun_97 (fun s22 => ?_)
          exact sim_sub [1, 2, 0] rfl (hj15 x6 v21 s22)
    refine sim_icmp_lt (tgt := 69) dX9_readRun_38 (by decide) ?_ ?_
    · exact sim_sub [1, 2, 3, 0] rfl (hj20 )
    · refine sim_iload_n 0 rfl dX9_readRun_41 ?_
      refine sim_bipush dX9_readRun_42 (by decide +kernel) ?_
      refine sim_icmp_gt (tgt := 69) dX9_readRun_44 (by decide) ?_ ?_
      · exact sim_sub [1, 2, 3, 0] rfl (hj20 )
      · refine sim_iinc 2 rfl (fun v23 => [(1, vI v23), (3, vI v14), (0, vR 2), (2, vI x7)]) (fun _ => rfl) (by decide) dX9_readRun_47 (fun v23 => ?_)
        refine sim_aload_n 2 rfl dX9_readRun_50 ?_
        refine sim_aload_n 2 rfl dX9_readRun_51 ?_
        refine sim_getL g_RX9_30 sh_2 dX9_readRun_52 ?_
        refine sim_iconst dX9_readRun_55 (by decide) ?_
        refine sim_lshl dX9_readRun_56 ?_
        refine sim_iload_n 1 rfl dX9_readRun_57 ?_
        refine sim_bipush dX9_readRun_58 (by decide +kernel) ?_
        refine sim_iand dX9_readRun_60 ?_
        refine sim_i2l dX9_readRun_61 ?_
        refine sim_lor dX9_readRun_62 ?_
        refine sim_putL g_RX9_30 sh_2 dX9_readRun_63 (fun s24 => ?_)
        refine sim_goto (tgt := 100) dX9_readRun_66 (by decide) ?_
        exact sim_sub [2, 0, 3] rfl (hj15 v23 x7 s24)
theorem dX9_readSign_0 : decode cX9_readSign 0 = .ok (.aload_n 0, 1) := by decide +kernel
theorem dX9_readSign_1 : decode cX9_readSign 1 = .ok (.getfield 52, 3) := by decide +kernel
theorem dX9_readSign_4 : decode cX9_readSign 4 = .ok (.aload_n 0, 1) := by decide +kernel
theorem dX9_readSign_5 : decode cX9_readSign 5 = .ok (.getfield 18, 3) := by decide +kernel
theorem dX9_readSign_8 : decode cX9_readSign 8 = .ok (.baload, 1) := by decide +kernel
theorem dX9_readSign_9 : decode cX9_readSign 9 = .ok (.sipush 255, 3) := by decide +kernel
theorem dX9_readSign_12 : decode cX9_readSign 12 = .ok (.iand, 1) := by decide +kernel
theorem dX9_readSign_13 : decode cX9_readSign 13 = .ok (.istore_n 1, 1) := by decide +kernel
theorem dX9_readSign_14 : decode cX9_readSign 14 = .ok (.aload_n 0, 1) := by decide +kernel
theorem dX9_readSign_15 : decode cX9_readSign 15 = .ok (.ldc 75, 2) := by decide +kernel
theorem dX9_readSign_17 : decode cX9_readSign 17 = .ok (.iload_n 1, 1) := by decide +kernel
theorem dX9_readSign_18 : decode cX9_readSign 18 = .ok (.i2c, 1) := by decide +kernel
theorem dX9_readSign_19 : decode cX9_readSign 19 = .ok (.invokevirtual 77, 3) := by decide +kernel
theorem dX9_readSign_22 : decode cX9_readSign 22 = .ok (.ifCond .lt 7, 3) := by decide +kernel
theorem dX9_readSign_25 : decode cX9_readSign 25 = .ok (.iconst 5, 1) := by decide +kernel
theorem dX9_readSign_26 : decode cX9_readSign 26 = .ok (.goto 4, 3) := by decide +kernel
theorem dX9_readSign_29 : decode cX9_readSign 29 = .ok (.iconst 2, 1) := by decide +kernel
theorem dX9_readSign_30 : decode cX9_readSign 30 = .ok (.putfield 21, 3) := by decide +kernel
theorem dX9_readSign_33 : decode cX9_readSign 33 = .ok (.aload_n 0, 1) := by decide +kernel
theorem dX9_readSign_34 : decode cX9_readSign 34 = .ok (.iload_n 1, 1) := by decide +kernel
theorem dX9_readSign_35 : decode cX9_readSign 35 = .ok (.putfield 37, 3) := by decide +kernel
theorem dX9_readSign_38 : decode cX9_readSign 38 = .ok (.aload_n 0, 1) := by decide +kernel
theorem dX9_readSign_39 : decode cX9_readSign 39 = .ok (.dup, 1) := by decide +kernel
theorem dX9_readSign_40 : decode cX9_readSign 40 = .ok (.getfield 18, 3) := by decide +kernel
theorem dX9_readSign_43 : decode cX9_readSign 43 = .ok (.iconst 1, 1) := by decide +kernel
theorem dX9_readSign_44 : decode cX9_readSign 44 = .ok (.iadd, 1) := by decide +kernel
theorem dX9_readSign_45 : decode cX9_readSign 45 = .ok (.putfield 18, 3) := by decide +kernel
theorem dX9_readSign_48 : decode cX9_readSign 48 = .ok (.return_, 1) := by decide +kernel
def f_Tok_readSign    (σ : JSg) : Option (JSg) :=
  chk (0 ≤ (σ 2 3) ∧ (σ 2 3) < 940) <| lt_ (an32 (σ 1 (σ 2 3).toNat) 255) fun v1 => jn1 (fun (u3 : Int) => lt_ (sp σ 2 4 u3) fun s4 => lt_ (sp s4 2 9 v1) fun s5 => lt_ (sp s5 2 3 (w32 ((s5 2 3) + 1))) fun s6 => some s6) fun j2 => if (txi 0 (c16 v1)) < 0 then (j2 2) else (j2 5)
set_option maxRecDepth 20000 in
set_option maxHeartbeats 4000000 in
theorem k_Tok_readSign      (σ : JSg) : Call yX9_readSign cX9_readSign 2 none 6 SH RHO [vR 2] σ dVm (f_Tok_readSign  σ) := by
  refine call_of_sim (by decide +kernel) (Nat.le_of_ble_eq_true rfl) ?_
  show Sim RX9 cX9_readSign 2 none 6 SH RHO 0 [(0, vR 2)] [] σ dVm (f_Tok_readSign  σ)
  unfold f_Tok_readSign
  refine sim_aload_n 0 rfl dX9_readSign_0 ?_
  refine sim_getR g_RX9_52 sh_2 rh_2_0 dX9_readSign_1 ?_
  refine sim_aload_n 0 rfl dX9_readSign_4 ?_
  refine sim_getI g_RX9_18 sh_2 dX9_readSign_5 ?_
  refine sim_baload sh_1 rfl dX9_readSign_8 ?_
  refine sim_sipush dX9_readSign_9 (by decide +kernel) ?_
  refine sim_iand dX9_readSign_12 ?_
  refine sim_istore_n (fun v1 => [(1, vI v1), (0, vR 2)]) (fun _ => rfl) (by decide) dX9_readSign_13 (fun v1 => ?_)
  refine sim_aload_n 1 rfl dX9_readSign_14 ?_
  refine sim_ldcT0 dX9_readSign_15 ?_
  refine sim_iload_n 0 rfl dX9_readSign_17 ?_
  refine sim_i2c dX9_readSign_18 ?_
  refine sim_sIx0 (by decide) (Nat.le_of_ble_eq_true rfl) dX9_readSign_19 ?_
  refine sim_jn1 (pc' := 30) (fun (u3 : Int) => [(0, vR 2), (1, vI v1)]) (fun (u3 : Int) => [vI u3, vR 2]) (fun (u3 : Int) => σ) ?_ (fun j2 hj2 => ?_)
  · intro u3
    refine sim_putI g_RX9_21 sh_2 dX9_readSign_30 (fun s4 => ?_)
    refine sim_aload_n 0 rfl dX9_readSign_33 ?_
    refine sim_iload_n 1 rfl dX9_readSign_34 ?_
    refine sim_putI g_RX9_37 sh_2 dX9_readSign_35 (fun s5 => ?_)
    refine sim_aload_n 0 rfl dX9_readSign_38 ?_
    refine sim_dup rfl dX9_readSign_39 ?_
    refine sim_getI g_RX9_18 sh_2 dX9_readSign_40 ?_
    refine sim_iconst dX9_readSign_43 (by decide) ?_
    refine sim_iadd dX9_readSign_44 ?_
    refine sim_putI g_RX9_18 sh_2 dX9_readSign_45 (fun s6 => ?_)
    exact sim_vret rfl rfl dX9_readSign_48
  refine sim_if_lt (tgt := 29) dX9_readSign_22 (by decide) ?_ ?_
  · refine sim_iconst dX9_readSign_29 (by decide) ?_
    exact sim_sub [1, 0] rfl (hj2 2)
  · refine sim_iconst dX9_readSign_25 (by decide) ?_
    refine sim_goto (tgt := 30) dX9_readSign_26 (by decide) ?_
    exact sim_sub [1, 0] rfl (hj2 5)
theorem dX9_keyHere_0 : decode cX9_keyHere 0 = .ok (.iconst 1, 1) := by decide +kernel
theorem dX9_keyHere_1 : decode cX9_keyHere 1 = .ok (.istore_n 1, 1) := by decide +kernel
theorem dX9_keyHere_2 : decode cX9_keyHere 2 = .ok (.lconst 0, 1) := by decide +kernel
theorem dX9_keyHere_3 : decode cX9_keyHere 3 = .ok (.lstore_n 2, 1) := by decide +kernel
theorem dX9_keyHere_4 : decode cX9_keyHere 4 = .ok (.iconst 0, 1) := by decide +kernel
theorem dX9_keyHere_5 : decode cX9_keyHere 5 = .ok (.istore 4, 2) := by decide +kernel
theorem dX9_keyHere_7 : decode cX9_keyHere 7 = .ok (.iload 4, 2) := by decide +kernel
theorem dX9_keyHere_9 : decode cX9_keyHere 9 = .ok (.ldc 83, 2) := by decide +kernel
theorem dX9_keyHere_11 : decode cX9_keyHere 11 = .ok (.invokevirtual 85, 3) := by decide +kernel
theorem dX9_keyHere_14 : decode cX9_keyHere 14 = .ok (.if_icmp .ge 55, 3) := by decide +kernel
theorem dX9_keyHere_17 : decode cX9_keyHere 17 = .ok (.ldc 83, 2) := by decide +kernel
theorem dX9_keyHere_19 : decode cX9_keyHere 19 = .ok (.iload 4, 2) := by decide +kernel
theorem dX9_keyHere_21 : decode cX9_keyHere 21 = .ok (.invokevirtual 87, 3) := by decide +kernel
theorem dX9_keyHere_24 : decode cX9_keyHere 24 = .ok (.istore 5, 2) := by decide +kernel
theorem dX9_keyHere_26 : decode cX9_keyHere 26 = .ok (.iload 5, 2) := by decide +kernel
theorem dX9_keyHere_28 : decode cX9_keyHere 28 = .ok (.bipush 32, 2) := by decide +kernel
theorem dX9_keyHere_30 : decode cX9_keyHere 30 = .ok (.if_icmp .eq 17, 3) := by decide +kernel
theorem dX9_keyHere_33 : decode cX9_keyHere 33 = .ok (.lload_n 2, 1) := by decide +kernel
theorem dX9_keyHere_34 : decode cX9_keyHere 34 = .ok (.iconst 5, 1) := by decide +kernel
theorem dX9_keyHere_35 : decode cX9_keyHere 35 = .ok (.lshl, 1) := by decide +kernel
theorem dX9_keyHere_36 : decode cX9_keyHere 36 = .ok (.iload 5, 2) := by decide +kernel
theorem dX9_keyHere_38 : decode cX9_keyHere 38 = .ok (.bipush 31, 2) := by decide +kernel
theorem dX9_keyHere_40 : decode cX9_keyHere 40 = .ok (.iand, 1) := by decide +kernel
theorem dX9_keyHere_41 : decode cX9_keyHere 41 = .ok (.i2l, 1) := by decide +kernel
theorem dX9_keyHere_42 : decode cX9_keyHere 42 = .ok (.lor, 1) := by decide +kernel
theorem dX9_keyHere_43 : decode cX9_keyHere 43 = .ok (.lstore_n 2, 1) := by decide +kernel
theorem dX9_keyHere_44 : decode cX9_keyHere 44 = .ok (.goto 19, 3) := by decide +kernel
theorem dX9_keyHere_47 : decode cX9_keyHere 47 = .ok (.lload_n 2, 1) := by decide +kernel
theorem dX9_keyHere_48 : decode cX9_keyHere 48 = .ok (.aload_n 0, 1) := by decide +kernel
theorem dX9_keyHere_49 : decode cX9_keyHere 49 = .ok (.getfield 30, 3) := by decide +kernel
theorem dX9_keyHere_52 : decode cX9_keyHere 52 = .ok (.lcmp, 1) := by decide +kernel
theorem dX9_keyHere_53 : decode cX9_keyHere 53 = .ok (.ifCond .ne 5, 3) := by decide +kernel
theorem dX9_keyHere_56 : decode cX9_keyHere 56 = .ok (.iload_n 1, 1) := by decide +kernel
theorem dX9_keyHere_57 : decode cX9_keyHere 57 = .ok (.ireturn, 1) := by decide +kernel
theorem dX9_keyHere_58 : decode cX9_keyHere 58 = .ok (.iinc 1 1, 3) := by decide +kernel
theorem dX9_keyHere_61 : decode cX9_keyHere 61 = .ok (.lconst 0, 1) := by decide +kernel
theorem dX9_keyHere_62 : decode cX9_keyHere 62 = .ok (.lstore_n 2, 1) := by decide +kernel
theorem dX9_keyHere_63 : decode cX9_keyHere 63 = .ok (.iinc 4 1, 3) := by decide +kernel
theorem dX9_keyHere_66 : decode cX9_keyHere 66 = .ok (.goto (-59), 3) := by decide +kernel
theorem dX9_keyHere_69 : decode cX9_keyHere 69 = .ok (.iconst 0, 1) := by decide +kernel
theorem dX9_keyHere_70 : decode cX9_keyHere 70 = .ok (.ireturn, 1) := by decide +kernel
def f_Tok_keyHere (n : Nat)   (σ : JSg) : Option (Int) :=
  lt_ 1 fun v1 => lt_ 0 fun v2 => lt_ 0 fun v3 => wh3 n (fun rc4 (x5 : Int) (x6 : Int) (x7 : Int) => if x7 < 106 then (chk (0 ≤ x7 ∧ x7 < 106) <| lt_ (txc 1 x7) fun v8 => jn2 (fun (y10 : Int) (y11 : Int) => lt_ (w32 (x7 + 1)) fun v12 => rc4 y10 y11 v12) fun j9 => if v8 = 32 then (if (cmpL x6 (σ 2 7)) = 0 then (some x5) else (lt_ (w32 (x5 + 1)) fun v13 => lt_ 0 fun v14 => j9 v13 v14)) else (lt_ (or64 (sl64 x6 5) (an32 v8 31)) fun v15 => j9 x5 v15)) else (some 0)) v1 v2 v3
set_option maxRecDepth 20000 in
set_option maxHeartbeats 4000000 in
theorem k_Tok_keyHere  (n : Nat)    (σ : JSg) : Call yX9_keyHere cX9_keyHere 6 (some .int) 6 SH RHO [vR 2] σ (dIp σ) (f_Tok_keyHere n σ) := by
  refine call_of_sim (by decide +kernel) (Nat.le_of_ble_eq_true rfl) ?_
  show Sim RX9 cX9_keyHere 6 (some .int) 6 SH RHO 0 [(0, vR 2)] [] σ (dIp σ) (f_Tok_keyHere n σ)
  unfold f_Tok_keyHere
  refine sim_iconst dX9_keyHere_0 (by decide) ?_
  refine sim_istore_n (fun v1 => [(1, vI v1), (0, vR 2)]) (fun _ => rfl) (by decide) dX9_keyHere_1 (fun v1 => ?_)
  refine sim_lconst (v := 0) dX9_keyHere_2 (by decide +kernel) ?_
  refine sim_lstore_n (fun v2 => [(2, vL v2), (1, vI v1), (0, vR 2)]) (fun _ => rfl) (by decide) dX9_keyHere_3 (fun v2 => ?_)
  refine sim_iconst dX9_keyHere_4 (by decide) ?_
  refine sim_istore (fun v3 => [(4, vI v3), (2, vL v2), (1, vI v1), (0, vR 2)]) (fun _ => rfl) (by decide) dX9_keyHere_5 (fun v3 => ?_)
  refine sim_sub [3, 2, 1, 0] (L' := [(0, vR 2), (1, vI v1), (2, vL v2), (4, vI v3)]) rfl ?_
  refine sim_wh3 (fun (x5 : Int) (x6 : Int) (x7 : Int) => [(0, vR 2), (1, vI x5), (2, vL x6), (4, vI x7)]) (fun (x5 : Int) (x6 : Int) (x7 : Int) => σ) ?_ n v1 v2 v3
  intro rc4 hrc4 x5 x6 x7
  refine sim_iload 3 rfl dX9_keyHere_7 ?_
  refine sim_ldcT1 dX9_keyHere_9 ?_
  refine sim_sLen1 (by decide) (Nat.le_of_ble_eq_true rfl) dX9_keyHere_11 ?_
  refine sim_icmp_ge (tgt := 69) dX9_keyHere_14 (by decide) ?_ ?_
  · refine sim_iconst dX9_keyHere_69 (by decide) ?_
    exact sim_iret rfl rfl dX9_keyHere_70
  · refine sim_ldcT1 dX9_keyHere_17 ?_
    refine sim_iload 3 rfl dX9_keyHere_19 ?_
    refine sim_sCh1 (by decide) (Nat.le_of_ble_eq_true rfl) dX9_keyHere_21 ?_
    refine sim_istore (fun v8 => [(5, vI v8), (0, vR 2), (1, vI x5), (2, vL x6), (4, vI x7)]) (fun _ => rfl) (by decide) dX9_keyHere_24 (fun v8 => ?_)
    refine sim_iload 0 rfl dX9_keyHere_26 ?_
    refine sim_bipush dX9_keyHere_28 (by decide +kernel) ?_
    refine sim_jn2 (pc' := 63) (fun (y10 : Int) (y11 : Int) => [(0, vR 2), (1, vI y10), (2, vL y11), (4, vI x7)]) (fun (y10 : Int) (y11 : Int) => []) (fun (y10 : Int) (y11 : Int) => σ) ?_ (fun j9 hj9 => ?_)
    · intro y10 y11
      refine sim_iinc 3 rfl (fun v12 => [(4, vI v12), (0, vR 2), (1, vI y10), (2, vL y11)]) (fun _ => rfl) (by decide) dX9_keyHere_63 (fun v12 => ?_)
      refine sim_goto (tgt := 7) dX9_keyHere_66 (by decide) ?_
      exact sim_sub [1, 2, 3, 0] rfl (hrc4 y10 y11 v12)
    refine sim_icmp_eq (tgt := 47) dX9_keyHere_30 (by decide) ?_ ?_
    · refine sim_lload_n 3 rfl dX9_keyHere_47 ?_
      refine sim_aload_n 1 rfl dX9_keyHere_48 ?_
      refine sim_getL g_RX9_30 sh_2 dX9_keyHere_49 ?_
      refine sim_lcmp dX9_keyHere_52 ?_
      refine sim_if_ne (tgt := 58) dX9_keyHere_53 (by decide) ?_ ?_
      · refine sim_iinc 2 rfl (fun v13 => [(1, vI v13), (5, vI v8), (0, vR 2), (2, vL x6), (4, vI x7)]) (fun _ => rfl) (by decide) dX9_keyHere_58 (fun v13 => ?_)
        refine sim_lconst (v := 0) dX9_keyHere_61 (by decide +kernel) ?_
        refine sim_lstore_n (fun v14 => [(2, vL v14), (1, vI v13), (5, vI v8), (0, vR 2), (4, vI x7)]) (fun _ => rfl) (by decide) dX9_keyHere_62 (fun v14 => ?_)
        exact sim_sub [3, 1, 0, 4] rfl (hj9 v13 v14)
      · refine sim_iload_n 2 rfl dX9_keyHere_56 ?_
        exact sim_iret rfl rfl dX9_keyHere_57
    · refine sim_lload_n 3 rfl dX9_keyHere_33 ?_
      refine sim_iconst dX9_keyHere_34 (by decide) ?_
      refine sim_lshl dX9_keyHere_35 ?_
      refine sim_iload 0 rfl dX9_keyHere_36 ?_
      refine sim_bipush dX9_keyHere_38 (by decide +kernel) ?_
      refine sim_iand dX9_keyHere_40 ?_
      refine sim_i2l dX9_keyHere_41 ?_
      refine sim_lor dX9_keyHere_42 ?_
      refine sim_lstore_n (fun v15 => [(2, vL v15), (5, vI v8), (0, vR 2), (1, vI x5), (4, vI x7)]) (fun _ => rfl) (by decide) dX9_keyHere_43 (fun v15 => ?_)
      refine sim_goto (tgt := 63) dX9_keyHere_44 (by decide) ?_
      exact sim_sub [2, 3, 0, 4] rfl (hj9 x5 v15)
theorem dX9_step_0 : decode cX9_step 0 = .ok (.aload_n 0, 1) := by decide +kernel
theorem dX9_step_1 : decode cX9_step 1 = .ok (.iconst 0, 1) := by decide +kernel
theorem dX9_step_2 : decode cX9_step 2 = .ok (.putfield 27, 3) := by decide +kernel
theorem dX9_step_5 : decode cX9_step 5 = .ok (.aload_n 0, 1) := by decide +kernel
theorem dX9_step_6 : decode cX9_step 6 = .ok (.iconst 0, 1) := by decide +kernel
theorem dX9_step_7 : decode cX9_step 7 = .ok (.putfield 37, 3) := by decide +kernel
theorem dX9_step_10 : decode cX9_step 10 = .ok (.aload_n 0, 1) := by decide +kernel
theorem dX9_step_11 : decode cX9_step 11 = .ok (.getfield 18, 3) := by decide +kernel
theorem dX9_step_14 : decode cX9_step 14 = .ok (.aload_n 0, 1) := by decide +kernel
theorem dX9_step_15 : decode cX9_step 15 = .ok (.getfield 9, 3) := by decide +kernel
theorem dX9_step_18 : decode cX9_step 18 = .ok (.if_icmp .ge 44, 3) := by decide +kernel
theorem dX9_step_21 : decode cX9_step 21 = .ok (.aload_n 0, 1) := by decide +kernel
theorem dX9_step_22 : decode cX9_step 22 = .ok (.getfield 52, 3) := by decide +kernel
theorem dX9_step_25 : decode cX9_step 25 = .ok (.aload_n 0, 1) := by decide +kernel
theorem dX9_step_26 : decode cX9_step 26 = .ok (.getfield 18, 3) := by decide +kernel
theorem dX9_step_29 : decode cX9_step 29 = .ok (.baload, 1) := by decide +kernel
theorem dX9_step_30 : decode cX9_step 30 = .ok (.bipush 32, 2) := by decide +kernel
theorem dX9_step_32 : decode cX9_step 32 = .ok (.if_icmp .eq 17, 3) := by decide +kernel
theorem dX9_step_35 : decode cX9_step 35 = .ok (.aload_n 0, 1) := by decide +kernel
theorem dX9_step_36 : decode cX9_step 36 = .ok (.getfield 52, 3) := by decide +kernel
theorem dX9_step_39 : decode cX9_step 39 = .ok (.aload_n 0, 1) := by decide +kernel
theorem dX9_step_40 : decode cX9_step 40 = .ok (.getfield 18, 3) := by decide +kernel
theorem dX9_step_43 : decode cX9_step 43 = .ok (.baload, 1) := by decide +kernel
theorem dX9_step_44 : decode cX9_step 44 = .ok (.bipush 10, 2) := by decide +kernel
theorem dX9_step_46 : decode cX9_step 46 = .ok (.if_icmp .ne 16, 3) := by decide +kernel
theorem dX9_step_49 : decode cX9_step 49 = .ok (.aload_n 0, 1) := by decide +kernel
theorem dX9_step_50 : decode cX9_step 50 = .ok (.dup, 1) := by decide +kernel
theorem dX9_step_51 : decode cX9_step 51 = .ok (.getfield 18, 3) := by decide +kernel
theorem dX9_step_54 : decode cX9_step 54 = .ok (.iconst 1, 1) := by decide +kernel
theorem dX9_step_55 : decode cX9_step 55 = .ok (.iadd, 1) := by decide +kernel
theorem dX9_step_56 : decode cX9_step 56 = .ok (.putfield 18, 3) := by decide +kernel
theorem dX9_step_59 : decode cX9_step 59 = .ok (.goto (-49), 3) := by decide +kernel
theorem dX9_step_62 : decode cX9_step 62 = .ok (.aload_n 0, 1) := by decide +kernel
theorem dX9_step_63 : decode cX9_step 63 = .ok (.aload_n 0, 1) := by decide +kernel
theorem dX9_step_64 : decode cX9_step 64 = .ok (.getfield 18, 3) := by decide +kernel
theorem dX9_step_67 : decode cX9_step 67 = .ok (.putfield 24, 3) := by decide +kernel
theorem dX9_step_70 : decode cX9_step 70 = .ok (.aload_n 0, 1) := by decide +kernel
theorem dX9_step_71 : decode cX9_step 71 = .ok (.getfield 18, 3) := by decide +kernel
theorem dX9_step_74 : decode cX9_step 74 = .ok (.aload_n 0, 1) := by decide +kernel
theorem dX9_step_75 : decode cX9_step 75 = .ok (.getfield 9, 3) := by decide +kernel
theorem dX9_step_78 : decode cX9_step 78 = .ok (.if_icmp .ge 14, 3) := by decide +kernel
theorem dX9_step_81 : decode cX9_step 81 = .ok (.aload_n 0, 1) := by decide +kernel
theorem dX9_step_82 : decode cX9_step 82 = .ok (.getfield 18, 3) := by decide +kernel
theorem dX9_step_85 : decode cX9_step 85 = .ok (.aload_n 0, 1) := by decide +kernel
theorem dX9_step_86 : decode cX9_step 86 = .ok (.getfield 15, 3) := by decide +kernel
theorem dX9_step_89 : decode cX9_step 89 = .ok (.if_icmp .lt 39, 3) := by decide +kernel
theorem dX9_step_92 : decode cX9_step 92 = .ok (.aload_n 0, 1) := by decide +kernel
theorem dX9_step_93 : decode cX9_step 93 = .ok (.aload_n 0, 1) := by decide +kernel
theorem dX9_step_94 : decode cX9_step 94 = .ok (.getfield 9, 3) := by decide +kernel
theorem dX9_step_97 : decode cX9_step 97 = .ok (.aload_n 0, 1) := by decide +kernel
theorem dX9_step_98 : decode cX9_step 98 = .ok (.getfield 15, 3) := by decide +kernel
theorem dX9_step_101 : decode cX9_step 101 = .ok (.if_icmp .le 7, 3) := by decide +kernel
theorem dX9_step_104 : decode cX9_step 104 = .ok (.iconst 1, 1) := by decide +kernel
theorem dX9_step_105 : decode cX9_step 105 = .ok (.goto 4, 3) := by decide +kernel
theorem dX9_step_108 : decode cX9_step 108 = .ok (.iconst 0, 1) := by decide +kernel
theorem dX9_step_109 : decode cX9_step 109 = .ok (.putfield 21, 3) := by decide +kernel
theorem dX9_step_112 : decode cX9_step 112 = .ok (.aload_n 0, 1) := by decide +kernel
theorem dX9_step_113 : decode cX9_step 113 = .ok (.aload_n 0, 1) := by decide +kernel
theorem dX9_step_114 : decode cX9_step 114 = .ok (.getfield 9, 3) := by decide +kernel
theorem dX9_step_117 : decode cX9_step 117 = .ok (.aload_n 0, 1) := by decide +kernel
theorem dX9_step_118 : decode cX9_step 118 = .ok (.getfield 15, 3) := by decide +kernel
theorem dX9_step_121 : decode cX9_step 121 = .ok (.invokestatic 56, 3) := by decide +kernel
theorem dX9_step_124 : decode cX9_step 124 = .ok (.putfield 24, 3) := by decide +kernel
theorem dX9_step_127 : decode cX9_step 127 = .ok (.return_, 1) := by decide +kernel
theorem dX9_step_128 : decode cX9_step 128 = .ok (.aload_n 0, 1) := by decide +kernel
theorem dX9_step_129 : decode cX9_step 129 = .ok (.invokevirtual 65, 3) := by decide +kernel
theorem dX9_step_132 : decode cX9_step 132 = .ok (.aload_n 0, 1) := by decide +kernel
theorem dX9_step_133 : decode cX9_step 133 = .ok (.getfield 18, 3) := by decide +kernel
theorem dX9_step_136 : decode cX9_step 136 = .ok (.aload_n 0, 1) := by decide +kernel
theorem dX9_step_137 : decode cX9_step 137 = .ok (.getfield 24, 3) := by decide +kernel
theorem dX9_step_140 : decode cX9_step 140 = .ok (.if_icmp .ne 10, 3) := by decide +kernel
theorem dX9_step_143 : decode cX9_step 143 = .ok (.aload_n 0, 1) := by decide +kernel
theorem dX9_step_144 : decode cX9_step 144 = .ok (.invokevirtual 68, 3) := by decide +kernel
theorem dX9_step_147 : decode cX9_step 147 = .ok (.goto 19, 3) := by decide +kernel
theorem dX9_step_150 : decode cX9_step 150 = .ok (.aload_n 0, 1) := by decide +kernel
theorem dX9_step_151 : decode cX9_step 151 = .ok (.getfield 21, 3) := by decide +kernel
theorem dX9_step_154 : decode cX9_step 154 = .ok (.iconst 3, 1) := by decide +kernel
theorem dX9_step_155 : decode cX9_step 155 = .ok (.if_icmp .ne 11, 3) := by decide +kernel
theorem dX9_step_158 : decode cX9_step 158 = .ok (.aload_n 0, 1) := by decide +kernel
theorem dX9_step_159 : decode cX9_step 159 = .ok (.aload_n 0, 1) := by decide +kernel
theorem dX9_step_160 : decode cX9_step 160 = .ok (.invokevirtual 71, 3) := by decide +kernel
theorem dX9_step_163 : decode cX9_step 163 = .ok (.putfield 27, 3) := by decide +kernel
theorem dX9_step_166 : decode cX9_step 166 = .ok (.return_, 1) := by decide +kernel
def f_Tok_step (n : Nat)   (σ : JSg) : Option (JSg) :=
  lt_ (sp σ 2 6 0) fun s1 => lt_ (sp s1 2 9 0) fun s2 => wh1 n (fun rc3  (s4 : JSg) => jn0 (lt_ (sp s4 2 5 (s4 2 3)) fun s6 => jn0 (jn1 (fun (u9 : Int) => lt_ (sp s6 2 4 u9) fun s10 => lt_ (sp s10 2 5 (min (s10 2 1) (s10 2 2))) fun s11 => some s11) fun j8 => if (s6 2 2) < (s6 2 1) then (j8 1) else (j8 0)) fun j7 => if (s6 2 3) < (s6 2 1) then (if (s6 2 3) < (s6 2 2) then (bd1 (f_Tok_readRun n s6) fun s12 => if (s12 2 3) = (s12 2 5) then (bd1 (f_Tok_readSign s12) fun s15 => some s15) else (if (s12 2 4) = 3 then (bd1 (f_Tok_keyHere n s12) fun r13 => lt_ (sp s12 2 6 r13) fun s14 => some s14) else (some s12))) else (j7)) else (j7)) fun j5 => if (s4 2 3) < (s4 2 1) then (chk (0 ≤ (s4 2 3) ∧ (s4 2 3) < 940) <| jn0 (lt_ (sp s4 2 3 (w32 ((s4 2 3) + 1))) fun s17 => rc3 s17) fun j16 => if (s4 1 (s4 2 3).toNat) = 32 then (j16) else (chk (0 ≤ (s4 2 3) ∧ (s4 2 3) < 940) <| if (s4 1 (s4 2 3).toNat) = 10 then (j16) else (j5))) else (j5)) s2
set_option maxRecDepth 20000 in
set_option maxHeartbeats 4000000 in
theorem k_Tok_step  (n : Nat)    (σ : JSg) : Call yX9_step cX9_step 1 none 7 SH RHO [vR 2] σ dVm (f_Tok_step n σ) := by
  refine call_of_sim (by decide +kernel) (Nat.le_of_ble_eq_true rfl) ?_
  show Sim RX9 cX9_step 1 none 7 SH RHO 0 [(0, vR 2)] [] σ dVm (f_Tok_step n σ)
  unfold f_Tok_step
  refine sim_aload_n 0 rfl dX9_step_0 ?_
  refine sim_iconst dX9_step_1 (by decide) ?_
  refine sim_putI g_RX9_27 sh_2 dX9_step_2 (fun s1 => ?_)
  refine sim_aload_n 0 rfl dX9_step_5 ?_
  refine sim_iconst dX9_step_6 (by decide) ?_
  refine sim_putI g_RX9_37 sh_2 dX9_step_7 (fun s2 => ?_)
  refine sim_sub [0] (L' := [(0, vR 2)]) rfl ?_
  refine sim_wh1 (fun  (s4 : JSg) => [(0, vR 2)]) (fun  (s4 : JSg) => s4) ?_ n s2
  intro rc3 hrc3 s4
  refine sim_aload_n 0 rfl dX9_step_10 ?_
  refine sim_getI g_RX9_18 sh_2 dX9_step_11 ?_
  refine sim_aload_n 0 rfl dX9_step_14 ?_
  refine sim_getI g_RX9_9 sh_2 dX9_step_15 ?_
  refine sim_jn0 (pc' := 62) ([(0, vR 2)]) ([]) (s4) ?_ (fun j5 hj5 => ?_)
  · refine sim_aload_n 0 rfl dX9_step_62 ?_
    refine sim_aload_n 0 rfl dX9_step_63 ?_
    refine sim_getI g_RX9_18 sh_2 dX9_step_64 ?_
    refine sim_putI g_RX9_24 sh_2 dX9_step_67 (fun s6 => ?_)
    refine sim_aload_n 0 rfl dX9_step_70 ?_
    refine sim_getI g_RX9_18 sh_2 dX9_step_71 ?_
    refine sim_aload_n 0 rfl dX9_step_74 ?_
    refine sim_getI g_RX9_9 sh_2 dX9_step_75 ?_
    refine sim_jn0 (pc' := 92) ([(0, vR 2)]) ([]) (s6) ?_ (fun j7 hj7 => ?_)
    · refine sim_aload_n 0 rfl dX9_step_92 ?_
      refine sim_aload_n 0 rfl dX9_step_93 ?_
      refine sim_getI g_RX9_9 sh_2 dX9_step_94 ?_
      refine sim_aload_n 0 rfl dX9_step_97 ?_
      refine sim_getI g_RX9_15 sh_2 dX9_step_98 ?_
      refine sim_jn1 (pc' := 109) (fun (u9 : Int) => [(0, vR 2)]) (fun (u9 : Int) => [vI u9, vR 2]) (fun (u9 : Int) => s6) ?_ (fun j8 hj8 => ?_)
      · intro u9
        refine sim_putI g_RX9_21 sh_2 dX9_step_109 (fun s10 => ?_)
        refine sim_aload_n 0 rfl dX9_step_112 ?_
        refine sim_aload_n 0 rfl dX9_step_113 ?_
        refine sim_getI g_RX9_9 sh_2 dX9_step_114 ?_
        refine sim_aload_n 0 rfl dX9_step_117 ?_
        refine sim_getI g_RX9_15 sh_2 dX9_step_118 ?_
        refine sim_mmin w_573 w_574 w_14 w_575 (by decide) (Nat.le_of_ble_eq_true rfl) dX9_step_121 ?_
        refine sim_putI g_RX9_24 sh_2 dX9_step_124 (fun s11 => ?_)
        exact sim_vret rfl rfl dX9_step_127
      refine sim_icmp_le (tgt := 108) dX9_step_101 (by decide) ?_ ?_
      · refine sim_iconst dX9_step_108 (by decide) ?_
        exact sim_sub [0] rfl (hj8 0)
      · refine sim_iconst dX9_step_104 (by decide) ?_
        refine sim_goto (tgt := 109) dX9_step_105 (by decide) ?_
        exact sim_sub [0] rfl (hj8 1)
    refine sim_icmp_ge (tgt := 92) dX9_step_78 (by decide) ?_ ?_
    · exact sim_sub [0] rfl (hj7 )
    · refine sim_aload_n 0 rfl dX9_step_81 ?_
      refine sim_getI g_RX9_18 sh_2 dX9_step_82 ?_
      refine sim_aload_n 0 rfl dX9_step_85 ?_
      refine sim_getI g_RX9_15 sh_2 dX9_step_86 ?_
      refine sim_icmp_lt (tgt := 128) dX9_step_89 (by decide) ?_ ?_
      · refine sim_aload_n 0 rfl dX9_step_128 ?_
        refine sim_callVVm v_RX9_65 sh_2 dX9_step_129 (k_Tok_readRun n s6) rfl ⟨by decide, by decide⟩ (S := []) rfl (Nat.le_of_ble_eq_true rfl) (fun s12 => ?_)
        refine sim_aload_n 0 rfl dX9_step_132 ?_
        refine sim_getI g_RX9_18 sh_2 dX9_step_133 ?_
        refine sim_aload_n 0 rfl dX9_step_136 ?_
        refine sim_getI g_RX9_24 sh_2 dX9_step_137 ?_
        refine sim_icmp_ne (tgt := 150) dX9_step_140 (by decide) ?_ ?_
        · refine sim_aload_n 0 rfl dX9_step_150 ?_
          refine sim_getI g_RX9_21 sh_2 dX9_step_151 ?_
          refine sim_iconst dX9_step_154 (by decide) ?_
          refine sim_icmp_ne (tgt := 166) dX9_step_155 (by decide) ?_ ?_
          · exact sim_vret rfl rfl dX9_step_166
          · refine sim_aload_n 0 rfl dX9_step_158 ?_
            refine sim_aload_n 0 rfl dX9_step_159 ?_
            refine sim_callVIp v_RX9_71 sh_2 dX9_step_160 (k_Tok_keyHere n s12) rfl ⟨by decide, by decide⟩ (S := [vR 2]) rfl (Nat.le_of_ble_eq_true rfl) (fun r13 => ?_)
            refine sim_putI g_RX9_27 sh_2 dX9_step_163 (fun s14 => ?_)
            exact sim_vret rfl rfl dX9_step_166
        · refine sim_aload_n 0 rfl dX9_step_143 ?_
          refine sim_callVVm v_RX9_68 sh_2 dX9_step_144 (k_Tok_readSign s12) rfl ⟨by decide, by decide⟩ (S := []) rfl (Nat.le_of_ble_eq_true rfl) (fun s15 => ?_)
          refine sim_goto (tgt := 166) dX9_step_147 (by decide) ?_
          exact sim_vret rfl rfl dX9_step_166
      · exact sim_sub [0] rfl (hj7 )
  refine sim_icmp_ge (tgt := 62) dX9_step_18 (by decide) ?_ ?_
  · exact sim_sub [0] rfl (hj5 )
  · refine sim_aload_n 0 rfl dX9_step_21 ?_
    refine sim_getR g_RX9_52 sh_2 rh_2_0 dX9_step_22 ?_
    refine sim_aload_n 0 rfl dX9_step_25 ?_
    refine sim_getI g_RX9_18 sh_2 dX9_step_26 ?_
    refine sim_baload sh_1 rfl dX9_step_29 ?_
    refine sim_bipush dX9_step_30 (by decide +kernel) ?_
    refine sim_jn0 (pc' := 49) ([(0, vR 2)]) ([]) (s4) ?_ (fun j16 hj16 => ?_)
    · refine sim_aload_n 0 rfl dX9_step_49 ?_
      refine sim_dup rfl dX9_step_50 ?_
      refine sim_getI g_RX9_18 sh_2 dX9_step_51 ?_
      refine sim_iconst dX9_step_54 (by decide) ?_
      refine sim_iadd dX9_step_55 ?_
      refine sim_putI g_RX9_18 sh_2 dX9_step_56 (fun s17 => ?_)
      refine sim_goto (tgt := 10) dX9_step_59 (by decide) ?_
      exact sim_sub [0] rfl (hrc3 s17)
    refine sim_icmp_eq (tgt := 49) dX9_step_32 (by decide) ?_ ?_
    · exact sim_sub [0] rfl (hj16 )
    · refine sim_aload_n 0 rfl dX9_step_35 ?_
      refine sim_getR g_RX9_52 sh_2 rh_2_0 dX9_step_36 ?_
      refine sim_aload_n 0 rfl dX9_step_39 ?_
      refine sim_getI g_RX9_18 sh_2 dX9_step_40 ?_
      refine sim_baload sh_1 rfl dX9_step_43 ?_
      refine sim_bipush dX9_step_44 (by decide +kernel) ?_
      refine sim_icmp_ne (tgt := 62) dX9_step_46 (by decide) ?_ ?_
      · exact sim_sub [0] rfl (hj5 )
      · exact sim_sub [0] rfl (hj16 )
theorem dX9_begin_0 : decode cX9_begin 0 = .ok (.aload_n 0, 1) := by decide +kernel
theorem dX9_begin_1 : decode cX9_begin 1 = .ok (.iload_n 1, 1) := by decide +kernel
theorem dX9_begin_2 : decode cX9_begin 2 = .ok (.aload_n 0, 1) := by decide +kernel
theorem dX9_begin_3 : decode cX9_begin 3 = .ok (.getfield 52, 3) := by decide +kernel
theorem dX9_begin_6 : decode cX9_begin 6 = .ok (.arraylength, 1) := by decide +kernel
theorem dX9_begin_7 : decode cX9_begin 7 = .ok (.invokestatic 56, 3) := by decide +kernel
theorem dX9_begin_10 : decode cX9_begin 10 = .ok (.putfield 9, 3) := by decide +kernel
theorem dX9_begin_13 : decode cX9_begin 13 = .ok (.aload_n 0, 1) := by decide +kernel
theorem dX9_begin_14 : decode cX9_begin 14 = .ok (.iload_n 2, 1) := by decide +kernel
theorem dX9_begin_15 : decode cX9_begin 15 = .ok (.putfield 15, 3) := by decide +kernel
theorem dX9_begin_18 : decode cX9_begin 18 = .ok (.aload_n 0, 1) := by decide +kernel
theorem dX9_begin_19 : decode cX9_begin 19 = .ok (.iconst 0, 1) := by decide +kernel
theorem dX9_begin_20 : decode cX9_begin 20 = .ok (.putfield 18, 3) := by decide +kernel
theorem dX9_begin_23 : decode cX9_begin 23 = .ok (.aload_n 0, 1) := by decide +kernel
theorem dX9_begin_24 : decode cX9_begin 24 = .ok (.iconst 0, 1) := by decide +kernel
theorem dX9_begin_25 : decode cX9_begin 25 = .ok (.putfield 46, 3) := by decide +kernel
theorem dX9_begin_28 : decode cX9_begin 28 = .ok (.aload_n 0, 1) := by decide +kernel
theorem dX9_begin_29 : decode cX9_begin 29 = .ok (.iconst 0, 1) := by decide +kernel
theorem dX9_begin_30 : decode cX9_begin 30 = .ok (.putfield 49, 3) := by decide +kernel
theorem dX9_begin_33 : decode cX9_begin 33 = .ok (.aload_n 0, 1) := by decide +kernel
theorem dX9_begin_34 : decode cX9_begin 34 = .ok (.invokevirtual 62, 3) := by decide +kernel
theorem dX9_begin_37 : decode cX9_begin 37 = .ok (.return_, 1) := by decide +kernel
def f_Tok_begin (n : Nat)  (a1 : Int) (a2 : Int) (σ : JSg) : Option (JSg) :=
  lt_ (sp σ 2 1 (min a1 940)) fun s1 => lt_ (sp s1 2 2 a2) fun s2 => lt_ (sp s2 2 3 0) fun s3 => lt_ (sp s3 2 12 0) fun s4 => lt_ (sp s4 2 13 0) fun s5 => bd1 (f_Tok_step n s5) fun s6 => some s6
set_option maxRecDepth 20000 in
set_option maxHeartbeats 4000000 in
theorem k_Tok_begin  (n : Nat)   (a1 : Int) (a2 : Int) (σ : JSg) : Call yX9_begin cX9_begin 3 none 8 SH RHO [vR 2, vI a1, vI a2] σ dVm (f_Tok_begin n a1 a2 σ) := by
  refine call_of_sim (by decide +kernel) (Nat.le_of_ble_eq_true rfl) ?_
  show Sim RX9 cX9_begin 3 none 8 SH RHO 0 [(0, vR 2), (1, vI a1), (2, vI a2)] [] σ dVm (f_Tok_begin n a1 a2 σ)
  unfold f_Tok_begin
  refine sim_aload_n 0 rfl dX9_begin_0 ?_
  refine sim_iload_n 1 rfl dX9_begin_1 ?_
  refine sim_aload_n 0 rfl dX9_begin_2 ?_
  refine sim_getR g_RX9_52 sh_2 rh_2_0 dX9_begin_3 ?_
  refine sim_alen sh_1 (by decide) ⟨rfl, okI_lit (by decide)⟩ dX9_begin_6 ?_
  refine sim_mmin w_573 w_574 w_14 w_575 (by decide) (Nat.le_of_ble_eq_true rfl) dX9_begin_7 ?_
  refine sim_putI g_RX9_9 sh_2 dX9_begin_10 (fun s1 => ?_)
  refine sim_aload_n 0 rfl dX9_begin_13 ?_
  refine sim_iload_n 2 rfl dX9_begin_14 ?_
  refine sim_putI g_RX9_15 sh_2 dX9_begin_15 (fun s2 => ?_)
  refine sim_aload_n 0 rfl dX9_begin_18 ?_
  refine sim_iconst dX9_begin_19 (by decide) ?_
  refine sim_putI g_RX9_18 sh_2 dX9_begin_20 (fun s3 => ?_)
  refine sim_aload_n 0 rfl dX9_begin_23 ?_
  refine sim_iconst dX9_begin_24 (by decide) ?_
  refine sim_putI g_RX9_46 sh_2 dX9_begin_25 (fun s4 => ?_)
  refine sim_aload_n 0 rfl dX9_begin_28 ?_
  refine sim_iconst dX9_begin_29 (by decide) ?_
  refine sim_putI g_RX9_49 sh_2 dX9_begin_30 (fun s5 => ?_)
  refine sim_aload_n 0 rfl dX9_begin_33 ?_
  refine sim_callVVm v_RX9_62 sh_2 dX9_begin_34 (k_Tok_step n s5) rfl ⟨by decide, by decide⟩ (S := []) rfl (Nat.le_of_ble_eq_true rfl) (fun s6 => ?_)
  exact sim_vret rfl rfl dX9_begin_37
theorem dX11_takeTape_0 : decode cX11_takeTape 0 = .ok (.aload_n 0, 1) := by decide +kernel
theorem dX11_takeTape_1 : decode cX11_takeTape 1 = .ok (.getfield 22, 3) := by decide +kernel
theorem dX11_takeTape_4 : decode cX11_takeTape 4 = .ok (.aload_n 0, 1) := by decide +kernel
theorem dX11_takeTape_5 : decode cX11_takeTape 5 = .ok (.getfield 13, 3) := by decide +kernel
theorem dX11_takeTape_8 : decode cX11_takeTape 8 = .ok (.iload_n 1, 1) := by decide +kernel
theorem dX11_takeTape_9 : decode cX11_takeTape 9 = .ok (.invokevirtual 376, 3) := by decide +kernel
theorem dX11_takeTape_12 : decode cX11_takeTape 12 = .ok (.aload_n 0, 1) := by decide +kernel
theorem dX11_takeTape_13 : decode cX11_takeTape 13 = .ok (.iconst 0, 1) := by decide +kernel
theorem dX11_takeTape_14 : decode cX11_takeTape 14 = .ok (.putfield 13, 3) := by decide +kernel
theorem dX11_takeTape_17 : decode cX11_takeTape 17 = .ok (.return_, 1) := by decide +kernel
def f_W_takeTape (n : Nat)  (a1 : Int) (σ : JSg) : Option (JSg) :=
  bd1 (f_Tok_begin n (σ 0 1) a1 σ) fun s1 => lt_ (sp s1 0 1 0) fun s2 => some s2
set_option maxRecDepth 20000 in
set_option maxHeartbeats 4000000 in
theorem k_W_takeTape  (n : Nat)   (a1 : Int) (σ : JSg) : Call yX11_takeTape cX11_takeTape 2 none 9 SH RHO [vR 0, vI a1] σ dVm (f_W_takeTape n a1 σ) := by
  refine call_of_sim (by decide +kernel) (Nat.le_of_ble_eq_true rfl) ?_
  show Sim RX11 cX11_takeTape 2 none 9 SH RHO 0 [(0, vR 0), (1, vI a1)] [] σ dVm (f_W_takeTape n a1 σ)
  unfold f_W_takeTape
  refine sim_aload_n 0 rfl dX11_takeTape_0 ?_
  refine sim_getR g_RX11_22 sh_0 rh_0_2 dX11_takeTape_1 ?_
  refine sim_aload_n 0 rfl dX11_takeTape_4 ?_
  refine sim_getI g_RX11_13 sh_0 dX11_takeTape_5 ?_
  refine sim_iload_n 1 rfl dX11_takeTape_8 ?_
  refine sim_callVVm v_RX11_376 sh_2 dX11_takeTape_9 (k_Tok_begin n (σ 0 1) a1 σ) rfl ⟨by decide, by decide⟩ (S := []) rfl (Nat.le_of_ble_eq_true rfl) (fun s1 => ?_)
  refine sim_aload_n 0 rfl dX11_takeTape_12 ?_
  refine sim_iconst dX11_takeTape_13 (by decide) ?_
  refine sim_putI g_RX11_13 sh_0 dX11_takeTape_14 (fun s2 => ?_)
  exact sim_vret rfl rfl dX11_takeTape_17
theorem dX11_count_0 : decode cX11_count 0 = .ok (.iload_n 1, 1) := by decide +kernel
theorem dX11_count_1 : decode cX11_count 1 = .ok (.tableswitch 129 0 7 #[47, 58, 69, 80, 91, 102, 113, 124], 47) := by decide +kernel
theorem dX11_count_48 : decode cX11_count 48 = .ok (.aload_n 0, 1) := by decide +kernel
theorem dX11_count_49 : decode cX11_count 49 = .ok (.getfield 29, 3) := by decide +kernel
theorem dX11_count_52 : decode cX11_count 52 = .ok (.getfield 54, 3) := by decide +kernel
theorem dX11_count_55 : decode cX11_count 55 = .ok (.getfield 257, 3) := by decide +kernel
theorem dX11_count_58 : decode cX11_count 58 = .ok (.ireturn, 1) := by decide +kernel
theorem dX11_count_59 : decode cX11_count 59 = .ok (.aload_n 0, 1) := by decide +kernel
theorem dX11_count_60 : decode cX11_count 60 = .ok (.getfield 29, 3) := by decide +kernel
theorem dX11_count_63 : decode cX11_count 63 = .ok (.getfield 54, 3) := by decide +kernel
theorem dX11_count_66 : decode cX11_count 66 = .ok (.getfield 279, 3) := by decide +kernel
theorem dX11_count_69 : decode cX11_count 69 = .ok (.ireturn, 1) := by decide +kernel
theorem dX11_count_70 : decode cX11_count 70 = .ok (.aload_n 0, 1) := by decide +kernel
theorem dX11_count_71 : decode cX11_count 71 = .ok (.getfield 29, 3) := by decide +kernel
theorem dX11_count_74 : decode cX11_count 74 = .ok (.getfield 54, 3) := by decide +kernel
theorem dX11_count_77 : decode cX11_count 77 = .ok (.getfield 370, 3) := by decide +kernel
theorem dX11_count_80 : decode cX11_count 80 = .ok (.ireturn, 1) := by decide +kernel
theorem dX11_count_81 : decode cX11_count 81 = .ok (.aload_n 0, 1) := by decide +kernel
theorem dX11_count_82 : decode cX11_count 82 = .ok (.getfield 29, 3) := by decide +kernel
theorem dX11_count_85 : decode cX11_count 85 = .ok (.getfield 54, 3) := by decide +kernel
theorem dX11_count_88 : decode cX11_count 88 = .ok (.getfield 373, 3) := by decide +kernel
theorem dX11_count_91 : decode cX11_count 91 = .ok (.ireturn, 1) := by decide +kernel
theorem dX11_count_92 : decode cX11_count 92 = .ok (.aload_n 0, 1) := by decide +kernel
theorem dX11_count_93 : decode cX11_count 93 = .ok (.getfield 29, 3) := by decide +kernel
theorem dX11_count_96 : decode cX11_count 96 = .ok (.getfield 54, 3) := by decide +kernel
theorem dX11_count_99 : decode cX11_count 99 = .ok (.getfield 237, 3) := by decide +kernel
theorem dX11_count_102 : decode cX11_count 102 = .ok (.ireturn, 1) := by decide +kernel
theorem dX11_count_103 : decode cX11_count 103 = .ok (.aload_n 0, 1) := by decide +kernel
theorem dX11_count_104 : decode cX11_count 104 = .ok (.getfield 29, 3) := by decide +kernel
theorem dX11_count_107 : decode cX11_count 107 = .ok (.getfield 72, 3) := by decide +kernel
theorem dX11_count_110 : decode cX11_count 110 = .ok (.getfield 205, 3) := by decide +kernel
theorem dX11_count_113 : decode cX11_count 113 = .ok (.ireturn, 1) := by decide +kernel
theorem dX11_count_114 : decode cX11_count 114 = .ok (.aload_n 0, 1) := by decide +kernel
theorem dX11_count_115 : decode cX11_count 115 = .ok (.getfield 29, 3) := by decide +kernel
theorem dX11_count_118 : decode cX11_count 118 = .ok (.getfield 98, 3) := by decide +kernel
theorem dX11_count_121 : decode cX11_count 121 = .ok (.getfield 306, 3) := by decide +kernel
theorem dX11_count_124 : decode cX11_count 124 = .ok (.ireturn, 1) := by decide +kernel
theorem dX11_count_125 : decode cX11_count 125 = .ok (.aload_n 0, 1) := by decide +kernel
theorem dX11_count_126 : decode cX11_count 126 = .ok (.getfield 13, 3) := by decide +kernel
theorem dX11_count_129 : decode cX11_count 129 = .ok (.ireturn, 1) := by decide +kernel
theorem dX11_count_130 : decode cX11_count 130 = .ok (.iconst (-1), 1) := by decide +kernel
theorem dX11_count_131 : decode cX11_count 131 = .ok (.ireturn, 1) := by decide +kernel
def f_W_count   (a1 : Int) (σ : JSg) : Option (Int) :=
  sw_ a1 0 [some (σ 4 1), some (σ 4 2), some (σ 4 3), some (σ 4 4), some (σ 4 5), some (σ 11 4), some (σ 18 0), some (σ 0 1)] (some (-1))
set_option maxRecDepth 20000 in
set_option maxHeartbeats 4000000 in
theorem k_W_count     (a1 : Int) (σ : JSg) : Call yX11_count cX11_count 2 (some .int) 0 SH RHO [vR 0, vI a1] σ (dIp σ) (f_W_count a1 σ) := by
  refine call_of_sim (by decide +kernel) (Nat.le_of_ble_eq_true rfl) ?_
  show Sim RX11 cX11_count 2 (some .int) 0 SH RHO 0 [(0, vR 0), (1, vI a1)] [] σ (dIp σ) (f_W_count a1 σ)
  unfold f_W_count
  refine sim_iload_n 1 rfl dX11_count_0 ?_
  refine sim_tsw2 (td := 130) [48, 59, 70, 81, 92, 103, 114, 125] dX11_count_1 (by decide) (by decide) (tsw_of (by decide +kernel)) ⟨?_, ?_, ?_, ?_, ?_, ?_, ?_, ?_, trivial⟩ ?_
  · refine sim_aload_n 0 rfl dX11_count_48 ?_
    refine sim_getR g_RX11_29 sh_0 rh_0_3 dX11_count_49 ?_
    refine sim_getR g_RX11_54 (LWld_o lay_3) rh_3_0 dX11_count_52 ?_
    refine sim_getI g_RX11_257 (LIsl_o lay_4) dX11_count_55 ?_
    exact sim_iret rfl rfl dX11_count_58
  · refine sim_aload_n 0 rfl dX11_count_59 ?_
    refine sim_getR g_RX11_29 sh_0 rh_0_3 dX11_count_60 ?_
    refine sim_getR g_RX11_54 (LWld_o lay_3) rh_3_0 dX11_count_63 ?_
    refine sim_getI g_RX11_279 (LIsl_o lay_4) dX11_count_66 ?_
    exact sim_iret rfl rfl dX11_count_69
  · refine sim_aload_n 0 rfl dX11_count_70 ?_
    refine sim_getR g_RX11_29 sh_0 rh_0_3 dX11_count_71 ?_
    refine sim_getR g_RX11_54 (LWld_o lay_3) rh_3_0 dX11_count_74 ?_
    refine sim_getI g_RX11_370 (LIsl_o lay_4) dX11_count_77 ?_
    exact sim_iret rfl rfl dX11_count_80
  · refine sim_aload_n 0 rfl dX11_count_81 ?_
    refine sim_getR g_RX11_29 sh_0 rh_0_3 dX11_count_82 ?_
    refine sim_getR g_RX11_54 (LWld_o lay_3) rh_3_0 dX11_count_85 ?_
    refine sim_getI g_RX11_373 (LIsl_o lay_4) dX11_count_88 ?_
    exact sim_iret rfl rfl dX11_count_91
  · refine sim_aload_n 0 rfl dX11_count_92 ?_
    refine sim_getR g_RX11_29 sh_0 rh_0_3 dX11_count_93 ?_
    refine sim_getR g_RX11_54 (LWld_o lay_3) rh_3_0 dX11_count_96 ?_
    refine sim_getI g_RX11_237 (LIsl_o lay_4) dX11_count_99 ?_
    exact sim_iret rfl rfl dX11_count_102
  · refine sim_aload_n 0 rfl dX11_count_103 ?_
    refine sim_getR g_RX11_29 sh_0 rh_0_3 dX11_count_104 ?_
    refine sim_getR g_RX11_72 (LWld_o lay_3) rh_3_1 dX11_count_107 ?_
    refine sim_getI g_RX11_205 (LRow_o lay_11) dX11_count_110 ?_
    exact sim_iret rfl rfl dX11_count_113
  · refine sim_aload_n 0 rfl dX11_count_114 ?_
    refine sim_getR g_RX11_29 sh_0 rh_0_3 dX11_count_115 ?_
    refine sim_getR g_RX11_98 (LWld_o lay_3) rh_3_2 dX11_count_118 ?_
    refine sim_getI g_RX11_306 (LMem_o lay_18) dX11_count_121 ?_
    exact sim_iret rfl rfl dX11_count_124
  · refine sim_aload_n 0 rfl dX11_count_125 ?_
    refine sim_getI g_RX11_13 sh_0 dX11_count_126 ?_
    exact sim_iret rfl rfl dX11_count_129
  · refine sim_iconst dX11_count_130 (by decide) ?_
    exact sim_iret rfl rfl dX11_count_131
theorem dX3_copyFrom_0 : decode cX3_copyFrom 0 = .ok (.aload_n 0, 1) := by decide +kernel
theorem dX3_copyFrom_1 : decode cX3_copyFrom 1 = .ok (.aload_n 1, 1) := by decide +kernel
theorem dX3_copyFrom_2 : decode cX3_copyFrom 2 = .ok (.getfield 11, 3) := by decide +kernel
theorem dX3_copyFrom_5 : decode cX3_copyFrom 5 = .ok (.putfield 11, 3) := by decide +kernel
theorem dX3_copyFrom_8 : decode cX3_copyFrom 8 = .ok (.aload_n 0, 1) := by decide +kernel
theorem dX3_copyFrom_9 : decode cX3_copyFrom 9 = .ok (.aload_n 1, 1) := by decide +kernel
theorem dX3_copyFrom_10 : decode cX3_copyFrom 10 = .ok (.getfield 15, 3) := by decide +kernel
theorem dX3_copyFrom_13 : decode cX3_copyFrom 13 = .ok (.putfield 15, 3) := by decide +kernel
theorem dX3_copyFrom_16 : decode cX3_copyFrom 16 = .ok (.aload_n 0, 1) := by decide +kernel
theorem dX3_copyFrom_17 : decode cX3_copyFrom 17 = .ok (.aload_n 1, 1) := by decide +kernel
theorem dX3_copyFrom_18 : decode cX3_copyFrom 18 = .ok (.getfield 18, 3) := by decide +kernel
theorem dX3_copyFrom_21 : decode cX3_copyFrom 21 = .ok (.putfield 18, 3) := by decide +kernel
theorem dX3_copyFrom_24 : decode cX3_copyFrom 24 = .ok (.aload_n 0, 1) := by decide +kernel
theorem dX3_copyFrom_25 : decode cX3_copyFrom 25 = .ok (.aload_n 1, 1) := by decide +kernel
theorem dX3_copyFrom_26 : decode cX3_copyFrom 26 = .ok (.getfield 21, 3) := by decide +kernel
theorem dX3_copyFrom_29 : decode cX3_copyFrom 29 = .ok (.putfield 21, 3) := by decide +kernel
theorem dX3_copyFrom_32 : decode cX3_copyFrom 32 = .ok (.aload_n 0, 1) := by decide +kernel
theorem dX3_copyFrom_33 : decode cX3_copyFrom 33 = .ok (.aload_n 1, 1) := by decide +kernel
theorem dX3_copyFrom_34 : decode cX3_copyFrom 34 = .ok (.getfield 24, 3) := by decide +kernel
theorem dX3_copyFrom_37 : decode cX3_copyFrom 37 = .ok (.putfield 24, 3) := by decide +kernel
theorem dX3_copyFrom_40 : decode cX3_copyFrom 40 = .ok (.aload_n 0, 1) := by decide +kernel
theorem dX3_copyFrom_41 : decode cX3_copyFrom 41 = .ok (.aload_n 1, 1) := by decide +kernel
theorem dX3_copyFrom_42 : decode cX3_copyFrom 42 = .ok (.getfield 27, 3) := by decide +kernel
theorem dX3_copyFrom_45 : decode cX3_copyFrom 45 = .ok (.putfield 27, 3) := by decide +kernel
theorem dX3_copyFrom_48 : decode cX3_copyFrom 48 = .ok (.aload_n 0, 1) := by decide +kernel
theorem dX3_copyFrom_49 : decode cX3_copyFrom 49 = .ok (.aload_n 1, 1) := by decide +kernel
theorem dX3_copyFrom_50 : decode cX3_copyFrom 50 = .ok (.getfield 30, 3) := by decide +kernel
theorem dX3_copyFrom_53 : decode cX3_copyFrom 53 = .ok (.putfield 30, 3) := by decide +kernel
theorem dX3_copyFrom_56 : decode cX3_copyFrom 56 = .ok (.aload_n 1, 1) := by decide +kernel
theorem dX3_copyFrom_57 : decode cX3_copyFrom 57 = .ok (.getfield 34, 3) := by decide +kernel
theorem dX3_copyFrom_60 : decode cX3_copyFrom 60 = .ok (.iconst 0, 1) := by decide +kernel
theorem dX3_copyFrom_61 : decode cX3_copyFrom 61 = .ok (.aload_n 0, 1) := by decide +kernel
theorem dX3_copyFrom_62 : decode cX3_copyFrom 62 = .ok (.getfield 34, 3) := by decide +kernel
theorem dX3_copyFrom_65 : decode cX3_copyFrom 65 = .ok (.iconst 0, 1) := by decide +kernel
theorem dX3_copyFrom_66 : decode cX3_copyFrom 66 = .ok (.bipush 6, 2) := by decide +kernel
theorem dX3_copyFrom_68 : decode cX3_copyFrom 68 = .ok (.invokestatic 63, 3) := by decide +kernel
theorem dX3_copyFrom_71 : decode cX3_copyFrom 71 = .ok (.aload_n 1, 1) := by decide +kernel
theorem dX3_copyFrom_72 : decode cX3_copyFrom 72 = .ok (.getfield 38, 3) := by decide +kernel
theorem dX3_copyFrom_75 : decode cX3_copyFrom 75 = .ok (.iconst 0, 1) := by decide +kernel
theorem dX3_copyFrom_76 : decode cX3_copyFrom 76 = .ok (.aload_n 0, 1) := by decide +kernel
theorem dX3_copyFrom_77 : decode cX3_copyFrom 77 = .ok (.getfield 38, 3) := by decide +kernel
theorem dX3_copyFrom_80 : decode cX3_copyFrom 80 = .ok (.iconst 0, 1) := by decide +kernel
theorem dX3_copyFrom_81 : decode cX3_copyFrom 81 = .ok (.bipush 28, 2) := by decide +kernel
theorem dX3_copyFrom_83 : decode cX3_copyFrom 83 = .ok (.invokestatic 63, 3) := by decide +kernel
theorem dX3_copyFrom_86 : decode cX3_copyFrom 86 = .ok (.aload_n 1, 1) := by decide +kernel
theorem dX3_copyFrom_87 : decode cX3_copyFrom 87 = .ok (.getfield 42, 3) := by decide +kernel
theorem dX3_copyFrom_90 : decode cX3_copyFrom 90 = .ok (.iconst 0, 1) := by decide +kernel
theorem dX3_copyFrom_91 : decode cX3_copyFrom 91 = .ok (.aload_n 0, 1) := by decide +kernel
theorem dX3_copyFrom_92 : decode cX3_copyFrom 92 = .ok (.getfield 42, 3) := by decide +kernel
theorem dX3_copyFrom_95 : decode cX3_copyFrom 95 = .ok (.iconst 0, 1) := by decide +kernel
theorem dX3_copyFrom_96 : decode cX3_copyFrom 96 = .ok (.bipush 28, 2) := by decide +kernel
theorem dX3_copyFrom_98 : decode cX3_copyFrom 98 = .ok (.invokestatic 63, 3) := by decide +kernel
theorem dX3_copyFrom_101 : decode cX3_copyFrom 101 = .ok (.aload_n 1, 1) := by decide +kernel
theorem dX3_copyFrom_102 : decode cX3_copyFrom 102 = .ok (.getfield 45, 3) := by decide +kernel
theorem dX3_copyFrom_105 : decode cX3_copyFrom 105 = .ok (.iconst 0, 1) := by decide +kernel
theorem dX3_copyFrom_106 : decode cX3_copyFrom 106 = .ok (.aload_n 0, 1) := by decide +kernel
theorem dX3_copyFrom_107 : decode cX3_copyFrom 107 = .ok (.getfield 45, 3) := by decide +kernel
theorem dX3_copyFrom_110 : decode cX3_copyFrom 110 = .ok (.iconst 0, 1) := by decide +kernel
theorem dX3_copyFrom_111 : decode cX3_copyFrom 111 = .ok (.bipush 28, 2) := by decide +kernel
theorem dX3_copyFrom_113 : decode cX3_copyFrom 113 = .ok (.invokestatic 63, 3) := by decide +kernel
theorem dX3_copyFrom_116 : decode cX3_copyFrom 116 = .ok (.aload_n 1, 1) := by decide +kernel
theorem dX3_copyFrom_117 : decode cX3_copyFrom 117 = .ok (.getfield 48, 3) := by decide +kernel
theorem dX3_copyFrom_120 : decode cX3_copyFrom 120 = .ok (.iconst 0, 1) := by decide +kernel
theorem dX3_copyFrom_121 : decode cX3_copyFrom 121 = .ok (.aload_n 0, 1) := by decide +kernel
theorem dX3_copyFrom_122 : decode cX3_copyFrom 122 = .ok (.getfield 48, 3) := by decide +kernel
theorem dX3_copyFrom_125 : decode cX3_copyFrom 125 = .ok (.iconst 0, 1) := by decide +kernel
theorem dX3_copyFrom_126 : decode cX3_copyFrom 126 = .ok (.bipush 7, 2) := by decide +kernel
theorem dX3_copyFrom_128 : decode cX3_copyFrom 128 = .ok (.invokestatic 63, 3) := by decide +kernel
theorem dX3_copyFrom_131 : decode cX3_copyFrom 131 = .ok (.aload_n 1, 1) := by decide +kernel
theorem dX3_copyFrom_132 : decode cX3_copyFrom 132 = .ok (.getfield 51, 3) := by decide +kernel
theorem dX3_copyFrom_135 : decode cX3_copyFrom 135 = .ok (.iconst 0, 1) := by decide +kernel
theorem dX3_copyFrom_136 : decode cX3_copyFrom 136 = .ok (.aload_n 0, 1) := by decide +kernel
theorem dX3_copyFrom_137 : decode cX3_copyFrom 137 = .ok (.getfield 51, 3) := by decide +kernel
theorem dX3_copyFrom_140 : decode cX3_copyFrom 140 = .ok (.iconst 0, 1) := by decide +kernel
theorem dX3_copyFrom_141 : decode cX3_copyFrom 141 = .ok (.bipush 7, 2) := by decide +kernel
theorem dX3_copyFrom_143 : decode cX3_copyFrom 143 = .ok (.invokestatic 63, 3) := by decide +kernel
theorem dX3_copyFrom_146 : decode cX3_copyFrom 146 = .ok (.return_, 1) := by decide +kernel
def f_Isl_copyFrom  (p : Nat) (q : Nat)  (σ : JSg) : Option (JSg) :=
  lt_ (sp σ p 0 (σ q 0)) fun s1 => lt_ (sp s1 p 1 (s1 q 1)) fun s2 => lt_ (sp s2 p 2 (s2 q 2)) fun s3 => lt_ (sp s3 p 3 (s3 q 3)) fun s4 => lt_ (sp s4 p 4 (s4 q 4)) fun s5 => lt_ (sp s5 p 5 (s5 q 5)) fun s6 => chk ((s6 q 6) = 0 ∨ (s6 q 6) = 1) <| lt_ (sp s6 p 6 (s6 q 6)) fun s7 => lt_ (acp s7 (q + 1) 0 (p + 1) 0 6) fun s8 => lt_ (acp s8 (q + 2) 0 (p + 2) 0 28) fun s9 => lt_ (acp s9 (q + 3) 0 (p + 3) 0 28) fun s10 => lt_ (acp s10 (q + 4) 0 (p + 4) 0 28) fun s11 => lt_ (acp s11 (q + 5) 0 (p + 5) 0 7) fun s12 => lt_ (acp s12 (q + 6) 0 (p + 6) 0 7) fun s13 => some s13
set_option maxRecDepth 20000 in
set_option maxHeartbeats 4000000 in
theorem k_Isl_copyFrom (Sh : JSh) (ρ : JRo)  (p : Nat) (q : Nat) (hp : LIsl Sh ρ p) (hq : LIsl Sh ρ q)  (σ : JSg) : Call yX3_copyFrom cX3_copyFrom 2 none 1 Sh ρ [vR p, vR q] σ dVm (f_Isl_copyFrom p q σ) := by
  refine call_of_sim (by decide +kernel) (Nat.le_of_ble_eq_true rfl) ?_
  show Sim RX3 cX3_copyFrom 2 none 1 Sh ρ 0 [(0, vR p), (1, vR q)] [] σ dVm (f_Isl_copyFrom p q σ)
  unfold f_Isl_copyFrom
  refine sim_aload_n 0 rfl dX3_copyFrom_0 ?_
  refine sim_aload_n 1 rfl dX3_copyFrom_1 ?_
  refine sim_getI g_RX3_11 (LIsl_o hq) dX3_copyFrom_2 ?_
  refine sim_putI g_RX3_11 (LIsl_o hp) dX3_copyFrom_5 (fun s1 => ?_)
  refine sim_aload_n 0 rfl dX3_copyFrom_8 ?_
  refine sim_aload_n 1 rfl dX3_copyFrom_9 ?_
  refine sim_getI g_RX3_15 (LIsl_o hq) dX3_copyFrom_10 ?_
  refine sim_putI g_RX3_15 (LIsl_o hp) dX3_copyFrom_13 (fun s2 => ?_)
  refine sim_aload_n 0 rfl dX3_copyFrom_16 ?_
  refine sim_aload_n 1 rfl dX3_copyFrom_17 ?_
  refine sim_getI g_RX3_18 (LIsl_o hq) dX3_copyFrom_18 ?_
  refine sim_putI g_RX3_18 (LIsl_o hp) dX3_copyFrom_21 (fun s3 => ?_)
  refine sim_aload_n 0 rfl dX3_copyFrom_24 ?_
  refine sim_aload_n 1 rfl dX3_copyFrom_25 ?_
  refine sim_getI g_RX3_21 (LIsl_o hq) dX3_copyFrom_26 ?_
  refine sim_putI g_RX3_21 (LIsl_o hp) dX3_copyFrom_29 (fun s4 => ?_)
  refine sim_aload_n 0 rfl dX3_copyFrom_32 ?_
  refine sim_aload_n 1 rfl dX3_copyFrom_33 ?_
  refine sim_getI g_RX3_24 (LIsl_o hq) dX3_copyFrom_34 ?_
  refine sim_putI g_RX3_24 (LIsl_o hp) dX3_copyFrom_37 (fun s5 => ?_)
  refine sim_aload_n 0 rfl dX3_copyFrom_40 ?_
  refine sim_aload_n 1 rfl dX3_copyFrom_41 ?_
  refine sim_getI g_RX3_27 (LIsl_o hq) dX3_copyFrom_42 ?_
  refine sim_putI g_RX3_27 (LIsl_o hp) dX3_copyFrom_45 (fun s6 => ?_)
  refine sim_aload_n 0 rfl dX3_copyFrom_48 ?_
  refine sim_aload_n 1 rfl dX3_copyFrom_49 ?_
  refine sim_getZ g_RX3_30 (LIsl_o hq) dX3_copyFrom_50 ?_
  refine sim_putZc g_RX3_30 (LIsl_o hp) dX3_copyFrom_53 (fun s7 => ?_)
  refine sim_aload_n 1 rfl dX3_copyFrom_56 ?_
  refine sim_getR g_RX3_34 (LIsl_o hq) (LIsl_r7 hq) dX3_copyFrom_57 ?_
  refine sim_iconst dX3_copyFrom_60 (by decide) ?_
  refine sim_aload_n 0 rfl dX3_copyFrom_61 ?_
  refine sim_getR g_RX3_34 (LIsl_o hp) (LIsl_r7 hp) dX3_copyFrom_62 ?_
  refine sim_iconst dX3_copyFrom_65 (by decide) ?_
  refine sim_bipush dX3_copyFrom_66 (by decide +kernel) ?_
  refine sim_acpLK (a := 0) (b := 0) (n := 6) (LIsl_a7 hq) (LIsl_a7 hp) rfl rfl rfl (by decide) w_781 w_783 w_782 w_21 (by decide) (Nat.le_of_ble_eq_true rfl) dX3_copyFrom_68 (fun s8 => ?_)
  refine sim_aload_n 1 rfl dX3_copyFrom_71 ?_
  refine sim_getR g_RX3_38 (LIsl_o hq) (LIsl_r8 hq) dX3_copyFrom_72 ?_
  refine sim_iconst dX3_copyFrom_75 (by decide) ?_
  refine sim_aload_n 0 rfl dX3_copyFrom_76 ?_
  refine sim_getR g_RX3_38 (LIsl_o hp) (LIsl_r8 hp) dX3_copyFrom_77 ?_
  refine sim_iconst dX3_copyFrom_80 (by decide) ?_
  refine sim_bipush dX3_copyFrom_81 (by decide +kernel) ?_
  refine sim_acpIK (a := 0) (b := 0) (n := 28) (LIsl_a8 hq) (LIsl_a8 hp) rfl rfl rfl (by decide) w_781 w_783 w_782 w_21 (by decide) (Nat.le_of_ble_eq_true rfl) dX3_copyFrom_83 (fun s9 => ?_)
  refine sim_aload_n 1 rfl dX3_copyFrom_86 ?_
  refine sim_getR g_RX3_42 (LIsl_o hq) (LIsl_r9 hq) dX3_copyFrom_87 ?_
  refine sim_iconst dX3_copyFrom_90 (by decide) ?_
  refine sim_aload_n 0 rfl dX3_copyFrom_91 ?_
  refine sim_getR g_RX3_42 (LIsl_o hp) (LIsl_r9 hp) dX3_copyFrom_92 ?_
  refine sim_iconst dX3_copyFrom_95 (by decide) ?_
  refine sim_bipush dX3_copyFrom_96 (by decide +kernel) ?_
  refine sim_acpIK (a := 0) (b := 0) (n := 28) (LIsl_a9 hq) (LIsl_a9 hp) rfl rfl rfl (by decide) w_781 w_783 w_782 w_21 (by decide) (Nat.le_of_ble_eq_true rfl) dX3_copyFrom_98 (fun s10 => ?_)
  refine sim_aload_n 1 rfl dX3_copyFrom_101 ?_
  refine sim_getR g_RX3_45 (LIsl_o hq) (LIsl_r10 hq) dX3_copyFrom_102 ?_
  refine sim_iconst dX3_copyFrom_105 (by decide) ?_
  refine sim_aload_n 0 rfl dX3_copyFrom_106 ?_
  refine sim_getR g_RX3_45 (LIsl_o hp) (LIsl_r10 hp) dX3_copyFrom_107 ?_
  refine sim_iconst dX3_copyFrom_110 (by decide) ?_
  refine sim_bipush dX3_copyFrom_111 (by decide +kernel) ?_
  refine sim_acpIK (a := 0) (b := 0) (n := 28) (LIsl_a10 hq) (LIsl_a10 hp) rfl rfl rfl (by decide) w_781 w_783 w_782 w_21 (by decide) (Nat.le_of_ble_eq_true rfl) dX3_copyFrom_113 (fun s11 => ?_)
  refine sim_aload_n 1 rfl dX3_copyFrom_116 ?_
  refine sim_getR g_RX3_48 (LIsl_o hq) (LIsl_r11 hq) dX3_copyFrom_117 ?_
  refine sim_iconst dX3_copyFrom_120 (by decide) ?_
  refine sim_aload_n 0 rfl dX3_copyFrom_121 ?_
  refine sim_getR g_RX3_48 (LIsl_o hp) (LIsl_r11 hp) dX3_copyFrom_122 ?_
  refine sim_iconst dX3_copyFrom_125 (by decide) ?_
  refine sim_bipush dX3_copyFrom_126 (by decide +kernel) ?_
  refine sim_acpIK (a := 0) (b := 0) (n := 7) (LIsl_a11 hq) (LIsl_a11 hp) rfl rfl rfl (by decide) w_781 w_783 w_782 w_21 (by decide) (Nat.le_of_ble_eq_true rfl) dX3_copyFrom_128 (fun s12 => ?_)
  refine sim_aload_n 1 rfl dX3_copyFrom_131 ?_
  refine sim_getR g_RX3_51 (LIsl_o hq) (LIsl_r12 hq) dX3_copyFrom_132 ?_
  refine sim_iconst dX3_copyFrom_135 (by decide) ?_
  refine sim_aload_n 0 rfl dX3_copyFrom_136 ?_
  refine sim_getR g_RX3_51 (LIsl_o hp) (LIsl_r12 hp) dX3_copyFrom_137 ?_
  refine sim_iconst dX3_copyFrom_140 (by decide) ?_
  refine sim_bipush dX3_copyFrom_141 (by decide +kernel) ?_
  refine sim_acpIK (a := 0) (b := 0) (n := 7) (LIsl_a12 hq) (LIsl_a12 hp) rfl rfl rfl (by decide) w_781 w_783 w_782 w_21 (by decide) (Nat.le_of_ble_eq_true rfl) dX3_copyFrom_143 (fun s13 => ?_)
  exact sim_vret rfl rfl dX3_copyFrom_146
