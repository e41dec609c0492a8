theorem dX12_lays_0 : decode cX12_lays 0 = .ok (.iconst 0, 1) := by decide +kernel
theorem dX12_lays_1 : decode cX12_lays 1 = .ok (.istore 4, 2) := by decide +kernel
theorem dX12_lays_3 : decode cX12_lays 3 = .ok (.aload_n 0, 1) := by decide +kernel
theorem dX12_lays_4 : decode cX12_lays 4 = .ok (.invokevirtual 250, 3) := by decide +kernel
theorem dX12_lays_7 : decode cX12_lays 7 = .ok (.ifCond .le 74, 3) := by decide +kernel
theorem dX12_lays_10 : decode cX12_lays 10 = .ok (.aload_n 0, 1) := by decide +kernel
theorem dX12_lays_11 : decode cX12_lays 11 = .ok (.aload_n 0, 1) := by decide +kernel
theorem dX12_lays_12 : decode cX12_lays 12 = .ok (.iload_n 2, 1) := by decide +kernel
theorem dX12_lays_13 : decode cX12_lays 13 = .ok (.iconst 0, 1) := by decide +kernel
theorem dX12_lays_14 : decode cX12_lays 14 = .ok (.invokevirtual 243, 3) := by decide +kernel
theorem dX12_lays_17 : decode cX12_lays 17 = .ok (.aload_n 0, 1) := by decide +kernel
theorem dX12_lays_18 : decode cX12_lays 18 = .ok (.iload_n 3, 1) := by decide +kernel
theorem dX12_lays_19 : decode cX12_lays 19 = .ok (.invokevirtual 280, 3) := by decide +kernel
theorem dX12_lays_22 : decode cX12_lays 22 = .ok (.invokevirtual 271, 3) := by decide +kernel
theorem dX12_lays_25 : decode cX12_lays 25 = .ok (.istore 5, 2) := by decide +kernel
theorem dX12_lays_27 : decode cX12_lays 27 = .ok (.iload 5, 2) := by decide +kernel
theorem dX12_lays_29 : decode cX12_lays 29 = .ok (.iload_n 3, 1) := by decide +kernel
theorem dX12_lays_30 : decode cX12_lays 30 = .ok (.iconst 1, 1) := by decide +kernel
theorem dX12_lays_31 : decode cX12_lays 31 = .ok (.if_icmp .ne 7, 3) := by decide +kernel
theorem dX12_lays_34 : decode cX12_lays 34 = .ok (.iconst 1, 1) := by decide +kernel
theorem dX12_lays_35 : decode cX12_lays 35 = .ok (.goto 4, 3) := by decide +kernel
theorem dX12_lays_38 : decode cX12_lays 38 = .ok (.iconst 0, 1) := by decide +kernel
theorem dX12_lays_39 : decode cX12_lays 39 = .ok (.if_icmp .ne 7, 3) := by decide +kernel
theorem dX12_lays_42 : decode cX12_lays 42 = .ok (.iconst 0, 1) := by decide +kernel
theorem dX12_lays_43 : decode cX12_lays 43 = .ok (.goto 4, 3) := by decide +kernel
theorem dX12_lays_46 : decode cX12_lays 46 = .ok (.iconst 1, 1) := by decide +kernel
theorem dX12_lays_47 : decode cX12_lays 47 = .ok (.istore 4, 2) := by decide +kernel
theorem dX12_lays_49 : decode cX12_lays 49 = .ok (.aload_n 0, 1) := by decide +kernel
theorem dX12_lays_50 : decode cX12_lays 50 = .ok (.getfield 13, 3) := by decide +kernel
theorem dX12_lays_53 : decode cX12_lays 53 = .ok (.sipush 180, 3) := by decide +kernel
theorem dX12_lays_56 : decode cX12_lays 56 = .ok (.iload_n 1, 1) := by decide +kernel
theorem dX12_lays_57 : decode cX12_lays 57 = .ok (.iadd, 1) := by decide +kernel
theorem dX12_lays_58 : decode cX12_lays 58 = .ok (.dup2, 1) := by decide +kernel
theorem dX12_lays_59 : decode cX12_lays 59 = .ok (.iaload, 1) := by decide +kernel
theorem dX12_lays_60 : decode cX12_lays 60 = .ok (.iconst 1, 1) := by decide +kernel
theorem dX12_lays_61 : decode cX12_lays 61 = .ok (.iadd, 1) := by decide +kernel
theorem dX12_lays_62 : decode cX12_lays 62 = .ok (.iastore, 1) := by decide +kernel
theorem dX12_lays_63 : decode cX12_lays 63 = .ok (.aload_n 0, 1) := by decide +kernel
theorem dX12_lays_64 : decode cX12_lays 64 = .ok (.getfield 13, 3) := by decide +kernel
theorem dX12_lays_67 : decode cX12_lays 67 = .ok (.sipush 186, 3) := by decide +kernel
theorem dX12_lays_70 : decode cX12_lays 70 = .ok (.aload_n 0, 1) := by decide +kernel
theorem dX12_lays_71 : decode cX12_lays 71 = .ok (.iload_n 3, 1) := by decide +kernel
theorem dX12_lays_72 : decode cX12_lays 72 = .ok (.invokevirtual 283, 3) := by decide +kernel
theorem dX12_lays_75 : decode cX12_lays 75 = .ok (.iadd, 1) := by decide +kernel
theorem dX12_lays_76 : decode cX12_lays 76 = .ok (.dup2, 1) := by decide +kernel
theorem dX12_lays_77 : decode cX12_lays 77 = .ok (.iaload, 1) := by decide +kernel
theorem dX12_lays_78 : decode cX12_lays 78 = .ok (.iconst 1, 1) := by decide +kernel
theorem dX12_lays_79 : decode cX12_lays 79 = .ok (.iadd, 1) := by decide +kernel
theorem dX12_lays_80 : decode cX12_lays 80 = .ok (.iastore, 1) := by decide +kernel
theorem dX12_lays_81 : decode cX12_lays 81 = .ok (.iload_n 3, 1) := by decide +kernel
theorem dX12_lays_82 : decode cX12_lays 82 = .ok (.ifCond .ne 44, 3) := by decide +kernel
theorem dX12_lays_85 : decode cX12_lays 85 = .ok (.aload_n 0, 1) := by decide +kernel
theorem dX12_lays_86 : decode cX12_lays 86 = .ok (.invokevirtual 250, 3) := by decide +kernel
theorem dX12_lays_89 : decode cX12_lays 89 = .ok (.istore 5, 2) := by decide +kernel
theorem dX12_lays_91 : decode cX12_lays 91 = .ok (.iload 5, 2) := by decide +kernel
theorem dX12_lays_93 : decode cX12_lays 93 = .ok (.ifCond .le 33, 3) := by decide +kernel
theorem dX12_lays_96 : decode cX12_lays 96 = .ok (.aload_n 0, 1) := by decide +kernel
theorem dX12_lays_97 : decode cX12_lays 97 = .ok (.getfield 13, 3) := by decide +kernel
theorem dX12_lays_100 : decode cX12_lays 100 = .ok (.sipush 152, 3) := by decide +kernel
theorem dX12_lays_103 : decode cX12_lays 103 = .ok (.iload 5, 2) := by decide +kernel
theorem dX12_lays_105 : decode cX12_lays 105 = .ok (.iadd, 1) := by decide +kernel
theorem dX12_lays_106 : decode cX12_lays 106 = .ok (.aload_n 0, 1) := by decide +kernel
theorem dX12_lays_107 : decode cX12_lays 107 = .ok (.getfield 13, 3) := by decide +kernel
theorem dX12_lays_110 : decode cX12_lays 110 = .ok (.sipush 152, 3) := by decide +kernel
theorem dX12_lays_113 : decode cX12_lays 113 = .ok (.iload 5, 2) := by decide +kernel
theorem dX12_lays_115 : decode cX12_lays 115 = .ok (.iadd, 1) := by decide +kernel
theorem dX12_lays_116 : decode cX12_lays 116 = .ok (.iconst 1, 1) := by decide +kernel
theorem dX12_lays_117 : decode cX12_lays 117 = .ok (.isub, 1) := by decide +kernel
theorem dX12_lays_118 : decode cX12_lays 118 = .ok (.iaload, 1) := by decide +kernel
theorem dX12_lays_119 : decode cX12_lays 119 = .ok (.iastore, 1) := by decide +kernel
theorem dX12_lays_120 : decode cX12_lays 120 = .ok (.iinc 5 (-1), 3) := by decide +kernel
theorem dX12_lays_123 : decode cX12_lays 123 = .ok (.goto (-32), 3) := by decide +kernel
theorem dX12_lays_126 : decode cX12_lays 126 = .ok (.aload_n 0, 1) := by decide +kernel
theorem dX12_lays_127 : decode cX12_lays 127 = .ok (.getfield 13, 3) := by decide +kernel
theorem dX12_lays_130 : decode cX12_lays 130 = .ok (.sipush 152, 3) := by decide +kernel
theorem dX12_lays_133 : decode cX12_lays 133 = .ok (.iload_n 3, 1) := by decide +kernel
theorem dX12_lays_134 : decode cX12_lays 134 = .ok (.ifCond .ne 7, 3) := by decide +kernel
theorem dX12_lays_137 : decode cX12_lays 137 = .ok (.iconst 0, 1) := by decide +kernel
theorem dX12_lays_138 : decode cX12_lays 138 = .ok (.goto 7, 3) := by decide +kernel
theorem dX12_lays_141 : decode cX12_lays 141 = .ok (.aload_n 0, 1) := by decide +kernel
theorem dX12_lays_142 : decode cX12_lays 142 = .ok (.invokevirtual 250, 3) := by decide +kernel
theorem dX12_lays_145 : decode cX12_lays 145 = .ok (.iadd, 1) := by decide +kernel
theorem dX12_lays_146 : decode cX12_lays 146 = .ok (.iconst 2, 1) := by decide +kernel
theorem dX12_lays_147 : decode cX12_lays 147 = .ok (.iload_n 2, 1) := by decide +kernel
theorem dX12_lays_148 : decode cX12_lays 148 = .ok (.imul, 1) := by decide +kernel
theorem dX12_lays_149 : decode cX12_lays 149 = .ok (.iload 4, 2) := by decide +kernel
theorem dX12_lays_151 : decode cX12_lays 151 = .ok (.iadd, 1) := by decide +kernel
theorem dX12_lays_152 : decode cX12_lays 152 = .ok (.iastore, 1) := by decide +kernel
theorem dX12_lays_153 : decode cX12_lays 153 = .ok (.aload_n 0, 1) := by decide +kernel
theorem dX12_lays_154 : decode cX12_lays 154 = .ok (.getfield 13, 3) := by decide +kernel
theorem dX12_lays_157 : decode cX12_lays 157 = .ok (.sipush 151, 3) := by decide +kernel
theorem dX12_lays_160 : decode cX12_lays 160 = .ok (.dup2, 1) := by decide +kernel
theorem dX12_lays_161 : decode cX12_lays 161 = .ok (.iaload, 1) := by decide +kernel
theorem dX12_lays_162 : decode cX12_lays 162 = .ok (.iconst 1, 1) := by decide +kernel
theorem dX12_lays_163 : decode cX12_lays 163 = .ok (.iadd, 1) := by decide +kernel
theorem dX12_lays_164 : decode cX12_lays 164 = .ok (.iastore, 1) := by decide +kernel
theorem dX12_lays_165 : decode cX12_lays 165 = .ok (.aload_n 0, 1) := by decide +kernel
theorem dX12_lays_166 : decode cX12_lays 166 = .ok (.getfield 13, 3) := by decide +kernel
theorem dX12_lays_169 : decode cX12_lays 169 = .ok (.bipush 95, 2) := by decide +kernel
theorem dX12_lays_171 : decode cX12_lays 171 = .ok (.iload_n 2, 1) := by decide +kernel
theorem dX12_lays_172 : decode cX12_lays 172 = .ok (.iadd, 1) := by decide +kernel
theorem dX12_lays_173 : decode cX12_lays 173 = .ok (.iconst 2, 1) := by decide +kernel
theorem dX12_lays_174 : decode cX12_lays 174 = .ok (.iastore, 1) := by decide +kernel
theorem dX12_lays_175 : decode cX12_lays 175 = .ok (.aload_n 0, 1) := by decide +kernel
theorem dX12_lays_176 : decode cX12_lays 176 = .ok (.getfield 13, 3) := by decide +kernel
theorem dX12_lays_179 : decode cX12_lays 179 = .ok (.bipush 123, 2) := by decide +kernel
theorem dX12_lays_181 : decode cX12_lays 181 = .ok (.iload_n 2, 1) := by decide +kernel
theorem dX12_lays_182 : decode cX12_lays 182 = .ok (.iadd, 1) := by decide +kernel
theorem dX12_lays_183 : decode cX12_lays 183 = .ok (.iload_n 1, 1) := by decide +kernel
theorem dX12_lays_184 : decode cX12_lays 184 = .ok (.iastore, 1) := by decide +kernel
theorem dX12_lays_185 : decode cX12_lays 185 = .ok (.return_, 1) := by decide +kernel
def f_M_lays (n : Nat)  (a1 : Int) (a2 : Int) (a3 : Int) (σ : JSg) : Option (JSg) :=
  lt_ 0 fun v1 => bd1 (f_M_rowMany σ) fun r2 => jn2 (fun (y4 : Int) (s5 : JSg) => jn1 (fun  (s7 : JSg) => jn1 (fun (u9 : Int) => chk (0 ≤ (w32 (152 + u9)) ∧ (w32 (152 + u9)) < 448) <| lt_ (sp s7 181 (w32 (152 + u9)).toNat (w32 ((w32 (2 * a2)) + y4))) fun s10 => lt_ (sp s10 181 151 (w32 ((s10 181 151) + 1))) fun s11 => chk (0 ≤ (w32 (95 + a2)) ∧ (w32 (95 + a2)) < 448) <| lt_ (sp s11 181 (w32 (95 + a2)).toNat 2) fun s12 => chk (0 ≤ (w32 (123 + a2)) ∧ (w32 (123 + a2)) < 448) <| lt_ (sp s12 181 (w32 (123 + a2)).toNat a1) fun s13 => some s13) fun j8 => if a3 = 0 then (j8 0) else (bd1 (f_M_rowMany s7) fun r14 => j8 r14)) fun j6 => if a3 = 0 then (bd1 (f_M_rowMany s5) fun r15 => lt_ r15 fun v16 => wh2 n (fun rc17 (x18 : Int) (s19 : JSg) => if 0 < x18 then (chk (0 ≤ (w32 ((w32 (152 + x18)) - 1)) ∧ (w32 ((w32 (152 + x18)) - 1)) < 448) <| chk (0 ≤ (w32 (152 + x18)) ∧ (w32 (152 + x18)) < 448) <| lt_ (sp s19 181 (w32 (152 + x18)).toNat (s19 181 (w32 ((w32 (152 + x18)) - 1)).toNat)) fun s20 => lt_ (w32 (x18 + (-1))) fun v21 => rc17 v21 s20) else (j6 s19)) v16 s5) else (j6 s5)) fun j3 => if 0 < r2 then (bd1 (f_M_pip a2 0 σ) fun r22 => bd1 (f_M_pipsAt a3 σ) fun r23 => bd1 (f_M_fit r22 r23 σ) fun r24 => lt_ r24 fun v25 => jn1 (fun (u27 : Int) => jn1 (fun (u29 : Int) => lt_ u29 fun v30 => chk (0 ≤ (w32 (180 + a1)) ∧ (w32 (180 + a1)) < 448) <| chk (0 ≤ (w32 (180 + a1)) ∧ (w32 (180 + a1)) < 448) <| lt_ (sp σ 181 (w32 (180 + a1)).toNat (w32 ((σ 181 (w32 (180 + a1)).toNat) + 1))) fun s31 => bd1 (f_M_layerAt a3 s31) fun r32 => chk (0 ≤ (w32 (186 + r32)) ∧ (w32 (186 + r32)) < 448) <| chk (0 ≤ (w32 (186 + r32)) ∧ (w32 (186 + r32)) < 448) <| lt_ (sp s31 181 (w32 (186 + r32)).toNat (w32 ((s31 181 (w32 (186 + r32)).toNat) + 1))) fun s33 => j3 v30 s33) fun j28 => if v25 = u27 then (j28 0) else (j28 1)) fun j26 => if a3 = 1 then (j26 1) else (j26 0)) else (j3 v1 (σ))
set_option maxRecDepth 20000 in
set_option maxHeartbeats 4000000 in
theorem k_M_lays  (n : Nat)   (a1 : Int) (a2 : Int) (a3 : Int) (σ : JSg) : Call yX12_lays cX12_lays 6 none 3 SH RHO [vR 179, vI a1, vI a2, vI a3] σ dVm (f_M_lays n a1 a2 a3 σ) := by
  refine call_of_sim (by decide +kernel) (Nat.le_of_ble_eq_true rfl) ?_
  show Sim RX12 cX12_lays 6 none 3 SH RHO 0 [(0, vR 179), (1, vI a1), (2, vI a2), (3, vI a3)] [] σ dVm (f_M_lays n a1 a2 a3 σ)
  unfold f_M_lays
  refine sim_iconst dX12_lays_0 (by decide) ?_
  refine sim_istore (fun v1 => [(4, vI v1), (0, vR 179), (1, vI a1), (2, vI a2), (3, vI a3)]) (fun _ => rfl) (by decide) dX12_lays_1 (fun v1 => ?_)
  refine sim_aload_n 1 rfl dX12_lays_3 ?_
  refine sim_callVIp v_RX12_250 sh_179 dX12_lays_4 (k_M_rowMany σ) rfl ⟨by decide, by decide⟩ (S := []) rfl (Nat.le_of_ble_eq_true rfl) (fun r2 => ?_)
  refine sim_jn2 (pc' := 81) (fun (y4 : Int) (s5 : JSg) => [(0, vR 179), (1, vI a1), (2, vI a2), (3, vI a3), (4, vI y4)]) (fun (y4 : Int) (s5 : JSg) => []) (fun (y4 : Int) (s5 : JSg) => s5) ?_ (fun j3 hj3 => ?_)
  · intro y4 s5
    refine sim_iload_n 3 rfl dX12_lays_81 ?_
    refine sim_jn1 (pc' := 126) (fun  (s7 : JSg) => [(0, vR 179), (1, vI a1), (2, vI a2), (3, vI a3), (4, vI y4)]) (fun  (s7 : JSg) => []) (fun  (s7 : JSg) => s7) ?_ (fun j6 hj6 => ?_)
    · intro s7
      refine sim_aload_n 0 rfl dX12_lays_126 ?_
      refine sim_getR g_RX12_13 sh_179 rh_179_14 dX12_lays_127 ?_
      refine sim_sipush dX12_lays_130 (by decide +kernel) ?_
      refine sim_iload_n 3 rfl dX12_lays_133 ?_
      refine sim_jn1 (pc' := 145) (fun (u9 : Int) => [(0, vR 179), (1, vI a1), (2, vI a2), (4, vI y4)]) (fun (u9 : Int) => [vI u9, vI 152, vR 181]) (fun (u9 : Int) => s7) ?_ (fun j8 hj8 => ?_)
      · intro u9
        refine sim_iadd dX12_lays_145 ?_
        refine sim_iconst dX12_lays_146 (by decide) ?_
        refine sim_iload_n 2 rfl dX12_lays_147 ?_
        refine sim_imul dX12_lays_148 ?_
        refine sim_iload 3 rfl dX12_lays_149 ?_
        refine sim_iadd dX12_lays_151 ?_
        refine sim_iastore sh_181 rfl dX12_lays_152 (fun s10 => ?_)
        refine sim_aload_n 0 rfl dX12_lays_153 ?_
        refine sim_getR g_RX12_13 sh_179 rh_179_14 dX12_lays_154 ?_
        refine sim_sipush dX12_lays_157 (by decide +kernel) ?_
        refine sim_dup2 rfl rfl dX12_lays_160 ?_
        refine sim_ialoadK (j := 151) sh_181 rfl (by decide) dX12_lays_161 ?_
        refine sim_iconst dX12_lays_162 (by decide) ?_
        refine sim_iadd dX12_lays_163 ?_
        refine sim_iastoreK (j := 151) sh_181 rfl (by decide) dX12_lays_164 (fun s11 => ?_)
        refine sim_aload_n 0 rfl dX12_lays_165 ?_
        refine sim_getR g_RX12_13 sh_179 rh_179_14 dX12_lays_166 ?_
        refine sim_bipush dX12_lays_169 (by decide +kernel) ?_
        refine sim_iload_n 2 rfl dX12_lays_171 ?_
        refine sim_iadd dX12_lays_172 ?_
        refine sim_iconst dX12_lays_173 (by decide) ?_
        refine sim_iastore sh_181 rfl dX12_lays_174 (fun s12 => ?_)
        refine sim_aload_n 0 rfl dX12_lays_175 ?_
        refine sim_getR g_RX12_13 sh_179 rh_179_14 dX12_lays_176 ?_
        refine sim_bipush dX12_lays_179 (by decide +kernel) ?_
        refine sim_iload_n 2 rfl dX12_lays_181 ?_
        refine sim_iadd dX12_lays_182 ?_
        refine sim_iload_n 1 rfl dX12_lays_183 ?_
        refine sim_iastore sh_181 rfl dX12_lays_184 (fun s13 => ?_)
        exact sim_vret rfl rfl dX12_lays_185
      refine sim_if_ne (tgt := 141) dX12_lays_134 (by decide) ?_ ?_
      · refine sim_aload_n 0 rfl dX12_lays_141 ?_
        refine sim_callVIp v_RX12_250 sh_179 dX12_lays_142 (k_M_rowMany s7) rfl ⟨by decide, by decide⟩ (S := [vI 152, vR 181]) rfl (Nat.le_of_ble_eq_true rfl) (fun r14 => ?_)
        exact sim_sub [0, 1, 2, 4] rfl (hj8 r14)
      · refine sim_iconst dX12_lays_137 (by decide) ?_
        refine sim_goto (tgt := 145) dX12_lays_138 (by decide) ?_
        exact sim_sub [0, 1, 2, 4] rfl (hj8 0)
    refine sim_if_ne (tgt := 126) dX12_lays_82 (by decide) ?_ ?_
    · exact sim_sub [0, 1, 2, 3, 4] rfl (hj6 s5)
    · refine sim_aload_n 0 rfl dX12_lays_85 ?_
      refine sim_callVIp v_RX12_250 sh_179 dX12_lays_86 (k_M_rowMany s5) rfl ⟨by decide, by decide⟩ (S := []) rfl (Nat.le_of_ble_eq_true rfl) (fun r15 => ?_)
      refine sim_istore (fun v16 => [(5, vI v16), (0, vR 179), (1, vI a1), (2, vI a2), (3, vI a3), (4, vI y4)]) (fun _ => rfl) (by decide) dX12_lays_89 (fun v16 => ?_)
      refine sim_sub [1, 2, 3, 4, 5, 0] (L' := [(0, vR 179), (1, vI a1), (2, vI a2), (3, vI a3), (4, vI y4), (5, vI v16)]) rfl ?_
      refine sim_wh2 (fun (x18 : Int) (s19 : JSg) => [(0, vR 179), (1, vI a1), (2, vI a2), (3, vI a3), (4, vI y4), (5, vI x18)]) (fun (x18 : Int) (s19 : JSg) => s19) ?_ n v16 s5
      intro rc17 hrc17 x18 s19
      refine sim_iload 5 rfl dX12_lays_91 ?_
      refine sim_if_le (tgt := 126) dX12_lays_93 (by decide) ?_ ?_
      · exact sim_sub [0, 1, 2, 3, 4] rfl (hj6 s19)
      · refine sim_aload_n 0 rfl dX12_lays_96 ?_
        refine sim_getR g_RX12_13 sh_179 rh_179_14 dX12_lays_97 ?_
        refine sim_sipush dX12_lays_100 (by decide +kernel) ?_
        refine sim_iload 5 rfl dX12_lays_103 ?_
        refine sim_iadd dX12_lays_105 ?_
        refine sim_aload_n 0 rfl dX12_lays_106 ?_
        refine sim_getR g_RX12_13 sh_179 rh_179_14 dX12_lays_107 ?_
        refine sim_sipush dX12_lays_110 (by decide +kernel) ?_
        refine sim_iload 5 rfl dX12_lays_113 ?_
        refine sim_iadd dX12_lays_115 ?_
        refine sim_iconst dX12_lays_116 (by decide) ?_
        refine sim_isub dX12_lays_117 ?_
        refine sim_iaload sh_181 rfl dX12_lays_118 ?_
        refine sim_iastore sh_181 rfl dX12_lays_119 (fun s20 => ?_)
        refine sim_iinc 5 rfl (fun v21 => [(5, vI v21), (0, vR 179), (1, vI a1), (2, vI a2), (3, vI a3), (4, vI y4)]) (fun _ => rfl) (by decide) dX12_lays_120 (fun v21 => ?_)
        refine sim_goto (tgt := 91) dX12_lays_123 (by decide) ?_
        exact sim_sub [1, 2, 3, 4, 5, 0] rfl (hrc17 v21 s20)
  refine sim_if_le (tgt := 81) dX12_lays_7 (by decide) ?_ ?_
  · exact sim_sub [1, 2, 3, 4, 0] rfl (hj3 v1 (σ))
  · refine sim_aload_n 1 rfl dX12_lays_10 ?_
    refine sim_aload_n 1 rfl dX12_lays_11 ?_
    refine sim_iload_n 3 rfl dX12_lays_12 ?_
    refine sim_iconst dX12_lays_13 (by decide) ?_
    refine sim_callVIp v_RX12_243 sh_179 dX12_lays_14 (k_M_pip a2 0 σ) rfl ⟨by decide, by decide⟩ (S := [vR 179]) rfl (Nat.le_of_ble_eq_true rfl) (fun r22 => ?_)
    refine sim_aload_n 1 rfl dX12_lays_17 ?_
    refine sim_iload_n 4 rfl dX12_lays_18 ?_
    refine sim_callVIp v_RX12_280 sh_179 dX12_lays_19 (k_M_pipsAt a3 σ) rfl ⟨by decide, by decide⟩ (S := [vI r22, vR 179]) rfl (Nat.le_of_ble_eq_true rfl) (fun r23 => ?_)
    refine sim_callVIp v_RX12_271 sh_179 dX12_lays_22 (k_M_fit r22 r23 σ) rfl ⟨by decide, by decide⟩ (S := []) rfl (Nat.le_of_ble_eq_true rfl) (fun r24 => ?_)
    refine sim_istore (fun v25 => [(5, vI v25), (4, vI v1), (0, vR 179), (1, vI a1), (2, vI a2), (3, vI a3)]) (fun _ => rfl) (by decide) dX12_lays_25 (fun v25 => ?_)
    refine sim_iload 0 rfl dX12_lays_27 ?_
    refine sim_iload_n 5 rfl dX12_lays_29 ?_
    refine sim_iconst dX12_lays_30 (by decide) ?_
    refine sim_jn1 (pc' := 39) (fun (u27 : Int) => [(0, vR 179), (1, vI a1), (2, vI a2), (3, vI a3)]) (fun (u27 : Int) => [vI u27, vI v25]) (fun (u27 : Int) => σ) ?_ (fun j26 hj26 => ?_)
    · intro u27
      refine sim_jn1 (pc' := 47) (fun (u29 : Int) => [(0, vR 179), (1, vI a1), (2, vI a2), (3, vI a3)]) (fun (u29 : Int) => [vI u29]) (fun (u29 : Int) => σ) ?_ (fun j28 hj28 => ?_)
      · intro u29
        refine sim_istore (fun v30 => [(4, vI v30), (0, vR 179), (1, vI a1), (2, vI a2), (3, vI a3)]) (fun _ => rfl) (by decide) dX12_lays_47 (fun v30 => ?_)
        refine sim_aload_n 1 rfl dX12_lays_49 ?_
        refine sim_getR g_RX12_13 sh_179 rh_179_14 dX12_lays_50 ?_
        refine sim_sipush dX12_lays_53 (by decide +kernel) ?_
        refine sim_iload_n 2 rfl dX12_lays_56 ?_
        refine sim_iadd dX12_lays_57 ?_
        refine sim_dup2 rfl rfl dX12_lays_58 ?_
        refine sim_iaload sh_181 rfl dX12_lays_59 ?_
        refine sim_iconst dX12_lays_60 (by decide) ?_
        refine sim_iadd dX12_lays_61 ?_
        refine sim_iastore sh_181 rfl dX12_lays_62 (fun s31 => ?_)
        refine sim_aload_n 1 rfl dX12_lays_63 ?_
        refine sim_getR g_RX12_13 sh_179 rh_179_14 dX12_lays_64 ?_
        refine sim_sipush dX12_lays_67 (by decide +kernel) ?_
        refine sim_aload_n 1 rfl dX12_lays_70 ?_
        refine sim_iload_n 4 rfl dX12_lays_71 ?_
        refine sim_callVIp v_RX12_283 sh_179 dX12_lays_72 (k_M_layerAt a3 s31) rfl ⟨by decide, by decide⟩ (S := [vI 186, vR 181]) rfl (Nat.le_of_ble_eq_true rfl) (fun r32 => ?_)
        refine sim_iadd dX12_lays_75 ?_
        refine sim_dup2 rfl rfl dX12_lays_76 ?_
        refine sim_iaload sh_181 rfl dX12_lays_77 ?_
        refine sim_iconst dX12_lays_78 (by decide) ?_
        refine sim_iadd dX12_lays_79 ?_
        refine sim_iastore sh_181 rfl dX12_lays_80 (fun s33 => ?_)
        exact sim_sub [1, 2, 3, 4, 0] rfl (hj3 v30 s33)
      refine sim_icmp_ne (tgt := 46) dX12_lays_39 (by decide) ?_ ?_
      · refine sim_iconst dX12_lays_46 (by decide) ?_
        exact sim_sub [0, 1, 2, 3] rfl (hj28 1)
      · refine sim_iconst dX12_lays_42 (by decide) ?_
        refine sim_goto (tgt := 47) dX12_lays_43 (by decide) ?_
        exact sim_sub [0, 1, 2, 3] rfl (hj28 0)
    refine sim_icmp_ne (tgt := 38) dX12_lays_31 (by decide) ?_ ?_
    · refine sim_iconst dX12_lays_38 (by decide) ?_
      exact sim_sub [2, 3, 4, 5] rfl (hj26 0)
    · refine sim_iconst dX12_lays_34 (by decide) ?_
      refine sim_goto (tgt := 39) dX12_lays_35 (by decide) ?_
      exact sim_sub [2, 3, 4, 5] rfl (hj26 1)
theorem dX12_catAt_0 : decode cX12_catAt 0 = .ok (.aload_n 0, 1) := by decide +kernel
theorem dX12_catAt_1 : decode cX12_catAt 1 = .ok (.aload_n 0, 1) := by decide +kernel
theorem dX12_catAt_2 : decode cX12_catAt 2 = .ok (.iload_n 1, 1) := by decide +kernel
theorem dX12_catAt_3 : decode cX12_catAt 3 = .ok (.invokevirtual 274, 3) := by decide +kernel
theorem dX12_catAt_6 : decode cX12_catAt 6 = .ok (.invokevirtual 247, 3) := by decide +kernel
theorem dX12_catAt_9 : decode cX12_catAt 9 = .ok (.istore_n 2, 1) := by decide +kernel
theorem dX12_catAt_10 : decode cX12_catAt 10 = .ok (.iload_n 1, 1) := by decide +kernel
theorem dX12_catAt_11 : decode cX12_catAt 11 = .ok (.ifCond .ne 43, 3) := by decide +kernel
theorem dX12_catAt_14 : decode cX12_catAt 14 = .ok (.iconst 0, 1) := by decide +kernel
theorem dX12_catAt_15 : decode cX12_catAt 15 = .ok (.istore_n 3, 1) := by decide +kernel
theorem dX12_catAt_16 : decode cX12_catAt 16 = .ok (.iload_n 3, 1) := by decide +kernel
theorem dX12_catAt_17 : decode cX12_catAt 17 = .ok (.aload_n 0, 1) := by decide +kernel
theorem dX12_catAt_18 : decode cX12_catAt 18 = .ok (.invokevirtual 250, 3) := by decide +kernel
theorem dX12_catAt_21 : decode cX12_catAt 21 = .ok (.iconst 1, 1) := by decide +kernel
theorem dX12_catAt_22 : decode cX12_catAt 22 = .ok (.isub, 1) := by decide +kernel
theorem dX12_catAt_23 : decode cX12_catAt 23 = .ok (.if_icmp .ge 31, 3) := by decide +kernel
theorem dX12_catAt_26 : decode cX12_catAt 26 = .ok (.aload_n 0, 1) := by decide +kernel
theorem dX12_catAt_27 : decode cX12_catAt 27 = .ok (.getfield 13, 3) := by decide +kernel
theorem dX12_catAt_30 : decode cX12_catAt 30 = .ok (.sipush 152, 3) := by decide +kernel
theorem dX12_catAt_33 : decode cX12_catAt 33 = .ok (.iload_n 3, 1) := by decide +kernel
theorem dX12_catAt_34 : decode cX12_catAt 34 = .ok (.iadd, 1) := by decide +kernel
theorem dX12_catAt_35 : decode cX12_catAt 35 = .ok (.aload_n 0, 1) := by decide +kernel
theorem dX12_catAt_36 : decode cX12_catAt 36 = .ok (.getfield 13, 3) := by decide +kernel
theorem dX12_catAt_39 : decode cX12_catAt 39 = .ok (.sipush 152, 3) := by decide +kernel
theorem dX12_catAt_42 : decode cX12_catAt 42 = .ok (.iload_n 3, 1) := by decide +kernel
theorem dX12_catAt_43 : decode cX12_catAt 43 = .ok (.iadd, 1) := by decide +kernel
theorem dX12_catAt_44 : decode cX12_catAt 44 = .ok (.iconst 1, 1) := by decide +kernel
theorem dX12_catAt_45 : decode cX12_catAt 45 = .ok (.iadd, 1) := by decide +kernel
theorem dX12_catAt_46 : decode cX12_catAt 46 = .ok (.iaload, 1) := by decide +kernel
theorem dX12_catAt_47 : decode cX12_catAt 47 = .ok (.iastore, 1) := by decide +kernel
theorem dX12_catAt_48 : decode cX12_catAt 48 = .ok (.iinc 3 1, 3) := by decide +kernel
theorem dX12_catAt_51 : decode cX12_catAt 51 = .ok (.goto (-35), 3) := by decide +kernel
theorem dX12_catAt_54 : decode cX12_catAt 54 = .ok (.aload_n 0, 1) := by decide +kernel
theorem dX12_catAt_55 : decode cX12_catAt 55 = .ok (.getfield 13, 3) := by decide +kernel
theorem dX12_catAt_58 : decode cX12_catAt 58 = .ok (.sipush 151, 3) := by decide +kernel
theorem dX12_catAt_61 : decode cX12_catAt 61 = .ok (.dup2, 1) := by decide +kernel
theorem dX12_catAt_62 : decode cX12_catAt 62 = .ok (.iaload, 1) := by decide +kernel
theorem dX12_catAt_63 : decode cX12_catAt 63 = .ok (.iconst 1, 1) := by decide +kernel
theorem dX12_catAt_64 : decode cX12_catAt 64 = .ok (.isub, 1) := by decide +kernel
theorem dX12_catAt_65 : decode cX12_catAt 65 = .ok (.iastore, 1) := by decide +kernel
theorem dX12_catAt_66 : decode cX12_catAt 66 = .ok (.aload_n 0, 1) := by decide +kernel
theorem dX12_catAt_67 : decode cX12_catAt 67 = .ok (.getfield 13, 3) := by decide +kernel
theorem dX12_catAt_70 : decode cX12_catAt 70 = .ok (.bipush 95, 2) := by decide +kernel
theorem dX12_catAt_72 : decode cX12_catAt 72 = .ok (.iload_n 2, 1) := by decide +kernel
theorem dX12_catAt_73 : decode cX12_catAt 73 = .ok (.iadd, 1) := by decide +kernel
theorem dX12_catAt_74 : decode cX12_catAt 74 = .ok (.iconst 0, 1) := by decide +kernel
theorem dX12_catAt_75 : decode cX12_catAt 75 = .ok (.iastore, 1) := by decide +kernel
theorem dX12_catAt_76 : decode cX12_catAt 76 = .ok (.iload_n 2, 1) := by decide +kernel
theorem dX12_catAt_77 : decode cX12_catAt 77 = .ok (.ireturn, 1) := by decide +kernel
def f_M_catAt (n : Nat)  (a1 : Int) (σ : JSg) : Option (Int × JSg) :=
  bd1 (f_M_endAt a1 σ) fun r1 => bd1 (f_M_rowStone r1 σ) fun r2 => lt_ r2 fun v3 => jn1 (fun  (s5 : JSg) => lt_ (sp s5 181 151 (w32 ((s5 181 151) - 1))) fun s6 => chk (0 ≤ (w32 (95 + v3)) ∧ (w32 (95 + v3)) < 448) <| lt_ (sp s6 181 (w32 (95 + v3)).toNat 0) fun s7 => some (v3, s7)) fun j4 => if a1 = 0 then (lt_ 0 fun v8 => wh2 n (fun rc9 (x10 : Int) (s11 : JSg) => bd1 (f_M_rowMany s11) fun r12 => if x10 < (w32 (r12 - 1)) then (chk (0 ≤ (w32 ((w32 (152 + x10)) + 1)) ∧ (w32 ((w32 (152 + x10)) + 1)) < 448) <| chk (0 ≤ (w32 (152 + x10)) ∧ (w32 (152 + x10)) < 448) <| lt_ (sp s11 181 (w32 (152 + x10)).toNat (s11 181 (w32 ((w32 (152 + x10)) + 1)).toNat)) fun s13 => lt_ (w32 (x10 + 1)) fun v14 => rc9 v14 s13) else (j4 s11)) v8 (σ)) else (j4 (σ))
set_option maxRecDepth 20000 in
set_option maxHeartbeats 4000000 in
theorem k_M_catAt  (n : Nat)   (a1 : Int) (σ : JSg) : Call yX12_catAt cX12_catAt 4 (some .int) 2 SH RHO [vR 179, vI a1] σ dIm (f_M_catAt n a1 σ) := by
  refine call_of_sim (by decide +kernel) (Nat.le_of_ble_eq_true rfl) ?_
  show Sim RX12 cX12_catAt 4 (some .int) 2 SH RHO 0 [(0, vR 179), (1, vI a1)] [] σ dIm (f_M_catAt n a1 σ)
  unfold f_M_catAt
  refine sim_aload_n 0 rfl dX12_catAt_0 ?_
  refine sim_aload_n 0 rfl dX12_catAt_1 ?_
  refine sim_iload_n 1 rfl dX12_catAt_2 ?_
  refine sim_callVIp v_RX12_274 sh_179 dX12_catAt_3 (k_M_endAt a1 σ) rfl ⟨by decide, by decide⟩ (S := [vR 179]) rfl (Nat.le_of_ble_eq_true rfl) (fun r1 => ?_)
  refine sim_callVIp v_RX12_247 sh_179 dX12_catAt_6 (k_M_rowStone r1 σ) rfl ⟨by decide, by decide⟩ (S := []) rfl (Nat.le_of_ble_eq_true rfl) (fun r2 => ?_)
  refine sim_istore_n (fun v3 => [(2, vI v3), (0, vR 179), (1, vI a1)]) (fun _ => rfl) (by decide) dX12_catAt_9 (fun v3 => ?_)
  refine sim_iload_n 2 rfl dX12_catAt_10 ?_
  refine sim_jn1 (pc' := 54) (fun  (s5 : JSg) => [(0, vR 179), (2, vI v3)]) (fun  (s5 : JSg) => []) (fun  (s5 : JSg) => s5) ?_ (fun j4 hj4 => ?_)
  · intro s5
    refine sim_aload_n 0 rfl dX12_catAt_54 ?_
    refine sim_getR g_RX12_13 sh_179 rh_179_14 dX12_catAt_55 ?_
    refine sim_sipush dX12_catAt_58 (by decide +kernel) ?_
    refine sim_dup2 rfl rfl dX12_catAt_61 ?_
    refine sim_ialoadK (j := 151) sh_181 rfl (by decide) dX12_catAt_62 ?_
    refine sim_iconst dX12_catAt_63 (by decide) ?_
    refine sim_isub dX12_catAt_64 ?_
    refine sim_iastoreK (j := 151) sh_181 rfl (by decide) dX12_catAt_65 (fun s6 => ?_)
    refine sim_aload_n 0 rfl dX12_catAt_66 ?_
    refine sim_getR g_RX12_13 sh_179 rh_179_14 dX12_catAt_67 ?_
    refine sim_bipush dX12_catAt_70 (by decide +kernel) ?_
    refine sim_iload_n 1 rfl dX12_catAt_72 ?_
    refine sim_iadd dX12_catAt_73 ?_
    refine sim_iconst dX12_catAt_74 (by decide) ?_
    refine sim_iastore sh_181 rfl dX12_catAt_75 (fun s7 => ?_)
    refine sim_iload_n 1 rfl dX12_catAt_76 ?_
    exact sim_iret rfl rfl dX12_catAt_77
  refine sim_if_ne (tgt := 54) dX12_catAt_11 (by decide) ?_ ?_
  · exact sim_sub [1, 0] rfl (hj4 (σ))
  · refine sim_iconst dX12_catAt_14 (by decide) ?_
    refine sim_istore_n (fun v8 => [(3, vI v8), (2, vI v3), (0, vR 179), (1, vI a1)]) (fun _ => rfl) (by decide) dX12_catAt_15 (fun v8 => ?_)
    refine sim_sub [2, 1, 0] (L' := [(0, vR 179), (2, vI v3), (3, vI v8)]) rfl ?_
    refine sim_wh2 (fun (x10 : Int) (s11 : JSg) => [(0, vR 179), (2, vI v3), (3, vI x10)]) (fun (x10 : Int) (s11 : JSg) => s11) ?_ n v8 (σ)
    intro rc9 hrc9 x10 s11
    refine sim_iload_n 2 rfl dX12_catAt_16 ?_
    refine sim_aload_n 0 rfl dX12_catAt_17 ?_
    refine sim_callVIp v_RX12_250 sh_179 dX12_catAt_18 (k_M_rowMany s11) rfl ⟨by decide, by decide⟩ (S := [vI x10]) rfl (Nat.le_of_ble_eq_true rfl) (fun r12 => ?_)
    refine sim_iconst dX12_catAt_21 (by decide) ?_
    refine sim_isub dX12_catAt_22 ?_
    refine sim_icmp_ge (tgt := 54) dX12_catAt_23 (by decide) ?_ ?_
    · exact sim_sub [0, 1] rfl (hj4 s11)
    · refine sim_aload_n 0 rfl dX12_catAt_26 ?_
      refine sim_getR g_RX12_13 sh_179 rh_179_14 dX12_catAt_27 ?_
      refine sim_sipush dX12_catAt_30 (by decide +kernel) ?_
      refine sim_iload_n 2 rfl dX12_catAt_33 ?_
      refine sim_iadd dX12_catAt_34 ?_
      refine sim_aload_n 0 rfl dX12_catAt_35 ?_
      refine sim_getR g_RX12_13 sh_179 rh_179_14 dX12_catAt_36 ?_
      refine sim_sipush dX12_catAt_39 (by decide +kernel) ?_
      refine sim_iload_n 2 rfl dX12_catAt_42 ?_
      refine sim_iadd dX12_catAt_43 ?_
      refine sim_iconst dX12_catAt_44 (by decide) ?_
      refine sim_iadd dX12_catAt_45 ?_
      refine sim_iaload sh_181 rfl dX12_catAt_46 ?_
      refine sim_iastore sh_181 rfl dX12_catAt_47 (fun s13 => ?_)
      refine sim_iinc 2 rfl (fun v14 => [(3, vI v14), (0, vR 179), (2, vI v3)]) (fun _ => rfl) (by decide) dX12_catAt_48 (fun v14 => ?_)
      refine sim_goto (tgt := 16) dX12_catAt_51 (by decide) ?_
      exact sim_sub [1, 2, 0] rfl (hrc9 v14 s13)
theorem dX12_turnLast_0 : decode cX12_turnLast 0 = .ok (.aload_n 0, 1) := by decide +kernel
theorem dX12_turnLast_1 : decode cX12_turnLast 1 = .ok (.getfield 13, 3) := by decide +kernel
theorem dX12_turnLast_4 : decode cX12_turnLast 4 = .ok (.sipush 152, 3) := by decide +kernel
theorem dX12_turnLast_7 : decode cX12_turnLast 7 = .ok (.aload_n 0, 1) := by decide +kernel
theorem dX12_turnLast_8 : decode cX12_turnLast 8 = .ok (.invokevirtual 250, 3) := by decide +kernel
theorem dX12_turnLast_11 : decode cX12_turnLast 11 = .ok (.iadd, 1) := by decide +kernel
theorem dX12_turnLast_12 : decode cX12_turnLast 12 = .ok (.iconst 1, 1) := by decide +kernel
theorem dX12_turnLast_13 : decode cX12_turnLast 13 = .ok (.isub, 1) := by decide +kernel
theorem dX12_turnLast_14 : decode cX12_turnLast 14 = .ok (.dup2, 1) := by decide +kernel
theorem dX12_turnLast_15 : decode cX12_turnLast 15 = .ok (.iaload, 1) := by decide +kernel
theorem dX12_turnLast_16 : decode cX12_turnLast 16 = .ok (.iconst 1, 1) := by decide +kernel
theorem dX12_turnLast_17 : decode cX12_turnLast 17 = .ok (.ixor, 1) := by decide +kernel
theorem dX12_turnLast_18 : decode cX12_turnLast 18 = .ok (.iastore, 1) := by decide +kernel
theorem dX12_turnLast_19 : decode cX12_turnLast 19 = .ok (.return_, 1) := by decide +kernel
def f_M_turnLast    (σ : JSg) : Option (JSg) :=
  bd1 (f_M_rowMany σ) fun r1 => chk (0 ≤ (w32 ((w32 (152 + r1)) - 1)) ∧ (w32 ((w32 (152 + r1)) - 1)) < 448) <| chk (0 ≤ (w32 ((w32 (152 + r1)) - 1)) ∧ (w32 ((w32 (152 + r1)) - 1)) < 448) <| lt_ (sp σ 181 (w32 ((w32 (152 + r1)) - 1)).toNat (xr32 (σ 181 (w32 ((w32 (152 + r1)) - 1)).toNat) 1)) fun s2 => some s2
set_option maxRecDepth 20000 in
set_option maxHeartbeats 4000000 in
theorem k_M_turnLast      (σ : JSg) : Call yX12_turnLast cX12_turnLast 1 none 1 SH RHO [vR 179] σ dVm (f_M_turnLast  σ) := by
  refine call_of_sim (by decide +kernel) (Nat.le_of_ble_eq_true rfl) ?_
  show Sim RX12 cX12_turnLast 1 none 1 SH RHO 0 [(0, vR 179)] [] σ dVm (f_M_turnLast  σ)
  unfold f_M_turnLast
  refine sim_aload_n 0 rfl dX12_turnLast_0 ?_
  refine sim_getR g_RX12_13 sh_179 rh_179_14 dX12_turnLast_1 ?_
  refine sim_sipush dX12_turnLast_4 (by decide +kernel) ?_
  refine sim_aload_n 0 rfl dX12_turnLast_7 ?_
  refine sim_callVIp v_RX12_250 sh_179 dX12_turnLast_8 (k_M_rowMany σ) rfl ⟨by decide, by decide⟩ (S := [vI 152, vR 181]) rfl (Nat.le_of_ble_eq_true rfl) (fun r1 => ?_)
  refine sim_iadd dX12_turnLast_11 ?_
  refine sim_iconst dX12_turnLast_12 (by decide) ?_
  refine sim_isub dX12_turnLast_13 ?_
  refine sim_dup2 rfl rfl dX12_turnLast_14 ?_
  refine sim_iaload sh_181 rfl dX12_turnLast_15 ?_
  refine sim_iconst dX12_turnLast_16 (by decide) ?_
  refine sim_ixor dX12_turnLast_17 ?_
  refine sim_iastore sh_181 rfl dX12_turnLast_18 (fun s2 => ?_)
  exact sim_vret rfl rfl dX12_turnLast_19
theorem dX12_days_0 : decode cX12_days 0 = .ok (.aload_n 0, 1) := by decide +kernel
theorem dX12_days_1 : decode cX12_days 1 = .ok (.iconst 0, 1) := by decide +kernel
theorem dX12_days_2 : decode cX12_days 2 = .ok (.putfield 87, 3) := by decide +kernel
theorem dX12_days_5 : decode cX12_days 5 = .ok (.iload_n 1, 1) := by decide +kernel
theorem dX12_days_6 : decode cX12_days 6 = .ok (.iconst 1, 1) := by decide +kernel
theorem dX12_days_7 : decode cX12_days 7 = .ok (.sipush 200, 3) := by decide +kernel
theorem dX12_days_10 : decode cX12_days 10 = .ok (.invokestatic 158, 3) := by decide +kernel
theorem dX12_days_13 : decode cX12_days 13 = .ok (.ifCond .eq 10, 3) := by decide +kernel
theorem dX12_days_16 : decode cX12_days 16 = .ok (.aload_n 0, 1) := by decide +kernel
theorem dX12_days_17 : decode cX12_days 17 = .ok (.invokevirtual 237, 3) := by decide +kernel
theorem dX12_days_20 : decode cX12_days 20 = .ok (.ifCond .ne 5, 3) := by decide +kernel
theorem dX12_days_23 : decode cX12_days 23 = .ok (.iconst (-1), 1) := by decide +kernel
theorem dX12_days_24 : decode cX12_days 24 = .ok (.ireturn, 1) := by decide +kernel
theorem dX12_days_25 : decode cX12_days 25 = .ok (.aload_n 0, 1) := by decide +kernel
theorem dX12_days_26 : decode cX12_days 26 = .ok (.invokevirtual 293, 3) := by decide +kernel
theorem dX12_days_29 : decode cX12_days 29 = .ok (.aload_n 0, 1) := by decide +kernel
theorem dX12_days_30 : decode cX12_days 30 = .ok (.iload_n 2, 1) := by decide +kernel
theorem dX12_days_31 : decode cX12_days 31 = .ok (.putfield 421, 3) := by decide +kernel
theorem dX12_days_34 : decode cX12_days 34 = .ok (.iconst 0, 1) := by decide +kernel
theorem dX12_days_35 : decode cX12_days 35 = .ok (.istore_n 3, 1) := by decide +kernel
theorem dX12_days_36 : decode cX12_days 36 = .ok (.iconst 0, 1) := by decide +kernel
theorem dX12_days_37 : decode cX12_days 37 = .ok (.istore 4, 2) := by decide +kernel
theorem dX12_days_39 : decode cX12_days 39 = .ok (.iconst 0, 1) := by decide +kernel
theorem dX12_days_40 : decode cX12_days 40 = .ok (.istore 5, 2) := by decide +kernel
theorem dX12_days_42 : decode cX12_days 42 = .ok (.iconst 0, 1) := by decide +kernel
theorem dX12_days_43 : decode cX12_days 43 = .ok (.istore 6, 2) := by decide +kernel
theorem dX12_days_45 : decode cX12_days 45 = .ok (.iconst 0, 1) := by decide +kernel
theorem dX12_days_46 : decode cX12_days 46 = .ok (.istore 7, 2) := by decide +kernel
theorem dX12_days_48 : decode cX12_days 48 = .ok (.iload 7, 2) := by decide +kernel
theorem dX12_days_50 : decode cX12_days 50 = .ok (.iload_n 1, 1) := by decide +kernel
theorem dX12_days_51 : decode cX12_days 51 = .ok (.if_icmp .ge 141, 3) := by decide +kernel
theorem dX12_days_54 : decode cX12_days 54 = .ok (.aload_n 0, 1) := by decide +kernel
theorem dX12_days_55 : decode cX12_days 55 = .ok (.aload_n 0, 1) := by decide +kernel
theorem dX12_days_56 : decode cX12_days 56 = .ok (.invokevirtual 237, 3) := by decide +kernel
theorem dX12_days_59 : decode cX12_days 59 = .ok (.invokevirtual 425, 3) := by decide +kernel
theorem dX12_days_62 : decode cX12_days 62 = .ok (.istore 8, 2) := by decide +kernel
theorem dX12_days_64 : decode cX12_days 64 = .ok (.aload_n 0, 1) := by decide +kernel
theorem dX12_days_65 : decode cX12_days 65 = .ok (.iload 8, 2) := by decide +kernel
theorem dX12_days_67 : decode cX12_days 67 = .ok (.iconst (-1), 1) := by decide +kernel
theorem dX12_days_68 : decode cX12_days 68 = .ok (.invokevirtual 428, 3) := by decide +kernel
theorem dX12_days_71 : decode cX12_days 71 = .ok (.istore 9, 2) := by decide +kernel
theorem dX12_days_73 : decode cX12_days 73 = .ok (.iload 9, 2) := by decide +kernel
theorem dX12_days_75 : decode cX12_days 75 = .ok (.ifCond .le 56, 3) := by decide +kernel
theorem dX12_days_78 : decode cX12_days 78 = .ok (.aload_n 0, 1) := by decide +kernel
theorem dX12_days_79 : decode cX12_days 79 = .ok (.iload 8, 2) := by decide +kernel
theorem dX12_days_81 : decode cX12_days 81 = .ok (.aload_n 0, 1) := by decide +kernel
theorem dX12_days_82 : decode cX12_days 82 = .ok (.iload 9, 2) := by decide +kernel
theorem dX12_days_84 : decode cX12_days 84 = .ok (.invokevirtual 425, 3) := by decide +kernel
theorem dX12_days_87 : decode cX12_days 87 = .ok (.invokevirtual 428, 3) := by decide +kernel
theorem dX12_days_90 : decode cX12_days 90 = .ok (.istore 10, 2) := by decide +kernel
theorem dX12_days_92 : decode cX12_days 92 = .ok (.aload_n 0, 1) := by decide +kernel
theorem dX12_days_93 : decode cX12_days 93 = .ok (.iconst 2, 1) := by decide +kernel
theorem dX12_days_94 : decode cX12_days 94 = .ok (.invokevirtual 425, 3) := by decide +kernel
theorem dX12_days_97 : decode cX12_days 97 = .ok (.istore 11, 2) := by decide +kernel
theorem dX12_days_99 : decode cX12_days 99 = .ok (.aload_n 0, 1) := by decide +kernel
theorem dX12_days_100 : decode cX12_days 100 = .ok (.iload 8, 2) := by decide +kernel
theorem dX12_days_102 : decode cX12_days 102 = .ok (.iload 10, 2) := by decide +kernel
theorem dX12_days_104 : decode cX12_days 104 = .ok (.iload 11, 2) := by decide +kernel
theorem dX12_days_106 : decode cX12_days 106 = .ok (.invokevirtual 289, 3) := by decide +kernel
theorem dX12_days_109 : decode cX12_days 109 = .ok (.ifCond .ne 19, 3) := by decide +kernel
theorem dX12_days_112 : decode cX12_days 112 = .ok (.aload_n 0, 1) := by decide +kernel
theorem dX12_days_113 : decode cX12_days 113 = .ok (.iload 8, 2) := by decide +kernel
theorem dX12_days_115 : decode cX12_days 115 = .ok (.iload 10, 2) := by decide +kernel
theorem dX12_days_117 : decode cX12_days 117 = .ok (.iload 11, 2) := by decide +kernel
theorem dX12_days_119 : decode cX12_days 119 = .ok (.invokevirtual 296, 3) := by decide +kernel
theorem dX12_days_122 : decode cX12_days 122 = .ok (.iinc 3 1, 3) := by decide +kernel
theorem dX12_days_125 : decode cX12_days 125 = .ok (.goto 6, 3) := by decide +kernel
theorem dX12_days_128 : decode cX12_days 128 = .ok (.iinc 6 1, 3) := by decide +kernel
theorem dX12_days_131 : decode cX12_days 131 = .ok (.aload_n 0, 1) := by decide +kernel
theorem dX12_days_132 : decode cX12_days 132 = .ok (.bipush 8, 2) := by decide +kernel
theorem dX12_days_134 : decode cX12_days 134 = .ok (.invokevirtual 425, 3) := by decide +kernel
theorem dX12_days_137 : decode cX12_days 137 = .ok (.ifCond .ne 27, 3) := by decide +kernel
theorem dX12_days_140 : decode cX12_days 140 = .ok (.aload_n 0, 1) := by decide +kernel
theorem dX12_days_141 : decode cX12_days 141 = .ok (.iconst 2, 1) := by decide +kernel
theorem dX12_days_142 : decode cX12_days 142 = .ok (.invokevirtual 425, 3) := by decide +kernel
theorem dX12_days_145 : decode cX12_days 145 = .ok (.istore 10, 2) := by decide +kernel
theorem dX12_days_147 : decode cX12_days 147 = .ok (.aload_n 0, 1) := by decide +kernel
theorem dX12_days_148 : decode cX12_days 148 = .ok (.invokevirtual 250, 3) := by decide +kernel
theorem dX12_days_151 : decode cX12_days 151 = .ok (.ifCond .le 13, 3) := by decide +kernel
theorem dX12_days_154 : decode cX12_days 154 = .ok (.aload_n 0, 1) := by decide +kernel
theorem dX12_days_155 : decode cX12_days 155 = .ok (.iload 10, 2) := by decide +kernel
theorem dX12_days_157 : decode cX12_days 157 = .ok (.invokevirtual 300, 3) := by decide +kernel
theorem dX12_days_160 : decode cX12_days 160 = .ok (.pop, 1) := by decide +kernel
theorem dX12_days_161 : decode cX12_days 161 = .ok (.iinc 4 1, 3) := by decide +kernel
theorem dX12_days_164 : decode cX12_days 164 = .ok (.aload_n 0, 1) := by decide +kernel
theorem dX12_days_165 : decode cX12_days 165 = .ok (.iconst 4, 1) := by decide +kernel
theorem dX12_days_166 : decode cX12_days 166 = .ok (.invokevirtual 425, 3) := by decide +kernel
theorem dX12_days_169 : decode cX12_days 169 = .ok (.ifCond .ne 17, 3) := by decide +kernel
theorem dX12_days_172 : decode cX12_days 172 = .ok (.aload_n 0, 1) := by decide +kernel
theorem dX12_days_173 : decode cX12_days 173 = .ok (.invokevirtual 250, 3) := by decide +kernel
theorem dX12_days_176 : decode cX12_days 176 = .ok (.ifCond .le 10, 3) := by decide +kernel
theorem dX12_days_179 : decode cX12_days 179 = .ok (.aload_n 0, 1) := by decide +kernel
theorem dX12_days_180 : decode cX12_days 180 = .ok (.invokevirtual 303, 3) := by decide +kernel
theorem dX12_days_183 : decode cX12_days 183 = .ok (.iinc 5 1, 3) := by decide +kernel
theorem dX12_days_186 : decode cX12_days 186 = .ok (.iinc 7 1, 3) := by decide +kernel
theorem dX12_days_189 : decode cX12_days 189 = .ok (.goto (-141), 3) := by decide +kernel
theorem dX12_days_192 : decode cX12_days 192 = .ok (.aload_n 0, 1) := by decide +kernel
theorem dX12_days_193 : decode cX12_days 193 = .ok (.getfield 81, 3) := by decide +kernel
theorem dX12_days_196 : decode cX12_days 196 = .ok (.iconst 0, 1) := by decide +kernel
theorem dX12_days_197 : decode cX12_days 197 = .ok (.iload 4, 2) := by decide +kernel
theorem dX12_days_199 : decode cX12_days 199 = .ok (.iastore, 1) := by decide +kernel
theorem dX12_days_200 : decode cX12_days 200 = .ok (.aload_n 0, 1) := by decide +kernel
theorem dX12_days_201 : decode cX12_days 201 = .ok (.getfield 81, 3) := by decide +kernel
theorem dX12_days_204 : decode cX12_days 204 = .ok (.iconst 1, 1) := by decide +kernel
theorem dX12_days_205 : decode cX12_days 205 = .ok (.iload 5, 2) := by decide +kernel
theorem dX12_days_207 : decode cX12_days 207 = .ok (.iastore, 1) := by decide +kernel
theorem dX12_days_208 : decode cX12_days 208 = .ok (.aload_n 0, 1) := by decide +kernel
theorem dX12_days_209 : decode cX12_days 209 = .ok (.getfield 81, 3) := by decide +kernel
theorem dX12_days_212 : decode cX12_days 212 = .ok (.iconst 2, 1) := by decide +kernel
theorem dX12_days_213 : decode cX12_days 213 = .ok (.iload 6, 2) := by decide +kernel
theorem dX12_days_215 : decode cX12_days 215 = .ok (.iastore, 1) := by decide +kernel
theorem dX12_days_216 : decode cX12_days 216 = .ok (.iload_n 3, 1) := by decide +kernel
theorem dX12_days_217 : decode cX12_days 217 = .ok (.ireturn, 1) := by decide +kernel
def f_M_days (n : Nat)  (a1 : Int) (a2 : Int) (σ : JSg) : Option (Int × JSg) :=
  lt_ (sp σ 179 0 0) fun s1 => bd1 (f_M_isIn a1 1 200 s1) fun r2 => if r2 = 0 then (some ((-1), s1)) else (bd1 (f_M_widows s1) fun r3 => if r3 = 0 then (some ((-1), s1)) else (bd1 (f_M_snap n s1) fun s4 => lt_ (sp s4 179 45 a2) fun s5 => lt_ 0 fun v6 => lt_ 0 fun v7 => lt_ 0 fun v8 => lt_ 0 fun v9 => lt_ 0 fun v10 => wh6 n (fun rc11 (x12 : Int) (x13 : Int) (x14 : Int) (x15 : Int) (x16 : Int) (s17 : JSg) => if x16 < a1 then (bd1 (f_M_widows s17) fun r21 => bd2 (f_M_draw r21 s17) fun r22 s23 => lt_ r22 fun v24 => bd1 (f_M_inHand n v24 (-1) s23) fun r25 => lt_ r25 fun v26 => jn3 (fun (y28 : Int) (y29 : Int) (s30 : JSg) => bd2 (f_M_draw 8 s30) fun r31 s32 => jn2 (fun (y34 : Int) (s35 : JSg) => bd2 (f_M_draw 4 s35) fun r36 s37 => jn2 (fun (y39 : Int) (s40 : JSg) => lt_ (w32 (x16 + 1)) fun v41 => rc11 y28 y34 y39 y29 v41 s40) fun j38 => if r36 = 0 then (bd1 (f_M_rowMany s37) fun r42 => if 0 < r42 then (bd1 (f_M_turnLast s37) fun s43 => lt_ (w32 (x14 + 1)) fun v44 => j38 v44 s43) else (j38 x14 s37)) else (j38 x14 s37)) fun j33 => if r31 = 0 then (bd2 (f_M_draw 2 s32) fun r45 s46 => lt_ r45 fun v47 => bd1 (f_M_rowMany s46) fun r48 => if 0 < r48 then (bd2 (f_M_catAt n v47 s46) fun r49 s50 => lt_ (w32 (x13 + 1)) fun v51 => j33 v51 s50) else (j33 x13 s46)) else (j33 x13 s32)) fun j27 => if 0 < v26 then (bd2 (f_M_draw v26 s23) fun r52 s53 => bd1 (f_M_inHand n v24 r52 s53) fun r54 => lt_ r54 fun v55 => bd2 (f_M_draw 2 s53) fun r56 s57 => lt_ r56 fun v58 => bd1 (f_M_whyNot v24 v55 v58 s57) fun r59 => if r59 = 0 then (bd1 (f_M_lays n v24 v55 v58 s57) fun s61 => lt_ (w32 (x12 + 1)) fun v62 => j27 v62 x15 s61) else (lt_ (w32 (x15 + 1)) fun v60 => j27 x12 v60 s57)) else (j27 x12 x15 s23)) else (lt_ (sp s17 201 0 x13) fun s18 => lt_ (sp s18 201 1 x14) fun s19 => lt_ (sp s19 201 2 x15) fun s20 => some (x12, s20))) v6 v7 v8 v9 v10 s5))
set_option maxRecDepth 20000 in
set_option maxHeartbeats 4000000 in
theorem k_M_days  (n : Nat)   (a1 : Int) (a2 : Int) (σ : JSg) : Call yX12_days cX12_days 12 (some .int) 4 SH RHO [vR 179, vI a1, vI a2] σ dIm (f_M_days n a1 a2 σ) := by
  refine call_of_sim (by decide +kernel) (Nat.le_of_ble_eq_true rfl) ?_
  show Sim RX12 cX12_days 12 (some .int) 4 SH RHO 0 [(0, vR 179), (1, vI a1), (2, vI a2)] [] σ dIm (f_M_days n a1 a2 σ)
  unfold f_M_days
  refine sim_aload_n 0 rfl dX12_days_0 ?_
  refine sim_iconst dX12_days_1 (by decide) ?_
  refine sim_putI g_RX12_87 sh_179 dX12_days_2 (fun s1 => ?_)
  refine sim_iload_n 1 rfl dX12_days_5 ?_
  refine sim_iconst dX12_days_6 (by decide) ?_
  refine sim_sipush dX12_days_7 (by decide +kernel) ?_
  refine sim_callSIp s_RX12_158 dX12_days_10 (k_M_isIn SH RHO a1 1 200 s1) rfl ⟨by decide, by decide⟩ (S := []) rfl (Nat.le_of_ble_eq_true rfl) (fun r2 => ?_)
  refine sim_if_eq (tgt := 23) dX12_days_13 (by decide) ?_ ?_
  · refine sim_iconst dX12_days_23 (by decide) ?_
    exact sim_iret rfl rfl dX12_days_24
  · refine sim_aload_n 0 rfl dX12_days_16 ?_
    refine sim_callVIp v_RX12_237 sh_179 dX12_days_17 (k_M_widows s1) rfl ⟨by decide, by decide⟩ (S := []) rfl (Nat.le_of_ble_eq_true rfl) (fun r3 => ?_)
    refine sim_if_ne (tgt := 25) dX12_days_20 (by decide) ?_ ?_
    · refine sim_aload_n 0 rfl dX12_days_25 ?_
      refine sim_callVVm v_RX12_293 sh_179 dX12_days_26 (k_M_snap n s1) rfl ⟨by decide, by decide⟩ (S := []) rfl (Nat.le_of_ble_eq_true rfl) (fun s4 => ?_)
      refine sim_aload_n 0 rfl dX12_days_29 ?_
      refine sim_iload_n 2 rfl dX12_days_30 ?_
      refine sim_putI g_RX12_421 sh_179 dX12_days_31 (fun s5 => ?_)
      refine sim_iconst dX12_days_34 (by decide) ?_
      refine sim_istore_n (fun v6 => [(3, vI v6), (0, vR 179), (1, vI a1), (2, vI a2)]) (fun _ => rfl) (by decide) dX12_days_35 (fun v6 => ?_)
      refine sim_iconst dX12_days_36 (by decide) ?_
      refine sim_istore (fun v7 => [(4, vI v7), (3, vI v6), (0, vR 179), (1, vI a1), (2, vI a2)]) (fun _ => rfl) (by decide) dX12_days_37 (fun v7 => ?_)
      refine sim_iconst dX12_days_39 (by decide) ?_
      refine sim_istore (fun v8 => [(5, vI v8), (4, vI v7), (3, vI v6), (0, vR 179), (1, vI a1), (2, vI a2)]) (fun _ => rfl) (by decide) dX12_days_40 (fun v8 => ?_)
      refine sim_iconst dX12_days_42 (by decide) ?_
      refine sim_istore (fun v9 => [(6, vI v9), (5, vI v8), (4, vI v7), (3, vI v6), (0, vR 179), (1, vI a1), (2, vI a2)]) (fun _ => rfl) (by decide) dX12_days_43 (fun v9 => ?_)
      refine sim_iconst dX12_days_45 (by decide) ?_
      refine sim_istore (fun v10 => [(7, vI v10), (6, vI v9), (5, vI v8), (4, vI v7), (3, vI v6), (0, vR 179), (1, vI a1), (2, vI a2)]) (fun _ => rfl) (by decide) dX12_days_46 (fun v10 => ?_)
      refine sim_sub [5, 6, 4, 3, 2, 1, 0] (L' := [(0, vR 179), (1, vI a1), (3, vI v6), (4, vI v7), (5, vI v8), (6, vI v9), (7, vI v10)]) rfl ?_
      refine sim_wh6 (fun (x12 : Int) (x13 : Int) (x14 : Int) (x15 : Int) (x16 : Int) (s17 : JSg) => [(0, vR 179), (1, vI a1), (3, vI x12), (4, vI x13), (5, vI x14), (6, vI x15), (7, vI x16)]) (fun (x12 : Int) (x13 : Int) (x14 : Int) (x15 : Int) (x16 : Int) (s17 : JSg) => s17) ?_ n v6 v7 v8 v9 v10 s5
      intro rc11 hrc11 x12 x13 x14 x15 x16 s17
      refine sim_iload 6 rfl dX12_days_48 ?_
      refine sim_iload_n 1 rfl dX12_days_50 ?_
      refine sim_icmp_ge (tgt := 192) dX12_days_51 (by decide) ?_ ?_
      · refine sim_aload_n 0 rfl dX12_days_192 ?_
        refine sim_getR g_RX12_81 sh_179 rh_179_46 dX12_days_193 ?_
        refine sim_iconst dX12_days_196 (by decide) ?_
        refine sim_iload 3 rfl dX12_days_197 ?_
        refine sim_iastoreK (j := 0) sh_201 rfl (by decide) dX12_days_199 (fun s18 => ?_)
        refine sim_aload_n 0 rfl dX12_days_200 ?_
        refine sim_getR g_RX12_81 sh_179 rh_179_46 dX12_days_201 ?_
        refine sim_iconst dX12_days_204 (by decide) ?_
        refine sim_iload 4 rfl dX12_days_205 ?_
        refine sim_iastoreK (j := 1) sh_201 rfl (by decide) dX12_days_207 (fun s19 => ?_)
        refine sim_aload_n 0 rfl dX12_days_208 ?_
        refine sim_getR g_RX12_81 sh_179 rh_179_46 dX12_days_209 ?_
        refine sim_iconst dX12_days_212 (by decide) ?_
        refine sim_iload 5 rfl dX12_days_213 ?_
        refine sim_iastoreK (j := 2) sh_201 rfl (by decide) dX12_days_215 (fun s20 => ?_)
        refine sim_iload_n 2 rfl dX12_days_216 ?_
        exact sim_iret rfl rfl dX12_days_217
      · refine sim_aload_n 0 rfl dX12_days_54 ?_
        refine sim_aload_n 0 rfl dX12_days_55 ?_
        refine sim_callVIp v_RX12_237 sh_179 dX12_days_56 (k_M_widows s17) rfl ⟨by decide, by decide⟩ (S := [vR 179]) rfl (Nat.le_of_ble_eq_true rfl) (fun r21 => ?_)
        refine sim_callVIm v_RX12_425 sh_179 dX12_days_59 (k_M_draw r21 s17) rfl ⟨by decide, by decide⟩ (S := []) rfl (Nat.le_of_ble_eq_true rfl) (fun r22 s23 => ?_)
        refine sim_istore (fun v24 => [(8, vI v24), (0, vR 179), (1, vI a1), (3, vI x12), (4, vI x13), (5, vI x14), (6, vI x15), (7, vI x16)]) (fun _ => rfl) (by decide) dX12_days_62 (fun v24 => ?_)
        refine sim_aload_n 1 rfl dX12_days_64 ?_
        refine sim_iload 0 rfl dX12_days_65 ?_
        refine sim_iconst dX12_days_67 (by decide) ?_
        refine sim_callVIp v_RX12_428 sh_179 dX12_days_68 (k_M_inHand n v24 (-1) s23) rfl ⟨by decide, by decide⟩ (S := []) rfl (Nat.le_of_ble_eq_true rfl) (fun r25 => ?_)
        refine sim_istore (fun v26 => [(9, vI v26), (8, vI v24), (0, vR 179), (1, vI a1), (3, vI x12), (4, vI x13), (5, vI x14), (6, vI x15), (7, vI x16)]) (fun _ => rfl) (by decide) dX12_days_71 (fun v26 => ?_)
        refine sim_iload 0 rfl dX12_days_73 ?_
        refine sim_jn3 (pc' := 131) (fun (y28 : Int) (y29 : Int) (s30 : JSg) => [(0, vR 179), (1, vI a1), (3, vI y28), (4, vI x13), (5, vI x14), (6, vI y29), (7, vI x16)]) (fun (y28 : Int) (y29 : Int) (s30 : JSg) => []) (fun (y28 : Int) (y29 : Int) (s30 : JSg) => s30) ?_ (fun j27 hj27 => ?_)
        · intro y28 y29 s30
          refine sim_aload_n 0 rfl dX12_days_131 ?_
          refine sim_bipush dX12_days_132 (by decide +kernel) ?_
          refine sim_callVIm v_RX12_425 sh_179 dX12_days_134 (k_M_draw 8 s30) rfl ⟨by decide, by decide⟩ (S := []) rfl (Nat.le_of_ble_eq_true rfl) (fun r31 s32 => ?_)
          refine sim_jn2 (pc' := 164) (fun (y34 : Int) (s35 : JSg) => [(0, vR 179), (1, vI a1), (3, vI y28), (4, vI y34), (5, vI x14), (6, vI y29), (7, vI x16)]) (fun (y34 : Int) (s35 : JSg) => []) (fun (y34 : Int) (s35 : JSg) => s35) ?_ (fun j33 hj33 => ?_)
          · intro y34 s35
            refine sim_aload_n 0 rfl dX12_days_164 ?_
            refine sim_iconst dX12_days_165 (by decide) ?_
            refine sim_callVIm v_RX12_425 sh_179 dX12_days_166 (k_M_draw 4 s35) rfl ⟨by decide, by decide⟩ (S := []) rfl (Nat.le_of_ble_eq_true rfl) (fun r36 s37 => ?_)
            refine sim_jn2 (pc' := 186) (fun (y39 : Int) (s40 : JSg) => [(0, vR 179), (1, vI a1), (3, vI y28), (4, vI y34), (5, vI y39), (6, vI y29), (7, vI x16)]) (fun (y39 : Int) (s40 : JSg) => []) (fun (y39 : Int) (s40 : JSg) => s40) ?_ (fun j38 hj38 => ?_)
            · intro y39 s40
              refine sim_iinc 6 rfl (fun v41 => [(7, vI v41), (0, vR 179), (1, vI a1), (3, vI y28), (4, vI y34), (5, vI y39), (6, vI y29)]) (fun _ => rfl) (by decide) dX12_days_186 (fun v41 => ?_)
              refine sim_goto (tgt := 48) dX12_days_189 (by decide) ?_
              exact sim_sub [1, 2, 3, 4, 5, 6, 0] rfl (hrc11 y28 y34 y39 y29 v41 s40)
            refine sim_if_ne (tgt := 186) dX12_days_169 (by decide) ?_ ?_
            · exact sim_sub [0, 1, 2, 3, 4, 5, 6] rfl (hj38 x14 s37)
            · refine sim_aload_n 0 rfl dX12_days_172 ?_
              refine sim_callVIp v_RX12_250 sh_179 dX12_days_173 (k_M_rowMany s37) rfl ⟨by decide, by decide⟩ (S := []) rfl (Nat.le_of_ble_eq_true rfl) (fun r42 => ?_)
              refine sim_if_le (tgt := 186) dX12_days_176 (by decide) ?_ ?_
              · exact sim_sub [0, 1, 2, 3, 4, 5, 6] rfl (hj38 x14 s37)
              · refine sim_aload_n 0 rfl dX12_days_179 ?_
                refine sim_callVVm v_RX12_303 sh_179 dX12_days_180 (k_M_turnLast s37) rfl ⟨by decide, by decide⟩ (S := []) rfl (Nat.le_of_ble_eq_true rfl) (fun s43 => ?_)
                refine sim_iinc 4 rfl (fun v44 => [(5, vI v44), (0, vR 179), (1, vI a1), (3, vI y28), (4, vI y34), (6, vI y29), (7, vI x16)]) (fun _ => rfl) (by decide) dX12_days_183 (fun v44 => ?_)
                exact sim_sub [1, 2, 3, 4, 0, 5, 6] rfl (hj38 v44 s43)
          refine sim_if_ne (tgt := 164) dX12_days_137 (by decide) ?_ ?_
          · exact sim_sub [0, 1, 2, 3, 4, 5, 6] rfl (hj33 x13 s32)
          · refine sim_aload_n 0 rfl dX12_days_140 ?_
            refine sim_iconst dX12_days_141 (by decide) ?_
            refine sim_callVIm v_RX12_425 sh_179 dX12_days_142 (k_M_draw 2 s32) rfl ⟨by decide, by decide⟩ (S := []) rfl (Nat.le_of_ble_eq_true rfl) (fun r45 s46 => ?_)
            refine sim_istore (fun v47 => [(10, vI v47), (0, vR 179), (1, vI a1), (3, vI y28), (4, vI x13), (5, vI x14), (6, vI y29), (7, vI x16)]) (fun _ => rfl) (by decide) dX12_days_145 (fun v47 => ?_)
            refine sim_aload_n 1 rfl dX12_days_147 ?_
            refine sim_callVIp v_RX12_250 sh_179 dX12_days_148 (k_M_rowMany s46) rfl ⟨by decide, by decide⟩ (S := []) rfl (Nat.le_of_ble_eq_true rfl) (fun r48 => ?_)
            refine sim_if_le (tgt := 164) dX12_days_151 (by decide) ?_ ?_
            · exact sim_sub [1, 2, 3, 4, 5, 6, 7] rfl (hj33 x13 s46)
            · refine sim_aload_n 1 rfl dX12_days_154 ?_
              refine sim_iload 0 rfl dX12_days_155 ?_
              refine sim_callVIm v_RX12_300 sh_179 dX12_days_157 (k_M_catAt n v47 s46) rfl ⟨by decide, by decide⟩ (S := []) rfl (Nat.le_of_ble_eq_true rfl) (fun r49 s50 => ?_)
              refine sim_pop rfl dX12_days_160 ?_
              refine sim_iinc 4 rfl (fun v51 => [(4, vI v51), (10, vI v47), (0, vR 179), (1, vI a1), (3, vI y28), (5, vI x14), (6, vI y29), (7, vI x16)]) (fun _ => rfl) (by decide) dX12_days_161 (fun v51 => ?_)
              exact sim_sub [2, 3, 4, 0, 5, 6, 7] rfl (hj33 v51 s50)
        refine sim_if_le (tgt := 131) dX12_days_75 (by decide) ?_ ?_
        · exact sim_sub [2, 3, 4, 5, 6, 7, 8] rfl (hj27 x12 x15 s23)
        · refine sim_aload_n 2 rfl dX12_days_78 ?_
          refine sim_iload 1 rfl dX12_days_79 ?_
          refine sim_aload_n 2 rfl dX12_days_81 ?_
          refine sim_iload 0 rfl dX12_days_82 ?_
          refine sim_callVIm v_RX12_425 sh_179 dX12_days_84 (k_M_draw v26 s23) rfl ⟨by decide, by decide⟩ (S := [vI v24, vR 179]) rfl (Nat.le_of_ble_eq_true rfl) (fun r52 s53 => ?_)
          refine sim_callVIp v_RX12_428 sh_179 dX12_days_87 (k_M_inHand n v24 r52 s53) rfl ⟨by decide, by decide⟩ (S := []) rfl (Nat.le_of_ble_eq_true rfl) (fun r54 => ?_)
          refine sim_istore (fun v55 => [(10, vI v55), (9, vI v26), (8, vI v24), (0, vR 179), (1, vI a1), (3, vI x12), (4, vI x13), (5, vI x14), (6, vI x15), (7, vI x16)]) (fun _ => rfl) (by decide) dX12_days_90 (fun v55 => ?_)
          refine sim_aload_n 3 rfl dX12_days_92 ?_
          refine sim_iconst dX12_days_93 (by decide) ?_
          refine sim_callVIm v_RX12_425 sh_179 dX12_days_94 (k_M_draw 2 s53) rfl ⟨by decide, by decide⟩ (S := []) rfl (Nat.le_of_ble_eq_true rfl) (fun r56 s57 => ?_)
          refine sim_istore (fun v58 => [(11, vI v58), (10, vI v55), (9, vI v26), (8, vI v24), (0, vR 179), (1, vI a1), (3, vI x12), (4, vI x13), (5, vI x14), (6, vI x15), (7, vI x16)]) (fun _ => rfl) (by decide) dX12_days_97 (fun v58 => ?_)
          refine sim_aload_n 4 rfl dX12_days_99 ?_
          refine sim_iload 3 rfl dX12_days_100 ?_
          refine sim_iload 1 rfl dX12_days_102 ?_
          refine sim_iload 0 rfl dX12_days_104 ?_
          refine sim_callVIp v_RX12_289 sh_179 dX12_days_106 (k_M_whyNot v24 v55 v58 s57) rfl ⟨by decide, by decide⟩ (S := []) rfl (Nat.le_of_ble_eq_true rfl) (fun r59 => ?_)
          refine sim_if_ne (tgt := 128) dX12_days_109 (by decide) ?_ ?_
          · refine sim_iinc 9 rfl (fun v60 => [(6, vI v60), (11, vI v58), (10, vI v55), (9, vI v26), (8, vI v24), (0, vR 179), (1, vI a1), (3, vI x12), (4, vI x13), (5, vI x14), (7, vI x16)]) (fun _ => rfl) (by decide) dX12_days_128 (fun v60 => ?_)
            exact sim_sub [5, 6, 7, 8, 9, 0, 10] rfl (hj27 x12 v60 s57)
          · refine sim_aload_n 4 rfl dX12_days_112 ?_
            refine sim_iload 3 rfl dX12_days_113 ?_
            refine sim_iload 1 rfl dX12_days_115 ?_
            refine sim_iload 0 rfl dX12_days_117 ?_
            refine sim_callVVm v_RX12_296 sh_179 dX12_days_119 (k_M_lays n v24 v55 v58 s57) rfl ⟨by decide, by decide⟩ (S := []) rfl (Nat.le_of_ble_eq_true rfl) (fun s61 => ?_)
            refine sim_iinc 6 rfl (fun v62 => [(3, vI v62), (11, vI v58), (10, vI v55), (9, vI v26), (8, vI v24), (0, vR 179), (1, vI a1), (4, vI x13), (5, vI x14), (6, vI x15), (7, vI x16)]) (fun _ => rfl) (by decide) dX12_days_122 (fun v62 => ?_)
            refine sim_goto (tgt := 131) dX12_days_125 (by decide) ?_
            exact sim_sub [5, 6, 0, 7, 8, 9, 10] rfl (hj27 v62 x15 s61)
    · refine sim_iconst dX12_days_23 (by decide) ?_
      exact sim_iret rfl rfl dX12_days_24
theorem dX12_isWidow_0 : decode cX12_isWidow 0 = .ok (.iload_n 1, 1) := by decide +kernel
theorem dX12_isWidow_1 : decode cX12_isWidow 1 = .ok (.ifCond .lt 15, 3) := by decide +kernel
theorem dX12_isWidow_4 : decode cX12_isWidow 4 = .ok (.iload_n 1, 1) := by decide +kernel
theorem dX12_isWidow_5 : decode cX12_isWidow 5 = .ok (.aload_n 0, 1) := by decide +kernel
theorem dX12_isWidow_6 : decode cX12_isWidow 6 = .ok (.invokevirtual 237, 3) := by decide +kernel
theorem dX12_isWidow_9 : decode cX12_isWidow 9 = .ok (.if_icmp .ge 7, 3) := by decide +kernel
theorem dX12_isWidow_12 : decode cX12_isWidow 12 = .ok (.iconst 1, 1) := by decide +kernel
theorem dX12_isWidow_13 : decode cX12_isWidow 13 = .ok (.goto 4, 3) := by decide +kernel
theorem dX12_isWidow_16 : decode cX12_isWidow 16 = .ok (.iconst 0, 1) := by decide +kernel
theorem dX12_isWidow_17 : decode cX12_isWidow 17 = .ok (.ireturn, 1) := by decide +kernel
def f_M_isWidow   (a1 : Int) (σ : JSg) : Option (Int) :=
  if a1 < 0 then (some 0) else (bd1 (f_M_widows σ) fun r1 => if a1 < r1 then (some 1) else (some 0))
set_option maxRecDepth 20000 in
set_option maxHeartbeats 4000000 in
theorem k_M_isWidow     (a1 : Int) (σ : JSg) : Call yX12_isWidow cX12_isWidow 2 (some .boolean) 1 SH RHO [vR 179, vI a1] σ (dIp σ) (f_M_isWidow a1 σ) := by
  refine call_of_sim (by decide +kernel) (Nat.le_of_ble_eq_true rfl) ?_
  show Sim RX12 cX12_isWidow 2 (some .boolean) 1 SH RHO 0 [(0, vR 179), (1, vI a1)] [] σ (dIp σ) (f_M_isWidow a1 σ)
  unfold f_M_isWidow
  refine sim_iload_n 1 rfl dX12_isWidow_0 ?_
  refine sim_if_lt (tgt := 16) dX12_isWidow_1 (by decide) ?_ ?_
  · refine sim_iconst dX12_isWidow_16 (by decide) ?_
    exact sim_zret (Or.inl rfl) rfl rfl dX12_isWidow_17
  · refine sim_iload_n 1 rfl dX12_isWidow_4 ?_
    refine sim_aload_n 0 rfl dX12_isWidow_5 ?_
    refine sim_callVIp v_RX12_237 sh_179 dX12_isWidow_6 (k_M_widows σ) rfl ⟨by decide, by decide⟩ (S := [vI a1]) rfl (Nat.le_of_ble_eq_true rfl) (fun r1 => ?_)
    refine sim_icmp_ge (tgt := 16) dX12_isWidow_9 (by decide) ?_ ?_
    · refine sim_iconst dX12_isWidow_16 (by decide) ?_
      exact sim_zret (Or.inl rfl) rfl rfl dX12_isWidow_17
    · refine sim_iconst dX12_isWidow_12 (by decide) ?_
      refine sim_goto (tgt := 17) dX12_isWidow_13 (by decide) ?_
      exact sim_zret (Or.inr rfl) rfl rfl dX12_isWidow_17
theorem dX12_bits_0 : decode cX12_bits 0 = .ok (.iconst 0, 1) := by decide +kernel
theorem dX12_bits_1 : decode cX12_bits 1 = .ok (.istore_n 1, 1) := by decide +kernel
theorem dX12_bits_2 : decode cX12_bits 2 = .ok (.iload_n 0, 1) := by decide +kernel
theorem dX12_bits_3 : decode cX12_bits 3 = .ok (.istore_n 2, 1) := by decide +kernel
theorem dX12_bits_4 : decode cX12_bits 4 = .ok (.iload_n 2, 1) := by decide +kernel
theorem dX12_bits_5 : decode cX12_bits 5 = .ok (.ifCond .eq 15, 3) := by decide +kernel
theorem dX12_bits_8 : decode cX12_bits 8 = .ok (.iinc 1 1, 3) := by decide +kernel
theorem dX12_bits_11 : decode cX12_bits 11 = .ok (.iload_n 2, 1) := by decide +kernel
theorem dX12_bits_12 : decode cX12_bits 12 = .ok (.iload_n 2, 1) := by decide +kernel
theorem dX12_bits_13 : decode cX12_bits 13 = .ok (.iconst 1, 1) := by decide +kernel
theorem dX12_bits_14 : decode cX12_bits 14 = .ok (.isub, 1) := by decide +kernel
theorem dX12_bits_15 : decode cX12_bits 15 = .ok (.iand, 1) := by decide +kernel
theorem dX12_bits_16 : decode cX12_bits 16 = .ok (.istore_n 2, 1) := by decide +kernel
theorem dX12_bits_17 : decode cX12_bits 17 = .ok (.goto (-13), 3) := by decide +kernel
theorem dX12_bits_20 : decode cX12_bits 20 = .ok (.iload_n 1, 1) := by decide +kernel
theorem dX12_bits_21 : decode cX12_bits 21 = .ok (.ireturn, 1) := by decide +kernel
def f_M_bits (n : Nat)  (a1 : Int) (σ : JSg) : Option (Int) :=
  lt_ 0 fun v1 => lt_ a1 fun v2 => wh2 n (fun rc3 (x4 : Int) (x5 : Int) => if x5 = 0 then (some x4) else (lt_ (w32 (x4 + 1)) fun v6 => lt_ (an32 x5 (w32 (x5 - 1))) fun v7 => rc3 v6 v7)) v1 v2
set_option maxRecDepth 20000 in
set_option maxHeartbeats 4000000 in
theorem k_M_bits (Sh : JSh) (ρ : JRo) (n : Nat)   (a1 : Int) (σ : JSg) : Call yX12_bits cX12_bits 3 (some .int) 0 Sh ρ [vI a1] σ (dIp σ) (f_M_bits n a1 σ) := by
  refine call_of_sim (by decide +kernel) (Nat.le_of_ble_eq_true rfl) ?_
  show Sim RX12 cX12_bits 3 (some .int) 0 Sh ρ 0 [(0, vI a1)] [] σ (dIp σ) (f_M_bits n a1 σ)
  unfold f_M_bits
  refine sim_iconst dX12_bits_0 (by decide) ?_
  refine sim_istore_n (fun v1 => [(1, vI v1), (0, vI a1)]) (fun _ => rfl) (by decide) dX12_bits_1 (fun v1 => ?_)
  refine sim_iload_n 1 rfl dX12_bits_2 ?_
  refine sim_istore_n (fun v2 => [(2, vI v2), (1, vI v1), (0, vI a1)]) (fun _ => rfl) (by decide) dX12_bits_3 (fun v2 => ?_)
  refine sim_sub [1, 0] (L' := [(1, vI v1), (2, vI v2)]) rfl ?_
  refine sim_wh2 (fun (x4 : Int) (x5 : Int) => [(1, vI x4), (2, vI x5)]) (fun (x4 : Int) (x5 : Int) => σ) ?_ n v1 v2
  intro rc3 hrc3 x4 x5
  refine sim_iload_n 1 rfl dX12_bits_4 ?_
  refine sim_if_eq (tgt := 20) dX12_bits_5 (by decide) ?_ ?_
  · refine sim_iload_n 0 rfl dX12_bits_20 ?_
    exact sim_iret rfl rfl dX12_bits_21
  · refine sim_iinc 0 rfl (fun v6 => [(1, vI v6), (2, vI x5)]) (fun _ => rfl) (by decide) dX12_bits_8 (fun v6 => ?_)
    refine sim_iload_n 1 rfl dX12_bits_11 ?_
    refine sim_iload_n 1 rfl dX12_bits_12 ?_
    refine sim_iconst dX12_bits_13 (by decide) ?_
    refine sim_isub dX12_bits_14 ?_
    refine sim_iand dX12_bits_15 ?_
    refine sim_istore_n (fun v7 => [(2, vI v7), (1, vI v6)]) (fun _ => rfl) (by decide) dX12_bits_16 (fun v7 => ?_)
    refine sim_goto (tgt := 4) dX12_bits_17 (by decide) ?_
    exact sim_sub [1, 0] rfl (hrc3 v6 v7)
theorem dX12_mayHave_0 : decode cX12_mayHave 0 = .ok (.aload_n 0, 1) := by decide +kernel
theorem dX12_mayHave_1 : decode cX12_mayHave 1 = .ok (.getfield 13, 3) := by decide +kernel
theorem dX12_mayHave_4 : decode cX12_mayHave 4 = .ok (.sipush 200, 3) := by decide +kernel
theorem dX12_mayHave_7 : decode cX12_mayHave 7 = .ok (.iload_n 2, 1) := by decide +kernel
theorem dX12_mayHave_8 : decode cX12_mayHave 8 = .ok (.iadd, 1) := by decide +kernel
theorem dX12_mayHave_9 : decode cX12_mayHave 9 = .ok (.iaload, 1) := by decide +kernel
theorem dX12_mayHave_10 : decode cX12_mayHave 10 = .ok (.aload_n 0, 1) := by decide +kernel
theorem dX12_mayHave_11 : decode cX12_mayHave 11 = .ok (.iload_n 1, 1) := by decide +kernel
theorem dX12_mayHave_12 : decode cX12_mayHave 12 = .ok (.iconst 0, 1) := by decide +kernel
theorem dX12_mayHave_13 : decode cX12_mayHave 13 = .ok (.invokevirtual 243, 3) := by decide +kernel
theorem dX12_mayHave_16 : decode cX12_mayHave 16 = .ok (.invokestatic 201, 3) := by decide +kernel
theorem dX12_mayHave_19 : decode cX12_mayHave 19 = .ok (.ifCond .ne 29, 3) := by decide +kernel
theorem dX12_mayHave_22 : decode cX12_mayHave 22 = .ok (.aload_n 0, 1) := by decide +kernel
theorem dX12_mayHave_23 : decode cX12_mayHave 23 = .ok (.getfield 13, 3) := by decide +kernel
theorem dX12_mayHave_26 : decode cX12_mayHave 26 = .ok (.sipush 200, 3) := by decide +kernel
theorem dX12_mayHave_29 : decode cX12_mayHave 29 = .ok (.iload_n 2, 1) := by decide +kernel
theorem dX12_mayHave_30 : decode cX12_mayHave 30 = .ok (.iadd, 1) := by decide +kernel
theorem dX12_mayHave_31 : decode cX12_mayHave 31 = .ok (.iaload, 1) := by decide +kernel
theorem dX12_mayHave_32 : decode cX12_mayHave 32 = .ok (.aload_n 0, 1) := by decide +kernel
theorem dX12_mayHave_33 : decode cX12_mayHave 33 = .ok (.iload_n 1, 1) := by decide +kernel
theorem dX12_mayHave_34 : decode cX12_mayHave 34 = .ok (.iconst 1, 1) := by decide +kernel
theorem dX12_mayHave_35 : decode cX12_mayHave 35 = .ok (.invokevirtual 243, 3) := by decide +kernel
theorem dX12_mayHave_38 : decode cX12_mayHave 38 = .ok (.invokestatic 201, 3) := by decide +kernel
theorem dX12_mayHave_41 : decode cX12_mayHave 41 = .ok (.ifCond .ne 7, 3) := by decide +kernel
theorem dX12_mayHave_44 : decode cX12_mayHave 44 = .ok (.iconst 1, 1) := by decide +kernel
theorem dX12_mayHave_45 : decode cX12_mayHave 45 = .ok (.goto 4, 3) := by decide +kernel
theorem dX12_mayHave_48 : decode cX12_mayHave 48 = .ok (.iconst 0, 1) := by decide +kernel
theorem dX12_mayHave_49 : decode cX12_mayHave 49 = .ok (.ireturn, 1) := by decide +kernel
def f_M_mayHave   (a1 : Int) (a2 : Int) (σ : JSg) : Option (Int) :=
  chk (0 ≤ (w32 (200 + a2)) ∧ (w32 (200 + a2)) < 448) <| bd1 (f_M_pip a1 0 σ) fun r1 => bd1 (f_M_has (σ 181 (w32 (200 + a2)).toNat) r1 σ) fun r2 => if r2 = 0 then (chk (0 ≤ (w32 (200 + a2)) ∧ (w32 (200 + a2)) < 448) <| bd1 (f_M_pip a1 1 σ) fun r3 => bd1 (f_M_has (σ 181 (w32 (200 + a2)).toNat) r3 σ) fun r4 => if r4 = 0 then (some 1) else (some 0)) else (some 0)
set_option maxRecDepth 20000 in
set_option maxHeartbeats 4000000 in
theorem k_M_mayHave     (a1 : Int) (a2 : Int) (σ : JSg) : Call yX12_mayHave cX12_mayHave 3 (some .boolean) 1 SH RHO [vR 179, vI a1, vI a2] σ (dIp σ) (f_M_mayHave a1 a2 σ) := by
  refine call_of_sim (by decide +kernel) (Nat.le_of_ble_eq_true rfl) ?_
  show Sim RX12 cX12_mayHave 3 (some .boolean) 1 SH RHO 0 [(0, vR 179), (1, vI a1), (2, vI a2)] [] σ (dIp σ) (f_M_mayHave a1 a2 σ)
  unfold f_M_mayHave
  refine sim_aload_n 0 rfl dX12_mayHave_0 ?_
  refine sim_getR g_RX12_13 sh_179 rh_179_14 dX12_mayHave_1 ?_
  refine sim_sipush dX12_mayHave_4 (by decide +kernel) ?_
  refine sim_iload_n 2 rfl dX12_mayHave_7 ?_
  refine sim_iadd dX12_mayHave_8 ?_
  refine sim_iaload sh_181 rfl dX12_mayHave_9 ?_
  refine sim_aload_n 0 rfl dX12_mayHave_10 ?_
  refine sim_iload_n 1 rfl dX12_mayHave_11 ?_
  refine sim_iconst dX12_mayHave_12 (by decide) ?_
  refine sim_callVIp v_RX12_243 sh_179 dX12_mayHave_13 (k_M_pip a1 0 σ) rfl ⟨by decide, by decide⟩ (S := [vI (σ 181 (w32 (200 + a2)).toNat)]) rfl (Nat.le_of_ble_eq_true rfl) (fun r1 => ?_)
  refine sim_callSIp s_RX12_201 dX12_mayHave_16 (k_M_has SH RHO (σ 181 (w32 (200 + a2)).toNat) r1 σ) rfl ⟨by decide, by decide⟩ (S := []) rfl (Nat.le_of_ble_eq_true rfl) (fun r2 => ?_)
  refine sim_if_ne (tgt := 48) dX12_mayHave_19 (by decide) ?_ ?_
  · refine sim_iconst dX12_mayHave_48 (by decide) ?_
    exact sim_zret (Or.inl rfl) rfl rfl dX12_mayHave_49
  · refine sim_aload_n 0 rfl dX12_mayHave_22 ?_
    refine sim_getR g_RX12_13 sh_179 rh_179_14 dX12_mayHave_23 ?_
    refine sim_sipush dX12_mayHave_26 (by decide +kernel) ?_
    refine sim_iload_n 2 rfl dX12_mayHave_29 ?_
    refine sim_iadd dX12_mayHave_30 ?_
    refine sim_iaload sh_181 rfl dX12_mayHave_31 ?_
    refine sim_aload_n 0 rfl dX12_mayHave_32 ?_
    refine sim_iload_n 1 rfl dX12_mayHave_33 ?_
    refine sim_iconst dX12_mayHave_34 (by decide) ?_
    refine sim_callVIp v_RX12_243 sh_179 dX12_mayHave_35 (k_M_pip a1 1 σ) rfl ⟨by decide, by decide⟩ (S := [vI (σ 181 (w32 (200 + a2)).toNat)]) rfl (Nat.le_of_ble_eq_true rfl) (fun r3 => ?_)
    refine sim_callSIp s_RX12_201 dX12_mayHave_38 (k_M_has SH RHO (σ 181 (w32 (200 + a2)).toNat) r3 σ) rfl ⟨by decide, by decide⟩ (S := []) rfl (Nat.le_of_ble_eq_true rfl) (fun r4 => ?_)
    refine sim_if_ne (tgt := 48) dX12_mayHave_41 (by decide) ?_ ?_
    · refine sim_iconst dX12_mayHave_48 (by decide) ?_
      exact sim_zret (Or.inl rfl) rfl rfl dX12_mayHave_49
    · refine sim_iconst dX12_mayHave_44 (by decide) ?_
      refine sim_goto (tgt := 49) dX12_mayHave_45 (by decide) ?_
      exact sim_zret (Or.inr rfl) rfl rfl dX12_mayHave_49
theorem dX12_dealOne_0 : decode cX12_dealOne 0 = .ok (.iconst 0, 1) := by decide +kernel
theorem dX12_dealOne_1 : decode cX12_dealOne 1 = .ok (.istore 4, 2) := by decide +kernel
theorem dX12_dealOne_3 : decode cX12_dealOne 3 = .ok (.iload 4, 2) := by decide +kernel
theorem dX12_dealOne_5 : decode cX12_dealOne 5 = .ok (.aload_n 0, 1) := by decide +kernel
theorem dX12_dealOne_6 : decode cX12_dealOne 6 = .ok (.invokevirtual 237, 3) := by decide +kernel
theorem dX12_dealOne_9 : decode cX12_dealOne 9 = .ok (.if_icmp .ge 97, 3) := by decide +kernel
theorem dX12_dealOne_12 : decode cX12_dealOne 12 = .ok (.iload_n 3, 1) := by decide +kernel
theorem dX12_dealOne_13 : decode cX12_dealOne 13 = .ok (.iconst (-1), 1) := by decide +kernel
theorem dX12_dealOne_14 : decode cX12_dealOne 14 = .ok (.if_icmp .eq 9, 3) := by decide +kernel
theorem dX12_dealOne_17 : decode cX12_dealOne 17 = .ok (.iload_n 3, 1) := by decide +kernel
theorem dX12_dealOne_18 : decode cX12_dealOne 18 = .ok (.iload 4, 2) := by decide +kernel
theorem dX12_dealOne_20 : decode cX12_dealOne 20 = .ok (.if_icmp .ne 80, 3) := by decide +kernel
theorem dX12_dealOne_23 : decode cX12_dealOne 23 = .ok (.aload_n 0, 1) := by decide +kernel
theorem dX12_dealOne_24 : decode cX12_dealOne 24 = .ok (.iload_n 2, 1) := by decide +kernel
theorem dX12_dealOne_25 : decode cX12_dealOne 25 = .ok (.iload 4, 2) := by decide +kernel
theorem dX12_dealOne_27 : decode cX12_dealOne 27 = .ok (.invokevirtual 412, 3) := by decide +kernel
theorem dX12_dealOne_30 : decode cX12_dealOne 30 = .ok (.ifCond .ne 6, 3) := by decide +kernel
theorem dX12_dealOne_33 : decode cX12_dealOne 33 = .ok (.goto 67, 3) := by decide +kernel
theorem dX12_dealOne_36 : decode cX12_dealOne 36 = .ok (.iload_n 1, 1) := by decide +kernel
theorem dX12_dealOne_37 : decode cX12_dealOne 37 = .ok (.aload_n 0, 1) := by decide +kernel
theorem dX12_dealOne_38 : decode cX12_dealOne 38 = .ok (.getfield 78, 3) := by decide +kernel
theorem dX12_dealOne_41 : decode cX12_dealOne 41 = .ok (.iload 4, 2) := by decide +kernel
theorem dX12_dealOne_43 : decode cX12_dealOne 43 = .ok (.iaload, 1) := by decide +kernel
theorem dX12_dealOne_44 : decode cX12_dealOne 44 = .ok (.idiv, 1) := by decide +kernel
theorem dX12_dealOne_45 : decode cX12_dealOne 45 = .ok (.aload_n 0, 1) := by decide +kernel
theorem dX12_dealOne_46 : decode cX12_dealOne 46 = .ok (.getfield 13, 3) := by decide +kernel
theorem dX12_dealOne_49 : decode cX12_dealOne 49 = .ok (.sipush 194, 3) := by decide +kernel
theorem dX12_dealOne_52 : decode cX12_dealOne 52 = .ok (.iload 4, 2) := by decide +kernel
theorem dX12_dealOne_54 : decode cX12_dealOne 54 = .ok (.iadd, 1) := by decide +kernel
theorem dX12_dealOne_55 : decode cX12_dealOne 55 = .ok (.iaload, 1) := by decide +kernel
theorem dX12_dealOne_56 : decode cX12_dealOne 56 = .ok (.iconst 1, 1) := by decide +kernel
theorem dX12_dealOne_57 : decode cX12_dealOne 57 = .ok (.iadd, 1) := by decide +kernel
theorem dX12_dealOne_58 : decode cX12_dealOne 58 = .ok (.irem, 1) := by decide +kernel
theorem dX12_dealOne_59 : decode cX12_dealOne 59 = .ok (.istore 5, 2) := by decide +kernel
theorem dX12_dealOne_61 : decode cX12_dealOne 61 = .ok (.iload 5, 2) := by decide +kernel
theorem dX12_dealOne_63 : decode cX12_dealOne 63 = .ok (.aload_n 0, 1) := by decide +kernel
theorem dX12_dealOne_64 : decode cX12_dealOne 64 = .ok (.getfield 13, 3) := by decide +kernel
theorem dX12_dealOne_67 : decode cX12_dealOne 67 = .ok (.sipush 194, 3) := by decide +kernel
theorem dX12_dealOne_70 : decode cX12_dealOne 70 = .ok (.iload 4, 2) := by decide +kernel
theorem dX12_dealOne_72 : decode cX12_dealOne 72 = .ok (.iadd, 1) := by decide +kernel
theorem dX12_dealOne_73 : decode cX12_dealOne 73 = .ok (.iaload, 1) := by decide +kernel
theorem dX12_dealOne_74 : decode cX12_dealOne 74 = .ok (.if_icmp .ge 26, 3) := by decide +kernel
theorem dX12_dealOne_77 : decode cX12_dealOne 77 = .ok (.aload_n 0, 1) := by decide +kernel
theorem dX12_dealOne_78 : decode cX12_dealOne 78 = .ok (.getfield 75, 3) := by decide +kernel
theorem dX12_dealOne_81 : decode cX12_dealOne 81 = .ok (.iload_n 1, 1) := by decide +kernel
theorem dX12_dealOne_82 : decode cX12_dealOne 82 = .ok (.aload_n 0, 1) := by decide +kernel
theorem dX12_dealOne_83 : decode cX12_dealOne 83 = .ok (.getfield 78, 3) := by decide +kernel
theorem dX12_dealOne_86 : decode cX12_dealOne 86 = .ok (.iload 4, 2) := by decide +kernel
theorem dX12_dealOne_88 : decode cX12_dealOne 88 = .ok (.iaload, 1) := by decide +kernel
theorem dX12_dealOne_89 : decode cX12_dealOne 89 = .ok (.iadd, 1) := by decide +kernel
theorem dX12_dealOne_90 : decode cX12_dealOne 90 = .ok (.dup2, 1) := by decide +kernel
theorem dX12_dealOne_91 : decode cX12_dealOne 91 = .ok (.laload, 1) := by decide +kernel
theorem dX12_dealOne_92 : decode cX12_dealOne 92 = .ok (.aload_n 0, 1) := by decide +kernel
theorem dX12_dealOne_93 : decode cX12_dealOne 93 = .ok (.getfield 72, 3) := by decide +kernel
theorem dX12_dealOne_96 : decode cX12_dealOne 96 = .ok (.iload_n 1, 1) := by decide +kernel
theorem dX12_dealOne_97 : decode cX12_dealOne 97 = .ok (.laload, 1) := by decide +kernel
theorem dX12_dealOne_98 : decode cX12_dealOne 98 = .ok (.ladd, 1) := by decide +kernel
theorem dX12_dealOne_99 : decode cX12_dealOne 99 = .ok (.lastore, 1) := by decide +kernel
theorem dX12_dealOne_100 : decode cX12_dealOne 100 = .ok (.iinc 4 1, 3) := by decide +kernel
theorem dX12_dealOne_103 : decode cX12_dealOne 103 = .ok (.goto (-100), 3) := by decide +kernel
theorem dX12_dealOne_106 : decode cX12_dealOne 106 = .ok (.return_, 1) := by decide +kernel
def f_M_dealOne (n : Nat)  (a1 : Int) (a2 : Int) (a3 : Int) (σ : JSg) : Option (JSg) :=
  lt_ 0 fun v1 => wh2 n (fun rc2 (x3 : Int) (s4 : JSg) => bd1 (f_M_widows s4) fun r5 => if x3 < r5 then (jn1 (fun  (s7 : JSg) => lt_ (w32 (x3 + 1)) fun v8 => rc2 v8 s7) fun j6 => jn0 (bd1 (f_M_mayHave a2 x3 s4) fun r10 => if r10 = 0 then (j6 s4) else (chk (0 ≤ x3 ∧ x3 < 7) <| chk ((s4 200 x3.toNat) ≠ 0) <| chk (0 ≤ (w32 (194 + x3)) ∧ (w32 (194 + x3)) < 448) <| chk ((w32 ((s4 181 (w32 (194 + x3)).toNat) + 1)) ≠ 0) <| lt_ (rm32 (dv32 a1 (s4 200 x3.toNat)) (w32 ((s4 181 (w32 (194 + x3)).toNat) + 1))) fun t11 => lt_ t11 fun v12 => chk (0 ≤ (w32 (194 + x3)) ∧ (w32 (194 + x3)) < 448) <| if v12 < (s4 181 (w32 (194 + x3)).toNat) then (chk (0 ≤ x3 ∧ x3 < 7) <| chk (0 ≤ (w32 (a1 + (s4 200 x3.toNat))) ∧ (w32 (a1 + (s4 200 x3.toNat))) < 32768) <| chk (0 ≤ a1 ∧ a1 < 32768) <| lt_ (w64 ((s4 199 (w32 (a1 + (s4 200 x3.toNat))).toNat) + (s4 198 a1.toNat))) fun t13 => chk (0 ≤ (w32 (a1 + (s4 200 x3.toNat))) ∧ (w32 (a1 + (s4 200 x3.toNat))) < 32768) <| lt_ (sp s4 199 (w32 (a1 + (s4 200 x3.toNat))).toNat t13) fun s14 => j6 s14) else (j6 s4))) fun j9 => if a3 = (-1) then (j9) else (if a3 = x3 then (j9) else (j6 s4))) else (some s4)) v1 (σ)
set_option maxRecDepth 20000 in
set_option maxHeartbeats 4000000 in
theorem k_M_dealOne  (n : Nat)   (a1 : Int) (a2 : Int) (a3 : Int) (σ : JSg) : Call yX12_dealOne cX12_dealOne 6 none 2 SH RHO [vR 179, vI a1, vI a2, vI a3] σ dVm (f_M_dealOne n a1 a2 a3 σ) := by
  refine call_of_sim (by decide +kernel) (Nat.le_of_ble_eq_true rfl) ?_
  show Sim RX12 cX12_dealOne 6 none 2 SH RHO 0 [(0, vR 179), (1, vI a1), (2, vI a2), (3, vI a3)] [] σ dVm (f_M_dealOne n a1 a2 a3 σ)
  unfold f_M_dealOne
  refine sim_iconst dX12_dealOne_0 (by decide) ?_
  refine sim_istore (fun v1 => [(4, vI v1), (0, vR 179), (1, vI a1), (2, vI a2), (3, vI a3)]) (fun _ => rfl) (by decide) dX12_dealOne_1 (fun v1 => ?_)
  refine sim_sub [1, 2, 3, 4, 0] (L' := [(0, vR 179), (1, vI a1), (2, vI a2), (3, vI a3), (4, vI v1)]) rfl ?_
  refine sim_wh2 (fun (x3 : Int) (s4 : JSg) => [(0, vR 179), (1, vI a1), (2, vI a2), (3, vI a3), (4, vI x3)]) (fun (x3 : Int) (s4 : JSg) => s4) ?_ n v1 (σ)
  intro rc2 hrc2 x3 s4
  refine sim_iload 4 rfl dX12_dealOne_3 ?_
  refine sim_aload_n 0 rfl dX12_dealOne_5 ?_
  refine sim_callVIp v_RX12_237 sh_179 dX12_dealOne_6 (k_M_widows s4) rfl ⟨by decide, by decide⟩ (S := [vI x3]) rfl (Nat.le_of_ble_eq_true rfl) (fun r5 => ?_)
  refine sim_icmp_ge (tgt := 106) dX12_dealOne_9 (by decide) ?_ ?_
  · exact sim_vret rfl rfl dX12_dealOne_106
  · refine sim_iload_n 3 rfl dX12_dealOne_12 ?_
    refine sim_iconst dX12_dealOne_13 (by decide) ?_
    refine sim_jn1 (pc' := 100) (fun  (s7 : JSg) => [(0, vR 179), (1, vI a1), (2, vI a2), (3, vI a3), (4, vI x3)]) (fun  (s7 : JSg) => []) (fun  (s7 : JSg) => s7) ?_ (fun j6 hj6 => ?_)
    · intro s7
      refine sim_iinc 4 rfl (fun v8 => [(4, vI v8), (0, vR 179), (1, vI a1), (2, vI a2), (3, vI a3)]) (fun _ => rfl) (by decide) dX12_dealOne_100 (fun v8 => ?_)
      refine sim_goto (tgt := 3) dX12_dealOne_103 (by decide) ?_
      exact sim_sub [1, 2, 3, 4, 0] rfl (hrc2 v8 s7)
    refine sim_jn0 (pc' := 23) ([(0, vR 179), (1, vI a1), (2, vI a2), (3, vI a3), (4, vI x3)]) ([]) (s4) ?_ (fun j9 hj9 => ?_)
    · refine sim_aload_n 0 rfl dX12_dealOne_23 ?_
      refine sim_iload_n 2 rfl dX12_dealOne_24 ?_
      refine sim_iload 4 rfl dX12_dealOne_25 ?_
      refine sim_callVIp v_RX12_412 sh_179 dX12_dealOne_27 (k_M_mayHave a2 x3 s4) rfl ⟨by decide, by decide⟩ (S := []) rfl (Nat.le_of_ble_eq_true rfl) (fun r10 => ?_)
      refine sim_if_ne (tgt := 36) dX12_dealOne_30 (by decide) ?_ ?_
      · refine sim_iload_n 1 rfl dX12_dealOne_36 ?_
        refine sim_aload_n 0 rfl dX12_dealOne_37 ?_
        refine sim_getR g_RX12_78 sh_179 rh_179_44 dX12_dealOne_38 ?_
        refine sim_iload 4 rfl dX12_dealOne_41 ?_
        refine sim_iaload sh_200 rfl dX12_dealOne_43 ?_
        refine sim_idiv dX12_dealOne_44 ?_
        refine sim_aload_n 0 rfl dX12_dealOne_45 ?_
        refine sim_getR g_RX12_13 sh_179 rh_179_14 dX12_dealOne_46 ?_
        refine sim_sipush dX12_dealOne_49 (by decide +kernel) ?_
        refine sim_iload 4 rfl dX12_dealOne_52 ?_
        refine sim_iadd dX12_dealOne_54 ?_
        refine sim_iaload sh_181 rfl dX12_dealOne_55 ?_
        refine sim_iconst dX12_dealOne_56 (by decide) ?_
        refine sim_iadd dX12_dealOne_57 ?_
        refine sim_irem dX12_dealOne_58 ?_
        refine sim_name (fun t11 => ?_)
        refine sim_istore (fun v12 => [(5, vI v12), (0, vR 179), (1, vI a1), (2, vI a2), (3, vI a3), (4, vI x3)]) (fun _ => rfl) (by decide) dX12_dealOne_59 (fun v12 => ?_)
        refine sim_iload 0 rfl dX12_dealOne_61 ?_
        refine sim_aload_n 1 rfl dX12_dealOne_63 ?_
        refine sim_getR g_RX12_13 sh_179 rh_179_14 dX12_dealOne_64 ?_
        refine sim_sipush dX12_dealOne_67 (by decide +kernel) ?_
        refine sim_iload 5 rfl dX12_dealOne_70 ?_
        refine sim_iadd dX12_dealOne_72 ?_
        refine sim_iaload sh_181 rfl dX12_dealOne_73 ?_
        refine sim_icmp_ge (tgt := 100) dX12_dealOne_74 (by decide) ?_ ?_
        · exact sim_sub [1, 2, 3, 4, 5] rfl (hj6 s4)
        · refine sim_aload_n 1 rfl dX12_dealOne_77 ?_
          refine sim_getR g_RX12_75 sh_179 rh_179_43 dX12_dealOne_78 ?_
          refine sim_iload_n 2 rfl dX12_dealOne_81 ?_
          refine sim_aload_n 1 rfl dX12_dealOne_82 ?_
          refine sim_getR g_RX12_78 sh_179 rh_179_44 dX12_dealOne_83 ?_
          refine sim_iload 5 rfl dX12_dealOne_86 ?_
          refine sim_iaload sh_200 rfl dX12_dealOne_88 ?_
          refine sim_iadd dX12_dealOne_89 ?_
          refine sim_dup2 rfl rfl dX12_dealOne_90 ?_
          refine sim_laload sh_199 rfl dX12_dealOne_91 ?_
          refine sim_aload_n 1 rfl dX12_dealOne_92 ?_
          refine sim_getR g_RX12_72 sh_179 rh_179_42 dX12_dealOne_93 ?_
          refine sim_iload_n 2 rfl dX12_dealOne_96 ?_
          refine sim_laload sh_198 rfl dX12_dealOne_97 ?_
          refine sim_ladd dX12_dealOne_98 ?_
          refine sim_nameL (fun t13 => ?_)
          refine sim_lastore sh_199 rfl dX12_dealOne_99 (fun s14 => ?_)
          exact sim_sub [1, 2, 3, 4, 5] rfl (hj6 s14)
      · refine sim_goto (tgt := 100) dX12_dealOne_33 (by decide) ?_
        exact sim_sub [0, 1, 2, 3, 4] rfl (hj6 s4)
    refine sim_icmp_eq (tgt := 23) dX12_dealOne_14 (by decide) ?_ ?_
    · exact sim_sub [0, 1, 2, 3, 4] rfl (hj9 )
    · refine sim_iload_n 3 rfl dX12_dealOne_17 ?_
      refine sim_iload 4 rfl dX12_dealOne_18 ?_
      refine sim_icmp_ne (tgt := 100) dX12_dealOne_20 (by decide) ?_ ?_
      · exact sim_sub [0, 1, 2, 3, 4] rfl (hj6 s4)
      · exact sim_sub [0, 1, 2, 3, 4] rfl (hj9 )
theorem dX12_deal_0 : decode cX12_deal 0 = .ok (.iconst 0, 1) := by decide +kernel
theorem dX12_deal_1 : decode cX12_deal 1 = .ok (.istore_n 3, 1) := by decide +kernel
theorem dX12_deal_2 : decode cX12_deal 2 = .ok (.iconst 1, 1) := by decide +kernel
theorem dX12_deal_3 : decode cX12_deal 3 = .ok (.istore 4, 2) := by decide +kernel
theorem dX12_deal_5 : decode cX12_deal 5 = .ok (.iconst 0, 1) := by decide +kernel
theorem dX12_deal_6 : decode cX12_deal 6 = .ok (.istore 5, 2) := by decide +kernel
theorem dX12_deal_8 : decode cX12_deal 8 = .ok (.iload 5, 2) := by decide +kernel
theorem dX12_deal_10 : decode cX12_deal 10 = .ok (.aload_n 0, 1) := by decide +kernel
theorem dX12_deal_11 : decode cX12_deal 11 = .ok (.invokevirtual 237, 3) := by decide +kernel
theorem dX12_deal_14 : decode cX12_deal 14 = .ok (.if_icmp .ge 50, 3) := by decide +kernel
theorem dX12_deal_17 : decode cX12_deal 17 = .ok (.aload_n 0, 1) := by decide +kernel
theorem dX12_deal_18 : decode cX12_deal 18 = .ok (.getfield 78, 3) := by decide +kernel
theorem dX12_deal_21 : decode cX12_deal 21 = .ok (.iload 5, 2) := by decide +kernel
theorem dX12_deal_23 : decode cX12_deal 23 = .ok (.iload 4, 2) := by decide +kernel
theorem dX12_deal_25 : decode cX12_deal 25 = .ok (.iastore, 1) := by decide +kernel
theorem dX12_deal_26 : decode cX12_deal 26 = .ok (.iload 4, 2) := by decide +kernel
theorem dX12_deal_28 : decode cX12_deal 28 = .ok (.aload_n 0, 1) := by decide +kernel
theorem dX12_deal_29 : decode cX12_deal 29 = .ok (.getfield 13, 3) := by decide +kernel
theorem dX12_deal_32 : decode cX12_deal 32 = .ok (.sipush 194, 3) := by decide +kernel
theorem dX12_deal_35 : decode cX12_deal 35 = .ok (.iload 5, 2) := by decide +kernel
theorem dX12_deal_37 : decode cX12_deal 37 = .ok (.iadd, 1) := by decide +kernel
theorem dX12_deal_38 : decode cX12_deal 38 = .ok (.iaload, 1) := by decide +kernel
theorem dX12_deal_39 : decode cX12_deal 39 = .ok (.iconst 1, 1) := by decide +kernel
theorem dX12_deal_40 : decode cX12_deal 40 = .ok (.iadd, 1) := by decide +kernel
theorem dX12_deal_41 : decode cX12_deal 41 = .ok (.imul, 1) := by decide +kernel
theorem dX12_deal_42 : decode cX12_deal 42 = .ok (.istore 4, 2) := by decide +kernel
theorem dX12_deal_44 : decode cX12_deal 44 = .ok (.iload_n 3, 1) := by decide +kernel
theorem dX12_deal_45 : decode cX12_deal 45 = .ok (.aload_n 0, 1) := by decide +kernel
theorem dX12_deal_46 : decode cX12_deal 46 = .ok (.getfield 13, 3) := by decide +kernel
theorem dX12_deal_49 : decode cX12_deal 49 = .ok (.sipush 194, 3) := by decide +kernel
theorem dX12_deal_52 : decode cX12_deal 52 = .ok (.iload 5, 2) := by decide +kernel
theorem dX12_deal_54 : decode cX12_deal 54 = .ok (.iadd, 1) := by decide +kernel
theorem dX12_deal_55 : decode cX12_deal 55 = .ok (.iaload, 1) := by decide +kernel
theorem dX12_deal_56 : decode cX12_deal 56 = .ok (.iadd, 1) := by decide +kernel
theorem dX12_deal_57 : decode cX12_deal 57 = .ok (.istore_n 3, 1) := by decide +kernel
theorem dX12_deal_58 : decode cX12_deal 58 = .ok (.iinc 5 1, 3) := by decide +kernel
theorem dX12_deal_61 : decode cX12_deal 61 = .ok (.goto (-53), 3) := by decide +kernel
theorem dX12_deal_64 : decode cX12_deal 64 = .ok (.aload_n 0, 1) := by decide +kernel
theorem dX12_deal_65 : decode cX12_deal 65 = .ok (.getfield 78, 3) := by decide +kernel
theorem dX12_deal_68 : decode cX12_deal 68 = .ok (.aload_n 0, 1) := by decide +kernel
theorem dX12_deal_69 : decode cX12_deal 69 = .ok (.invokevirtual 237, 3) := by decide +kernel
theorem dX12_deal_72 : decode cX12_deal 72 = .ok (.iload 4, 2) := by decide +kernel
theorem dX12_deal_74 : decode cX12_deal 74 = .ok (.iastore, 1) := by decide +kernel
theorem dX12_deal_75 : decode cX12_deal 75 = .ok (.iload_n 3, 1) := by decide +kernel
theorem dX12_deal_76 : decode cX12_deal 76 = .ok (.aload_n 0, 1) := by decide +kernel
theorem dX12_deal_77 : decode cX12_deal 77 = .ok (.invokevirtual 240, 3) := by decide +kernel
theorem dX12_deal_80 : decode cX12_deal 80 = .ok (.aload_n 0, 1) := by decide +kernel
theorem dX12_deal_81 : decode cX12_deal 81 = .ok (.getfield 13, 3) := by decide +kernel
theorem dX12_deal_84 : decode cX12_deal 84 = .ok (.sipush 193, 3) := by decide +kernel
theorem dX12_deal_87 : decode cX12_deal 87 = .ok (.iaload, 1) := by decide +kernel
theorem dX12_deal_88 : decode cX12_deal 88 = .ok (.invokestatic 406, 3) := by decide +kernel
theorem dX12_deal_91 : decode cX12_deal 91 = .ok (.isub, 1) := by decide +kernel
theorem dX12_deal_92 : decode cX12_deal 92 = .ok (.if_icmp .eq 5, 3) := by decide +kernel
theorem dX12_deal_95 : decode cX12_deal 95 = .ok (.lconst 0, 1) := by decide +kernel
theorem dX12_deal_96 : decode cX12_deal 96 = .ok (.lreturn, 1) := by decide +kernel
theorem dX12_deal_97 : decode cX12_deal 97 = .ok (.iconst 0, 1) := by decide +kernel
theorem dX12_deal_98 : decode cX12_deal 98 = .ok (.istore 5, 2) := by decide +kernel
theorem dX12_deal_100 : decode cX12_deal 100 = .ok (.iload 5, 2) := by decide +kernel
theorem dX12_deal_102 : decode cX12_deal 102 = .ok (.iload 4, 2) := by decide +kernel
theorem dX12_deal_104 : decode cX12_deal 104 = .ok (.if_icmp .ge 26, 3) := by decide +kernel
theorem dX12_deal_107 : decode cX12_deal 107 = .ok (.aload_n 0, 1) := by decide +kernel
theorem dX12_deal_108 : decode cX12_deal 108 = .ok (.getfield 72, 3) := by decide +kernel
theorem dX12_deal_111 : decode cX12_deal 111 = .ok (.iload 5, 2) := by decide +kernel
theorem dX12_deal_113 : decode cX12_deal 113 = .ok (.iload 5, 2) := by decide +kernel
theorem dX12_deal_115 : decode cX12_deal 115 = .ok (.ifCond .ne 7, 3) := by decide +kernel
theorem dX12_deal_118 : decode cX12_deal 118 = .ok (.lconst 1, 1) := by decide +kernel
theorem dX12_deal_119 : decode cX12_deal 119 = .ok (.goto 4, 3) := by decide +kernel
theorem dX12_deal_122 : decode cX12_deal 122 = .ok (.lconst 0, 1) := by decide +kernel
theorem dX12_deal_123 : decode cX12_deal 123 = .ok (.lastore, 1) := by decide +kernel
theorem dX12_deal_124 : decode cX12_deal 124 = .ok (.iinc 5 1, 3) := by decide +kernel
theorem dX12_deal_127 : decode cX12_deal 127 = .ok (.goto (-27), 3) := by decide +kernel
theorem dX12_deal_130 : decode cX12_deal 130 = .ok (.iconst 0, 1) := by decide +kernel
theorem dX12_deal_131 : decode cX12_deal 131 = .ok (.istore 5, 2) := by decide +kernel
theorem dX12_deal_133 : decode cX12_deal 133 = .ok (.iload 5, 2) := by decide +kernel
theorem dX12_deal_135 : decode cX12_deal 135 = .ok (.aload_n 0, 1) := by decide +kernel
theorem dX12_deal_136 : decode cX12_deal 136 = .ok (.invokevirtual 240, 3) := by decide +kernel
theorem dX12_deal_139 : decode cX12_deal 139 = .ok (.if_icmp .ge 129, 3) := by decide +kernel
theorem dX12_deal_142 : decode cX12_deal 142 = .ok (.aload_n 0, 1) := by decide +kernel
theorem dX12_deal_143 : decode cX12_deal 143 = .ok (.getfield 13, 3) := by decide +kernel
theorem dX12_deal_146 : decode cX12_deal 146 = .ok (.sipush 193, 3) := by decide +kernel
theorem dX12_deal_149 : decode cX12_deal 149 = .ok (.iaload, 1) := by decide +kernel
theorem dX12_deal_150 : decode cX12_deal 150 = .ok (.iload 5, 2) := by decide +kernel
theorem dX12_deal_152 : decode cX12_deal 152 = .ok (.invokestatic 201, 3) := by decide +kernel
theorem dX12_deal_155 : decode cX12_deal 155 = .ok (.ifCond .eq 6, 3) := by decide +kernel
theorem dX12_deal_158 : decode cX12_deal 158 = .ok (.goto 104, 3) := by decide +kernel
theorem dX12_deal_161 : decode cX12_deal 161 = .ok (.iconst 0, 1) := by decide +kernel
theorem dX12_deal_162 : decode cX12_deal 162 = .ok (.istore 6, 2) := by decide +kernel
theorem dX12_deal_164 : decode cX12_deal 164 = .ok (.iload 6, 2) := by decide +kernel
theorem dX12_deal_166 : decode cX12_deal 166 = .ok (.iload 4, 2) := by decide +kernel
theorem dX12_deal_168 : decode cX12_deal 168 = .ok (.if_icmp .ge 17, 3) := by decide +kernel
theorem dX12_deal_171 : decode cX12_deal 171 = .ok (.aload_n 0, 1) := by decide +kernel
theorem dX12_deal_172 : decode cX12_deal 172 = .ok (.getfield 75, 3) := by decide +kernel
theorem dX12_deal_175 : decode cX12_deal 175 = .ok (.iload 6, 2) := by decide +kernel
theorem dX12_deal_177 : decode cX12_deal 177 = .ok (.lconst 0, 1) := by decide +kernel
theorem dX12_deal_178 : decode cX12_deal 178 = .ok (.lastore, 1) := by decide +kernel
theorem dX12_deal_179 : decode cX12_deal 179 = .ok (.iinc 6 1, 3) := by decide +kernel
theorem dX12_deal_182 : decode cX12_deal 182 = .ok (.goto (-18), 3) := by decide +kernel
theorem dX12_deal_185 : decode cX12_deal 185 = .ok (.iconst 0, 1) := by decide +kernel
theorem dX12_deal_186 : decode cX12_deal 186 = .ok (.istore 6, 2) := by decide +kernel
theorem dX12_deal_188 : decode cX12_deal 188 = .ok (.iload 6, 2) := by decide +kernel
theorem dX12_deal_190 : decode cX12_deal 190 = .ok (.iload 4, 2) := by decide +kernel
theorem dX12_deal_192 : decode cX12_deal 192 = .ok (.if_icmp .ge 40, 3) := by decide +kernel
theorem dX12_deal_195 : decode cX12_deal 195 = .ok (.aload_n 0, 1) := by decide +kernel
theorem dX12_deal_196 : decode cX12_deal 196 = .ok (.getfield 72, 3) := by decide +kernel
theorem dX12_deal_199 : decode cX12_deal 199 = .ok (.iload 6, 2) := by decide +kernel
theorem dX12_deal_201 : decode cX12_deal 201 = .ok (.laload, 1) := by decide +kernel
theorem dX12_deal_202 : decode cX12_deal 202 = .ok (.lconst 0, 1) := by decide +kernel
theorem dX12_deal_203 : decode cX12_deal 203 = .ok (.lcmp, 1) := by decide +kernel
theorem dX12_deal_204 : decode cX12_deal 204 = .ok (.ifCond .le 22, 3) := by decide +kernel
theorem dX12_deal_207 : decode cX12_deal 207 = .ok (.aload_n 0, 1) := by decide +kernel
theorem dX12_deal_208 : decode cX12_deal 208 = .ok (.iload 6, 2) := by decide +kernel
theorem dX12_deal_210 : decode cX12_deal 210 = .ok (.iload 5, 2) := by decide +kernel
theorem dX12_deal_212 : decode cX12_deal 212 = .ok (.iload 5, 2) := by decide +kernel
theorem dX12_deal_214 : decode cX12_deal 214 = .ok (.iload_n 1, 1) := by decide +kernel
theorem dX12_deal_215 : decode cX12_deal 215 = .ok (.if_icmp .ne 7, 3) := by decide +kernel
theorem dX12_deal_218 : decode cX12_deal 218 = .ok (.iload_n 2, 1) := by decide +kernel
theorem dX12_deal_219 : decode cX12_deal 219 = .ok (.goto 4, 3) := by decide +kernel
theorem dX12_deal_222 : decode cX12_deal 222 = .ok (.iconst (-1), 1) := by decide +kernel
theorem dX12_deal_223 : decode cX12_deal 223 = .ok (.invokevirtual 409, 3) := by decide +kernel
theorem dX12_deal_226 : decode cX12_deal 226 = .ok (.iinc 6 1, 3) := by decide +kernel
theorem dX12_deal_229 : decode cX12_deal 229 = .ok (.goto (-41), 3) := by decide +kernel
theorem dX12_deal_232 : decode cX12_deal 232 = .ok (.iconst 0, 1) := by decide +kernel
theorem dX12_deal_233 : decode cX12_deal 233 = .ok (.istore 6, 2) := by decide +kernel
theorem dX12_deal_235 : decode cX12_deal 235 = .ok (.iload 6, 2) := by decide +kernel
theorem dX12_deal_237 : decode cX12_deal 237 = .ok (.iload 4, 2) := by decide +kernel
theorem dX12_deal_239 : decode cX12_deal 239 = .ok (.if_icmp .ge 23, 3) := by decide +kernel
theorem dX12_deal_242 : decode cX12_deal 242 = .ok (.aload_n 0, 1) := by decide +kernel
theorem dX12_deal_243 : decode cX12_deal 243 = .ok (.getfield 72, 3) := by decide +kernel
theorem dX12_deal_246 : decode cX12_deal 246 = .ok (.iload 6, 2) := by decide +kernel
theorem dX12_deal_248 : decode cX12_deal 248 = .ok (.aload_n 0, 1) := by decide +kernel
theorem dX12_deal_249 : decode cX12_deal 249 = .ok (.getfield 75, 3) := by decide +kernel
theorem dX12_deal_252 : decode cX12_deal 252 = .ok (.iload 6, 2) := by decide +kernel
theorem dX12_deal_254 : decode cX12_deal 254 = .ok (.laload, 1) := by decide +kernel
theorem dX12_deal_255 : decode cX12_deal 255 = .ok (.lastore, 1) := by decide +kernel
theorem dX12_deal_256 : decode cX12_deal 256 = .ok (.iinc 6 1, 3) := by decide +kernel
theorem dX12_deal_259 : decode cX12_deal 259 = .ok (.goto (-24), 3) := by decide +kernel
theorem dX12_deal_262 : decode cX12_deal 262 = .ok (.iinc 5 1, 3) := by decide +kernel
theorem dX12_deal_265 : decode cX12_deal 265 = .ok (.goto (-132), 3) := by decide +kernel
theorem dX12_deal_268 : decode cX12_deal 268 = .ok (.aload_n 0, 1) := by decide +kernel
theorem dX12_deal_269 : decode cX12_deal 269 = .ok (.getfield 72, 3) := by decide +kernel
theorem dX12_deal_272 : decode cX12_deal 272 = .ok (.iload 4, 2) := by decide +kernel
theorem dX12_deal_274 : decode cX12_deal 274 = .ok (.iconst 1, 1) := by decide +kernel
theorem dX12_deal_275 : decode cX12_deal 275 = .ok (.isub, 1) := by decide +kernel
theorem dX12_deal_276 : decode cX12_deal 276 = .ok (.laload, 1) := by decide +kernel
theorem dX12_deal_277 : decode cX12_deal 277 = .ok (.lreturn, 1) := by decide +kernel
def f_M_deal (n : Nat)  (a1 : Int) (a2 : Int) (σ : JSg) : Option (Int × JSg) :=
  lt_ 0 fun v1 => lt_ 1 fun v2 => lt_ 0 fun v3 => wh4 n (fun rc4 (x5 : Int) (x6 : Int) (x7 : Int) (s8 : JSg) => bd1 (f_M_widows s8) fun r9 => if x7 < r9 then (chk (0 ≤ x7 ∧ x7 < 7) <| lt_ (sp s8 200 x7.toNat x6) fun s53 => chk (0 ≤ (w32 (194 + x7)) ∧ (w32 (194 + x7)) < 448) <| lt_ (w32 (x6 * (w32 ((s53 181 (w32 (194 + x7)).toNat) + 1)))) fun v54 => chk (0 ≤ (w32 (194 + x7)) ∧ (w32 (194 + x7)) < 448) <| lt_ (w32 (x5 + (s53 181 (w32 (194 + x7)).toNat))) fun v55 => lt_ (w32 (x7 + 1)) fun v56 => rc4 v55 v54 v56 s53) else (bd1 (f_M_widows s8) fun r10 => chk (0 ≤ r10 ∧ r10 < 7) <| lt_ (sp s8 200 r10.toNat x6) fun s11 => bd1 (f_M_stones s11) fun r12 => bd1 (f_M_bits n (s11 181 193) s11) fun r13 => if x5 = (w32 (r12 - r13)) then (lt_ 0 fun v14 => wh2 n (fun rc15 (x16 : Int) (s17 : JSg) => if x16 < x6 then (jn1 (fun (u50 : Int) => chk (0 ≤ x16 ∧ x16 < 32768) <| lt_ (sp s17 198 x16.toNat u50) fun s51 => lt_ (w32 (x16 + 1)) fun v52 => rc15 v52 s51) fun j49 => if x16 = 0 then (j49 1) else (j49 0)) else (lt_ 0 fun v18 => wh2 n (fun rc19 (x20 : Int) (s21 : JSg) => bd1 (f_M_stones s21) fun r22 => if x20 < r22 then (bd1 (f_M_has (s21 181 193) x20 s21) fun r23 => jn1 (fun  (s25 : JSg) => lt_ (w32 (x20 + 1)) fun v26 => rc19 v26 s25) fun j24 => if r23 = 0 then (lt_ 0 fun v27 => wh2 n (fun rc28 (x29 : Int) (s30 : JSg) => if x29 < x6 then (chk (0 ≤ x29 ∧ x29 < 32768) <| lt_ (sp s30 199 x29.toNat 0) fun s47 => lt_ (w32 (x29 + 1)) fun v48 => rc28 v48 s47) else (lt_ 0 fun v31 => wh2 n (fun rc32 (x33 : Int) (s34 : JSg) => if x33 < x6 then (chk (0 ≤ x33 ∧ x33 < 32768) <| jn1 (fun  (s42 : JSg) => lt_ (w32 (x33 + 1)) fun v43 => rc32 v43 s42) fun j41 => if 0 < (cmpL (s34 198 x33.toNat) 0) then (jn1 (fun (u45 : Int) => bd1 (f_M_dealOne n x33 x20 u45 s34) fun s46 => j41 s46) fun j44 => if x20 = a1 then (j44 a2) else (j44 (-1))) else (j41 s34)) else (lt_ 0 fun v35 => wh2 n (fun rc36 (x37 : Int) (s38 : JSg) => if x37 < x6 then (chk (0 ≤ x37 ∧ x37 < 32768) <| chk (0 ≤ x37 ∧ x37 < 32768) <| lt_ (sp s38 198 x37.toNat (s38 199 x37.toNat)) fun s39 => lt_ (w32 (x37 + 1)) fun v40 => rc36 v40 s39) else (j24 s38)) v35 s34)) v31 s30)) v27 s21) else (j24 s21)) else (chk (0 ≤ (w32 (x6 - 1)) ∧ (w32 (x6 - 1)) < 32768) <| some (s21 198 (w32 (x6 - 1)).toNat, s21))) v18 s17)) v14 s11) else (some (0, s11)))) v1 v2 v3 (σ)
set_option maxRecDepth 20000 in
set_option maxHeartbeats 4000000 in
theorem k_M_deal  (n : Nat)   (a1 : Int) (a2 : Int) (σ : JSg) : Call yX12_deal cX12_deal 7 (some .long) 3 SH RHO [vR 179, vI a1, vI a2] σ dLm (f_M_deal n a1 a2 σ) := by
  refine call_of_sim (by decide +kernel) (Nat.le_of_ble_eq_true rfl) ?_
  show Sim RX12 cX12_deal 7 (some .long) 3 SH RHO 0 [(0, vR 179), (1, vI a1), (2, vI a2)] [] σ dLm (f_M_deal n a1 a2 σ)
  unfold f_M_deal
  refine sim_iconst dX12_deal_0 (by decide) ?_
  refine sim_istore_n (fun v1 => [(3, vI v1), (0, vR 179), (1, vI a1), (2, vI a2)]) (fun _ => rfl) (by decide) dX12_deal_1 (fun v1 => ?_)
  refine sim_iconst dX12_deal_2 (by decide) ?_
  refine sim_istore (fun v2 => [(4, vI v2), (3, vI v1), (0, vR 179), (1, vI a1), (2, vI a2)]) (fun _ => rfl) (by decide) dX12_deal_3 (fun v2 => ?_)
  refine sim_iconst dX12_deal_5 (by decide) ?_
  refine sim_istore (fun v3 => [(5, vI v3), (4, vI v2), (3, vI v1), (0, vR 179), (1, vI a1), (2, vI a2)]) (fun _ => rfl) (by decide) dX12_deal_6 (fun v3 => ?_)
  refine sim_sub [3, 4, 5, 2, 1, 0] (L' := [(0, vR 179), (1, vI a1), (2, vI a2), (3, vI v1), (4, vI v2), (5, vI v3)]) rfl ?_
  refine sim_wh4 (fun (x5 : Int) (x6 : Int) (x7 : Int) (s8 : JSg) => [(0, vR 179), (1, vI a1), (2, vI a2), (3, vI x5), (4, vI x6), (5, vI x7)]) (fun (x5 : Int) (x6 : Int) (x7 : Int) (s8 : JSg) => s8) ?_ n v1 v2 v3 (σ)
  intro rc4 hrc4 x5 x6 x7 s8
  refine sim_iload 5 rfl dX12_deal_8 ?_
  refine sim_aload_n 0 rfl dX12_deal_10 ?_
  refine sim_callVIp v_RX12_237 sh_179 dX12_deal_11 (k_M_widows s8) rfl ⟨by decide, by decide⟩ (S := [vI x7]) rfl (Nat.le_of_ble_eq_true rfl) (fun r9 => ?_)
  refine sim_icmp_ge (tgt := 64) dX12_deal_14 (by decide) ?_ ?_
  · refine sim_aload_n 0 rfl dX12_deal_64 ?_
    refine sim_getR g_RX12_78 sh_179 rh_179_44 dX12_deal_65 ?_
    refine sim_aload_n 0 rfl dX12_deal_68 ?_
    refine sim_callVIp v_RX12_237 sh_179 dX12_deal_69 (k_M_widows s8) rfl ⟨by decide, by decide⟩ (S := [vR 200]) rfl (Nat.le_of_ble_eq_true rfl) (fun r10 => ?_)
    refine sim_iload 4 rfl dX12_deal_72 ?_
    refine sim_iastore sh_200 rfl dX12_deal_74 (fun s11 => ?_)
    refine sim_iload_n 3 rfl dX12_deal_75 ?_
    refine sim_aload_n 0 rfl dX12_deal_76 ?_
    refine sim_callVIp v_RX12_240 sh_179 dX12_deal_77 (k_M_stones s11) rfl ⟨by decide, by decide⟩ (S := [vI x5]) rfl (Nat.le_of_ble_eq_true rfl) (fun r12 => ?_)
    refine sim_aload_n 0 rfl dX12_deal_80 ?_
    refine sim_getR g_RX12_13 sh_179 rh_179_14 dX12_deal_81 ?_
    refine sim_sipush dX12_deal_84 (by decide +kernel) ?_
    refine sim_ialoadK (j := 193) sh_181 rfl (by decide) dX12_deal_87 ?_
    refine sim_callSIp s_RX12_406 dX12_deal_88 (k_M_bits SH RHO n (s11 181 193) s11) rfl ⟨by decide, by decide⟩ (S := [vI r12, vI x5]) rfl (Nat.le_of_ble_eq_true rfl) (fun r13 => ?_)
    refine sim_isub dX12_deal_91 ?_
    refine sim_icmp_eq (tgt := 97) dX12_deal_92 (by decide) ?_ ?_
    · refine sim_iconst dX12_deal_97 (by decide) ?_
      refine sim_istore (fun v14 => [(5, vI v14), (0, vR 179), (1, vI a1), (2, vI a2), (3, vI x5), (4, vI x6)]) (fun _ => rfl) (by decide) dX12_deal_98 (fun v14 => ?_)
      refine sim_sub [1, 2, 3, 5, 0] (L' := [(0, vR 179), (1, vI a1), (2, vI a2), (4, vI x6), (5, vI v14)]) rfl ?_
      refine sim_wh2 (fun (x16 : Int) (s17 : JSg) => [(0, vR 179), (1, vI a1), (2, vI a2), (4, vI x6), (5, vI x16)]) (fun (x16 : Int) (s17 : JSg) => s17) ?_ n v14 s11
      intro rc15 hrc15 x16 s17
      refine sim_iload 4 rfl dX12_deal_100 ?_
      refine sim_iload 3 rfl dX12_deal_102 ?_
      refine sim_icmp_ge (tgt := 130) dX12_deal_104 (by decide) ?_ ?_
      · refine sim_iconst dX12_deal_130 (by decide) ?_
        refine sim_istore (fun v18 => [(5, vI v18), (0, vR 179), (1, vI a1), (2, vI a2), (4, vI x6)]) (fun _ => rfl) (by decide) dX12_deal_131 (fun v18 => ?_)
        refine sim_sub [1, 2, 3, 4, 0] (L' := [(0, vR 179), (1, vI a1), (2, vI a2), (4, vI x6), (5, vI v18)]) rfl ?_
        refine sim_wh2 (fun (x20 : Int) (s21 : JSg) => [(0, vR 179), (1, vI a1), (2, vI a2), (4, vI x6), (5, vI x20)]) (fun (x20 : Int) (s21 : JSg) => s21) ?_ n v18 s17
        intro rc19 hrc19 x20 s21
        refine sim_iload 4 rfl dX12_deal_133 ?_
        refine sim_aload_n 0 rfl dX12_deal_135 ?_
        refine sim_callVIp v_RX12_240 sh_179 dX12_deal_136 (k_M_stones s21) rfl ⟨by decide, by decide⟩ (S := [vI x20]) rfl (Nat.le_of_ble_eq_true rfl) (fun r22 => ?_)
        refine sim_icmp_ge (tgt := 268) dX12_deal_139 (by decide) ?_ ?_
        · refine sim_aload_n 0 rfl dX12_deal_268 ?_
          refine sim_getR g_RX12_72 sh_179 rh_179_42 dX12_deal_269 ?_
          refine sim_iload 3 rfl dX12_deal_272 ?_
          refine sim_iconst dX12_deal_274 (by decide) ?_
          refine sim_isub dX12_deal_275 ?_
          refine sim_laload sh_198 rfl dX12_deal_276 ?_
          exact sim_lret rfl rfl dX12_deal_277
        · refine sim_aload_n 0 rfl dX12_deal_142 ?_
          refine sim_getR g_RX12_13 sh_179 rh_179_14 dX12_deal_143 ?_
          refine sim_sipush dX12_deal_146 (by decide +kernel) ?_
          refine sim_ialoadK (j := 193) sh_181 rfl (by decide) dX12_deal_149 ?_
          refine sim_iload 4 rfl dX12_deal_150 ?_
          refine sim_callSIp s_RX12_201 dX12_deal_152 (k_M_has SH RHO (s21 181 193) x20 s21) rfl ⟨by decide, by decide⟩ (S := []) rfl (Nat.le_of_ble_eq_true rfl) (fun r23 => ?_)
          refine sim_jn1 (pc' := 262) (fun  (s25 : JSg) => [(0, vR 179), (1, vI a1), (2, vI a2), (4, vI x6), (5, vI x20)]) (fun  (s25 : JSg) => []) (fun  (s25 : JSg) => s25) ?_ (fun j24 hj24 => ?_)
          · intro s25
            refine sim_iinc 4 rfl (fun v26 => [(5, vI v26), (0, vR 179), (1, vI a1), (2, vI a2), (4, vI x6)]) (fun _ => rfl) (by decide) dX12_deal_262 (fun v26 => ?_)
            refine sim_goto (tgt := 133) dX12_deal_265 (by decide) ?_
            exact sim_sub [1, 2, 3, 4, 0] rfl (hrc19 v26 s25)
          refine sim_if_eq (tgt := 161) dX12_deal_155 (by decide) ?_ ?_
          · refine sim_iconst dX12_deal_161 (by decide) ?_
            refine sim_istore (fun v27 => [(6, vI v27), (0, vR 179), (1, vI a1), (2, vI a2), (4, vI x6), (5, vI x20)]) (fun _ => rfl) (by decide) dX12_deal_162 (fun v27 => ?_)
            refine sim_sub [1, 2, 3, 4, 5, 0] (L' := [(0, vR 179), (1, vI a1), (2, vI a2), (4, vI x6), (5, vI x20), (6, vI v27)]) rfl ?_
            refine sim_wh2 (fun (x29 : Int) (s30 : JSg) => [(0, vR 179), (1, vI a1), (2, vI a2), (4, vI x6), (5, vI x20), (6, vI x29)]) (fun (x29 : Int) (s30 : JSg) => s30) ?_ n v27 s21
            intro rc28 hrc28 x29 s30
            refine sim_iload 5 rfl dX12_deal_164 ?_
            refine sim_iload 3 rfl dX12_deal_166 ?_
            refine sim_icmp_ge (tgt := 185) dX12_deal_168 (by decide) ?_ ?_
            · refine sim_iconst dX12_deal_185 (by decide) ?_
              refine sim_istore (fun v31 => [(6, vI v31), (0, vR 179), (1, vI a1), (2, vI a2), (4, vI x6), (5, vI x20)]) (fun _ => rfl) (by decide) dX12_deal_186 (fun v31 => ?_)
              refine sim_sub [1, 2, 3, 4, 5, 0] (L' := [(0, vR 179), (1, vI a1), (2, vI a2), (4, vI x6), (5, vI x20), (6, vI v31)]) rfl ?_
              refine sim_wh2 (fun (x33 : Int) (s34 : JSg) => [(0, vR 179), (1, vI a1), (2, vI a2), (4, vI x6), (5, vI x20), (6, vI x33)]) (fun (x33 : Int) (s34 : JSg) => s34) ?_ n v31 s30
              intro rc32 hrc32 x33 s34
              refine sim_iload 5 rfl dX12_deal_188 ?_
              refine sim_iload 3 rfl dX12_deal_190 ?_
              refine sim_icmp_ge (tgt := 232) dX12_deal_192 (by decide) ?_ ?_
              · refine sim_iconst dX12_deal_232 (by decide) ?_
                refine sim_istore (fun v35 => [(6, vI v35), (0, vR 179), (1, vI a1), (2, vI a2), (4, vI x6), (5, vI x20)]) (fun _ => rfl) (by decide) dX12_deal_233 (fun v35 => ?_)
                refine sim_sub [1, 2, 3, 4, 5, 0] (L' := [(0, vR 179), (1, vI a1), (2, vI a2), (4, vI x6), (5, vI x20), (6, vI v35)]) rfl ?_
                refine sim_wh2 (fun (x37 : Int) (s38 : JSg) => [(0, vR 179), (1, vI a1), (2, vI a2), (4, vI x6), (5, vI x20), (6, vI x37)]) (fun (x37 : Int) (s38 : JSg) => s38) ?_ n v35 s34
                intro rc36 hrc36 x37 s38
                refine sim_iload 5 rfl dX12_deal_235 ?_
                refine sim_iload 3 rfl dX12_deal_237 ?_
                refine sim_icmp_ge (tgt := 262) dX12_deal_239 (by decide) ?_ ?_
                · exact sim_sub [0, 1, 2, 3, 4] rfl (hj24 s38)
                · refine sim_aload_n 0 rfl dX12_deal_242 ?_
                  refine sim_getR g_RX12_72 sh_179 rh_179_42 dX12_deal_243 ?_
                  refine sim_iload 5 rfl dX12_deal_246 ?_
                  refine sim_aload_n 0 rfl dX12_deal_248 ?_
                  refine sim_getR g_RX12_75 sh_179 rh_179_43 dX12_deal_249 ?_
                  refine sim_iload 5 rfl dX12_deal_252 ?_
                  refine sim_laload sh_199 rfl dX12_deal_254 ?_
                  refine sim_lastore sh_198 rfl dX12_deal_255 (fun s39 => ?_)
                  refine sim_iinc 5 rfl (fun v40 => [(6, vI v40), (0, vR 179), (1, vI a1), (2, vI a2), (4, vI x6), (5, vI x20)]) (fun _ => rfl) (by decide) dX12_deal_256 (fun v40 => ?_)
                  refine sim_goto (tgt := 235) dX12_deal_259 (by decide) ?_
                  exact sim_sub [1, 2, 3, 4, 5, 0] rfl (hrc36 v40 s39)
              · refine sim_aload_n 0 rfl dX12_deal_195 ?_
                refine sim_getR g_RX12_72 sh_179 rh_179_42 dX12_deal_196 ?_
                refine sim_iload 5 rfl dX12_deal_199 ?_
                refine sim_laload sh_198 rfl dX12_deal_201 ?_
                refine sim_lconst (v := 0) dX12_deal_202 (by decide +kernel) ?_
                refine sim_lcmp dX12_deal_203 ?_
                refine sim_jn1 (pc' := 226) (fun  (s42 : JSg) => [(0, vR 179), (1, vI a1), (2, vI a2), (4, vI x6), (5, vI x20), (6, vI x33)]) (fun  (s42 : JSg) => []) (fun  (s42 : JSg) => s42) ?_ (fun j41 hj41 => ?_)
                · intro s42
                  refine sim_iinc 5 rfl (fun v43 => [(6, vI v43), (0, vR 179), (1, vI a1), (2, vI a2), (4, vI x6), (5, vI x20)]) (fun _ => rfl) (by decide) dX12_deal_226 (fun v43 => ?_)
                  refine sim_goto (tgt := 188) dX12_deal_229 (by decide) ?_
                  exact sim_sub [1, 2, 3, 4, 5, 0] rfl (hrc32 v43 s42)
                refine sim_if_le (tgt := 226) dX12_deal_204 (by decide) ?_ ?_
                · exact sim_sub [0, 1, 2, 3, 4, 5] rfl (hj41 s34)
                · refine sim_aload_n 0 rfl dX12_deal_207 ?_
                  refine sim_iload 5 rfl dX12_deal_208 ?_
                  refine sim_iload 4 rfl dX12_deal_210 ?_
                  refine sim_iload 4 rfl dX12_deal_212 ?_
                  refine sim_iload_n 1 rfl dX12_deal_214 ?_
                  refine sim_jn1 (pc' := 223) (fun (u45 : Int) => [(0, vR 179), (1, vI a1), (2, vI a2), (4, vI x6), (5, vI x20), (6, vI x33)]) (fun (u45 : Int) => [vI u45, vI x20, vI x33, vR 179]) (fun (u45 : Int) => s34) ?_ (fun j44 hj44 => ?_)
                  · intro u45
                    refine sim_callVVm v_RX12_409 sh_179 dX12_deal_223 (k_M_dealOne n x33 x20 u45 s34) rfl ⟨by decide, by decide⟩ (S := []) rfl (Nat.le_of_ble_eq_true rfl) (fun s46 => ?_)
                    exact sim_sub [0, 1, 2, 3, 4, 5] rfl (hj41 s46)
                  refine sim_icmp_ne (tgt := 222) dX12_deal_215 (by decide) ?_ ?_
                  · refine sim_iconst dX12_deal_222 (by decide) ?_
                    exact sim_sub [0, 1, 2, 3, 4, 5] rfl (hj44 (-1))
                  · refine sim_iload_n 2 rfl dX12_deal_218 ?_
                    refine sim_goto (tgt := 223) dX12_deal_219 (by decide) ?_
                    exact sim_sub [0, 1, 2, 3, 4, 5] rfl (hj44 a2)
            · refine sim_aload_n 0 rfl dX12_deal_171 ?_
              refine sim_getR g_RX12_75 sh_179 rh_179_43 dX12_deal_172 ?_
              refine sim_iload 5 rfl dX12_deal_175 ?_
              refine sim_lconst (v := 0) dX12_deal_177 (by decide +kernel) ?_
              refine sim_lastore sh_199 rfl dX12_deal_178 (fun s47 => ?_)
              refine sim_iinc 5 rfl (fun v48 => [(6, vI v48), (0, vR 179), (1, vI a1), (2, vI a2), (4, vI x6), (5, vI x20)]) (fun _ => rfl) (by decide) dX12_deal_179 (fun v48 => ?_)
              refine sim_goto (tgt := 164) dX12_deal_182 (by decide) ?_
              exact sim_sub [1, 2, 3, 4, 5, 0] rfl (hrc28 v48 s47)
          · refine sim_goto (tgt := 262) dX12_deal_158 (by decide) ?_
            exact sim_sub [0, 1, 2, 3, 4] rfl (hj24 s21)
      · refine sim_aload_n 0 rfl dX12_deal_107 ?_
        refine sim_getR g_RX12_72 sh_179 rh_179_42 dX12_deal_108 ?_
        refine sim_iload 4 rfl dX12_deal_111 ?_
        refine sim_iload 4 rfl dX12_deal_113 ?_
        refine sim_jn1 (pc' := 123) (fun (u50 : Int) => [(0, vR 179), (1, vI a1), (2, vI a2), (4, vI x6), (5, vI x16)]) (fun (u50 : Int) => [vL u50, vI x16, vR 198]) (fun (u50 : Int) => s17) ?_ (fun j49 hj49 => ?_)
        · intro u50
          refine sim_lastore sh_198 rfl dX12_deal_123 (fun s51 => ?_)
          refine sim_iinc 4 rfl (fun v52 => [(5, vI v52), (0, vR 179), (1, vI a1), (2, vI a2), (4, vI x6)]) (fun _ => rfl) (by decide) dX12_deal_124 (fun v52 => ?_)
          refine sim_goto (tgt := 100) dX12_deal_127 (by decide) ?_
          exact sim_sub [1, 2, 3, 4, 0] rfl (hrc15 v52 s51)
        refine sim_if_ne (tgt := 122) dX12_deal_115 (by decide) ?_ ?_
        · refine sim_lconst (v := 0) dX12_deal_122 (by decide +kernel) ?_
          exact sim_sub [0, 1, 2, 3, 4] rfl (hj49 0)
        · refine sim_lconst (v := 1) dX12_deal_118 (by decide +kernel) ?_
          refine sim_goto (tgt := 123) dX12_deal_119 (by decide) ?_
          exact sim_sub [0, 1, 2, 3, 4] rfl (hj49 1)
    · refine sim_lconst (v := 0) dX12_deal_95 (by decide +kernel) ?_
      exact sim_lret rfl rfl dX12_deal_96
  · refine sim_aload_n 0 rfl dX12_deal_17 ?_
    refine sim_getR g_RX12_78 sh_179 rh_179_44 dX12_deal_18 ?_
    refine sim_iload 5 rfl dX12_deal_21 ?_
    refine sim_iload 4 rfl dX12_deal_23 ?_
    refine sim_iastore sh_200 rfl dX12_deal_25 (fun s53 => ?_)
    refine sim_iload 4 rfl dX12_deal_26 ?_
    refine sim_aload_n 0 rfl dX12_deal_28 ?_
    refine sim_getR g_RX12_13 sh_179 rh_179_14 dX12_deal_29 ?_
    refine sim_sipush dX12_deal_32 (by decide +kernel) ?_
    refine sim_iload 5 rfl dX12_deal_35 ?_
    refine sim_iadd dX12_deal_37 ?_
    refine sim_iaload sh_181 rfl dX12_deal_38 ?_
    refine sim_iconst dX12_deal_39 (by decide) ?_
    refine sim_iadd dX12_deal_40 ?_
    refine sim_imul dX12_deal_41 ?_
    refine sim_istore (fun v54 => [(4, vI v54), (0, vR 179), (1, vI a1), (2, vI a2), (3, vI x5), (5, vI x7)]) (fun _ => rfl) (by decide) dX12_deal_42 (fun v54 => ?_)
    refine sim_iload_n 4 rfl dX12_deal_44 ?_
    refine sim_aload_n 1 rfl dX12_deal_45 ?_
    refine sim_getR g_RX12_13 sh_179 rh_179_14 dX12_deal_46 ?_
    refine sim_sipush dX12_deal_49 (by decide +kernel) ?_
    refine sim_iload 5 rfl dX12_deal_52 ?_
    refine sim_iadd dX12_deal_54 ?_
    refine sim_iaload sh_181 rfl dX12_deal_55 ?_
    refine sim_iadd dX12_deal_56 ?_
    refine sim_istore_n (fun v55 => [(3, vI v55), (4, vI v54), (0, vR 179), (1, vI a1), (2, vI a2), (5, vI x7)]) (fun _ => rfl) (by decide) dX12_deal_57 (fun v55 => ?_)
    refine sim_iinc 5 rfl (fun v56 => [(5, vI v56), (3, vI v55), (4, vI v54), (0, vR 179), (1, vI a1), (2, vI a2)]) (fun _ => rfl) (by decide) dX12_deal_58 (fun v56 => ?_)
    refine sim_goto (tgt := 8) dX12_deal_61 (by decide) ?_
    exact sim_sub [3, 4, 5, 1, 2, 0] rfl (hrc4 v55 v54 v56 s53)
theorem dX12_sure_0 : decode cX12_sure 0 = .ok (.aload_n 0, 1) := by decide +kernel
theorem dX12_sure_1 : decode cX12_sure 1 = .ok (.iconst 0, 1) := by decide +kernel
theorem dX12_sure_2 : decode cX12_sure 2 = .ok (.putfield 87, 3) := by decide +kernel
theorem dX12_sure_5 : decode cX12_sure 5 = .ok (.aload_n 0, 1) := by decide +kernel
theorem dX12_sure_6 : decode cX12_sure 6 = .ok (.iload_n 1, 1) := by decide +kernel
theorem dX12_sure_7 : decode cX12_sure 7 = .ok (.invokevirtual 262, 3) := by decide +kernel
theorem dX12_sure_10 : decode cX12_sure 10 = .ok (.ifCond .ne 5, 3) := by decide +kernel
theorem dX12_sure_13 : decode cX12_sure 13 = .ok (.iconst (-1), 1) := by decide +kernel
theorem dX12_sure_14 : decode cX12_sure 14 = .ok (.ireturn, 1) := by decide +kernel
theorem dX12_sure_15 : decode cX12_sure 15 = .ok (.aload_n 0, 1) := by decide +kernel
theorem dX12_sure_16 : decode cX12_sure 16 = .ok (.iconst (-1), 1) := by decide +kernel
theorem dX12_sure_17 : decode cX12_sure 17 = .ok (.iconst (-1), 1) := by decide +kernel
theorem dX12_sure_18 : decode cX12_sure 18 = .ok (.invokevirtual 415, 3) := by decide +kernel
theorem dX12_sure_21 : decode cX12_sure 21 = .ok (.lstore_n 2, 1) := by decide +kernel
theorem dX12_sure_22 : decode cX12_sure 22 = .ok (.iconst 0, 1) := by decide +kernel
theorem dX12_sure_23 : decode cX12_sure 23 = .ok (.istore 4, 2) := by decide +kernel
theorem dX12_sure_25 : decode cX12_sure 25 = .ok (.iconst 0, 1) := by decide +kernel
theorem dX12_sure_26 : decode cX12_sure 26 = .ok (.istore 5, 2) := by decide +kernel
theorem dX12_sure_28 : decode cX12_sure 28 = .ok (.iload 5, 2) := by decide +kernel
theorem dX12_sure_30 : decode cX12_sure 30 = .ok (.aload_n 0, 1) := by decide +kernel
theorem dX12_sure_31 : decode cX12_sure 31 = .ok (.invokevirtual 240, 3) := by decide +kernel
theorem dX12_sure_34 : decode cX12_sure 34 = .ok (.if_icmp .ge 62, 3) := by decide +kernel
theorem dX12_sure_37 : decode cX12_sure 37 = .ok (.lload_n 2, 1) := by decide +kernel
theorem dX12_sure_38 : decode cX12_sure 38 = .ok (.lconst 0, 1) := by decide +kernel
theorem dX12_sure_39 : decode cX12_sure 39 = .ok (.lcmp, 1) := by decide +kernel
theorem dX12_sure_40 : decode cX12_sure 40 = .ok (.ifCond .le 56, 3) := by decide +kernel
theorem dX12_sure_43 : decode cX12_sure 43 = .ok (.aload_n 0, 1) := by decide +kernel
theorem dX12_sure_44 : decode cX12_sure 44 = .ok (.getfield 13, 3) := by decide +kernel
theorem dX12_sure_47 : decode cX12_sure 47 = .ok (.sipush 193, 3) := by decide +kernel
theorem dX12_sure_50 : decode cX12_sure 50 = .ok (.iaload, 1) := by decide +kernel
theorem dX12_sure_51 : decode cX12_sure 51 = .ok (.iload 5, 2) := by decide +kernel
theorem dX12_sure_53 : decode cX12_sure 53 = .ok (.invokestatic 201, 3) := by decide +kernel
theorem dX12_sure_56 : decode cX12_sure 56 = .ok (.ifCond .ne 34, 3) := by decide +kernel
theorem dX12_sure_59 : decode cX12_sure 59 = .ok (.aload_n 0, 1) := by decide +kernel
theorem dX12_sure_60 : decode cX12_sure 60 = .ok (.iload 5, 2) := by decide +kernel
theorem dX12_sure_62 : decode cX12_sure 62 = .ok (.iload_n 1, 1) := by decide +kernel
theorem dX12_sure_63 : decode cX12_sure 63 = .ok (.invokevirtual 412, 3) := by decide +kernel
theorem dX12_sure_66 : decode cX12_sure 66 = .ok (.ifCond .eq 24, 3) := by decide +kernel
theorem dX12_sure_69 : decode cX12_sure 69 = .ok (.aload_n 0, 1) := by decide +kernel
theorem dX12_sure_70 : decode cX12_sure 70 = .ok (.iload 5, 2) := by decide +kernel
theorem dX12_sure_72 : decode cX12_sure 72 = .ok (.iload_n 1, 1) := by decide +kernel
theorem dX12_sure_73 : decode cX12_sure 73 = .ok (.invokevirtual 415, 3) := by decide +kernel
theorem dX12_sure_76 : decode cX12_sure 76 = .ok (.lload_n 2, 1) := by decide +kernel
theorem dX12_sure_77 : decode cX12_sure 77 = .ok (.lcmp, 1) := by decide +kernel
theorem dX12_sure_78 : decode cX12_sure 78 = .ok (.ifCond .ne 12, 3) := by decide +kernel
theorem dX12_sure_81 : decode cX12_sure 81 = .ok (.iload 4, 2) := by decide +kernel
theorem dX12_sure_83 : decode cX12_sure 83 = .ok (.iconst 1, 1) := by decide +kernel
theorem dX12_sure_84 : decode cX12_sure 84 = .ok (.iload 5, 2) := by decide +kernel
theorem dX12_sure_86 : decode cX12_sure 86 = .ok (.ishl, 1) := by decide +kernel
theorem dX12_sure_87 : decode cX12_sure 87 = .ok (.ior, 1) := by decide +kernel
theorem dX12_sure_88 : decode cX12_sure 88 = .ok (.istore 4, 2) := by decide +kernel
theorem dX12_sure_90 : decode cX12_sure 90 = .ok (.iinc 5 1, 3) := by decide +kernel
theorem dX12_sure_93 : decode cX12_sure 93 = .ok (.goto (-65), 3) := by decide +kernel
theorem dX12_sure_96 : decode cX12_sure 96 = .ok (.iload 4, 2) := by decide +kernel
theorem dX12_sure_98 : decode cX12_sure 98 = .ok (.ireturn, 1) := by decide +kernel
def f_M_sure (n : Nat)  (a1 : Int) (σ : JSg) : Option (Int × JSg) :=
  lt_ (sp σ 179 0 0) fun s1 => bd1 (f_M_isWidow a1 s1) fun r2 => if r2 = 0 then (some ((-1), s1)) else (bd2 (f_M_deal n (-1) (-1) s1) fun r3 s4 => lt_ r3 fun v5 => lt_ 0 fun v6 => lt_ 0 fun v7 => wh3 n (fun rc8 (x9 : Int) (x10 : Int) (s11 : JSg) => bd1 (f_M_stones s11) fun r12 => if x10 < r12 then (if 0 < (cmpL v5 0) then (bd1 (f_M_has (s11 181 193) x10 s11) fun r13 => jn2 (fun (y15 : Int) (s16 : JSg) => lt_ (w32 (x10 + 1)) fun v17 => rc8 y15 v17 s16) fun j14 => if r13 = 0 then (bd1 (f_M_mayHave x10 a1 s11) fun r18 => if r18 = 0 then (j14 x9 s11) else (bd2 (f_M_deal n x10 a1 s11) fun r19 s20 => if (cmpL r19 v5) = 0 then (lt_ (or32 x9 (sl32 1 x10)) fun v21 => j14 v21 s20) else (j14 x9 s20))) else (j14 x9 s11)) else (some (x9, s11))) else (some (x9, s11))) v6 v7 s4)
set_option maxRecDepth 20000 in
set_option maxHeartbeats 4000000 in
theorem k_M_sure  (n : Nat)   (a1 : Int) (σ : JSg) : Call yX12_sure cX12_sure 6 (some .int) 4 SH RHO [vR 179, vI a1] σ dIm (f_M_sure n a1 σ) := by
  refine call_of_sim (by decide +kernel) (Nat.le_of_ble_eq_true rfl) ?_
  show Sim RX12 cX12_sure 6 (some .int) 4 SH RHO 0 [(0, vR 179), (1, vI a1)] [] σ dIm (f_M_sure n a1 σ)
  unfold f_M_sure
  refine sim_aload_n 0 rfl dX12_sure_0 ?_
  refine sim_iconst dX12_sure_1 (by decide) ?_
  refine sim_putI g_RX12_87 sh_179 dX12_sure_2 (fun s1 => ?_)
  refine sim_aload_n 0 rfl dX12_sure_5 ?_
  refine sim_iload_n 1 rfl dX12_sure_6 ?_
  refine sim_callVIp v_RX12_262 sh_179 dX12_sure_7 (k_M_isWidow a1 s1) rfl ⟨by decide, by decide⟩ (S := []) rfl (Nat.le_of_ble_eq_true rfl) (fun r2 => ?_)
  refine sim_if_ne (tgt := 15) dX12_sure_10 (by decide) ?_ ?_
  · refine sim_aload_n 0 rfl dX12_sure_15 ?_
    refine sim_iconst dX12_sure_16 (by decide) ?_
    refine sim_iconst dX12_sure_17 (by decide) ?_
    refine sim_callVLm v_RX12_415 sh_179 dX12_sure_18 (k_M_deal n (-1) (-1) s1) rfl ⟨by decide, by decide⟩ (S := []) rfl (Nat.le_of_ble_eq_true rfl) (fun r3 s4 => ?_)
    refine sim_lstore_n (fun v5 => [(2, vL v5), (0, vR 179), (1, vI a1)]) (fun _ => rfl) (by decide) dX12_sure_21 (fun v5 => ?_)
    refine sim_iconst dX12_sure_22 (by decide) ?_
    refine sim_istore (fun v6 => [(4, vI v6), (2, vL v5), (0, vR 179), (1, vI a1)]) (fun _ => rfl) (by decide) dX12_sure_23 (fun v6 => ?_)
    refine sim_iconst dX12_sure_25 (by decide) ?_
    refine sim_istore (fun v7 => [(5, vI v7), (4, vI v6), (2, vL v5), (0, vR 179), (1, vI a1)]) (fun _ => rfl) (by decide) dX12_sure_26 (fun v7 => ?_)
    refine sim_sub [3, 4, 2, 1, 0] (L' := [(0, vR 179), (1, vI a1), (2, vL v5), (4, vI v6), (5, vI v7)]) rfl ?_
    refine sim_wh3 (fun (x9 : Int) (x10 : Int) (s11 : JSg) => [(0, vR 179), (1, vI a1), (2, vL v5), (4, vI x9), (5, vI x10)]) (fun (x9 : Int) (x10 : Int) (s11 : JSg) => s11) ?_ n v6 v7 s4
    intro rc8 hrc8 x9 x10 s11
    refine sim_iload 4 rfl dX12_sure_28 ?_
    refine sim_aload_n 0 rfl dX12_sure_30 ?_
    refine sim_callVIp v_RX12_240 sh_179 dX12_sure_31 (k_M_stones s11) rfl ⟨by decide, by decide⟩ (S := [vI x10]) rfl (Nat.le_of_ble_eq_true rfl) (fun r12 => ?_)
    refine sim_icmp_ge (tgt := 96) dX12_sure_34 (by decide) ?_ ?_
    · refine sim_iload 3 rfl dX12_sure_96 ?_
      exact sim_iret rfl rfl dX12_sure_98
    · refine sim_lload_n 2 rfl dX12_sure_37 ?_
      refine sim_lconst (v := 0) dX12_sure_38 (by decide +kernel) ?_
      refine sim_lcmp dX12_sure_39 ?_
      refine sim_if_le (tgt := 96) dX12_sure_40 (by decide) ?_ ?_
      · refine sim_iload 3 rfl dX12_sure_96 ?_
        exact sim_iret rfl rfl dX12_sure_98
      · refine sim_aload_n 0 rfl dX12_sure_43 ?_
        refine sim_getR g_RX12_13 sh_179 rh_179_14 dX12_sure_44 ?_
        refine sim_sipush dX12_sure_47 (by decide +kernel) ?_
        refine sim_ialoadK (j := 193) sh_181 rfl (by decide) dX12_sure_50 ?_
        refine sim_iload 4 rfl dX12_sure_51 ?_
        refine sim_callSIp s_RX12_201 dX12_sure_53 (k_M_has SH RHO (s11 181 193) x10 s11) rfl ⟨by decide, by decide⟩ (S := []) rfl (Nat.le_of_ble_eq_true rfl) (fun r13 => ?_)
        refine sim_jn2 (pc' := 90) (fun (y15 : Int) (s16 : JSg) => [(0, vR 179), (1, vI a1), (2, vL v5), (4, vI y15), (5, vI x10)]) (fun (y15 : Int) (s16 : JSg) => []) (fun (y15 : Int) (s16 : JSg) => s16) ?_ (fun j14 hj14 => ?_)
        · intro y15 s16
          refine sim_iinc 4 rfl (fun v17 => [(5, vI v17), (0, vR 179), (1, vI a1), (2, vL v5), (4, vI y15)]) (fun _ => rfl) (by decide) dX12_sure_90 (fun v17 => ?_)
          refine sim_goto (tgt := 28) dX12_sure_93 (by decide) ?_
          exact sim_sub [1, 2, 3, 4, 0] rfl (hrc8 y15 v17 s16)
        refine sim_if_ne (tgt := 90) dX12_sure_56 (by decide) ?_ ?_
        · exact sim_sub [0, 1, 2, 3, 4] rfl (hj14 x9 s11)
        · refine sim_aload_n 0 rfl dX12_sure_59 ?_
          refine sim_iload 4 rfl dX12_sure_60 ?_
          refine sim_iload_n 1 rfl dX12_sure_62 ?_
          refine sim_callVIp v_RX12_412 sh_179 dX12_sure_63 (k_M_mayHave x10 a1 s11) rfl ⟨by decide, by decide⟩ (S := []) rfl (Nat.le_of_ble_eq_true rfl) (fun r18 => ?_)
          refine sim_if_eq (tgt := 90) dX12_sure_66 (by decide) ?_ ?_
          · exact sim_sub [0, 1, 2, 3, 4] rfl (hj14 x9 s11)
          · refine sim_aload_n 0 rfl dX12_sure_69 ?_
            refine sim_iload 4 rfl dX12_sure_70 ?_
            refine sim_iload_n 1 rfl dX12_sure_72 ?_
            refine sim_callVLm v_RX12_415 sh_179 dX12_sure_73 (k_M_deal n x10 a1 s11) rfl ⟨by decide, by decide⟩ (S := []) rfl (Nat.le_of_ble_eq_true rfl) (fun r19 s20 => ?_)
            refine sim_lload_n 2 rfl dX12_sure_76 ?_
            refine sim_lcmp dX12_sure_77 ?_
            refine sim_if_ne (tgt := 90) dX12_sure_78 (by decide) ?_ ?_
            · exact sim_sub [0, 1, 2, 3, 4] rfl (hj14 x9 s20)
            · refine sim_iload 3 rfl dX12_sure_81 ?_
              refine sim_iconst dX12_sure_83 (by decide) ?_
              refine sim_iload 4 rfl dX12_sure_84 ?_
              refine sim_ishl dX12_sure_86 ?_
              refine sim_ior dX12_sure_87 ?_
              refine sim_istore (fun v21 => [(4, vI v21), (0, vR 179), (1, vI a1), (2, vL v5), (5, vI x10)]) (fun _ => rfl) (by decide) dX12_sure_88 (fun v21 => ?_)
              exact sim_sub [1, 2, 3, 0, 4] rfl (hj14 v21 s20)
  · refine sim_iconst dX12_sure_13 (by decide) ?_
    exact sim_iret rfl rfl dX12_sure_14
theorem dX12_isStone_0 : decode cX12_isStone 0 = .ok (.iload_n 1, 1) := by decide +kernel
theorem dX12_isStone_1 : decode cX12_isStone 1 = .ok (.ifCond .lt 15, 3) := by decide +kernel
theorem dX12_isStone_4 : decode cX12_isStone 4 = .ok (.iload_n 1, 1) := by decide +kernel
theorem dX12_isStone_5 : decode cX12_isStone 5 = .ok (.aload_n 0, 1) := by decide +kernel
theorem dX12_isStone_6 : decode cX12_isStone 6 = .ok (.invokevirtual 240, 3) := by decide +kernel
theorem dX12_isStone_9 : decode cX12_isStone 9 = .ok (.if_icmp .ge 7, 3) := by decide +kernel
theorem dX12_isStone_12 : decode cX12_isStone 12 = .ok (.iconst 1, 1) := by decide +kernel
theorem dX12_isStone_13 : decode cX12_isStone 13 = .ok (.goto 4, 3) := by decide +kernel
theorem dX12_isStone_16 : decode cX12_isStone 16 = .ok (.iconst 0, 1) := by decide +kernel
theorem dX12_isStone_17 : decode cX12_isStone 17 = .ok (.ireturn, 1) := by decide +kernel
def f_M_isStone   (a1 : Int) (σ : JSg) : Option (Int) :=
  if a1 < 0 then (some 0) else (bd1 (f_M_stones σ) fun r1 => if a1 < r1 then (some 1) else (some 0))
set_option maxRecDepth 20000 in
set_option maxHeartbeats 4000000 in
theorem k_M_isStone     (a1 : Int) (σ : JSg) : Call yX12_isStone cX12_isStone 2 (some .boolean) 1 SH RHO [vR 179, vI a1] σ (dIp σ) (f_M_isStone a1 σ) := by
  refine call_of_sim (by decide +kernel) (Nat.le_of_ble_eq_true rfl) ?_
  show Sim RX12 cX12_isStone 2 (some .boolean) 1 SH RHO 0 [(0, vR 179), (1, vI a1)] [] σ (dIp σ) (f_M_isStone a1 σ)
  unfold f_M_isStone
  refine sim_iload_n 1 rfl dX12_isStone_0 ?_
  refine sim_if_lt (tgt := 16) dX12_isStone_1 (by decide) ?_ ?_
  · refine sim_iconst dX12_isStone_16 (by decide) ?_
    exact sim_zret (Or.inl rfl) rfl rfl dX12_isStone_17
  · refine sim_iload_n 1 rfl dX12_isStone_4 ?_
    refine sim_aload_n 0 rfl dX12_isStone_5 ?_
    refine sim_callVIp v_RX12_240 sh_179 dX12_isStone_6 (k_M_stones σ) rfl ⟨by decide, by decide⟩ (S := [vI a1]) rfl (Nat.le_of_ble_eq_true rfl) (fun r1 => ?_)
    refine sim_icmp_ge (tgt := 16) dX12_isStone_9 (by decide) ?_ ?_
    · refine sim_iconst dX12_isStone_16 (by decide) ?_
      exact sim_zret (Or.inl rfl) rfl rfl dX12_isStone_17
    · refine sim_iconst dX12_isStone_12 (by decide) ?_
      refine sim_goto (tgt := 17) dX12_isStone_13 (by decide) ?_
      exact sim_zret (Or.inr rfl) rfl rfl dX12_isStone_17
theorem dX12_whose_0 : decode cX12_whose 0 = .ok (.aload_n 0, 1) := by decide +kernel
theorem dX12_whose_1 : decode cX12_whose 1 = .ok (.iconst 0, 1) := by decide +kernel
theorem dX12_whose_2 : decode cX12_whose 2 = .ok (.putfield 87, 3) := by decide +kernel
theorem dX12_whose_5 : decode cX12_whose 5 = .ok (.aload_n 0, 1) := by decide +kernel
theorem dX12_whose_6 : decode cX12_whose 6 = .ok (.iload_n 1, 1) := by decide +kernel
theorem dX12_whose_7 : decode cX12_whose 7 = .ok (.invokevirtual 253, 3) := by decide +kernel
theorem dX12_whose_10 : decode cX12_whose 10 = .ok (.ifCond .eq 11, 3) := by decide +kernel
theorem dX12_whose_13 : decode cX12_whose 13 = .ok (.aload_n 0, 1) := by decide +kernel
theorem dX12_whose_14 : decode cX12_whose 14 = .ok (.iload_n 2, 1) := by decide +kernel
theorem dX12_whose_15 : decode cX12_whose 15 = .ok (.invokevirtual 262, 3) := by decide +kernel
theorem dX12_whose_18 : decode cX12_whose 18 = .ok (.ifCond .ne 7, 3) := by decide +kernel
theorem dX12_whose_21 : decode cX12_whose 21 = .ok (.ldc2_w 419, 3) := by decide +kernel
theorem dX12_whose_24 : decode cX12_whose 24 = .ok (.lreturn, 1) := by decide +kernel
theorem dX12_whose_25 : decode cX12_whose 25 = .ok (.aload_n 0, 1) := by decide +kernel
theorem dX12_whose_26 : decode cX12_whose 26 = .ok (.getfield 13, 3) := by decide +kernel
theorem dX12_whose_29 : decode cX12_whose 29 = .ok (.sipush 193, 3) := by decide +kernel
theorem dX12_whose_32 : decode cX12_whose 32 = .ok (.iaload, 1) := by decide +kernel
theorem dX12_whose_33 : decode cX12_whose 33 = .ok (.iload_n 1, 1) := by decide +kernel
theorem dX12_whose_34 : decode cX12_whose 34 = .ok (.invokestatic 201, 3) := by decide +kernel
theorem dX12_whose_37 : decode cX12_whose 37 = .ok (.ifCond .eq 7, 3) := by decide +kernel
theorem dX12_whose_40 : decode cX12_whose 40 = .ok (.lconst 0, 1) := by decide +kernel
theorem dX12_whose_41 : decode cX12_whose 41 = .ok (.goto 9, 3) := by decide +kernel
theorem dX12_whose_44 : decode cX12_whose 44 = .ok (.aload_n 0, 1) := by decide +kernel
theorem dX12_whose_45 : decode cX12_whose 45 = .ok (.iload_n 1, 1) := by decide +kernel
theorem dX12_whose_46 : decode cX12_whose 46 = .ok (.iload_n 2, 1) := by decide +kernel
theorem dX12_whose_47 : decode cX12_whose 47 = .ok (.invokevirtual 415, 3) := by decide +kernel
theorem dX12_whose_50 : decode cX12_whose 50 = .ok (.lreturn, 1) := by decide +kernel
def f_M_whose (n : Nat)  (a1 : Int) (a2 : Int) (σ : JSg) : Option (Int × JSg) :=
  lt_ (sp σ 179 0 0) fun s1 => bd1 (f_M_isStone a1 s1) fun r2 => jn0 (some ((-1), s1)) fun j3 => if r2 = 0 then (j3) else (bd1 (f_M_isWidow a2 s1) fun r4 => if r4 = 0 then (j3) else (bd1 (f_M_has (s1 181 193) a1 s1) fun r5 => if r5 = 0 then (bd2 (f_M_deal n a1 a2 s1) fun r6 s7 => some (r6, s7)) else (some (0, s1))))
set_option maxRecDepth 20000 in
set_option maxHeartbeats 4000000 in
theorem k_M_whose  (n : Nat)   (a1 : Int) (a2 : Int) (σ : JSg) : Call yX12_whose cX12_whose 3 (some .long) 4 SH RHO [vR 179, vI a1, vI a2] σ dLm (f_M_whose n a1 a2 σ) := by
  refine call_of_sim (by decide +kernel) (Nat.le_of_ble_eq_true rfl) ?_
  show Sim RX12 cX12_whose 3 (some .long) 4 SH RHO 0 [(0, vR 179), (1, vI a1), (2, vI a2)] [] σ dLm (f_M_whose n a1 a2 σ)
  unfold f_M_whose
  refine sim_aload_n 0 rfl dX12_whose_0 ?_
  refine sim_iconst dX12_whose_1 (by decide) ?_
  refine sim_putI g_RX12_87 sh_179 dX12_whose_2 (fun s1 => ?_)
  refine sim_aload_n 0 rfl dX12_whose_5 ?_
  refine sim_iload_n 1 rfl dX12_whose_6 ?_
  refine sim_callVIp v_RX12_253 sh_179 dX12_whose_7 (k_M_isStone a1 s1) rfl ⟨by decide, by decide⟩ (S := []) rfl (Nat.le_of_ble_eq_true rfl) (fun r2 => ?_)
  refine sim_jn0 (pc' := 21) ([]) ([]) (s1) ?_ (fun j3 hj3 => ?_)
  · refine sim_ldc2 (v := -1) w_2101 (by decide +kernel) dX12_whose_21 ?_
    exact sim_lret rfl rfl dX12_whose_24
  refine sim_if_eq (tgt := 21) dX12_whose_10 (by decide) ?_ ?_
  · exact sim_sub [] rfl (hj3 )
  · refine sim_aload_n 0 rfl dX12_whose_13 ?_
    refine sim_iload_n 2 rfl dX12_whose_14 ?_
    refine sim_callVIp v_RX12_262 sh_179 dX12_whose_15 (k_M_isWidow a2 s1) rfl ⟨by decide, by decide⟩ (S := []) rfl (Nat.le_of_ble_eq_true rfl) (fun r4 => ?_)
    refine sim_if_ne (tgt := 25) dX12_whose_18 (by decide) ?_ ?_
    · refine sim_aload_n 0 rfl dX12_whose_25 ?_
      refine sim_getR g_RX12_13 sh_179 rh_179_14 dX12_whose_26 ?_
      refine sim_sipush dX12_whose_29 (by decide +kernel) ?_
      refine sim_ialoadK (j := 193) sh_181 rfl (by decide) dX12_whose_32 ?_
      refine sim_iload_n 1 rfl dX12_whose_33 ?_
      refine sim_callSIp s_RX12_201 dX12_whose_34 (k_M_has SH RHO (s1 181 193) a1 s1) rfl ⟨by decide, by decide⟩ (S := []) rfl (Nat.le_of_ble_eq_true rfl) (fun r5 => ?_)
      refine sim_if_eq (tgt := 44) dX12_whose_37 (by decide) ?_ ?_
      · refine sim_aload_n 0 rfl dX12_whose_44 ?_
        refine sim_iload_n 1 rfl dX12_whose_45 ?_
        refine sim_iload_n 2 rfl dX12_whose_46 ?_
        refine sim_callVLm v_RX12_415 sh_179 dX12_whose_47 (k_M_deal n a1 a2 s1) rfl ⟨by decide, by decide⟩ (S := []) rfl (Nat.le_of_ble_eq_true rfl) (fun r6 s7 => ?_)
        exact sim_lret rfl rfl dX12_whose_50
      · refine sim_lconst (v := 0) dX12_whose_40 (by decide +kernel) ?_
        refine sim_goto (tgt := 50) dX12_whose_41 (by decide) ?_
        exact sim_lret rfl rfl dX12_whose_50
    · exact sim_sub [] rfl (hj3 )
theorem dX12_dealings_0 : decode cX12_dealings 0 = .ok (.aload_n 0, 1) := by decide +kernel
theorem dX12_dealings_1 : decode cX12_dealings 1 = .ok (.iconst 0, 1) := by decide +kernel
theorem dX12_dealings_2 : decode cX12_dealings 2 = .ok (.putfield 87, 3) := by decide +kernel
theorem dX12_dealings_5 : decode cX12_dealings 5 = .ok (.aload_n 0, 1) := by decide +kernel
theorem dX12_dealings_6 : decode cX12_dealings 6 = .ok (.iconst (-1), 1) := by decide +kernel
theorem dX12_dealings_7 : decode cX12_dealings 7 = .ok (.iconst (-1), 1) := by decide +kernel
theorem dX12_dealings_8 : decode cX12_dealings 8 = .ok (.invokevirtual 415, 3) := by decide +kernel
theorem dX12_dealings_11 : decode cX12_dealings 11 = .ok (.lreturn, 1) := by decide +kernel
def f_M_dealings (n : Nat)   (σ : JSg) : Option (Int × JSg) :=
  lt_ (sp σ 179 0 0) fun s1 => bd2 (f_M_deal n (-1) (-1) s1) fun r2 s3 => some (r2, s3)
set_option maxRecDepth 20000 in
set_option maxHeartbeats 4000000 in
theorem k_M_dealings  (n : Nat)    (σ : JSg) : Call yX12_dealings cX12_dealings 1 (some .long) 4 SH RHO [vR 179] σ dLm (f_M_dealings n σ) := by
  refine call_of_sim (by decide +kernel) (Nat.le_of_ble_eq_true rfl) ?_
  show Sim RX12 cX12_dealings 1 (some .long) 4 SH RHO 0 [(0, vR 179)] [] σ dLm (f_M_dealings n σ)
  unfold f_M_dealings
  refine sim_aload_n 0 rfl dX12_dealings_0 ?_
  refine sim_iconst dX12_dealings_1 (by decide) ?_
  refine sim_putI g_RX12_87 sh_179 dX12_dealings_2 (fun s1 => ?_)
  refine sim_aload_n 0 rfl dX12_dealings_5 ?_
  refine sim_iconst dX12_dealings_6 (by decide) ?_
  refine sim_iconst dX12_dealings_7 (by decide) ?_
  refine sim_callVLm v_RX12_415 sh_179 dX12_dealings_8 (k_M_deal n (-1) (-1) s1) rfl ⟨by decide, by decide⟩ (S := []) rfl (Nat.le_of_ble_eq_true rfl) (fun r2 s3 => ?_)
  exact sim_lret rfl rfl dX12_dealings_11
theorem dX12_readDeal_0 : decode cX12_readDeal 0 = .ok (.aload_n 0, 1) := by decide +kernel
theorem dX12_readDeal_1 : decode cX12_readDeal 1 = .ok (.invokevirtual 169, 3) := by decide +kernel
theorem dX12_readDeal_4 : decode cX12_readDeal 4 = .ok (.aload_n 0, 1) := by decide +kernel
theorem dX12_readDeal_5 : decode cX12_readDeal 5 = .ok (.invokevirtual 186, 3) := by decide +kernel
theorem dX12_readDeal_8 : decode cX12_readDeal 8 = .ok (.ifCond .ne 9, 3) := by decide +kernel
theorem dX12_readDeal_11 : decode cX12_readDeal 11 = .ok (.aload_n 0, 1) := by decide +kernel
theorem dX12_readDeal_12 : decode cX12_readDeal 12 = .ok (.iconst 1, 1) := by decide +kernel
theorem dX12_readDeal_13 : decode cX12_readDeal 13 = .ok (.invokevirtual 155, 3) := by decide +kernel
theorem dX12_readDeal_16 : decode cX12_readDeal 16 = .ok (.ireturn, 1) := by decide +kernel
theorem dX12_readDeal_17 : decode cX12_readDeal 17 = .ok (.aload_n 0, 1) := by decide +kernel
theorem dX12_readDeal_18 : decode cX12_readDeal 18 = .ok (.getfield 25, 3) := by decide +kernel
theorem dX12_readDeal_21 : decode cX12_readDeal 21 = .ok (.aload_n 0, 1) := by decide +kernel
theorem dX12_readDeal_22 : decode cX12_readDeal 22 = .ok (.invokevirtual 237, 3) := by decide +kernel
theorem dX12_readDeal_25 : decode cX12_readDeal 25 = .ok (.aload_n 0, 1) := by decide +kernel
theorem dX12_readDeal_26 : decode cX12_readDeal 26 = .ok (.getfield 122, 3) := by decide +kernel
theorem dX12_readDeal_29 : decode cX12_readDeal 29 = .ok (.invokestatic 190, 3) := by decide +kernel
theorem dX12_readDeal_32 : decode cX12_readDeal 32 = .ok (.istore_n 1, 1) := by decide +kernel
theorem dX12_readDeal_33 : decode cX12_readDeal 33 = .ok (.iload_n 1, 1) := by decide +kernel
theorem dX12_readDeal_34 : decode cX12_readDeal 34 = .ok (.iconst (-1), 1) := by decide +kernel
theorem dX12_readDeal_35 : decode cX12_readDeal 35 = .ok (.if_icmp .eq 14, 3) := by decide +kernel
theorem dX12_readDeal_38 : decode cX12_readDeal 38 = .ok (.aload_n 0, 1) := by decide +kernel
theorem dX12_readDeal_39 : decode cX12_readDeal 39 = .ok (.getfield 394, 3) := by decide +kernel
theorem dX12_readDeal_42 : decode cX12_readDeal 42 = .ok (.iload_n 1, 1) := by decide +kernel
theorem dX12_readDeal_43 : decode cX12_readDeal 43 = .ok (.invokestatic 201, 3) := by decide +kernel
theorem dX12_readDeal_46 : decode cX12_readDeal 46 = .ok (.ifCond .eq 9, 3) := by decide +kernel
theorem dX12_readDeal_49 : decode cX12_readDeal 49 = .ok (.aload_n 0, 1) := by decide +kernel
theorem dX12_readDeal_50 : decode cX12_readDeal 50 = .ok (.iconst 3, 1) := by decide +kernel
theorem dX12_readDeal_51 : decode cX12_readDeal 51 = .ok (.invokevirtual 155, 3) := by decide +kernel
theorem dX12_readDeal_54 : decode cX12_readDeal 54 = .ok (.ireturn, 1) := by decide +kernel
theorem dX12_readDeal_55 : decode cX12_readDeal 55 = .ok (.aload_n 0, 1) := by decide +kernel
theorem dX12_readDeal_56 : decode cX12_readDeal 56 = .ok (.dup, 1) := by decide +kernel
theorem dX12_readDeal_57 : decode cX12_readDeal 57 = .ok (.getfield 394, 3) := by decide +kernel
theorem dX12_readDeal_60 : decode cX12_readDeal 60 = .ok (.iconst 1, 1) := by decide +kernel
theorem dX12_readDeal_61 : decode cX12_readDeal 61 = .ok (.iload_n 1, 1) := by decide +kernel
theorem dX12_readDeal_62 : decode cX12_readDeal 62 = .ok (.ishl, 1) := by decide +kernel
theorem dX12_readDeal_63 : decode cX12_readDeal 63 = .ok (.ior, 1) := by decide +kernel
theorem dX12_readDeal_64 : decode cX12_readDeal 64 = .ok (.putfield 394, 3) := by decide +kernel
theorem dX12_readDeal_67 : decode cX12_readDeal 67 = .ok (.aload_n 0, 1) := by decide +kernel
theorem dX12_readDeal_68 : decode cX12_readDeal 68 = .ok (.invokevirtual 169, 3) := by decide +kernel
theorem dX12_readDeal_71 : decode cX12_readDeal 71 = .ok (.aload_n 0, 1) := by decide +kernel
theorem dX12_readDeal_72 : decode cX12_readDeal 72 = .ok (.iconst 0, 1) := by decide +kernel
theorem dX12_readDeal_73 : decode cX12_readDeal 73 = .ok (.bipush 7, 2) := by decide +kernel
theorem dX12_readDeal_75 : decode cX12_readDeal 75 = .ok (.invokevirtual 194, 3) := by decide +kernel
theorem dX12_readDeal_78 : decode cX12_readDeal 78 = .ok (.ifCond .ne 5, 3) := by decide +kernel
theorem dX12_readDeal_81 : decode cX12_readDeal 81 = .ok (.iconst 0, 1) := by decide +kernel
theorem dX12_readDeal_82 : decode cX12_readDeal 82 = .ok (.ireturn, 1) := by decide +kernel
theorem dX12_readDeal_83 : decode cX12_readDeal 83 = .ok (.aload_n 0, 1) := by decide +kernel
theorem dX12_readDeal_84 : decode cX12_readDeal 84 = .ok (.getfield 68, 3) := by decide +kernel
theorem dX12_readDeal_87 : decode cX12_readDeal 87 = .ok (.iconst 2, 1) := by decide +kernel
theorem dX12_readDeal_88 : decode cX12_readDeal 88 = .ok (.iload_n 1, 1) := by decide +kernel
theorem dX12_readDeal_89 : decode cX12_readDeal 89 = .ok (.iadd, 1) := by decide +kernel
theorem dX12_readDeal_90 : decode cX12_readDeal 90 = .ok (.aload_n 0, 1) := by decide +kernel
theorem dX12_readDeal_91 : decode cX12_readDeal 91 = .ok (.getfield 162, 3) := by decide +kernel
theorem dX12_readDeal_94 : decode cX12_readDeal 94 = .ok (.iastore, 1) := by decide +kernel
theorem dX12_readDeal_95 : decode cX12_readDeal 95 = .ok (.iconst 1, 1) := by decide +kernel
theorem dX12_readDeal_96 : decode cX12_readDeal 96 = .ok (.ireturn, 1) := by decide +kernel
def f_M_readDeal (n : Nat)   (σ : JSg) : Option (Int × JSg) :=
  bd1 (f_M_go n σ) fun s1 => bd1 (f_M_isName n s1) fun r2 => if r2 = 0 then (bd2 (f_M_bad 1 s1) fun r15 s16 => chk (r15 = 0 ∨ r15 = 1) <| some (r15, s16)) else (bd1 (f_M_widows s1) fun r3 => bd1 (f_M_findIn n 185 6 r3 (s1 179 12) s1) fun r4 => lt_ r4 fun v5 => jn0 (bd2 (f_M_bad 3 s1) fun r7 s8 => chk (r7 = 0 ∨ r7 = 1) <| some (r7, s8)) fun j6 => if v5 = (-1) then (j6) else (bd1 (f_M_has (s1 179 41) v5 s1) fun r9 => if r9 = 0 then (lt_ (sp s1 179 41 (or32 (s1 179 41) (sl32 1 v5))) fun s10 => bd1 (f_M_go n s10) fun s11 => bd2 (f_M_readNumber n 0 7 s11) fun r12 s13 => if r12 = 0 then (some (0, s13)) else (chk (0 ≤ (w32 (2 + v5)) ∧ (w32 (2 + v5)) < 14) <| lt_ (sp s13 197 (w32 (2 + v5)).toNat (s13 179 13)) fun s14 => some (1, s14))) else (j6)))
set_option maxRecDepth 20000 in
set_option maxHeartbeats 4000000 in
theorem k_M_readDeal  (n : Nat)    (σ : JSg) : Call yX12_readDeal cX12_readDeal 2 (some .boolean) 3 SH RHO [vR 179] σ dIm (f_M_readDeal n σ) := by
  refine call_of_sim (by decide +kernel) (Nat.le_of_ble_eq_true rfl) ?_
  show Sim RX12 cX12_readDeal 2 (some .boolean) 3 SH RHO 0 [(0, vR 179)] [] σ dIm (f_M_readDeal n σ)
  unfold f_M_readDeal
  refine sim_aload_n 0 rfl dX12_readDeal_0 ?_
  refine sim_callVVm v_RX12_169 sh_179 dX12_readDeal_1 (k_M_go n σ) rfl ⟨by decide, by decide⟩ (S := []) rfl (Nat.le_of_ble_eq_true rfl) (fun s1 => ?_)
  refine sim_aload_n 0 rfl dX12_readDeal_4 ?_
  refine sim_callVIp v_RX12_186 sh_179 dX12_readDeal_5 (k_M_isName n s1) rfl ⟨by decide, by decide⟩ (S := []) rfl (Nat.le_of_ble_eq_true rfl) (fun r2 => ?_)
  refine sim_if_ne (tgt := 17) dX12_readDeal_8 (by decide) ?_ ?_
  · refine sim_aload_n 0 rfl dX12_readDeal_17 ?_
    refine sim_getR g_RX12_25 sh_179 rh_179_18 dX12_readDeal_18 ?_
    refine sim_aload_n 0 rfl dX12_readDeal_21 ?_
    refine sim_callVIp v_RX12_237 sh_179 dX12_readDeal_22 (k_M_widows s1) rfl ⟨by decide, by decide⟩ (S := [vR 185]) rfl (Nat.le_of_ble_eq_true rfl) (fun r3 => ?_)
    refine sim_aload_n 0 rfl dX12_readDeal_25 ?_
    refine sim_getL g_RX12_122 sh_179 dX12_readDeal_26 ?_
    refine sim_callSIp s_RX12_190 dX12_readDeal_29 (k_M_findIn SH RHO n 185 6 sh_185 (okI_lit (by decide)) r3 (s1 179 12) s1) rfl ⟨by decide, by decide⟩ (S := []) rfl (Nat.le_of_ble_eq_true rfl) (fun r4 => ?_)
    refine sim_istore_n (fun v5 => [(1, vI v5), (0, vR 179)]) (fun _ => rfl) (by decide) dX12_readDeal_32 (fun v5 => ?_)
    refine sim_iload_n 0 rfl dX12_readDeal_33 ?_
    refine sim_iconst dX12_readDeal_34 (by decide) ?_
    refine sim_jn0 (pc' := 49) ([(0, vR 179)]) ([]) (s1) ?_ (fun j6 hj6 => ?_)
    · refine sim_aload_n 0 rfl dX12_readDeal_49 ?_
      refine sim_iconst dX12_readDeal_50 (by decide) ?_
      refine sim_callVIm v_RX12_155 sh_179 dX12_readDeal_51 (k_M_bad 3 s1) rfl ⟨by decide, by decide⟩ (S := []) rfl (Nat.le_of_ble_eq_true rfl) (fun r7 s8 => ?_)
      exact sim_zretc rfl rfl dX12_readDeal_54
    refine sim_icmp_eq (tgt := 49) dX12_readDeal_35 (by decide) ?_ ?_
    · exact sim_sub [1] rfl (hj6 )
    · refine sim_aload_n 1 rfl dX12_readDeal_38 ?_
      refine sim_getI g_RX12_394 sh_179 dX12_readDeal_39 ?_
      refine sim_iload_n 0 rfl dX12_readDeal_42 ?_
      refine sim_callSIp s_RX12_201 dX12_readDeal_43 (k_M_has SH RHO (s1 179 41) v5 s1) rfl ⟨by decide, by decide⟩ (S := []) rfl (Nat.le_of_ble_eq_true rfl) (fun r9 => ?_)
      refine sim_if_eq (tgt := 55) dX12_readDeal_46 (by decide) ?_ ?_
      · refine sim_aload_n 1 rfl dX12_readDeal_55 ?_
        refine sim_dup rfl dX12_readDeal_56 ?_
        refine sim_getI g_RX12_394 sh_179 dX12_readDeal_57 ?_
        refine sim_iconst dX12_readDeal_60 (by decide) ?_
        refine sim_iload_n 0 rfl dX12_readDeal_61 ?_
        refine sim_ishl dX12_readDeal_62 ?_
        refine sim_ior dX12_readDeal_63 ?_
        refine sim_putI g_RX12_394 sh_179 dX12_readDeal_64 (fun s10 => ?_)
        refine sim_aload_n 1 rfl dX12_readDeal_67 ?_
        refine sim_callVVm v_RX12_169 sh_179 dX12_readDeal_68 (k_M_go n s10) rfl ⟨by decide, by decide⟩ (S := []) rfl (Nat.le_of_ble_eq_true rfl) (fun s11 => ?_)
        refine sim_aload_n 1 rfl dX12_readDeal_71 ?_
        refine sim_iconst dX12_readDeal_72 (by decide) ?_
        refine sim_bipush dX12_readDeal_73 (by decide +kernel) ?_
        refine sim_callVIm v_RX12_194 sh_179 dX12_readDeal_75 (k_M_readNumber n 0 7 s11) rfl ⟨by decide, by decide⟩ (S := []) rfl (Nat.le_of_ble_eq_true rfl) (fun r12 s13 => ?_)
        refine sim_if_ne (tgt := 83) dX12_readDeal_78 (by decide) ?_ ?_
        · refine sim_aload_n 1 rfl dX12_readDeal_83 ?_
          refine sim_getR g_RX12_68 sh_179 rh_179_40 dX12_readDeal_84 ?_
          refine sim_iconst dX12_readDeal_87 (by decide) ?_
          refine sim_iload_n 0 rfl dX12_readDeal_88 ?_
          refine sim_iadd dX12_readDeal_89 ?_
          refine sim_aload_n 1 rfl dX12_readDeal_90 ?_
          refine sim_getI g_RX12_162 sh_179 dX12_readDeal_91 ?_
          refine sim_iastore sh_197 rfl dX12_readDeal_94 (fun s14 => ?_)
          refine sim_iconst dX12_readDeal_95 (by decide) ?_
          exact sim_zret (Or.inr rfl) rfl rfl dX12_readDeal_96
        · refine sim_iconst dX12_readDeal_81 (by decide) ?_
          exact sim_zret (Or.inl rfl) rfl rfl dX12_readDeal_82
      · exact sim_sub [1] rfl (hj6 )
  · refine sim_aload_n 0 rfl dX12_readDeal_11 ?_
    refine sim_iconst dX12_readDeal_12 (by decide) ?_
    refine sim_callVIm v_RX12_155 sh_179 dX12_readDeal_13 (k_M_bad 1 s1) rfl ⟨by decide, by decide⟩ (S := []) rfl (Nat.le_of_ble_eq_true rfl) (fun r15 s16 => ?_)
    exact sim_zretc rfl rfl dX12_readDeal_16
theorem dX12_findStone_0 : decode cX12_findStone 0 = .ok (.iconst 0, 1) := by decide +kernel
theorem dX12_findStone_1 : decode cX12_findStone 1 = .ok (.istore_n 3, 1) := by decide +kernel
theorem dX12_findStone_2 : decode cX12_findStone 2 = .ok (.iload_n 3, 1) := by decide +kernel
theorem dX12_findStone_3 : decode cX12_findStone 3 = .ok (.aload_n 0, 1) := by decide +kernel
theorem dX12_findStone_4 : decode cX12_findStone 4 = .ok (.iconst 1, 1) := by decide +kernel
theorem dX12_findStone_5 : decode cX12_findStone 5 = .ok (.iaload, 1) := by decide +kernel
theorem dX12_findStone_6 : decode cX12_findStone 6 = .ok (.if_icmp .ge 57, 3) := by decide +kernel
theorem dX12_findStone_9 : decode cX12_findStone 9 = .ok (.aload_n 0, 1) := by decide +kernel
theorem dX12_findStone_10 : decode cX12_findStone 10 = .ok (.bipush 11, 2) := by decide +kernel
theorem dX12_findStone_12 : decode cX12_findStone 12 = .ok (.iconst 2, 1) := by decide +kernel
theorem dX12_findStone_13 : decode cX12_findStone 13 = .ok (.iload_n 3, 1) := by decide +kernel
theorem dX12_findStone_14 : decode cX12_findStone 14 = .ok (.imul, 1) := by decide +kernel
theorem dX12_findStone_15 : decode cX12_findStone 15 = .ok (.iadd, 1) := by decide +kernel
theorem dX12_findStone_16 : decode cX12_findStone 16 = .ok (.iaload, 1) := by decide +kernel
theorem dX12_findStone_17 : decode cX12_findStone 17 = .ok (.istore 4, 2) := by decide +kernel
theorem dX12_findStone_19 : decode cX12_findStone 19 = .ok (.aload_n 0, 1) := by decide +kernel
theorem dX12_findStone_20 : decode cX12_findStone 20 = .ok (.bipush 11, 2) := by decide +kernel
theorem dX12_findStone_22 : decode cX12_findStone 22 = .ok (.iconst 2, 1) := by decide +kernel
theorem dX12_findStone_23 : decode cX12_findStone 23 = .ok (.iload_n 3, 1) := by decide +kernel
theorem dX12_findStone_24 : decode cX12_findStone 24 = .ok (.imul, 1) := by decide +kernel
theorem dX12_findStone_25 : decode cX12_findStone 25 = .ok (.iadd, 1) := by decide +kernel
theorem dX12_findStone_26 : decode cX12_findStone 26 = .ok (.iconst 1, 1) := by decide +kernel
theorem dX12_findStone_27 : decode cX12_findStone 27 = .ok (.iadd, 1) := by decide +kernel
theorem dX12_findStone_28 : decode cX12_findStone 28 = .ok (.iaload, 1) := by decide +kernel
theorem dX12_findStone_29 : decode cX12_findStone 29 = .ok (.istore 5, 2) := by decide +kernel
theorem dX12_findStone_31 : decode cX12_findStone 31 = .ok (.iload 4, 2) := by decide +kernel
theorem dX12_findStone_33 : decode cX12_findStone 33 = .ok (.iload_n 1, 1) := by decide +kernel
theorem dX12_findStone_34 : decode cX12_findStone 34 = .ok (.if_icmp .ne 9, 3) := by decide +kernel
theorem dX12_findStone_37 : decode cX12_findStone 37 = .ok (.iload 5, 2) := by decide +kernel
theorem dX12_findStone_39 : decode cX12_findStone 39 = .ok (.iload_n 2, 1) := by decide +kernel
theorem dX12_findStone_40 : decode cX12_findStone 40 = .ok (.if_icmp .eq 15, 3) := by decide +kernel
theorem dX12_findStone_43 : decode cX12_findStone 43 = .ok (.iload 4, 2) := by decide +kernel
theorem dX12_findStone_45 : decode cX12_findStone 45 = .ok (.iload_n 2, 1) := by decide +kernel
theorem dX12_findStone_46 : decode cX12_findStone 46 = .ok (.if_icmp .ne 11, 3) := by decide +kernel
theorem dX12_findStone_49 : decode cX12_findStone 49 = .ok (.iload 5, 2) := by decide +kernel
theorem dX12_findStone_51 : decode cX12_findStone 51 = .ok (.iload_n 1, 1) := by decide +kernel
theorem dX12_findStone_52 : decode cX12_findStone 52 = .ok (.if_icmp .ne 5, 3) := by decide +kernel
theorem dX12_findStone_55 : decode cX12_findStone 55 = .ok (.iload_n 3, 1) := by decide +kernel
theorem dX12_findStone_56 : decode cX12_findStone 56 = .ok (.ireturn, 1) := by decide +kernel
theorem dX12_findStone_57 : decode cX12_findStone 57 = .ok (.iinc 3 1, 3) := by decide +kernel
theorem dX12_findStone_60 : decode cX12_findStone 60 = .ok (.goto (-58), 3) := by decide +kernel
theorem dX12_findStone_63 : decode cX12_findStone 63 = .ok (.iconst (-1), 1) := by decide +kernel
theorem dX12_findStone_64 : decode cX12_findStone 64 = .ok (.ireturn, 1) := by decide +kernel
def f_M_findStone (n : Nat) (p : Nat) (Np : Nat) (a2 : Int) (a3 : Int) (σ : JSg) : Option (Int) :=
  lt_ 0 fun v1 => wh1 n (fun rc2 (x3 : Int) => chk (0 ≤ (1 : Int) ∧ (1 : Int) < (Np : Int)) <| if x3 < (σ p (1 : Int).toNat) then (chk (0 ≤ (w32 (11 + (w32 (2 * x3)))) ∧ (w32 (11 + (w32 (2 * x3)))) < (Np : Int)) <| lt_ (σ p (w32 (11 + (w32 (2 * x3)))).toNat) fun v4 => chk (0 ≤ (w32 ((w32 (11 + (w32 (2 * x3)))) + 1)) ∧ (w32 ((w32 (11 + (w32 (2 * x3)))) + 1)) < (Np : Int)) <| lt_ (σ p (w32 ((w32 (11 + (w32 (2 * x3)))) + 1)).toNat) fun v5 => jn0 (jn0 (lt_ (w32 (x3 + 1)) fun v8 => rc2 v8) fun j7 => if v4 = a3 then (if v5 = a2 then (some x3) else (j7)) else (j7)) fun j6 => if v4 = a2 then (if v5 = a3 then (some x3) else (j6)) else (j6)) else (some (-1))) v1
set_option maxRecDepth 20000 in
set_option maxHeartbeats 4000000 in
theorem k_M_findStone (Sh : JSh) (ρ : JRo) (n : Nat) (p : Nat) (Np : Nat) (hp : Sh[p]? = some (.inr (0, Np))) (hNp : okI (Np : Int)) (a2 : Int) (a3 : Int) (σ : JSg) : Call yX12_findStone cX12_findStone 6 (some .int) 0 Sh ρ [vR p, vI a2, vI a3] σ (dIp σ) (f_M_findStone n p Np a2 a3 σ) := by
  refine call_of_sim (by decide +kernel) (Nat.le_of_ble_eq_true rfl) ?_
  show Sim RX12 cX12_findStone 6 (some .int) 0 Sh ρ 0 [(0, vR p), (1, vI a2), (2, vI a3)] [] σ (dIp σ) (f_M_findStone n p Np a2 a3 σ)
  unfold f_M_findStone
  refine sim_iconst dX12_findStone_0 (by decide) ?_
  refine sim_istore_n (fun v1 => [(3, vI v1), (0, vR p), (1, vI a2), (2, vI a3)]) (fun _ => rfl) (by decide) dX12_findStone_1 (fun v1 => ?_)
  refine sim_sub [1, 2, 3, 0] (L' := [(0, vR p), (1, vI a2), (2, vI a3), (3, vI v1)]) rfl ?_
  refine sim_wh1 (fun (x3 : Int) => [(0, vR p), (1, vI a2), (2, vI a3), (3, vI x3)]) (fun (x3 : Int) => σ) ?_ n v1
  intro rc2 hrc2 x3
  refine sim_iload_n 3 rfl dX12_findStone_2 ?_
  refine sim_aload_n 0 rfl dX12_findStone_3 ?_
  refine sim_iconst dX12_findStone_4 (by decide) ?_
  refine sim_iaload hp rfl dX12_findStone_5 ?_
  refine sim_icmp_ge (tgt := 63) dX12_findStone_6 (by decide) ?_ ?_
  · refine sim_iconst dX12_findStone_63 (by decide) ?_
    exact sim_iret rfl rfl dX12_findStone_64
  · refine sim_aload_n 0 rfl dX12_findStone_9 ?_
    refine sim_bipush dX12_findStone_10 (by decide +kernel) ?_
    refine sim_iconst dX12_findStone_12 (by decide) ?_
    refine sim_iload_n 3 rfl dX12_findStone_13 ?_
    refine sim_imul dX12_findStone_14 ?_
    refine sim_iadd dX12_findStone_15 ?_
    refine sim_iaload hp rfl dX12_findStone_16 ?_
    refine sim_istore (fun v4 => [(4, vI v4), (0, vR p), (1, vI a2), (2, vI a3), (3, vI x3)]) (fun _ => rfl) (by decide) dX12_findStone_17 (fun v4 => ?_)
    refine sim_aload_n 1 rfl dX12_findStone_19 ?_
    refine sim_bipush dX12_findStone_20 (by decide +kernel) ?_
    refine sim_iconst dX12_findStone_22 (by decide) ?_
    refine sim_iload_n 4 rfl dX12_findStone_23 ?_
    refine sim_imul dX12_findStone_24 ?_
    refine sim_iadd dX12_findStone_25 ?_
    refine sim_iconst dX12_findStone_26 (by decide) ?_
    refine sim_iadd dX12_findStone_27 ?_
    refine sim_iaload hp rfl dX12_findStone_28 ?_
    refine sim_istore (fun v5 => [(5, vI v5), (4, vI v4), (0, vR p), (1, vI a2), (2, vI a3), (3, vI x3)]) (fun _ => rfl) (by decide) dX12_findStone_29 (fun v5 => ?_)
    refine sim_iload 1 rfl dX12_findStone_31 ?_
    refine sim_iload_n 3 rfl dX12_findStone_33 ?_
    refine sim_jn0 (pc' := 43) ([(0, vR p), (1, vI a2), (2, vI a3), (3, vI x3), (4, vI v4), (5, vI v5)]) ([]) (σ) ?_ (fun j6 hj6 => ?_)
    · refine sim_iload 4 rfl dX12_findStone_43 ?_
      refine sim_iload_n 2 rfl dX12_findStone_45 ?_
      refine sim_jn0 (pc' := 57) ([(0, vR p), (1, vI a2), (2, vI a3), (3, vI x3)]) ([]) (σ) ?_ (fun j7 hj7 => ?_)
      · refine sim_iinc 3 rfl (fun v8 => [(3, vI v8), (0, vR p), (1, vI a2), (2, vI a3)]) (fun _ => rfl) (by decide) dX12_findStone_57 (fun v8 => ?_)
        refine sim_goto (tgt := 2) dX12_findStone_60 (by decide) ?_
        exact sim_sub [1, 2, 3, 0] rfl (hrc2 v8)
      refine sim_icmp_ne (tgt := 57) dX12_findStone_46 (by decide) ?_ ?_
      · exact sim_sub [0, 1, 2, 3] rfl (hj7 )
      · refine sim_iload 5 rfl dX12_findStone_49 ?_
        refine sim_iload_n 1 rfl dX12_findStone_51 ?_
        refine sim_icmp_ne (tgt := 57) dX12_findStone_52 (by decide) ?_ ?_
        · exact sim_sub [0, 1, 2, 3] rfl (hj7 )
        · refine sim_iload_n 3 rfl dX12_findStone_55 ?_
          exact sim_iret rfl rfl dX12_findStone_56
    refine sim_icmp_ne (tgt := 43) dX12_findStone_34 (by decide) ?_ ?_
    · exact sim_sub [2, 3, 4, 5, 1, 0] rfl (hj6 )
    · refine sim_iload 0 rfl dX12_findStone_37 ?_
      refine sim_iload_n 4 rfl dX12_findStone_39 ?_
      refine sim_icmp_eq (tgt := 55) dX12_findStone_40 (by decide) ?_ ?_
      · refine sim_iload_n 5 rfl dX12_findStone_55 ?_
        exact sim_iret rfl rfl dX12_findStone_56
      · exact sim_sub [2, 3, 4, 5, 1, 0] rfl (hj6 )
theorem dX12_readSeen_0 : decode cX12_readSeen 0 = .ok (.aload_n 0, 1) := by decide +kernel
theorem dX12_readSeen_1 : decode cX12_readSeen 1 = .ok (.invokevirtual 169, 3) := by decide +kernel
theorem dX12_readSeen_4 : decode cX12_readSeen 4 = .ok (.aload_n 0, 1) := by decide +kernel
theorem dX12_readSeen_5 : decode cX12_readSeen 5 = .ok (.iconst 0, 1) := by decide +kernel
theorem dX12_readSeen_6 : decode cX12_readSeen 6 = .ok (.bipush 6, 2) := by decide +kernel
theorem dX12_readSeen_8 : decode cX12_readSeen 8 = .ok (.invokevirtual 194, 3) := by decide +kernel
theorem dX12_readSeen_11 : decode cX12_readSeen 11 = .ok (.ifCond .ne 5, 3) := by decide +kernel
theorem dX12_readSeen_14 : decode cX12_readSeen 14 = .ok (.iconst 0, 1) := by decide +kernel
theorem dX12_readSeen_15 : decode cX12_readSeen 15 = .ok (.ireturn, 1) := by decide +kernel
theorem dX12_readSeen_16 : decode cX12_readSeen 16 = .ok (.aload_n 0, 1) := by decide +kernel
theorem dX12_readSeen_17 : decode cX12_readSeen 17 = .ok (.getfield 162, 3) := by decide +kernel
theorem dX12_readSeen_20 : decode cX12_readSeen 20 = .ok (.istore_n 1, 1) := by decide +kernel
theorem dX12_readSeen_21 : decode cX12_readSeen 21 = .ok (.aload_n 0, 1) := by decide +kernel
theorem dX12_readSeen_22 : decode cX12_readSeen 22 = .ok (.iconst 0, 1) := by decide +kernel
theorem dX12_readSeen_23 : decode cX12_readSeen 23 = .ok (.bipush 6, 2) := by decide +kernel
theorem dX12_readSeen_25 : decode cX12_readSeen 25 = .ok (.invokevirtual 165, 3) := by decide +kernel
theorem dX12_readSeen_28 : decode cX12_readSeen 28 = .ok (.ifCond .ne 5, 3) := by decide +kernel
theorem dX12_readSeen_31 : decode cX12_readSeen 31 = .ok (.iconst 0, 1) := by decide +kernel
theorem dX12_readSeen_32 : decode cX12_readSeen 32 = .ok (.ireturn, 1) := by decide +kernel
theorem dX12_readSeen_33 : decode cX12_readSeen 33 = .ok (.aload_n 0, 1) := by decide +kernel
theorem dX12_readSeen_34 : decode cX12_readSeen 34 = .ok (.getfield 13, 3) := by decide +kernel
theorem dX12_readSeen_37 : decode cX12_readSeen 37 = .ok (.iload_n 1, 1) := by decide +kernel
theorem dX12_readSeen_38 : decode cX12_readSeen 38 = .ok (.aload_n 0, 1) := by decide +kernel
theorem dX12_readSeen_39 : decode cX12_readSeen 39 = .ok (.getfield 162, 3) := by decide +kernel
theorem dX12_readSeen_42 : decode cX12_readSeen 42 = .ok (.invokestatic 197, 3) := by decide +kernel
theorem dX12_readSeen_45 : decode cX12_readSeen 45 = .ok (.istore_n 2, 1) := by decide +kernel
theorem dX12_readSeen_46 : decode cX12_readSeen 46 = .ok (.iload_n 2, 1) := by decide +kernel
theorem dX12_readSeen_47 : decode cX12_readSeen 47 = .ok (.iconst (-1), 1) := by decide +kernel
theorem dX12_readSeen_48 : decode cX12_readSeen 48 = .ok (.if_icmp .eq 16, 3) := by decide +kernel
theorem dX12_readSeen_51 : decode cX12_readSeen 51 = .ok (.aload_n 0, 1) := by decide +kernel
theorem dX12_readSeen_52 : decode cX12_readSeen 52 = .ok (.getfield 68, 3) := by decide +kernel
theorem dX12_readSeen_55 : decode cX12_readSeen 55 = .ok (.iconst 1, 1) := by decide +kernel
theorem dX12_readSeen_56 : decode cX12_readSeen 56 = .ok (.iaload, 1) := by decide +kernel
theorem dX12_readSeen_57 : decode cX12_readSeen 57 = .ok (.iload_n 2, 1) := by decide +kernel
theorem dX12_readSeen_58 : decode cX12_readSeen 58 = .ok (.invokestatic 201, 3) := by decide +kernel
theorem dX12_readSeen_61 : decode cX12_readSeen 61 = .ok (.ifCond .eq 9, 3) := by decide +kernel
theorem dX12_readSeen_64 : decode cX12_readSeen 64 = .ok (.aload_n 0, 1) := by decide +kernel
theorem dX12_readSeen_65 : decode cX12_readSeen 65 = .ok (.iconst 3, 1) := by decide +kernel
theorem dX12_readSeen_66 : decode cX12_readSeen 66 = .ok (.invokevirtual 155, 3) := by decide +kernel
theorem dX12_readSeen_69 : decode cX12_readSeen 69 = .ok (.ireturn, 1) := by decide +kernel
theorem dX12_readSeen_70 : decode cX12_readSeen 70 = .ok (.aload_n 0, 1) := by decide +kernel
theorem dX12_readSeen_71 : decode cX12_readSeen 71 = .ok (.getfield 68, 3) := by decide +kernel
theorem dX12_readSeen_74 : decode cX12_readSeen 74 = .ok (.iconst 1, 1) := by decide +kernel
theorem dX12_readSeen_75 : decode cX12_readSeen 75 = .ok (.dup2, 1) := by decide +kernel
theorem dX12_readSeen_76 : decode cX12_readSeen 76 = .ok (.iaload, 1) := by decide +kernel
theorem dX12_readSeen_77 : decode cX12_readSeen 77 = .ok (.iconst 1, 1) := by decide +kernel
theorem dX12_readSeen_78 : decode cX12_readSeen 78 = .ok (.iload_n 2, 1) := by decide +kernel
theorem dX12_readSeen_79 : decode cX12_readSeen 79 = .ok (.ishl, 1) := by decide +kernel
theorem dX12_readSeen_80 : decode cX12_readSeen 80 = .ok (.ior, 1) := by decide +kernel
theorem dX12_readSeen_81 : decode cX12_readSeen 81 = .ok (.iastore, 1) := by decide +kernel
theorem dX12_readSeen_82 : decode cX12_readSeen 82 = .ok (.aload_n 0, 1) := by decide +kernel
theorem dX12_readSeen_83 : decode cX12_readSeen 83 = .ok (.invokevirtual 169, 3) := by decide +kernel
theorem dX12_readSeen_86 : decode cX12_readSeen 86 = .ok (.iconst 1, 1) := by decide +kernel
theorem dX12_readSeen_87 : decode cX12_readSeen 87 = .ok (.ireturn, 1) := by decide +kernel
def f_M_readSeen (n : Nat)   (σ : JSg) : Option (Int × JSg) :=
  bd1 (f_M_go n σ) fun s1 => bd2 (f_M_readNumber n 0 6 s1) fun r2 s3 => if r2 = 0 then (some (0, s3)) else (lt_ (s3 179 13) fun v4 => bd2 (f_M_isNumber 0 6 s3) fun r5 s6 => if r5 = 0 then (some (0, s6)) else (bd1 (f_M_findStone n 181 448 v4 (s6 179 13) s6) fun r7 => lt_ r7 fun v8 => jn0 (bd2 (f_M_bad 3 s6) fun r10 s11 => chk (r10 = 0 ∨ r10 = 1) <| some (r10, s11)) fun j9 => if v8 = (-1) then (j9) else (bd1 (f_M_has (s6 197 1) v8 s6) fun r12 => if r12 = 0 then (lt_ (sp s6 197 1 (or32 (s6 197 1) (sl32 1 v8))) fun s13 => bd1 (f_M_go n s13) fun s14 => some (1, s14)) else (j9))))
set_option maxRecDepth 20000 in
set_option maxHeartbeats 4000000 in
theorem k_M_readSeen  (n : Nat)    (σ : JSg) : Call yX12_readSeen cX12_readSeen 3 (some .boolean) 3 SH RHO [vR 179] σ dIm (f_M_readSeen n σ) := by
  refine call_of_sim (by decide +kernel) (Nat.le_of_ble_eq_true rfl) ?_
  show Sim RX12 cX12_readSeen 3 (some .boolean) 3 SH RHO 0 [(0, vR 179)] [] σ dIm (f_M_readSeen n σ)
  unfold f_M_readSeen
  refine sim_aload_n 0 rfl dX12_readSeen_0 ?_
  refine sim_callVVm v_RX12_169 sh_179 dX12_readSeen_1 (k_M_go n σ) rfl ⟨by decide, by decide⟩ (S := []) rfl (Nat.le_of_ble_eq_true rfl) (fun s1 => ?_)
  refine sim_aload_n 0 rfl dX12_readSeen_4 ?_
  refine sim_iconst dX12_readSeen_5 (by decide) ?_
  refine sim_bipush dX12_readSeen_6 (by decide +kernel) ?_
  refine sim_callVIm v_RX12_194 sh_179 dX12_readSeen_8 (k_M_readNumber n 0 6 s1) rfl ⟨by decide, by decide⟩ (S := []) rfl (Nat.le_of_ble_eq_true rfl) (fun r2 s3 => ?_)
  refine sim_if_ne (tgt := 16) dX12_readSeen_11 (by decide) ?_ ?_
  · refine sim_aload_n 0 rfl dX12_readSeen_16 ?_
    refine sim_getI g_RX12_162 sh_179 dX12_readSeen_17 ?_
    refine sim_istore_n (fun v4 => [(1, vI v4), (0, vR 179)]) (fun _ => rfl) (by decide) dX12_readSeen_20 (fun v4 => ?_)
    refine sim_aload_n 1 rfl dX12_readSeen_21 ?_
    refine sim_iconst dX12_readSeen_22 (by decide) ?_
    refine sim_bipush dX12_readSeen_23 (by decide +kernel) ?_
    refine sim_callVIm v_RX12_165 sh_179 dX12_readSeen_25 (k_M_isNumber 0 6 s3) rfl ⟨by decide, by decide⟩ (S := []) rfl (Nat.le_of_ble_eq_true rfl) (fun r5 s6 => ?_)
    refine sim_if_ne (tgt := 33) dX12_readSeen_28 (by decide) ?_ ?_
    · refine sim_aload_n 1 rfl dX12_readSeen_33 ?_
      refine sim_getR g_RX12_13 sh_179 rh_179_14 dX12_readSeen_34 ?_
      refine sim_iload_n 0 rfl dX12_readSeen_37 ?_
      refine sim_aload_n 1 rfl dX12_readSeen_38 ?_
      refine sim_getI g_RX12_162 sh_179 dX12_readSeen_39 ?_
      refine sim_callSIp s_RX12_197 dX12_readSeen_42 (k_M_findStone SH RHO n 181 448 sh_181 (okI_lit (by decide)) v4 (s6 179 13) s6) rfl ⟨by decide, by decide⟩ (S := []) rfl (Nat.le_of_ble_eq_true rfl) (fun r7 => ?_)
      refine sim_istore_n (fun v8 => [(2, vI v8), (1, vI v4), (0, vR 179)]) (fun _ => rfl) (by decide) dX12_readSeen_45 (fun v8 => ?_)
      refine sim_iload_n 0 rfl dX12_readSeen_46 ?_
      refine sim_iconst dX12_readSeen_47 (by decide) ?_
      refine sim_jn0 (pc' := 64) ([(0, vR 179)]) ([]) (s6) ?_ (fun j9 hj9 => ?_)
      · refine sim_aload_n 0 rfl dX12_readSeen_64 ?_
        refine sim_iconst dX12_readSeen_65 (by decide) ?_
        refine sim_callVIm v_RX12_155 sh_179 dX12_readSeen_66 (k_M_bad 3 s6) rfl ⟨by decide, by decide⟩ (S := []) rfl (Nat.le_of_ble_eq_true rfl) (fun r10 s11 => ?_)
        exact sim_zretc rfl rfl dX12_readSeen_69
      refine sim_icmp_eq (tgt := 64) dX12_readSeen_48 (by decide) ?_ ?_
      · exact sim_sub [2] rfl (hj9 )
      · refine sim_aload_n 2 rfl dX12_readSeen_51 ?_
        refine sim_getR g_RX12_68 sh_179 rh_179_40 dX12_readSeen_52 ?_
        refine sim_iconst dX12_readSeen_55 (by decide) ?_
        refine sim_ialoadK (j := 1) sh_197 rfl (by decide) dX12_readSeen_56 ?_
        refine sim_iload_n 0 rfl dX12_readSeen_57 ?_
        refine sim_callSIp s_RX12_201 dX12_readSeen_58 (k_M_has SH RHO (s6 197 1) v8 s6) rfl ⟨by decide, by decide⟩ (S := []) rfl (Nat.le_of_ble_eq_true rfl) (fun r12 => ?_)
        refine sim_if_eq (tgt := 70) dX12_readSeen_61 (by decide) ?_ ?_
        · refine sim_aload_n 2 rfl dX12_readSeen_70 ?_
          refine sim_getR g_RX12_68 sh_179 rh_179_40 dX12_readSeen_71 ?_
          refine sim_iconst dX12_readSeen_74 (by decide) ?_
          refine sim_dup2 rfl rfl dX12_readSeen_75 ?_
          refine sim_ialoadK (j := 1) sh_197 rfl (by decide) dX12_readSeen_76 ?_
          refine sim_iconst dX12_readSeen_77 (by decide) ?_
          refine sim_iload_n 0 rfl dX12_readSeen_78 ?_
          refine sim_ishl dX12_readSeen_79 ?_
          refine sim_ior dX12_readSeen_80 ?_
          refine sim_iastoreK (j := 1) sh_197 rfl (by decide) dX12_readSeen_81 (fun s13 => ?_)
          refine sim_aload_n 2 rfl dX12_readSeen_82 ?_
          refine sim_callVVm v_RX12_169 sh_179 dX12_readSeen_83 (k_M_go n s13) rfl ⟨by decide, by decide⟩ (S := []) rfl (Nat.le_of_ble_eq_true rfl) (fun s14 => ?_)
          refine sim_iconst dX12_readSeen_86 (by decide) ?_
          exact sim_zret (Or.inr rfl) rfl rfl dX12_readSeen_87
        · exact sim_sub [2] rfl (hj9 )
    · refine sim_iconst dX12_readSeen_31 (by decide) ?_
      exact sim_zret (Or.inl rfl) rfl rfl dX12_readSeen_32
  · refine sim_iconst dX12_readSeen_14 (by decide) ?_
    exact sim_zret (Or.inl rfl) rfl rfl dX12_readSeen_15
theorem dX12_readPassed_0 : decode cX12_readPassed 0 = .ok (.aload_n 0, 1) := by decide +kernel
theorem dX12_readPassed_1 : decode cX12_readPassed 1 = .ok (.invokevirtual 169, 3) := by decide +kernel
theorem dX12_readPassed_4 : decode cX12_readPassed 4 = .ok (.aload_n 0, 1) := by decide +kernel
theorem dX12_readPassed_5 : decode cX12_readPassed 5 = .ok (.invokevirtual 186, 3) := by decide +kernel
theorem dX12_readPassed_8 : decode cX12_readPassed 8 = .ok (.ifCond .ne 9, 3) := by decide +kernel
theorem dX12_readPassed_11 : decode cX12_readPassed 11 = .ok (.aload_n 0, 1) := by decide +kernel
theorem dX12_readPassed_12 : decode cX12_readPassed 12 = .ok (.iconst 1, 1) := by decide +kernel
theorem dX12_readPassed_13 : decode cX12_readPassed 13 = .ok (.invokevirtual 155, 3) := by decide +kernel
theorem dX12_readPassed_16 : decode cX12_readPassed 16 = .ok (.ireturn, 1) := by decide +kernel
theorem dX12_readPassed_17 : decode cX12_readPassed 17 = .ok (.aload_n 0, 1) := by decide +kernel
theorem dX12_readPassed_18 : decode cX12_readPassed 18 = .ok (.getfield 25, 3) := by decide +kernel
theorem dX12_readPassed_21 : decode cX12_readPassed 21 = .ok (.aload_n 0, 1) := by decide +kernel
theorem dX12_readPassed_22 : decode cX12_readPassed 22 = .ok (.invokevirtual 237, 3) := by decide +kernel
theorem dX12_readPassed_25 : decode cX12_readPassed 25 = .ok (.aload_n 0, 1) := by decide +kernel
theorem dX12_readPassed_26 : decode cX12_readPassed 26 = .ok (.getfield 122, 3) := by decide +kernel
theorem dX12_readPassed_29 : decode cX12_readPassed 29 = .ok (.invokestatic 190, 3) := by decide +kernel
theorem dX12_readPassed_32 : decode cX12_readPassed 32 = .ok (.istore_n 1, 1) := by decide +kernel
theorem dX12_readPassed_33 : decode cX12_readPassed 33 = .ok (.iload_n 1, 1) := by decide +kernel
theorem dX12_readPassed_34 : decode cX12_readPassed 34 = .ok (.iconst (-1), 1) := by decide +kernel
theorem dX12_readPassed_35 : decode cX12_readPassed 35 = .ok (.if_icmp .ne 9, 3) := by decide +kernel
theorem dX12_readPassed_38 : decode cX12_readPassed 38 = .ok (.aload_n 0, 1) := by decide +kernel
theorem dX12_readPassed_39 : decode cX12_readPassed 39 = .ok (.iconst 3, 1) := by decide +kernel
theorem dX12_readPassed_40 : decode cX12_readPassed 40 = .ok (.invokevirtual 155, 3) := by decide +kernel
theorem dX12_readPassed_43 : decode cX12_readPassed 43 = .ok (.ireturn, 1) := by decide +kernel
theorem dX12_readPassed_44 : decode cX12_readPassed 44 = .ok (.aload_n 0, 1) := by decide +kernel
theorem dX12_readPassed_45 : decode cX12_readPassed 45 = .ok (.invokevirtual 169, 3) := by decide +kernel
theorem dX12_readPassed_48 : decode cX12_readPassed 48 = .ok (.aload_n 0, 1) := by decide +kernel
theorem dX12_readPassed_49 : decode cX12_readPassed 49 = .ok (.iconst 0, 1) := by decide +kernel
theorem dX12_readPassed_50 : decode cX12_readPassed 50 = .ok (.bipush 6, 2) := by decide +kernel
theorem dX12_readPassed_52 : decode cX12_readPassed 52 = .ok (.invokevirtual 165, 3) := by decide +kernel
theorem dX12_readPassed_55 : decode cX12_readPassed 55 = .ok (.ifCond .ne 5, 3) := by decide +kernel
theorem dX12_readPassed_58 : decode cX12_readPassed 58 = .ok (.iconst 0, 1) := by decide +kernel
theorem dX12_readPassed_59 : decode cX12_readPassed 59 = .ok (.ireturn, 1) := by decide +kernel
theorem dX12_readPassed_60 : decode cX12_readPassed 60 = .ok (.aload_n 0, 1) := by decide +kernel
theorem dX12_readPassed_61 : decode cX12_readPassed 61 = .ok (.getfield 68, 3) := by decide +kernel
theorem dX12_readPassed_64 : decode cX12_readPassed 64 = .ok (.bipush 8, 2) := by decide +kernel
theorem dX12_readPassed_66 : decode cX12_readPassed 66 = .ok (.iload_n 1, 1) := by decide +kernel
theorem dX12_readPassed_67 : decode cX12_readPassed 67 = .ok (.iadd, 1) := by decide +kernel
theorem dX12_readPassed_68 : decode cX12_readPassed 68 = .ok (.iaload, 1) := by decide +kernel
theorem dX12_readPassed_69 : decode cX12_readPassed 69 = .ok (.aload_n 0, 1) := by decide +kernel
theorem dX12_readPassed_70 : decode cX12_readPassed 70 = .ok (.getfield 162, 3) := by decide +kernel
theorem dX12_readPassed_73 : decode cX12_readPassed 73 = .ok (.invokestatic 201, 3) := by decide +kernel
theorem dX12_readPassed_76 : decode cX12_readPassed 76 = .ok (.ifCond .eq 9, 3) := by decide +kernel
theorem dX12_readPassed_79 : decode cX12_readPassed 79 = .ok (.aload_n 0, 1) := by decide +kernel
theorem dX12_readPassed_80 : decode cX12_readPassed 80 = .ok (.iconst 3, 1) := by decide +kernel
theorem dX12_readPassed_81 : decode cX12_readPassed 81 = .ok (.invokevirtual 155, 3) := by decide +kernel
theorem dX12_readPassed_84 : decode cX12_readPassed 84 = .ok (.ireturn, 1) := by decide +kernel
theorem dX12_readPassed_85 : decode cX12_readPassed 85 = .ok (.aload_n 0, 1) := by decide +kernel
theorem dX12_readPassed_86 : decode cX12_readPassed 86 = .ok (.getfield 68, 3) := by decide +kernel
theorem dX12_readPassed_89 : decode cX12_readPassed 89 = .ok (.bipush 8, 2) := by decide +kernel
theorem dX12_readPassed_91 : decode cX12_readPassed 91 = .ok (.iload_n 1, 1) := by decide +kernel
theorem dX12_readPassed_92 : decode cX12_readPassed 92 = .ok (.iadd, 1) := by decide +kernel
theorem dX12_readPassed_93 : decode cX12_readPassed 93 = .ok (.dup2, 1) := by decide +kernel
theorem dX12_readPassed_94 : decode cX12_readPassed 94 = .ok (.iaload, 1) := by decide +kernel
theorem dX12_readPassed_95 : decode cX12_readPassed 95 = .ok (.iconst 1, 1) := by decide +kernel
theorem dX12_readPassed_96 : decode cX12_readPassed 96 = .ok (.aload_n 0, 1) := by decide +kernel
theorem dX12_readPassed_97 : decode cX12_readPassed 97 = .ok (.getfield 162, 3) := by decide +kernel
theorem dX12_readPassed_100 : decode cX12_readPassed 100 = .ok (.ishl, 1) := by decide +kernel
theorem dX12_readPassed_101 : decode cX12_readPassed 101 = .ok (.ior, 1) := by decide +kernel
theorem dX12_readPassed_102 : decode cX12_readPassed 102 = .ok (.iastore, 1) := by decide +kernel
theorem dX12_readPassed_103 : decode cX12_readPassed 103 = .ok (.aload_n 0, 1) := by decide +kernel
theorem dX12_readPassed_104 : decode cX12_readPassed 104 = .ok (.invokevirtual 169, 3) := by decide +kernel
theorem dX12_readPassed_107 : decode cX12_readPassed 107 = .ok (.iconst 1, 1) := by decide +kernel
theorem dX12_readPassed_108 : decode cX12_readPassed 108 = .ok (.ireturn, 1) := by decide +kernel
def f_M_readPassed (n : Nat)   (σ : JSg) : Option (Int × JSg) :=
  bd1 (f_M_go n σ) fun s1 => bd1 (f_M_isName n s1) fun r2 => if r2 = 0 then (bd2 (f_M_bad 1 s1) fun r16 s17 => chk (r16 = 0 ∨ r16 = 1) <| some (r16, s17)) else (bd1 (f_M_widows s1) fun r3 => bd1 (f_M_findIn n 185 6 r3 (s1 179 12) s1) fun r4 => lt_ r4 fun v5 => if v5 = (-1) then (bd2 (f_M_bad 3 s1) fun r14 s15 => chk (r14 = 0 ∨ r14 = 1) <| some (r14, s15)) else (bd1 (f_M_go n s1) fun s6 => bd2 (f_M_isNumber 0 6 s6) fun r7 s8 => if r7 = 0 then (some (0, s8)) else (chk (0 ≤ (w32 (8 + v5)) ∧ (w32 (8 + v5)) < 14) <| bd1 (f_M_has (s8 197 (w32 (8 + v5)).toNat) (s8 179 13) s8) fun r9 => if r9 = 0 then (chk (0 ≤ (w32 (8 + v5)) ∧ (w32 (8 + v5)) < 14) <| chk (0 ≤ (w32 (8 + v5)) ∧ (w32 (8 + v5)) < 14) <| lt_ (sp s8 197 (w32 (8 + v5)).toNat (or32 (s8 197 (w32 (8 + v5)).toNat) (sl32 1 (s8 179 13)))) fun s10 => bd1 (f_M_go n s10) fun s11 => some (1, s11)) else (bd2 (f_M_bad 3 s8) fun r12 s13 => chk (r12 = 0 ∨ r12 = 1) <| some (r12, s13)))))
set_option maxRecDepth 20000 in
set_option maxHeartbeats 4000000 in
theorem k_M_readPassed  (n : Nat)    (σ : JSg) : Call yX12_readPassed cX12_readPassed 2 (some .boolean) 3 SH RHO [vR 179] σ dIm (f_M_readPassed n σ) := by
  refine call_of_sim (by decide +kernel) (Nat.le_of_ble_eq_true rfl) ?_
  show Sim RX12 cX12_readPassed 2 (some .boolean) 3 SH RHO 0 [(0, vR 179)] [] σ dIm (f_M_readPassed n σ)
  unfold f_M_readPassed
  refine sim_aload_n 0 rfl dX12_readPassed_0 ?_
  refine sim_callVVm v_RX12_169 sh_179 dX12_readPassed_1 (k_M_go n σ) rfl ⟨by decide, by decide⟩ (S := []) rfl (Nat.le_of_ble_eq_true rfl) (fun s1 => ?_)
  refine sim_aload_n 0 rfl dX12_readPassed_4 ?_
  refine sim_callVIp v_RX12_186 sh_179 dX12_readPassed_5 (k_M_isName n s1) rfl ⟨by decide, by decide⟩ (S := []) rfl (Nat.le_of_ble_eq_true rfl) (fun r2 => ?_)
  refine sim_if_ne (tgt := 17) dX12_readPassed_8 (by decide) ?_ ?_
  · refine sim_aload_n 0 rfl dX12_readPassed_17 ?_
    refine sim_getR g_RX12_25 sh_179 rh_179_18 dX12_readPassed_18 ?_
    refine sim_aload_n 0 rfl dX12_readPassed_21 ?_
    refine sim_callVIp v_RX12_237 sh_179 dX12_readPassed_22 (k_M_widows s1) rfl ⟨by decide, by decide⟩ (S := [vR 185]) rfl (Nat.le_of_ble_eq_true rfl) (fun r3 => ?_)
    refine sim_aload_n 0 rfl dX12_readPassed_25 ?_
    refine sim_getL g_RX12_122 sh_179 dX12_readPassed_26 ?_
    refine sim_callSIp s_RX12_190 dX12_readPassed_29 (k_M_findIn SH RHO n 185 6 sh_185 (okI_lit (by decide)) r3 (s1 179 12) s1) rfl ⟨by decide, by decide⟩ (S := []) rfl (Nat.le_of_ble_eq_true rfl) (fun r4 => ?_)
    refine sim_istore_n (fun v5 => [(1, vI v5), (0, vR 179)]) (fun _ => rfl) (by decide) dX12_readPassed_32 (fun v5 => ?_)
    refine sim_iload_n 0 rfl dX12_readPassed_33 ?_
    refine sim_iconst dX12_readPassed_34 (by decide) ?_
    refine sim_icmp_ne (tgt := 44) dX12_readPassed_35 (by decide) ?_ ?_
    · refine sim_aload_n 1 rfl dX12_readPassed_44 ?_
      refine sim_callVVm v_RX12_169 sh_179 dX12_readPassed_45 (k_M_go n s1) rfl ⟨by decide, by decide⟩ (S := []) rfl (Nat.le_of_ble_eq_true rfl) (fun s6 => ?_)
      refine sim_aload_n 1 rfl dX12_readPassed_48 ?_
      refine sim_iconst dX12_readPassed_49 (by decide) ?_
      refine sim_bipush dX12_readPassed_50 (by decide +kernel) ?_
      refine sim_callVIm v_RX12_165 sh_179 dX12_readPassed_52 (k_M_isNumber 0 6 s6) rfl ⟨by decide, by decide⟩ (S := []) rfl (Nat.le_of_ble_eq_true rfl) (fun r7 s8 => ?_)
      refine sim_if_ne (tgt := 60) dX12_readPassed_55 (by decide) ?_ ?_
      · refine sim_aload_n 1 rfl dX12_readPassed_60 ?_
        refine sim_getR g_RX12_68 sh_179 rh_179_40 dX12_readPassed_61 ?_
        refine sim_bipush dX12_readPassed_64 (by decide +kernel) ?_
        refine sim_iload_n 0 rfl dX12_readPassed_66 ?_
        refine sim_iadd dX12_readPassed_67 ?_
        refine sim_iaload sh_197 rfl dX12_readPassed_68 ?_
        refine sim_aload_n 1 rfl dX12_readPassed_69 ?_
        refine sim_getI g_RX12_162 sh_179 dX12_readPassed_70 ?_
        refine sim_callSIp s_RX12_201 dX12_readPassed_73 (k_M_has SH RHO (s8 197 (w32 (8 + v5)).toNat) (s8 179 13) s8) rfl ⟨by decide, by decide⟩ (S := []) rfl (Nat.le_of_ble_eq_true rfl) (fun r9 => ?_)
        refine sim_if_eq (tgt := 85) dX12_readPassed_76 (by decide) ?_ ?_
        · refine sim_aload_n 1 rfl dX12_readPassed_85 ?_
          refine sim_getR g_RX12_68 sh_179 rh_179_40 dX12_readPassed_86 ?_
          refine sim_bipush dX12_readPassed_89 (by decide +kernel) ?_
          refine sim_iload_n 0 rfl dX12_readPassed_91 ?_
          refine sim_iadd dX12_readPassed_92 ?_
          refine sim_dup2 rfl rfl dX12_readPassed_93 ?_
          refine sim_iaload sh_197 rfl dX12_readPassed_94 ?_
          refine sim_iconst dX12_readPassed_95 (by decide) ?_
          refine sim_aload_n 1 rfl dX12_readPassed_96 ?_
          refine sim_getI g_RX12_162 sh_179 dX12_readPassed_97 ?_
          refine sim_ishl dX12_readPassed_100 ?_
          refine sim_ior dX12_readPassed_101 ?_
          refine sim_iastore sh_197 rfl dX12_readPassed_102 (fun s10 => ?_)
          refine sim_aload_n 1 rfl dX12_readPassed_103 ?_
          refine sim_callVVm v_RX12_169 sh_179 dX12_readPassed_104 (k_M_go n s10) rfl ⟨by decide, by decide⟩ (S := []) rfl (Nat.le_of_ble_eq_true rfl) (fun s11 => ?_)
          refine sim_iconst dX12_readPassed_107 (by decide) ?_
          exact sim_zret (Or.inr rfl) rfl rfl dX12_readPassed_108
        · refine sim_aload_n 1 rfl dX12_readPassed_79 ?_
          refine sim_iconst dX12_readPassed_80 (by decide) ?_
          refine sim_callVIm v_RX12_155 sh_179 dX12_readPassed_81 (k_M_bad 3 s8) rfl ⟨by decide, by decide⟩ (S := []) rfl (Nat.le_of_ble_eq_true rfl) (fun r12 s13 => ?_)
          exact sim_zretc rfl rfl dX12_readPassed_84
      · refine sim_iconst dX12_readPassed_58 (by decide) ?_
        exact sim_zret (Or.inl rfl) rfl rfl dX12_readPassed_59
    · refine sim_aload_n 1 rfl dX12_readPassed_38 ?_
      refine sim_iconst dX12_readPassed_39 (by decide) ?_
      refine sim_callVIm v_RX12_155 sh_179 dX12_readPassed_40 (k_M_bad 3 s1) rfl ⟨by decide, by decide⟩ (S := []) rfl (Nat.le_of_ble_eq_true rfl) (fun r14 s15 => ?_)
      exact sim_zretc rfl rfl dX12_readPassed_43
  · refine sim_aload_n 0 rfl dX12_readPassed_11 ?_
    refine sim_iconst dX12_readPassed_12 (by decide) ?_
    refine sim_callVIm v_RX12_155 sh_179 dX12_readPassed_13 (k_M_bad 1 s1) rfl ⟨by decide, by decide⟩ (S := []) rfl (Nat.le_of_ble_eq_true rfl) (fun r16 s17 => ?_)
    exact sim_zretc rfl rfl dX12_readPassed_16
theorem dX12_readEnd_0 : decode cX12_readEnd 0 = .ok (.aload_n 0, 1) := by decide +kernel
theorem dX12_readEnd_1 : decode cX12_readEnd 1 = .ok (.bipush 59, 2) := by decide +kernel
theorem dX12_readEnd_3 : decode cX12_readEnd 3 = .ok (.invokevirtual 172, 3) := by decide +kernel
theorem dX12_readEnd_6 : decode cX12_readEnd 6 = .ok (.ifCond .ne 9, 3) := by decide +kernel
theorem dX12_readEnd_9 : decode cX12_readEnd 9 = .ok (.aload_n 0, 1) := by decide +kernel
theorem dX12_readEnd_10 : decode cX12_readEnd 10 = .ok (.iconst 1, 1) := by decide +kernel
theorem dX12_readEnd_11 : decode cX12_readEnd 11 = .ok (.invokevirtual 155, 3) := by decide +kernel
theorem dX12_readEnd_14 : decode cX12_readEnd 14 = .ok (.ireturn, 1) := by decide +kernel
theorem dX12_readEnd_15 : decode cX12_readEnd 15 = .ok (.aload_n 0, 1) := by decide +kernel
theorem dX12_readEnd_16 : decode cX12_readEnd 16 = .ok (.invokevirtual 169, 3) := by decide +kernel
theorem dX12_readEnd_19 : decode cX12_readEnd 19 = .ok (.iconst 1, 1) := by decide +kernel
theorem dX12_readEnd_20 : decode cX12_readEnd 20 = .ok (.ireturn, 1) := by decide +kernel
def f_M_readEnd (n : Nat)   (σ : JSg) : Option (Int × JSg) :=
  bd1 (f_M_isSign 59 σ) fun r1 => if r1 = 0 then (bd2 (f_M_bad 1 σ) fun r3 s4 => chk (r3 = 0 ∨ r3 = 1) <| some (r3, s4)) else (bd1 (f_M_go n σ) fun s2 => some (1, s2))
set_option maxRecDepth 20000 in
set_option maxHeartbeats 4000000 in
theorem k_M_readEnd  (n : Nat)    (σ : JSg) : Call yX12_readEnd cX12_readEnd 1 (some .boolean) 2 SH RHO [vR 179] σ dIm (f_M_readEnd n σ) := by
  refine call_of_sim (by decide +kernel) (Nat.le_of_ble_eq_true rfl) ?_
  show Sim RX12 cX12_readEnd 1 (some .boolean) 2 SH RHO 0 [(0, vR 179)] [] σ dIm (f_M_readEnd n σ)
  unfold f_M_readEnd
  refine sim_aload_n 0 rfl dX12_readEnd_0 ?_
  refine sim_bipush dX12_readEnd_1 (by decide +kernel) ?_
  refine sim_callVIp v_RX12_172 sh_179 dX12_readEnd_3 (k_M_isSign 59 σ) rfl ⟨by decide, by decide⟩ (S := []) rfl (Nat.le_of_ble_eq_true rfl) (fun r1 => ?_)
  refine sim_if_ne (tgt := 15) dX12_readEnd_6 (by decide) ?_ ?_
  · refine sim_aload_n 0 rfl dX12_readEnd_15 ?_
    refine sim_callVVm v_RX12_169 sh_179 dX12_readEnd_16 (k_M_go n σ) rfl ⟨by decide, by decide⟩ (S := []) rfl (Nat.le_of_ble_eq_true rfl) (fun s2 => ?_)
    refine sim_iconst dX12_readEnd_19 (by decide) ?_
    exact sim_zret (Or.inr rfl) rfl rfl dX12_readEnd_20
  · refine sim_aload_n 0 rfl dX12_readEnd_9 ?_
    refine sim_iconst dX12_readEnd_10 (by decide) ?_
    refine sim_callVIm v_RX12_155 sh_179 dX12_readEnd_11 (k_M_bad 1 σ) rfl ⟨by decide, by decide⟩ (S := []) rfl (Nat.le_of_ble_eq_true rfl) (fun r3 s4 => ?_)
    exact sim_zretc rfl rfl dX12_readEnd_14
