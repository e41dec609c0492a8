theorem dX4_judge_0 : decode cX4_judge 0 = .ok (.aload_n 0, 1) := by decide +kernel
theorem dX4_judge_1 : decode cX4_judge 1 = .ok (.iload_n 1, 1) := by decide +kernel
theorem dX4_judge_2 : decode cX4_judge 2 = .ok (.iload_n 2, 1) := by decide +kernel
theorem dX4_judge_3 : decode cX4_judge 3 = .ok (.invokevirtual 43, 3) := by decide +kernel
theorem dX4_judge_6 : decode cX4_judge 6 = .ok (.ifCond .ne 6, 3) := by decide +kernel
theorem dX4_judge_9 : decode cX4_judge 9 = .ok (.bipush (-2), 2) := by decide +kernel
theorem dX4_judge_11 : decode cX4_judge 11 = .ok (.ireturn, 1) := by decide +kernel
theorem dX4_judge_12 : decode cX4_judge 12 = .ok (.aload_n 0, 1) := by decide +kernel
theorem dX4_judge_13 : decode cX4_judge 13 = .ok (.iconst (-1), 1) := by decide +kernel
theorem dX4_judge_14 : decode cX4_judge 14 = .ok (.putfield 25, 3) := by decide +kernel
theorem dX4_judge_17 : decode cX4_judge 17 = .ok (.iconst 1, 1) := by decide +kernel
theorem dX4_judge_18 : decode cX4_judge 18 = .ok (.aload_n 0, 1) := by decide +kernel
theorem dX4_judge_19 : decode cX4_judge 19 = .ok (.getfield 15, 3) := by decide +kernel
theorem dX4_judge_22 : decode cX4_judge 22 = .ok (.ishl, 1) := by decide +kernel
theorem dX4_judge_23 : decode cX4_judge 23 = .ok (.iconst 1, 1) := by decide +kernel
theorem dX4_judge_24 : decode cX4_judge 24 = .ok (.isub, 1) := by decide +kernel
theorem dX4_judge_25 : decode cX4_judge 25 = .ok (.istore_n 3, 1) := by decide +kernel
theorem dX4_judge_26 : decode cX4_judge 26 = .ok (.aload_n 0, 1) := by decide +kernel
theorem dX4_judge_27 : decode cX4_judge 27 = .ok (.getfield 28, 3) := by decide +kernel
theorem dX4_judge_30 : decode cX4_judge 30 = .ok (.iconst 0, 1) := by decide +kernel
theorem dX4_judge_31 : decode cX4_judge 31 = .ok (.invokevirtual 47, 3) := by decide +kernel
theorem dX4_judge_34 : decode cX4_judge 34 = .ok (.istore 4, 2) := by decide +kernel
theorem dX4_judge_36 : decode cX4_judge 36 = .ok (.aload_n 0, 1) := by decide +kernel
theorem dX4_judge_37 : decode cX4_judge 37 = .ok (.getfield 28, 3) := by decide +kernel
theorem dX4_judge_40 : decode cX4_judge 40 = .ok (.iconst 1, 1) := by decide +kernel
theorem dX4_judge_41 : decode cX4_judge 41 = .ok (.invokevirtual 47, 3) := by decide +kernel
theorem dX4_judge_44 : decode cX4_judge 44 = .ok (.istore 5, 2) := by decide +kernel
theorem dX4_judge_46 : decode cX4_judge 46 = .ok (.aload_n 0, 1) := by decide +kernel
theorem dX4_judge_47 : decode cX4_judge 47 = .ok (.getfield 39, 3) := by decide +kernel
theorem dX4_judge_50 : decode cX4_judge 50 = .ok (.iconst 0, 1) := by decide +kernel
theorem dX4_judge_51 : decode cX4_judge 51 = .ok (.iconst 1, 1) := by decide +kernel
theorem dX4_judge_52 : decode cX4_judge 52 = .ok (.aload_n 0, 1) := by decide +kernel
theorem dX4_judge_53 : decode cX4_judge 53 = .ok (.getfield 15, 3) := by decide +kernel
theorem dX4_judge_56 : decode cX4_judge 56 = .ok (.ishl, 1) := by decide +kernel
theorem dX4_judge_57 : decode cX4_judge 57 = .ok (.iconst 2, 1) := by decide +kernel
theorem dX4_judge_58 : decode cX4_judge 58 = .ok (.ishl, 1) := by decide +kernel
theorem dX4_judge_59 : decode cX4_judge 59 = .ok (.lconst 0, 1) := by decide +kernel
theorem dX4_judge_60 : decode cX4_judge 60 = .ok (.invokestatic 51, 3) := by decide +kernel
theorem dX4_judge_63 : decode cX4_judge 63 = .ok (.aload_n 0, 1) := by decide +kernel
theorem dX4_judge_64 : decode cX4_judge 64 = .ok (.getfield 19, 3) := by decide +kernel
theorem dX4_judge_67 : decode cX4_judge 67 = .ok (.ifCond .eq 25, 3) := by decide +kernel
theorem dX4_judge_70 : decode cX4_judge 70 = .ok (.aload_n 0, 1) := by decide +kernel
theorem dX4_judge_71 : decode cX4_judge 71 = .ok (.getfield 22, 3) := by decide +kernel
theorem dX4_judge_74 : decode cX4_judge 74 = .ok (.ifCond .eq 18, 3) := by decide +kernel
theorem dX4_judge_77 : decode cX4_judge 77 = .ok (.aload_n 0, 1) := by decide +kernel
theorem dX4_judge_78 : decode cX4_judge 78 = .ok (.aload_n 0, 1) := by decide +kernel
theorem dX4_judge_79 : decode cX4_judge 79 = .ok (.getfield 19, 3) := by decide +kernel
theorem dX4_judge_82 : decode cX4_judge 82 = .ok (.iload 4, 2) := by decide +kernel
theorem dX4_judge_84 : decode cX4_judge 84 = .ok (.iload 5, 2) := by decide +kernel
theorem dX4_judge_86 : decode cX4_judge 86 = .ok (.invokevirtual 57, 3) := by decide +kernel
theorem dX4_judge_89 : decode cX4_judge 89 = .ok (.ifCond .ne 15, 3) := by decide +kernel
theorem dX4_judge_92 : decode cX4_judge 92 = .ok (.aload_n 0, 1) := by decide +kernel
theorem dX4_judge_93 : decode cX4_judge 93 = .ok (.iload_n 3, 1) := by decide +kernel
theorem dX4_judge_94 : decode cX4_judge 94 = .ok (.iload 4, 2) := by decide +kernel
theorem dX4_judge_96 : decode cX4_judge 96 = .ok (.iload 5, 2) := by decide +kernel
theorem dX4_judge_98 : decode cX4_judge 98 = .ok (.iconst 0, 1) := by decide +kernel
theorem dX4_judge_99 : decode cX4_judge 99 = .ok (.iconst 0, 1) := by decide +kernel
theorem dX4_judge_100 : decode cX4_judge 100 = .ok (.invokevirtual 61, 3) := by decide +kernel
theorem dX4_judge_103 : decode cX4_judge 103 = .ok (.ireturn, 1) := by decide +kernel
theorem dX4_judge_104 : decode cX4_judge 104 = .ok (.bipush (-2), 2) := by decide +kernel
theorem dX4_judge_106 : decode cX4_judge 106 = .ok (.istore 6, 2) := by decide +kernel
theorem dX4_judge_108 : decode cX4_judge 108 = .ok (.iconst 0, 1) := by decide +kernel
theorem dX4_judge_109 : decode cX4_judge 109 = .ok (.istore 7, 2) := by decide +kernel
theorem dX4_judge_111 : decode cX4_judge 111 = .ok (.iload 7, 2) := by decide +kernel
theorem dX4_judge_113 : decode cX4_judge 113 = .ok (.iconst 2, 1) := by decide +kernel
theorem dX4_judge_114 : decode cX4_judge 114 = .ok (.aload_n 0, 1) := by decide +kernel
theorem dX4_judge_115 : decode cX4_judge 115 = .ok (.getfield 15, 3) := by decide +kernel
theorem dX4_judge_118 : decode cX4_judge 118 = .ok (.imul, 1) := by decide +kernel
theorem dX4_judge_119 : decode cX4_judge 119 = .ok (.if_icmp .ge 75, 3) := by decide +kernel
theorem dX4_judge_122 : decode cX4_judge 122 = .ok (.iload 6, 2) := by decide +kernel
theorem dX4_judge_124 : decode cX4_judge 124 = .ok (.iconst 1, 1) := by decide +kernel
theorem dX4_judge_125 : decode cX4_judge 125 = .ok (.if_icmp .ge 69, 3) := by decide +kernel
theorem dX4_judge_128 : decode cX4_judge 128 = .ok (.aload_n 0, 1) := by decide +kernel
theorem dX4_judge_129 : decode cX4_judge 129 = .ok (.getfield 19, 3) := by decide +kernel
theorem dX4_judge_132 : decode cX4_judge 132 = .ok (.iload 7, 2) := by decide +kernel
theorem dX4_judge_134 : decode cX4_judge 134 = .ok (.iconst 1, 1) := by decide +kernel
theorem dX4_judge_135 : decode cX4_judge 135 = .ok (.ishr, 1) := by decide +kernel
theorem dX4_judge_136 : decode cX4_judge 136 = .ok (.ishr, 1) := by decide +kernel
theorem dX4_judge_137 : decode cX4_judge 137 = .ok (.iconst 1, 1) := by decide +kernel
theorem dX4_judge_138 : decode cX4_judge 138 = .ok (.iand, 1) := by decide +kernel
theorem dX4_judge_139 : decode cX4_judge 139 = .ok (.ifCond .eq 49, 3) := by decide +kernel
theorem dX4_judge_142 : decode cX4_judge 142 = .ok (.aload_n 0, 1) := by decide +kernel
theorem dX4_judge_143 : decode cX4_judge 143 = .ok (.iload_n 3, 1) := by decide +kernel
theorem dX4_judge_144 : decode cX4_judge 144 = .ok (.iload 4, 2) := by decide +kernel
theorem dX4_judge_146 : decode cX4_judge 146 = .ok (.iload 5, 2) := by decide +kernel
theorem dX4_judge_148 : decode cX4_judge 148 = .ok (.iload 7, 2) := by decide +kernel
theorem dX4_judge_150 : decode cX4_judge 150 = .ok (.iconst 0, 1) := by decide +kernel
theorem dX4_judge_151 : decode cX4_judge 151 = .ok (.iconst 0, 1) := by decide +kernel
theorem dX4_judge_152 : decode cX4_judge 152 = .ok (.invokevirtual 65, 3) := by decide +kernel
theorem dX4_judge_155 : decode cX4_judge 155 = .ok (.istore 8, 2) := by decide +kernel
theorem dX4_judge_157 : decode cX4_judge 157 = .ok (.iload 8, 2) := by decide +kernel
theorem dX4_judge_159 : decode cX4_judge 159 = .ok (.iload 6, 2) := by decide +kernel
theorem dX4_judge_161 : decode cX4_judge 161 = .ok (.if_icmp .le 27, 3) := by decide +kernel
theorem dX4_judge_164 : decode cX4_judge 164 = .ok (.iload 8, 2) := by decide +kernel
theorem dX4_judge_166 : decode cX4_judge 166 = .ok (.istore 6, 2) := by decide +kernel
theorem dX4_judge_168 : decode cX4_judge 168 = .ok (.aload_n 0, 1) := by decide +kernel
theorem dX4_judge_169 : decode cX4_judge 169 = .ok (.iconst 2, 1) := by decide +kernel
theorem dX4_judge_170 : decode cX4_judge 170 = .ok (.aload_n 0, 1) := by decide +kernel
theorem dX4_judge_171 : decode cX4_judge 171 = .ok (.getfield 11, 3) := by decide +kernel
theorem dX4_judge_174 : decode cX4_judge 174 = .ok (.iload 7, 2) := by decide +kernel
theorem dX4_judge_176 : decode cX4_judge 176 = .ok (.iconst 1, 1) := by decide +kernel
theorem dX4_judge_177 : decode cX4_judge 177 = .ok (.ishr, 1) := by decide +kernel
theorem dX4_judge_178 : decode cX4_judge 178 = .ok (.iaload, 1) := by decide +kernel
theorem dX4_judge_179 : decode cX4_judge 179 = .ok (.imul, 1) := by decide +kernel
theorem dX4_judge_180 : decode cX4_judge 180 = .ok (.iload 7, 2) := by decide +kernel
theorem dX4_judge_182 : decode cX4_judge 182 = .ok (.iconst 1, 1) := by decide +kernel
theorem dX4_judge_183 : decode cX4_judge 183 = .ok (.iand, 1) := by decide +kernel
theorem dX4_judge_184 : decode cX4_judge 184 = .ok (.iadd, 1) := by decide +kernel
theorem dX4_judge_185 : decode cX4_judge 185 = .ok (.putfield 25, 3) := by decide +kernel
theorem dX4_judge_188 : decode cX4_judge 188 = .ok (.iinc 7 1, 3) := by decide +kernel
theorem dX4_judge_191 : decode cX4_judge 191 = .ok (.goto (-80), 3) := by decide +kernel
theorem dX4_judge_194 : decode cX4_judge 194 = .ok (.iload 6, 2) := by decide +kernel
theorem dX4_judge_196 : decode cX4_judge 196 = .ok (.ireturn, 1) := by decide +kernel
def f_Mat_judge (n : Nat)  (a1 : Int) (a2 : Int) (σ : JSg) : Option (Int × JSg) :=
  bd2 (f_Mat_gather n a1 a2 σ) fun r1 s2 => if r1 = 0 then (some ((-2), s2)) else (lt_ (sp s2 114 7 (-1)) fun s3 => lt_ (w32 ((sl32 1 (s3 114 4)) - 1)) fun v4 => bd1 (f_Row_outer 11 4 0 s3) fun r5 => lt_ r5 fun v6 => bd1 (f_Row_outer 11 4 1 s3) fun r7 => lt_ r7 fun v8 => bd1 (f_JArr_fill_bad5a n 103 32768 0 (sl32 (sl32 1 (s3 114 4)) 2) 0 s3) fun s9 => jn0 (bd2 (f_Mat_value n v4 v6 v8 0 0 s9) fun r11 s12 => some (r11, s12)) fun j10 => if (s9 114 5) = 0 then (j10) else (if (s9 114 6) = 0 then (j10) else (bd1 (f_Mat_canLay n (s9 114 5) v6 v8 s9) fun r13 => if r13 = 0 then (j10) else (lt_ (-2) fun v14 => lt_ 0 fun v15 => wh3 n (fun rc16 (x17 : Int) (x18 : Int) (s19 : JSg) => if x18 < (w32 (2 * (s19 114 4))) then (if x17 < 1 then (jn2 (fun (y21 : Int) (s22 : JSg) => lt_ (w32 (x18 + 1)) fun v23 => rc16 y21 v23 s22) fun j20 => if (an32 (sr32 (s19 114 5) (sr32 x18 1)) 1) = 0 then (j20 x17 s19) else (bd2 (f_Mat_valueBehind n v4 v6 v8 x18 0 0 s19) fun r24 s25 => lt_ r24 fun v26 => if x17 < v26 then (lt_ v26 fun v27 => chk (0 ≤ (sr32 x18 1) ∧ (sr32 x18 1) < 10) <| lt_ (sp s25 114 7 (w32 ((w32 (2 * (s25 115 (sr32 x18 1).toNat))) + (an32 x18 1)))) fun s28 => j20 v27 s28) else (j20 x17 s25))) else (some (x17, s19))) else (some (x17, s19))) v14 v15 s9))))
set_option maxRecDepth 20000 in
set_option maxHeartbeats 4000000 in
theorem k_Mat_judge  (n : Nat)   (a1 : Int) (a2 : Int) (σ : JSg) : Call yX4_judge cX4_judge 9 (some .int) 68 SH RHO [vR 114, vI a1, vI a2] σ dIm (f_Mat_judge n a1 a2 σ) := by
  refine call_of_sim (by decide +kernel) (Nat.le_of_ble_eq_true rfl) ?_
  show Sim RX4 cX4_judge 9 (some .int) 68 SH RHO 0 [(0, vR 114), (1, vI a1), (2, vI a2)] [] σ dIm (f_Mat_judge n a1 a2 σ)
  unfold f_Mat_judge
  refine sim_aload_n 0 rfl dX4_judge_0 ?_
  refine sim_iload_n 1 rfl dX4_judge_1 ?_
  refine sim_iload_n 2 rfl dX4_judge_2 ?_
  refine sim_callVIm v_RX4_43 sh_114 dX4_judge_3 (k_Mat_gather n a1 a2 σ) rfl ⟨by decide, by decide⟩ (S := []) rfl (Nat.le_of_ble_eq_true rfl) (fun r1 s2 => ?_)
  refine sim_if_ne (tgt := 12) dX4_judge_6 (by decide) ?_ ?_
  · refine sim_aload_n 0 rfl dX4_judge_12 ?_
    refine sim_iconst dX4_judge_13 (by decide) ?_
    refine sim_putI g_RX4_25 sh_114 dX4_judge_14 (fun s3 => ?_)
    refine sim_iconst dX4_judge_17 (by decide) ?_
    refine sim_aload_n 0 rfl dX4_judge_18 ?_
    refine sim_getI g_RX4_15 sh_114 dX4_judge_19 ?_
    refine sim_ishl dX4_judge_22 ?_
    refine sim_iconst dX4_judge_23 (by decide) ?_
    refine sim_isub dX4_judge_24 ?_
    refine sim_istore_n (fun v4 => [(3, vI v4), (0, vR 114), (1, vI a1), (2, vI a2)]) (fun _ => rfl) (by decide) dX4_judge_25 (fun v4 => ?_)
    refine sim_aload_n 1 rfl dX4_judge_26 ?_
    refine sim_getR g_RX4_28 sh_114 rh_114_0 dX4_judge_27 ?_
    refine sim_iconst dX4_judge_30 (by decide) ?_
    refine sim_callVIp v_RX4_47 (LRow_o lay_11) dX4_judge_31 (k_Row_outer SH RHO 11 4 lay_11 lay_4 0 s3) rfl ⟨by decide, by decide⟩ (S := []) rfl (Nat.le_of_ble_eq_true rfl) (fun r5 => ?_)
    refine sim_istore (fun v6 => [(4, vI v6), (3, vI v4), (0, vR 114), (1, vI a1), (2, vI a2)]) (fun _ => rfl) (by decide) dX4_judge_34 (fun v6 => ?_)
    refine sim_aload_n 2 rfl dX4_judge_36 ?_
    refine sim_getR g_RX4_28 sh_114 rh_114_0 dX4_judge_37 ?_
    refine sim_iconst dX4_judge_40 (by decide) ?_
    refine sim_callVIp v_RX4_47 (LRow_o lay_11) dX4_judge_41 (k_Row_outer SH RHO 11 4 lay_11 lay_4 1 s3) rfl ⟨by decide, by decide⟩ (S := []) rfl (Nat.le_of_ble_eq_true rfl) (fun r7 => ?_)
    refine sim_istore (fun v8 => [(5, vI v8), (4, vI v6), (3, vI v4), (0, vR 114), (1, vI a1), (2, vI a2)]) (fun _ => rfl) (by decide) dX4_judge_44 (fun v8 => ?_)
    refine sim_aload_n 3 rfl dX4_judge_46 ?_
    refine sim_getR g_RX4_39 sh_114 rh_114_2 dX4_judge_47 ?_
    refine sim_iconst dX4_judge_50 (by decide) ?_
    refine sim_iconst dX4_judge_51 (by decide) ?_
    refine sim_aload_n 3 rfl dX4_judge_52 ?_
    refine sim_getI g_RX4_15 sh_114 dX4_judge_53 ?_
    refine sim_ishl dX4_judge_56 ?_
    refine sim_iconst dX4_judge_57 (by decide) ?_
    refine sim_ishl dX4_judge_58 ?_
    refine sim_lconst (v := 0) dX4_judge_59 (by decide +kernel) ?_
    refine sim_callSVm s_RX4_51 dX4_judge_60 (k_JArr_fill_bad5a SH RHO n 103 32768 sh_103 (okI_lit (by decide)) 0 (sl32 (sl32 1 (s3 114 4)) 2) 0 s3) rfl ⟨by decide, by decide⟩ (S := []) rfl (Nat.le_of_ble_eq_true rfl) (fun s9 => ?_)
    refine sim_aload_n 3 rfl dX4_judge_63 ?_
    refine sim_getI g_RX4_19 sh_114 dX4_judge_64 ?_
    refine sim_jn0 (pc' := 92) ([(0, vR 114), (3, vI v4), (4, vI v6), (5, vI v8)]) ([]) (s9) ?_ (fun j10 hj10 => ?_)
    · refine sim_aload_n 0 rfl dX4_judge_92 ?_
      refine sim_iload_n 1 rfl dX4_judge_93 ?_
      refine sim_iload 2 rfl dX4_judge_94 ?_
      refine sim_iload 3 rfl dX4_judge_96 ?_
      refine sim_iconst dX4_judge_98 (by decide) ?_
      refine sim_iconst dX4_judge_99 (by decide) ?_
      refine sim_callVIm v_RX4_61 sh_114 dX4_judge_100 (k_Mat_value n v4 v6 v8 0 0 s9) rfl ⟨by decide, by decide⟩ (S := []) rfl (Nat.le_of_ble_eq_true rfl) (fun r11 s12 => ?_)
      exact sim_iret rfl rfl dX4_judge_103
    refine sim_if_eq (tgt := 92) dX4_judge_67 (by decide) ?_ ?_
    · exact sim_sub [3, 2, 1, 0] rfl (hj10 )
    · refine sim_aload_n 3 rfl dX4_judge_70 ?_
      refine sim_getI g_RX4_22 sh_114 dX4_judge_71 ?_
      refine sim_if_eq (tgt := 92) dX4_judge_74 (by decide) ?_ ?_
      · exact sim_sub [3, 2, 1, 0] rfl (hj10 )
      · refine sim_aload_n 3 rfl dX4_judge_77 ?_
        refine sim_aload_n 3 rfl dX4_judge_78 ?_
        refine sim_getI g_RX4_19 sh_114 dX4_judge_79 ?_
        refine sim_iload 1 rfl dX4_judge_82 ?_
        refine sim_iload 0 rfl dX4_judge_84 ?_
        refine sim_callVIp v_RX4_57 sh_114 dX4_judge_86 (k_Mat_canLay n (s9 114 5) v6 v8 s9) rfl ⟨by decide, by decide⟩ (S := []) rfl (Nat.le_of_ble_eq_true rfl) (fun r13 => ?_)
        refine sim_if_ne (tgt := 104) dX4_judge_89 (by decide) ?_ ?_
        · refine sim_bipush dX4_judge_104 (by decide +kernel) ?_
          refine sim_istore (fun v14 => [(6, vI v14), (5, vI v8), (4, vI v6), (3, vI v4), (0, vR 114), (1, vI a1), (2, vI a2)]) (fun _ => rfl) (by decide) dX4_judge_106 (fun v14 => ?_)
          refine sim_iconst dX4_judge_108 (by decide) ?_
          refine sim_istore (fun v15 => [(7, vI v15), (6, vI v14), (5, vI v8), (4, vI v6), (3, vI v4), (0, vR 114), (1, vI a1), (2, vI a2)]) (fun _ => rfl) (by decide) dX4_judge_109 (fun v15 => ?_)
          refine sim_sub [5, 4, 3, 2, 1, 0] (L' := [(0, vR 114), (3, vI v4), (4, vI v6), (5, vI v8), (6, vI v14), (7, vI v15)]) rfl ?_
          refine sim_wh3 (fun (x17 : Int) (x18 : Int) (s19 : JSg) => [(0, vR 114), (3, vI v4), (4, vI v6), (5, vI v8), (6, vI x17), (7, vI x18)]) (fun (x17 : Int) (x18 : Int) (s19 : JSg) => s19) ?_ n v14 v15 s9
          intro rc16 hrc16 x17 x18 s19
          refine sim_iload 5 rfl dX4_judge_111 ?_
          refine sim_iconst dX4_judge_113 (by decide) ?_
          refine sim_aload_n 0 rfl dX4_judge_114 ?_
          refine sim_getI g_RX4_15 sh_114 dX4_judge_115 ?_
          refine sim_imul dX4_judge_118 ?_
          refine sim_icmp_ge (tgt := 194) dX4_judge_119 (by decide) ?_ ?_
          · refine sim_iload 4 rfl dX4_judge_194 ?_
            exact sim_iret rfl rfl dX4_judge_196
          · refine sim_iload 4 rfl dX4_judge_122 ?_
            refine sim_iconst dX4_judge_124 (by decide) ?_
            refine sim_icmp_ge (tgt := 194) dX4_judge_125 (by decide) ?_ ?_
            · refine sim_iload 4 rfl dX4_judge_194 ?_
              exact sim_iret rfl rfl dX4_judge_196
            · refine sim_aload_n 0 rfl dX4_judge_128 ?_
              refine sim_getI g_RX4_19 sh_114 dX4_judge_129 ?_
              refine sim_iload 5 rfl dX4_judge_132 ?_
              refine sim_iconst dX4_judge_134 (by decide) ?_
              refine sim_ishr dX4_judge_135 ?_
              refine sim_ishr dX4_judge_136 ?_
              refine sim_iconst dX4_judge_137 (by decide) ?_
              refine sim_iand dX4_judge_138 ?_
              refine sim_jn2 (pc' := 188) (fun (y21 : Int) (s22 : JSg) => [(0, vR 114), (3, vI v4), (4, vI v6), (5, vI v8), (6, vI y21), (7, vI x18)]) (fun (y21 : Int) (s22 : JSg) => []) (fun (y21 : Int) (s22 : JSg) => s22) ?_ (fun j20 hj20 => ?_)
              · intro y21 s22
                refine sim_iinc 5 rfl (fun v23 => [(7, vI v23), (0, vR 114), (3, vI v4), (4, vI v6), (5, vI v8), (6, vI y21)]) (fun _ => rfl) (by decide) dX4_judge_188 (fun v23 => ?_)
                refine sim_goto (tgt := 111) dX4_judge_191 (by decide) ?_
                exact sim_sub [1, 2, 3, 4, 5, 0] rfl (hrc16 y21 v23 s22)
              refine sim_if_eq (tgt := 188) dX4_judge_139 (by decide) ?_ ?_
              · exact sim_sub [0, 1, 2, 3, 4, 5] rfl (hj20 x17 s19)
              · refine sim_aload_n 0 rfl dX4_judge_142 ?_
                refine sim_iload_n 1 rfl dX4_judge_143 ?_
                refine sim_iload 2 rfl dX4_judge_144 ?_
                refine sim_iload 3 rfl dX4_judge_146 ?_
                refine sim_iload 5 rfl dX4_judge_148 ?_
                refine sim_iconst dX4_judge_150 (by decide) ?_
                refine sim_iconst dX4_judge_151 (by decide) ?_
                refine sim_callVIm v_RX4_65 sh_114 dX4_judge_152 (k_Mat_valueBehind n v4 v6 v8 x18 0 0 s19) rfl ⟨by decide, by decide⟩ (S := []) rfl (Nat.le_of_ble_eq_true rfl) (fun r24 s25 => ?_)
                refine sim_istore (fun v26 => [(8, vI v26), (0, vR 114), (3, vI v4), (4, vI v6), (5, vI v8), (6, vI x17), (7, vI x18)]) (fun _ => rfl) (by decide) dX4_judge_155 (fun v26 => ?_)
                refine sim_iload 0 rfl dX4_judge_157 ?_
                refine sim_iload 5 rfl dX4_judge_159 ?_
                refine sim_icmp_le (tgt := 188) dX4_judge_161 (by decide) ?_ ?_
                · exact sim_sub [1, 2, 3, 4, 5, 6] rfl (hj20 x17 s25)
                · refine sim_iload 0 rfl dX4_judge_164 ?_
                  refine sim_istore (fun v27 => [(6, vI v27), (8, vI v26), (0, vR 114), (3, vI v4), (4, vI v6), (5, vI v8), (7, vI x18)]) (fun _ => rfl) (by decide) dX4_judge_166 (fun v27 => ?_)
                  refine sim_aload_n 2 rfl dX4_judge_168 ?_
                  refine sim_iconst dX4_judge_169 (by decide) ?_
                  refine sim_aload_n 2 rfl dX4_judge_170 ?_
                  refine sim_getR g_RX4_11 sh_114 rh_114_3 dX4_judge_171 ?_
                  refine sim_iload 6 rfl dX4_judge_174 ?_
                  refine sim_iconst dX4_judge_176 (by decide) ?_
                  refine sim_ishr dX4_judge_177 ?_
                  refine sim_iaload sh_115 rfl dX4_judge_178 ?_
                  refine sim_imul dX4_judge_179 ?_
                  refine sim_iload 6 rfl dX4_judge_180 ?_
                  refine sim_iconst dX4_judge_182 (by decide) ?_
                  refine sim_iand dX4_judge_183 ?_
                  refine sim_iadd dX4_judge_184 ?_
                  refine sim_putI g_RX4_25 sh_114 dX4_judge_185 (fun s28 => ?_)
                  exact sim_sub [2, 3, 4, 5, 0, 6] rfl (hj20 v27 s28)
        · exact sim_sub [3, 2, 1, 0] rfl (hj10 )
  · refine sim_bipush dX4_judge_9 (by decide +kernel) ?_
    exact sim_iret rfl rfl dX4_judge_11
theorem dX11_game_0 : decode cX11_game 0 = .ok (.aload_n 0, 1) := by decide +kernel
theorem dX11_game_1 : decode cX11_game 1 = .ok (.iload_n 1, 1) := by decide +kernel
theorem dX11_game_2 : decode cX11_game 2 = .ok (.invokevirtual 183, 3) := by decide +kernel
theorem dX11_game_5 : decode cX11_game 5 = .ok (.ifCond .eq 29, 3) := by decide +kernel
theorem dX11_game_8 : decode cX11_game 8 = .ok (.aload_n 0, 1) := by decide +kernel
theorem dX11_game_9 : decode cX11_game 9 = .ok (.iload_n 2, 1) := by decide +kernel
theorem dX11_game_10 : decode cX11_game 10 = .ok (.invokevirtual 183, 3) := by decide +kernel
theorem dX11_game_13 : decode cX11_game 13 = .ok (.ifCond .eq 21, 3) := by decide +kernel
theorem dX11_game_16 : decode cX11_game 16 = .ok (.iload_n 1, 1) := by decide +kernel
theorem dX11_game_17 : decode cX11_game 17 = .ok (.iload_n 2, 1) := by decide +kernel
theorem dX11_game_18 : decode cX11_game 18 = .ok (.if_icmp .eq 16, 3) := by decide +kernel
theorem dX11_game_21 : decode cX11_game 21 = .ok (.aload_n 0, 1) := by decide +kernel
theorem dX11_game_22 : decode cX11_game 22 = .ok (.getfield 29, 3) := by decide +kernel
theorem dX11_game_25 : decode cX11_game 25 = .ok (.getfield 72, 3) := by decide +kernel
theorem dX11_game_28 : decode cX11_game 28 = .ok (.getfield 205, 3) := by decide +kernel
theorem dX11_game_31 : decode cX11_game 31 = .ok (.ifCond .ne 6, 3) := by decide +kernel
theorem dX11_game_34 : decode cX11_game 34 = .ok (.bipush (-2), 2) := by decide +kernel
theorem dX11_game_36 : decode cX11_game 36 = .ok (.ireturn, 1) := by decide +kernel
theorem dX11_game_37 : decode cX11_game 37 = .ok (.aload_n 0, 1) := by decide +kernel
theorem dX11_game_38 : decode cX11_game 38 = .ok (.getfield 92, 3) := by decide +kernel
theorem dX11_game_41 : decode cX11_game 41 = .ok (.iload_n 1, 1) := by decide +kernel
theorem dX11_game_42 : decode cX11_game 42 = .ok (.iload_n 2, 1) := by decide +kernel
theorem dX11_game_43 : decode cX11_game 43 = .ok (.invokevirtual 273, 3) := by decide +kernel
theorem dX11_game_46 : decode cX11_game 46 = .ok (.ireturn, 1) := by decide +kernel
def f_W_game (n : Nat)  (a1 : Int) (a2 : Int) (σ : JSg) : Option (Int × JSg) :=
  bd1 (f_W_isWidow a1 σ) fun r1 => if r1 = 0 then (some ((-2), σ)) else (bd1 (f_W_isWidow a2 σ) fun r2 => if r2 = 0 then (some ((-2), σ)) else (if a1 = a2 then (some ((-2), σ)) else (if (σ 11 4) = 0 then (some ((-2), σ)) else (bd2 (f_Mat_judge n a1 a2 σ) fun r3 s4 => some (r3, s4)))))
set_option maxRecDepth 20000 in
set_option maxHeartbeats 4000000 in
theorem k_W_game  (n : Nat)   (a1 : Int) (a2 : Int) (σ : JSg) : Call yX11_game cX11_game 3 (some .int) 69 SH RHO [vR 0, vI a1, vI a2] σ dIm (f_W_game n a1 a2 σ) := by
  refine call_of_sim (by decide +kernel) (Nat.le_of_ble_eq_true rfl) ?_
  show Sim RX11 cX11_game 3 (some .int) 69 SH RHO 0 [(0, vR 0), (1, vI a1), (2, vI a2)] [] σ dIm (f_W_game n a1 a2 σ)
  unfold f_W_game
  refine sim_aload_n 0 rfl dX11_game_0 ?_
  refine sim_iload_n 1 rfl dX11_game_1 ?_
  refine sim_callVIp v_RX11_183 sh_0 dX11_game_2 (k_W_isWidow a1 σ) rfl ⟨by decide, by decide⟩ (S := []) rfl (Nat.le_of_ble_eq_true rfl) (fun r1 => ?_)
  refine sim_if_eq (tgt := 34) dX11_game_5 (by decide) ?_ ?_
  · refine sim_bipush dX11_game_34 (by decide +kernel) ?_
    exact sim_iret rfl rfl dX11_game_36
  · refine sim_aload_n 0 rfl dX11_game_8 ?_
    refine sim_iload_n 2 rfl dX11_game_9 ?_
    refine sim_callVIp v_RX11_183 sh_0 dX11_game_10 (k_W_isWidow a2 σ) rfl ⟨by decide, by decide⟩ (S := []) rfl (Nat.le_of_ble_eq_true rfl) (fun r2 => ?_)
    refine sim_if_eq (tgt := 34) dX11_game_13 (by decide) ?_ ?_
    · refine sim_bipush dX11_game_34 (by decide +kernel) ?_
      exact sim_iret rfl rfl dX11_game_36
    · refine sim_iload_n 1 rfl dX11_game_16 ?_
      refine sim_iload_n 2 rfl dX11_game_17 ?_
      refine sim_icmp_eq (tgt := 34) dX11_game_18 (by decide) ?_ ?_
      · refine sim_bipush dX11_game_34 (by decide +kernel) ?_
        exact sim_iret rfl rfl dX11_game_36
      · refine sim_aload_n 0 rfl dX11_game_21 ?_
        refine sim_getR g_RX11_29 sh_0 rh_0_3 dX11_game_22 ?_
        refine sim_getR g_RX11_72 (LWld_o lay_3) rh_3_1 dX11_game_25 ?_
        refine sim_getI g_RX11_205 (LRow_o lay_11) dX11_game_28 ?_
        refine sim_if_ne (tgt := 37) dX11_game_31 (by decide) ?_ ?_
        · refine sim_aload_n 0 rfl dX11_game_37 ?_
          refine sim_getR g_RX11_92 sh_0 rh_0_14 dX11_game_38 ?_
          refine sim_iload_n 1 rfl dX11_game_41 ?_
          refine sim_iload_n 2 rfl dX11_game_42 ?_
          refine sim_callVIm v_RX11_273 sh_114 dX11_game_43 (k_Mat_judge n a1 a2 σ) rfl ⟨by decide, by decide⟩ (S := []) rfl (Nat.le_of_ble_eq_true rfl) (fun r3 s4 => ?_)
          exact sim_iret rfl rfl dX11_game_46
        · refine sim_bipush dX11_game_34 (by decide +kernel) ?_
          exact sim_iret rfl rfl dX11_game_36
theorem dX11_allAt_0 : decode cX11_allAt 0 = .ok (.iload_n 1, 1) := by decide +kernel
theorem dX11_allAt_1 : decode cX11_allAt 1 = .ok (.ifCond .lt 26, 3) := by decide +kernel
theorem dX11_allAt_4 : decode cX11_allAt 4 = .ok (.iload_n 1, 1) := by decide +kernel
theorem dX11_allAt_5 : decode cX11_allAt 5 = .ok (.aload_n 0, 1) := by decide +kernel
theorem dX11_allAt_6 : decode cX11_allAt 6 = .ok (.getfield 85, 3) := by decide +kernel
theorem dX11_allAt_9 : decode cX11_allAt 9 = .ok (.getfield 271, 3) := by decide +kernel
theorem dX11_allAt_12 : decode cX11_allAt 12 = .ok (.if_icmp .ge 15, 3) := by decide +kernel
theorem dX11_allAt_15 : decode cX11_allAt 15 = .ok (.aload_n 0, 1) := by decide +kernel
theorem dX11_allAt_16 : decode cX11_allAt 16 = .ok (.getfield 85, 3) := by decide +kernel
theorem dX11_allAt_19 : decode cX11_allAt 19 = .ok (.getfield 272, 3) := by decide +kernel
theorem dX11_allAt_22 : decode cX11_allAt 22 = .ok (.iload_n 1, 1) := by decide +kernel
theorem dX11_allAt_23 : decode cX11_allAt 23 = .ok (.iaload, 1) := by decide +kernel
theorem dX11_allAt_24 : decode cX11_allAt 24 = .ok (.goto 4, 3) := by decide +kernel
theorem dX11_allAt_27 : decode cX11_allAt 27 = .ok (.iconst (-1), 1) := by decide +kernel
theorem dX11_allAt_28 : decode cX11_allAt 28 = .ok (.ireturn, 1) := by decide +kernel
def f_W_allAt   (a1 : Int) (σ : JSg) : Option (Int) :=
  if a1 < 0 then (some (-1)) else (if a1 < (σ 107 12) then (chk (0 ≤ a1 ∧ a1 < 10) <| some (σ 113 a1.toNat)) else (some (-1)))
set_option maxRecDepth 20000 in
set_option maxHeartbeats 4000000 in
theorem k_W_allAt     (a1 : Int) (σ : JSg) : Call yX11_allAt cX11_allAt 2 (some .int) 0 SH RHO [vR 0, vI a1] σ (dIp σ) (f_W_allAt a1 σ) := by
  refine call_of_sim (by decide +kernel) (Nat.le_of_ble_eq_true rfl) ?_
  show Sim RX11 cX11_allAt 2 (some .int) 0 SH RHO 0 [(0, vR 0), (1, vI a1)] [] σ (dIp σ) (f_W_allAt a1 σ)
  unfold f_W_allAt
  refine sim_iload_n 1 rfl dX11_allAt_0 ?_
  refine sim_if_lt (tgt := 27) dX11_allAt_1 (by decide) ?_ ?_
  · refine sim_iconst dX11_allAt_27 (by decide) ?_
    exact sim_iret rfl rfl dX11_allAt_28
  · refine sim_iload_n 1 rfl dX11_allAt_4 ?_
    refine sim_aload_n 0 rfl dX11_allAt_5 ?_
    refine sim_getR g_RX11_85 sh_0 rh_0_13 dX11_allAt_6 ?_
    refine sim_getI g_RX11_271 sh_107 dX11_allAt_9 ?_
    refine sim_icmp_ge (tgt := 27) dX11_allAt_12 (by decide) ?_ ?_
    · refine sim_iconst dX11_allAt_27 (by decide) ?_
      exact sim_iret rfl rfl dX11_allAt_28
    · refine sim_aload_n 0 rfl dX11_allAt_15 ?_
      refine sim_getR g_RX11_85 sh_0 rh_0_13 dX11_allAt_16 ?_
      refine sim_getR g_RX11_272 sh_107 rh_107_11 dX11_allAt_19 ?_
      refine sim_iload_n 1 rfl dX11_allAt_22 ?_
      refine sim_iaload sh_113 rfl dX11_allAt_23 ?_
      refine sim_goto (tgt := 28) dX11_allAt_24 (by decide) ?_
      exact sim_iret rfl rfl dX11_allAt_28
theorem dX6_prepare_0 : decode cX6_prepare 0 = .ok (.aload_n 0, 1) := by decide +kernel
theorem dX6_prepare_1 : decode cX6_prepare 1 = .ok (.getfield 19, 3) := by decide +kernel
theorem dX6_prepare_4 : decode cX6_prepare 4 = .ok (.iconst 0, 1) := by decide +kernel
theorem dX6_prepare_5 : decode cX6_prepare 5 = .ok (.invokestatic 91, 3) := by decide +kernel
theorem dX6_prepare_8 : decode cX6_prepare 8 = .ok (.iconst 0, 1) := by decide +kernel
theorem dX6_prepare_9 : decode cX6_prepare 9 = .ok (.istore_n 1, 1) := by decide +kernel
theorem dX6_prepare_10 : decode cX6_prepare 10 = .ok (.iload_n 1, 1) := by decide +kernel
theorem dX6_prepare_11 : decode cX6_prepare 11 = .ok (.aload_n 0, 1) := by decide +kernel
theorem dX6_prepare_12 : decode cX6_prepare 12 = .ok (.getfield 15, 3) := by decide +kernel
theorem dX6_prepare_15 : decode cX6_prepare 15 = .ok (.if_icmp .ge 108, 3) := by decide +kernel
theorem dX6_prepare_18 : decode cX6_prepare 18 = .ok (.aload_n 0, 1) := by decide +kernel
theorem dX6_prepare_19 : decode cX6_prepare 19 = .ok (.getfield 11, 3) := by decide +kernel
theorem dX6_prepare_22 : decode cX6_prepare 22 = .ok (.iload_n 1, 1) := by decide +kernel
theorem dX6_prepare_23 : decode cX6_prepare 23 = .ok (.iaload, 1) := by decide +kernel
theorem dX6_prepare_24 : decode cX6_prepare 24 = .ok (.istore_n 2, 1) := by decide +kernel
theorem dX6_prepare_25 : decode cX6_prepare 25 = .ok (.aload_n 0, 1) := by decide +kernel
theorem dX6_prepare_26 : decode cX6_prepare 26 = .ok (.getfield 19, 3) := by decide +kernel
theorem dX6_prepare_29 : decode cX6_prepare 29 = .ok (.aload_n 0, 1) := by decide +kernel
theorem dX6_prepare_30 : decode cX6_prepare 30 = .ok (.getfield 44, 3) := by decide +kernel
theorem dX6_prepare_33 : decode cX6_prepare 33 = .ok (.getfield 94, 3) := by decide +kernel
theorem dX6_prepare_36 : decode cX6_prepare 36 = .ok (.iload_n 2, 1) := by decide +kernel
theorem dX6_prepare_37 : decode cX6_prepare 37 = .ok (.iaload, 1) := by decide +kernel
theorem dX6_prepare_38 : decode cX6_prepare 38 = .ok (.dup2, 1) := by decide +kernel
theorem dX6_prepare_39 : decode cX6_prepare 39 = .ok (.iaload, 1) := by decide +kernel
theorem dX6_prepare_40 : decode cX6_prepare 40 = .ok (.iconst 1, 1) := by decide +kernel
theorem dX6_prepare_41 : decode cX6_prepare 41 = .ok (.iload_n 1, 1) := by decide +kernel
theorem dX6_prepare_42 : decode cX6_prepare 42 = .ok (.ishl, 1) := by decide +kernel
theorem dX6_prepare_43 : decode cX6_prepare 43 = .ok (.ior, 1) := by decide +kernel
theorem dX6_prepare_44 : decode cX6_prepare 44 = .ok (.iastore, 1) := by decide +kernel
theorem dX6_prepare_45 : decode cX6_prepare 45 = .ok (.aload_n 0, 1) := by decide +kernel
theorem dX6_prepare_46 : decode cX6_prepare 46 = .ok (.getfield 22, 3) := by decide +kernel
theorem dX6_prepare_49 : decode cX6_prepare 49 = .ok (.iconst 2, 1) := by decide +kernel
theorem dX6_prepare_50 : decode cX6_prepare 50 = .ok (.iload_n 1, 1) := by decide +kernel
theorem dX6_prepare_51 : decode cX6_prepare 51 = .ok (.imul, 1) := by decide +kernel
theorem dX6_prepare_52 : decode cX6_prepare 52 = .ok (.aload_n 0, 1) := by decide +kernel
theorem dX6_prepare_53 : decode cX6_prepare 53 = .ok (.getfield 54, 3) := by decide +kernel
theorem dX6_prepare_56 : decode cX6_prepare 56 = .ok (.getfield 97, 3) := by decide +kernel
theorem dX6_prepare_59 : decode cX6_prepare 59 = .ok (.iload_n 2, 1) := by decide +kernel
theorem dX6_prepare_60 : decode cX6_prepare 60 = .ok (.iaload, 1) := by decide +kernel
theorem dX6_prepare_61 : decode cX6_prepare 61 = .ok (.iastore, 1) := by decide +kernel
theorem dX6_prepare_62 : decode cX6_prepare 62 = .ok (.aload_n 0, 1) := by decide +kernel
theorem dX6_prepare_63 : decode cX6_prepare 63 = .ok (.getfield 22, 3) := by decide +kernel
theorem dX6_prepare_66 : decode cX6_prepare 66 = .ok (.iconst 2, 1) := by decide +kernel
theorem dX6_prepare_67 : decode cX6_prepare 67 = .ok (.iload_n 1, 1) := by decide +kernel
theorem dX6_prepare_68 : decode cX6_prepare 68 = .ok (.imul, 1) := by decide +kernel
theorem dX6_prepare_69 : decode cX6_prepare 69 = .ok (.iconst 1, 1) := by decide +kernel
theorem dX6_prepare_70 : decode cX6_prepare 70 = .ok (.iadd, 1) := by decide +kernel
theorem dX6_prepare_71 : decode cX6_prepare 71 = .ok (.aload_n 0, 1) := by decide +kernel
theorem dX6_prepare_72 : decode cX6_prepare 72 = .ok (.getfield 54, 3) := by decide +kernel
theorem dX6_prepare_75 : decode cX6_prepare 75 = .ok (.getfield 102, 3) := by decide +kernel
theorem dX6_prepare_78 : decode cX6_prepare 78 = .ok (.iload_n 2, 1) := by decide +kernel
theorem dX6_prepare_79 : decode cX6_prepare 79 = .ok (.iaload, 1) := by decide +kernel
theorem dX6_prepare_80 : decode cX6_prepare 80 = .ok (.iastore, 1) := by decide +kernel
theorem dX6_prepare_81 : decode cX6_prepare 81 = .ok (.aload_n 0, 1) := by decide +kernel
theorem dX6_prepare_82 : decode cX6_prepare 82 = .ok (.getfield 25, 3) := by decide +kernel
theorem dX6_prepare_85 : decode cX6_prepare 85 = .ok (.iconst 2, 1) := by decide +kernel
theorem dX6_prepare_86 : decode cX6_prepare 86 = .ok (.iload_n 1, 1) := by decide +kernel
theorem dX6_prepare_87 : decode cX6_prepare 87 = .ok (.imul, 1) := by decide +kernel
theorem dX6_prepare_88 : decode cX6_prepare 88 = .ok (.aload_n 0, 1) := by decide +kernel
theorem dX6_prepare_89 : decode cX6_prepare 89 = .ok (.getfield 44, 3) := by decide +kernel
theorem dX6_prepare_92 : decode cX6_prepare 92 = .ok (.getfield 94, 3) := by decide +kernel
theorem dX6_prepare_95 : decode cX6_prepare 95 = .ok (.iload_n 2, 1) := by decide +kernel
theorem dX6_prepare_96 : decode cX6_prepare 96 = .ok (.iaload, 1) := by decide +kernel
theorem dX6_prepare_97 : decode cX6_prepare 97 = .ok (.iastore, 1) := by decide +kernel
theorem dX6_prepare_98 : decode cX6_prepare 98 = .ok (.aload_n 0, 1) := by decide +kernel
theorem dX6_prepare_99 : decode cX6_prepare 99 = .ok (.getfield 25, 3) := by decide +kernel
theorem dX6_prepare_102 : decode cX6_prepare 102 = .ok (.iconst 2, 1) := by decide +kernel
theorem dX6_prepare_103 : decode cX6_prepare 103 = .ok (.iload_n 1, 1) := by decide +kernel
theorem dX6_prepare_104 : decode cX6_prepare 104 = .ok (.imul, 1) := by decide +kernel
theorem dX6_prepare_105 : decode cX6_prepare 105 = .ok (.iconst 1, 1) := by decide +kernel
theorem dX6_prepare_106 : decode cX6_prepare 106 = .ok (.iadd, 1) := by decide +kernel
theorem dX6_prepare_107 : decode cX6_prepare 107 = .ok (.aload_n 0, 1) := by decide +kernel
theorem dX6_prepare_108 : decode cX6_prepare 108 = .ok (.getfield 44, 3) := by decide +kernel
theorem dX6_prepare_111 : decode cX6_prepare 111 = .ok (.getfield 94, 3) := by decide +kernel
theorem dX6_prepare_114 : decode cX6_prepare 114 = .ok (.iload_n 2, 1) := by decide +kernel
theorem dX6_prepare_115 : decode cX6_prepare 115 = .ok (.iaload, 1) := by decide +kernel
theorem dX6_prepare_116 : decode cX6_prepare 116 = .ok (.iastore, 1) := by decide +kernel
theorem dX6_prepare_117 : decode cX6_prepare 117 = .ok (.iinc 1 1, 3) := by decide +kernel
theorem dX6_prepare_120 : decode cX6_prepare 120 = .ok (.goto (-110), 3) := by decide +kernel
theorem dX6_prepare_123 : decode cX6_prepare 123 = .ok (.aload_n 0, 1) := by decide +kernel
theorem dX6_prepare_124 : decode cX6_prepare 124 = .ok (.getfield 22, 3) := by decide +kernel
theorem dX6_prepare_127 : decode cX6_prepare 127 = .ok (.bipush 20, 2) := by decide +kernel
theorem dX6_prepare_129 : decode cX6_prepare 129 = .ok (.aload_n 0, 1) := by decide +kernel
theorem dX6_prepare_130 : decode cX6_prepare 130 = .ok (.getfield 44, 3) := by decide +kernel
theorem dX6_prepare_133 : decode cX6_prepare 133 = .ok (.iconst 0, 1) := by decide +kernel
theorem dX6_prepare_134 : decode cX6_prepare 134 = .ok (.invokevirtual 105, 3) := by decide +kernel
theorem dX6_prepare_137 : decode cX6_prepare 137 = .ok (.iastore, 1) := by decide +kernel
theorem dX6_prepare_138 : decode cX6_prepare 138 = .ok (.aload_n 0, 1) := by decide +kernel
theorem dX6_prepare_139 : decode cX6_prepare 139 = .ok (.getfield 22, 3) := by decide +kernel
theorem dX6_prepare_142 : decode cX6_prepare 142 = .ok (.bipush 21, 2) := by decide +kernel
theorem dX6_prepare_144 : decode cX6_prepare 144 = .ok (.aload_n 0, 1) := by decide +kernel
theorem dX6_prepare_145 : decode cX6_prepare 145 = .ok (.getfield 44, 3) := by decide +kernel
theorem dX6_prepare_148 : decode cX6_prepare 148 = .ok (.iconst 1, 1) := by decide +kernel
theorem dX6_prepare_149 : decode cX6_prepare 149 = .ok (.invokevirtual 105, 3) := by decide +kernel
theorem dX6_prepare_152 : decode cX6_prepare 152 = .ok (.iastore, 1) := by decide +kernel
theorem dX6_prepare_153 : decode cX6_prepare 153 = .ok (.aload_n 0, 1) := by decide +kernel
theorem dX6_prepare_154 : decode cX6_prepare 154 = .ok (.getfield 25, 3) := by decide +kernel
theorem dX6_prepare_157 : decode cX6_prepare 157 = .ok (.bipush 20, 2) := by decide +kernel
theorem dX6_prepare_159 : decode cX6_prepare 159 = .ok (.aload_n 0, 1) := by decide +kernel
theorem dX6_prepare_160 : decode cX6_prepare 160 = .ok (.getfield 44, 3) := by decide +kernel
theorem dX6_prepare_163 : decode cX6_prepare 163 = .ok (.iconst 0, 1) := by decide +kernel
theorem dX6_prepare_164 : decode cX6_prepare 164 = .ok (.invokevirtual 108, 3) := by decide +kernel
theorem dX6_prepare_167 : decode cX6_prepare 167 = .ok (.iastore, 1) := by decide +kernel
theorem dX6_prepare_168 : decode cX6_prepare 168 = .ok (.aload_n 0, 1) := by decide +kernel
theorem dX6_prepare_169 : decode cX6_prepare 169 = .ok (.getfield 25, 3) := by decide +kernel
theorem dX6_prepare_172 : decode cX6_prepare 172 = .ok (.bipush 21, 2) := by decide +kernel
theorem dX6_prepare_174 : decode cX6_prepare 174 = .ok (.aload_n 0, 1) := by decide +kernel
theorem dX6_prepare_175 : decode cX6_prepare 175 = .ok (.getfield 44, 3) := by decide +kernel
theorem dX6_prepare_178 : decode cX6_prepare 178 = .ok (.iconst 1, 1) := by decide +kernel
theorem dX6_prepare_179 : decode cX6_prepare 179 = .ok (.invokevirtual 108, 3) := by decide +kernel
theorem dX6_prepare_182 : decode cX6_prepare 182 = .ok (.iastore, 1) := by decide +kernel
theorem dX6_prepare_183 : decode cX6_prepare 183 = .ok (.return_, 1) := by decide +kernel
def f_Rnd_prepare (n : Nat)   (σ : JSg) : Option (JSg) :=
  bd1 (f_JArr_fill_53178 n 109 6 0 σ) fun s1 => lt_ 0 fun v2 => wh2 n (fun rc3 (x4 : Int) (s5 : JSg) => if x4 < (s5 107 4) then (chk (0 ≤ x4 ∧ x4 < 10) <| lt_ (s5 108 x4.toNat) fun v14 => chk (0 ≤ v14 ∧ v14 < 28) <| chk (0 ≤ (s5 12 v14.toNat) ∧ (s5 12 v14.toNat) < 6) <| chk (0 ≤ (s5 12 v14.toNat) ∧ (s5 12 v14.toNat) < 6) <| lt_ (sp s5 109 (s5 12 v14.toNat).toNat (or32 (s5 109 (s5 12 v14.toNat).toNat) (sl32 1 x4))) fun s15 => chk (0 ≤ v14 ∧ v14 < 28) <| chk (0 ≤ (w32 (2 * x4)) ∧ (w32 (2 * x4)) < 23) <| lt_ (sp s15 110 (w32 (2 * x4)).toNat (s15 6 v14.toNat)) fun s16 => chk (0 ≤ v14 ∧ v14 < 28) <| chk (0 ≤ (w32 ((w32 (2 * x4)) + 1)) ∧ (w32 ((w32 (2 * x4)) + 1)) < 23) <| lt_ (sp s16 110 (w32 ((w32 (2 * x4)) + 1)).toNat (s16 7 v14.toNat)) fun s17 => chk (0 ≤ v14 ∧ v14 < 28) <| chk (0 ≤ (w32 (2 * x4)) ∧ (w32 (2 * x4)) < 23) <| lt_ (sp s17 111 (w32 (2 * x4)).toNat (s17 12 v14.toNat)) fun s18 => chk (0 ≤ v14 ∧ v14 < 28) <| chk (0 ≤ (w32 ((w32 (2 * x4)) + 1)) ∧ (w32 ((w32 (2 * x4)) + 1)) < 23) <| lt_ (sp s18 111 (w32 ((w32 (2 * x4)) + 1)).toNat (s18 12 v14.toNat)) fun s19 => lt_ (w32 (x4 + 1)) fun v20 => rc3 v20 s19) else (bd1 (f_Row_outer 11 4 0 s5) fun r6 => lt_ (sp s5 110 20 r6) fun s7 => bd1 (f_Row_outer 11 4 1 s7) fun r8 => lt_ (sp s7 110 21 r8) fun s9 => bd1 (f_Row_layerAt 11 4 0 s9) fun r10 => lt_ (sp s9 111 20 r10) fun s11 => bd1 (f_Row_layerAt 11 4 1 s11) fun r12 => lt_ (sp s11 111 21 r12) fun s13 => some s13)) v2 s1
set_option maxRecDepth 20000 in
set_option maxHeartbeats 4000000 in
theorem k_Rnd_prepare  (n : Nat)    (σ : JSg) : Call yX6_prepare cX6_prepare 3 none 2 SH RHO [vR 107] σ dVm (f_Rnd_prepare n σ) := by
  refine call_of_sim (by decide +kernel) (Nat.le_of_ble_eq_true rfl) ?_
  show Sim RX6 cX6_prepare 3 none 2 SH RHO 0 [(0, vR 107)] [] σ dVm (f_Rnd_prepare n σ)
  unfold f_Rnd_prepare
  refine sim_aload_n 0 rfl dX6_prepare_0 ?_
  refine sim_getR g_RX6_19 sh_107 rh_107_5 dX6_prepare_1 ?_
  refine sim_iconst dX6_prepare_4 (by decide) ?_
  refine sim_callSVm s_RX6_91 dX6_prepare_5 (k_JArr_fill_53178 SH RHO n 109 6 sh_109 (okI_lit (by decide)) 0 σ) rfl ⟨by decide, by decide⟩ (S := []) rfl (Nat.le_of_ble_eq_true rfl) (fun s1 => ?_)
  refine sim_iconst dX6_prepare_8 (by decide) ?_
  refine sim_istore_n (fun v2 => [(1, vI v2), (0, vR 107)]) (fun _ => rfl) (by decide) dX6_prepare_9 (fun v2 => ?_)
  refine sim_sub [1, 0] (L' := [(0, vR 107), (1, vI v2)]) rfl ?_
  refine sim_wh2 (fun (x4 : Int) (s5 : JSg) => [(0, vR 107), (1, vI x4)]) (fun (x4 : Int) (s5 : JSg) => s5) ?_ n v2 s1
  intro rc3 hrc3 x4 s5
  refine sim_iload_n 1 rfl dX6_prepare_10 ?_
  refine sim_aload_n 0 rfl dX6_prepare_11 ?_
  refine sim_getI g_RX6_15 sh_107 dX6_prepare_12 ?_
  refine sim_icmp_ge (tgt := 123) dX6_prepare_15 (by decide) ?_ ?_
  · refine sim_aload_n 0 rfl dX6_prepare_123 ?_
    refine sim_getR g_RX6_22 sh_107 rh_107_6 dX6_prepare_124 ?_
    refine sim_bipush dX6_prepare_127 (by decide +kernel) ?_
    refine sim_aload_n 0 rfl dX6_prepare_129 ?_
    refine sim_getR g_RX6_44 sh_107 rh_107_0 dX6_prepare_130 ?_
    refine sim_iconst dX6_prepare_133 (by decide) ?_
    refine sim_callVIp v_RX6_105 (LRow_o lay_11) dX6_prepare_134 (k_Row_outer SH RHO 11 4 lay_11 lay_4 0 s5) rfl ⟨by decide, by decide⟩ (S := [vI 20, vR 110]) rfl (Nat.le_of_ble_eq_true rfl) (fun r6 => ?_)
    refine sim_iastoreK (j := 20) sh_110 rfl (by decide) dX6_prepare_137 (fun s7 => ?_)
    refine sim_aload_n 0 rfl dX6_prepare_138 ?_
    refine sim_getR g_RX6_22 sh_107 rh_107_6 dX6_prepare_139 ?_
    refine sim_bipush dX6_prepare_142 (by decide +kernel) ?_
    refine sim_aload_n 0 rfl dX6_prepare_144 ?_
    refine sim_getR g_RX6_44 sh_107 rh_107_0 dX6_prepare_145 ?_
    refine sim_iconst dX6_prepare_148 (by decide) ?_
    refine sim_callVIp v_RX6_105 (LRow_o lay_11) dX6_prepare_149 (k_Row_outer SH RHO 11 4 lay_11 lay_4 1 s7) rfl ⟨by decide, by decide⟩ (S := [vI 21, vR 110]) rfl (Nat.le_of_ble_eq_true rfl) (fun r8 => ?_)
    refine sim_iastoreK (j := 21) sh_110 rfl (by decide) dX6_prepare_152 (fun s9 => ?_)
    refine sim_aload_n 0 rfl dX6_prepare_153 ?_
    refine sim_getR g_RX6_25 sh_107 rh_107_7 dX6_prepare_154 ?_
    refine sim_bipush dX6_prepare_157 (by decide +kernel) ?_
    refine sim_aload_n 0 rfl dX6_prepare_159 ?_
    refine sim_getR g_RX6_44 sh_107 rh_107_0 dX6_prepare_160 ?_
    refine sim_iconst dX6_prepare_163 (by decide) ?_
    refine sim_callVIp v_RX6_108 (LRow_o lay_11) dX6_prepare_164 (k_Row_layerAt SH RHO 11 4 lay_11 lay_4 0 s9) rfl ⟨by decide, by decide⟩ (S := [vI 20, vR 111]) rfl (Nat.le_of_ble_eq_true rfl) (fun r10 => ?_)
    refine sim_iastoreK (j := 20) sh_111 rfl (by decide) dX6_prepare_167 (fun s11 => ?_)
    refine sim_aload_n 0 rfl dX6_prepare_168 ?_
    refine sim_getR g_RX6_25 sh_107 rh_107_7 dX6_prepare_169 ?_
    refine sim_bipush dX6_prepare_172 (by decide +kernel) ?_
    refine sim_aload_n 0 rfl dX6_prepare_174 ?_
    refine sim_getR g_RX6_44 sh_107 rh_107_0 dX6_prepare_175 ?_
    refine sim_iconst dX6_prepare_178 (by decide) ?_
    refine sim_callVIp v_RX6_108 (LRow_o lay_11) dX6_prepare_179 (k_Row_layerAt SH RHO 11 4 lay_11 lay_4 1 s11) rfl ⟨by decide, by decide⟩ (S := [vI 21, vR 111]) rfl (Nat.le_of_ble_eq_true rfl) (fun r12 => ?_)
    refine sim_iastoreK (j := 21) sh_111 rfl (by decide) dX6_prepare_182 (fun s13 => ?_)
    exact sim_vret rfl rfl dX6_prepare_183
  · refine sim_aload_n 0 rfl dX6_prepare_18 ?_
    refine sim_getR g_RX6_11 sh_107 rh_107_3 dX6_prepare_19 ?_
    refine sim_iload_n 1 rfl dX6_prepare_22 ?_
    refine sim_iaload sh_108 rfl dX6_prepare_23 ?_
    refine sim_istore_n (fun v14 => [(2, vI v14), (0, vR 107), (1, vI x4)]) (fun _ => rfl) (by decide) dX6_prepare_24 (fun v14 => ?_)
    refine sim_aload_n 1 rfl dX6_prepare_25 ?_
    refine sim_getR g_RX6_19 sh_107 rh_107_5 dX6_prepare_26 ?_
    refine sim_aload_n 1 rfl dX6_prepare_29 ?_
    refine sim_getR g_RX6_44 sh_107 rh_107_0 dX6_prepare_30 ?_
    refine sim_getR g_RX6_94 (LRow_o lay_11) rh_11_1 dX6_prepare_33 ?_
    refine sim_iload_n 0 rfl dX6_prepare_36 ?_
    refine sim_iaload sh_12 rfl dX6_prepare_37 ?_
    refine sim_dup2 rfl rfl dX6_prepare_38 ?_
    refine sim_iaload sh_109 rfl dX6_prepare_39 ?_
    refine sim_iconst dX6_prepare_40 (by decide) ?_
    refine sim_iload_n 2 rfl dX6_prepare_41 ?_
    refine sim_ishl dX6_prepare_42 ?_
    refine sim_ior dX6_prepare_43 ?_
    refine sim_iastore sh_109 rfl dX6_prepare_44 (fun s15 => ?_)
    refine sim_aload_n 1 rfl dX6_prepare_45 ?_
    refine sim_getR g_RX6_22 sh_107 rh_107_6 dX6_prepare_46 ?_
    refine sim_iconst dX6_prepare_49 (by decide) ?_
    refine sim_iload_n 2 rfl dX6_prepare_50 ?_
    refine sim_imul dX6_prepare_51 ?_
    refine sim_aload_n 1 rfl dX6_prepare_52 ?_
    refine sim_getR g_RX6_54 sh_107 rh_107_1 dX6_prepare_53 ?_
    refine sim_getR g_RX6_97 (LIsl_o lay_4) rh_4_8 dX6_prepare_56 ?_
    refine sim_iload_n 0 rfl dX6_prepare_59 ?_
    refine sim_iaload sh_6 rfl dX6_prepare_60 ?_
    refine sim_iastore sh_110 rfl dX6_prepare_61 (fun s16 => ?_)
    refine sim_aload_n 1 rfl dX6_prepare_62 ?_
    refine sim_getR g_RX6_22 sh_107 rh_107_6 dX6_prepare_63 ?_
    refine sim_iconst dX6_prepare_66 (by decide) ?_
    refine sim_iload_n 2 rfl dX6_prepare_67 ?_
    refine sim_imul dX6_prepare_68 ?_
    refine sim_iconst dX6_prepare_69 (by decide) ?_
    refine sim_iadd dX6_prepare_70 ?_
    refine sim_aload_n 1 rfl dX6_prepare_71 ?_
    refine sim_getR g_RX6_54 sh_107 rh_107_1 dX6_prepare_72 ?_
    refine sim_getR g_RX6_102 (LIsl_o lay_4) rh_4_9 dX6_prepare_75 ?_
    refine sim_iload_n 0 rfl dX6_prepare_78 ?_
    refine sim_iaload sh_7 rfl dX6_prepare_79 ?_
    refine sim_iastore sh_110 rfl dX6_prepare_80 (fun s17 => ?_)
    refine sim_aload_n 1 rfl dX6_prepare_81 ?_
    refine sim_getR g_RX6_25 sh_107 rh_107_7 dX6_prepare_82 ?_
    refine sim_iconst dX6_prepare_85 (by decide) ?_
    refine sim_iload_n 2 rfl dX6_prepare_86 ?_
    refine sim_imul dX6_prepare_87 ?_
    refine sim_aload_n 1 rfl dX6_prepare_88 ?_
    refine sim_getR g_RX6_44 sh_107 rh_107_0 dX6_prepare_89 ?_
    refine sim_getR g_RX6_94 (LRow_o lay_11) rh_11_1 dX6_prepare_92 ?_
    refine sim_iload_n 0 rfl dX6_prepare_95 ?_
    refine sim_iaload sh_12 rfl dX6_prepare_96 ?_
    refine sim_iastore sh_111 rfl dX6_prepare_97 (fun s18 => ?_)
    refine sim_aload_n 1 rfl dX6_prepare_98 ?_
    refine sim_getR g_RX6_25 sh_107 rh_107_7 dX6_prepare_99 ?_
    refine sim_iconst dX6_prepare_102 (by decide) ?_
    refine sim_iload_n 2 rfl dX6_prepare_103 ?_
    refine sim_imul dX6_prepare_104 ?_
    refine sim_iconst dX6_prepare_105 (by decide) ?_
    refine sim_iadd dX6_prepare_106 ?_
    refine sim_aload_n 1 rfl dX6_prepare_107 ?_
    refine sim_getR g_RX6_44 sh_107 rh_107_0 dX6_prepare_108 ?_
    refine sim_getR g_RX6_94 (LRow_o lay_11) rh_11_1 dX6_prepare_111 ?_
    refine sim_iload_n 0 rfl dX6_prepare_114 ?_
    refine sim_iaload sh_12 rfl dX6_prepare_115 ?_
    refine sim_iastore sh_111 rfl dX6_prepare_116 (fun s19 => ?_)
    refine sim_iinc 2 rfl (fun v20 => [(1, vI v20), (2, vI v14), (0, vR 107)]) (fun _ => rfl) (by decide) dX6_prepare_117 (fun v20 => ?_)
    refine sim_goto (tgt := 10) dX6_prepare_120 (by decide) ?_
    exact sim_sub [2, 0] rfl (hrc3 v20 s19)
theorem dX6_missing_0 : decode cX6_missing 0 = .ok (.iconst 0, 1) := by decide +kernel
theorem dX6_missing_1 : decode cX6_missing 1 = .ok (.istore_n 2, 1) := by decide +kernel
theorem dX6_missing_2 : decode cX6_missing 2 = .ok (.iconst 0, 1) := by decide +kernel
theorem dX6_missing_3 : decode cX6_missing 3 = .ok (.istore_n 3, 1) := by decide +kernel
theorem dX6_missing_4 : decode cX6_missing 4 = .ok (.iload_n 3, 1) := by decide +kernel
theorem dX6_missing_5 : decode cX6_missing 5 = .ok (.bipush 6, 2) := by decide +kernel
theorem dX6_missing_7 : decode cX6_missing 7 = .ok (.if_icmp .ge 32, 3) := by decide +kernel
theorem dX6_missing_10 : decode cX6_missing 10 = .ok (.aload_n 0, 1) := by decide +kernel
theorem dX6_missing_11 : decode cX6_missing 11 = .ok (.getfield 19, 3) := by decide +kernel
theorem dX6_missing_14 : decode cX6_missing 14 = .ok (.iload_n 3, 1) := by decide +kernel
theorem dX6_missing_15 : decode cX6_missing 15 = .ok (.iaload, 1) := by decide +kernel
theorem dX6_missing_16 : decode cX6_missing 16 = .ok (.ifCond .eq 17, 3) := by decide +kernel
theorem dX6_missing_19 : decode cX6_missing 19 = .ok (.aload_n 0, 1) := by decide +kernel
theorem dX6_missing_20 : decode cX6_missing 20 = .ok (.getfield 19, 3) := by decide +kernel
theorem dX6_missing_23 : decode cX6_missing 23 = .ok (.iload_n 3, 1) := by decide +kernel
theorem dX6_missing_24 : decode cX6_missing 24 = .ok (.iaload, 1) := by decide +kernel
theorem dX6_missing_25 : decode cX6_missing 25 = .ok (.iload_n 1, 1) := by decide +kernel
theorem dX6_missing_26 : decode cX6_missing 26 = .ok (.iand, 1) := by decide +kernel
theorem dX6_missing_27 : decode cX6_missing 27 = .ok (.ifCond .ne 6, 3) := by decide +kernel
theorem dX6_missing_30 : decode cX6_missing 30 = .ok (.iinc 2 1, 3) := by decide +kernel
theorem dX6_missing_33 : decode cX6_missing 33 = .ok (.iinc 3 1, 3) := by decide +kernel
theorem dX6_missing_36 : decode cX6_missing 36 = .ok (.goto (-32), 3) := by decide +kernel
theorem dX6_missing_39 : decode cX6_missing 39 = .ok (.iload_n 2, 1) := by decide +kernel
theorem dX6_missing_40 : decode cX6_missing 40 = .ok (.ireturn, 1) := by decide +kernel
def f_Rnd_missing (n : Nat)  (a1 : Int) (σ : JSg) : Option (Int) :=
  lt_ 0 fun v1 => lt_ 0 fun v2 => wh2 n (fun rc3 (x4 : Int) (x5 : Int) => if x5 < 6 then (chk (0 ≤ x5 ∧ x5 < 6) <| jn1 (fun (y7 : Int) => lt_ (w32 (x5 + 1)) fun v8 => rc3 y7 v8) fun j6 => if (σ 109 x5.toNat) = 0 then (j6 x4) else (chk (0 ≤ x5 ∧ x5 < 6) <| if (an32 (σ 109 x5.toNat) a1) = 0 then (lt_ (w32 (x4 + 1)) fun v9 => j6 v9) else (j6 x4))) else (some x4)) v1 v2
set_option maxRecDepth 20000 in
set_option maxHeartbeats 4000000 in
theorem k_Rnd_missing  (n : Nat)   (a1 : Int) (σ : JSg) : Call yX6_missing cX6_missing 4 (some .int) 0 SH RHO [vR 107, vI a1] σ (dIp σ) (f_Rnd_missing n a1 σ) := by
  refine call_of_sim (by decide +kernel) (Nat.le_of_ble_eq_true rfl) ?_
  show Sim RX6 cX6_missing 4 (some .int) 0 SH RHO 0 [(0, vR 107), (1, vI a1)] [] σ (dIp σ) (f_Rnd_missing n a1 σ)
  unfold f_Rnd_missing
  refine sim_iconst dX6_missing_0 (by decide) ?_
  refine sim_istore_n (fun v1 => [(2, vI v1), (0, vR 107), (1, vI a1)]) (fun _ => rfl) (by decide) dX6_missing_1 (fun v1 => ?_)
  refine sim_iconst dX6_missing_2 (by decide) ?_
  refine sim_istore_n (fun v2 => [(3, vI v2), (2, vI v1), (0, vR 107), (1, vI a1)]) (fun _ => rfl) (by decide) dX6_missing_3 (fun v2 => ?_)
  refine sim_sub [2, 3, 1, 0] (L' := [(0, vR 107), (1, vI a1), (2, vI v1), (3, vI v2)]) rfl ?_
  refine sim_wh2 (fun (x4 : Int) (x5 : Int) => [(0, vR 107), (1, vI a1), (2, vI x4), (3, vI x5)]) (fun (x4 : Int) (x5 : Int) => σ) ?_ n v1 v2
  intro rc3 hrc3 x4 x5
  refine sim_iload_n 3 rfl dX6_missing_4 ?_
  refine sim_bipush dX6_missing_5 (by decide +kernel) ?_
  refine sim_icmp_ge (tgt := 39) dX6_missing_7 (by decide) ?_ ?_
  · refine sim_iload_n 2 rfl dX6_missing_39 ?_
    exact sim_iret rfl rfl dX6_missing_40
  · refine sim_aload_n 0 rfl dX6_missing_10 ?_
    refine sim_getR g_RX6_19 sh_107 rh_107_5 dX6_missing_11 ?_
    refine sim_iload_n 3 rfl dX6_missing_14 ?_
    refine sim_iaload sh_109 rfl dX6_missing_15 ?_
    refine sim_jn1 (pc' := 33) (fun (y7 : Int) => [(0, vR 107), (1, vI a1), (2, vI y7), (3, vI x5)]) (fun (y7 : Int) => []) (fun (y7 : Int) => σ) ?_ (fun j6 hj6 => ?_)
    · intro y7
      refine sim_iinc 3 rfl (fun v8 => [(3, vI v8), (0, vR 107), (1, vI a1), (2, vI y7)]) (fun _ => rfl) (by decide) dX6_missing_33 (fun v8 => ?_)
      refine sim_goto (tgt := 4) dX6_missing_36 (by decide) ?_
      exact sim_sub [1, 2, 3, 0] rfl (hrc3 y7 v8)
    refine sim_if_eq (tgt := 33) dX6_missing_16 (by decide) ?_ ?_
    · exact sim_sub [0, 1, 2, 3] rfl (hj6 x4)
    · refine sim_aload_n 0 rfl dX6_missing_19 ?_
      refine sim_getR g_RX6_19 sh_107 rh_107_5 dX6_missing_20 ?_
      refine sim_iload_n 3 rfl dX6_missing_23 ?_
      refine sim_iaload sh_109 rfl dX6_missing_24 ?_
      refine sim_iload_n 1 rfl dX6_missing_25 ?_
      refine sim_iand dX6_missing_26 ?_
      refine sim_if_ne (tgt := 33) dX6_missing_27 (by decide) ?_ ?_
      · exact sim_sub [0, 1, 2, 3] rfl (hj6 x4)
      · refine sim_iinc 2 rfl (fun v9 => [(2, vI v9), (0, vR 107), (1, vI a1), (3, vI x5)]) (fun _ => rfl) (by decide) dX6_missing_30 (fun v9 => ?_)
        exact sim_sub [1, 2, 0, 3] rfl (hj6 v9)
theorem dX6_placeOf_0 : decode cX6_placeOf 0 = .ok (.iload_n 0, 1) := by decide +kernel
theorem dX6_placeOf_1 : decode cX6_placeOf 1 = .ok (.bipush 10, 2) := by decide +kernel
theorem dX6_placeOf_3 : decode cX6_placeOf 3 = .ok (.ishl, 1) := by decide +kernel
theorem dX6_placeOf_4 : decode cX6_placeOf 4 = .ok (.iload_n 1, 1) := by decide +kernel
theorem dX6_placeOf_5 : decode cX6_placeOf 5 = .ok (.iconst 5, 1) := by decide +kernel
theorem dX6_placeOf_6 : decode cX6_placeOf 6 = .ok (.ishl, 1) := by decide +kernel
theorem dX6_placeOf_7 : decode cX6_placeOf 7 = .ok (.ior, 1) := by decide +kernel
theorem dX6_placeOf_8 : decode cX6_placeOf 8 = .ok (.iload_n 2, 1) := by decide +kernel
theorem dX6_placeOf_9 : decode cX6_placeOf 9 = .ok (.ior, 1) := by decide +kernel
theorem dX6_placeOf_10 : decode cX6_placeOf 10 = .ok (.ireturn, 1) := by decide +kernel
def f_Rnd_placeOf   (a1 : Int) (a2 : Int) (a3 : Int) (σ : JSg) : Option (Int) :=
  some (or32 (or32 (sl32 a1 10) (sl32 a2 5)) a3)
set_option maxRecDepth 20000 in
set_option maxHeartbeats 4000000 in
theorem k_Rnd_placeOf (Sh : JSh) (ρ : JRo)    (a1 : Int) (a2 : Int) (a3 : Int) (σ : JSg) : Call yX6_placeOf cX6_placeOf 3 (some .int) 0 Sh ρ [vI a1, vI a2, vI a3] σ (dIp σ) (f_Rnd_placeOf a1 a2 a3 σ) := by
  refine call_of_sim (by decide +kernel) (Nat.le_of_ble_eq_true rfl) ?_
  show Sim RX6 cX6_placeOf 3 (some .int) 0 Sh ρ 0 [(0, vI a1), (1, vI a2), (2, vI a3)] [] σ (dIp σ) (f_Rnd_placeOf a1 a2 a3 σ)
  unfold f_Rnd_placeOf
  refine sim_iload_n 0 rfl dX6_placeOf_0 ?_
  refine sim_bipush dX6_placeOf_1 (by decide +kernel) ?_
  refine sim_ishl dX6_placeOf_3 ?_
  refine sim_iload_n 1 rfl dX6_placeOf_4 ?_
  refine sim_iconst dX6_placeOf_5 (by decide) ?_
  refine sim_ishl dX6_placeOf_6 ?_
  refine sim_ior dX6_placeOf_7 ?_
  refine sim_iload_n 2 rfl dX6_placeOf_8 ?_
  refine sim_ior dX6_placeOf_9 ?_
  exact sim_iret rfl rfl dX6_placeOf_10
theorem dX6_enter_0 : decode cX6_enter 0 = .ok (.iload_n 1, 1) := by decide +kernel
theorem dX6_enter_1 : decode cX6_enter 1 = .ok (.bipush 6, 2) := by decide +kernel
theorem dX6_enter_3 : decode cX6_enter 3 = .ok (.ishr, 1) := by decide +kernel
theorem dX6_enter_4 : decode cX6_enter 4 = .ok (.istore_n 2, 1) := by decide +kernel
theorem dX6_enter_5 : decode cX6_enter 5 = .ok (.lconst 1, 1) := by decide +kernel
theorem dX6_enter_6 : decode cX6_enter 6 = .ok (.iload_n 1, 1) := by decide +kernel
theorem dX6_enter_7 : decode cX6_enter 7 = .ok (.bipush 63, 2) := by decide +kernel
theorem dX6_enter_9 : decode cX6_enter 9 = .ok (.iand, 1) := by decide +kernel
theorem dX6_enter_10 : decode cX6_enter 10 = .ok (.lshl, 1) := by decide +kernel
theorem dX6_enter_11 : decode cX6_enter 11 = .ok (.lstore_n 3, 1) := by decide +kernel
theorem dX6_enter_12 : decode cX6_enter 12 = .ok (.iload_n 2, 1) := by decide +kernel
theorem dX6_enter_13 : decode cX6_enter 13 = .ok (.ifCond .lt 12, 3) := by decide +kernel
theorem dX6_enter_16 : decode cX6_enter 16 = .ok (.iload_n 2, 1) := by decide +kernel
theorem dX6_enter_17 : decode cX6_enter 17 = .ok (.aload_n 0, 1) := by decide +kernel
theorem dX6_enter_18 : decode cX6_enter 18 = .ok (.getfield 55, 3) := by decide +kernel
theorem dX6_enter_21 : decode cX6_enter 21 = .ok (.arraylength, 1) := by decide +kernel
theorem dX6_enter_22 : decode cX6_enter 22 = .ok (.if_icmp .lt 5, 3) := by decide +kernel
theorem dX6_enter_25 : decode cX6_enter 25 = .ok (.iconst 1, 1) := by decide +kernel
theorem dX6_enter_26 : decode cX6_enter 26 = .ok (.ireturn, 1) := by decide +kernel
theorem dX6_enter_27 : decode cX6_enter 27 = .ok (.aload_n 0, 1) := by decide +kernel
theorem dX6_enter_28 : decode cX6_enter 28 = .ok (.getfield 55, 3) := by decide +kernel
theorem dX6_enter_31 : decode cX6_enter 31 = .ok (.iload_n 2, 1) := by decide +kernel
theorem dX6_enter_32 : decode cX6_enter 32 = .ok (.laload, 1) := by decide +kernel
theorem dX6_enter_33 : decode cX6_enter 33 = .ok (.lload_n 3, 1) := by decide +kernel
theorem dX6_enter_34 : decode cX6_enter 34 = .ok (.land, 1) := by decide +kernel
theorem dX6_enter_35 : decode cX6_enter 35 = .ok (.lconst 0, 1) := by decide +kernel
theorem dX6_enter_36 : decode cX6_enter 36 = .ok (.lcmp, 1) := by decide +kernel
theorem dX6_enter_37 : decode cX6_enter 37 = .ok (.ifCond .eq 5, 3) := by decide +kernel
theorem dX6_enter_40 : decode cX6_enter 40 = .ok (.iconst 0, 1) := by decide +kernel
theorem dX6_enter_41 : decode cX6_enter 41 = .ok (.ireturn, 1) := by decide +kernel
theorem dX6_enter_42 : decode cX6_enter 42 = .ok (.aload_n 0, 1) := by decide +kernel
theorem dX6_enter_43 : decode cX6_enter 43 = .ok (.getfield 55, 3) := by decide +kernel
theorem dX6_enter_46 : decode cX6_enter 46 = .ok (.iload_n 2, 1) := by decide +kernel
theorem dX6_enter_47 : decode cX6_enter 47 = .ok (.dup2, 1) := by decide +kernel
theorem dX6_enter_48 : decode cX6_enter 48 = .ok (.laload, 1) := by decide +kernel
theorem dX6_enter_49 : decode cX6_enter 49 = .ok (.lload_n 3, 1) := by decide +kernel
theorem dX6_enter_50 : decode cX6_enter 50 = .ok (.lor, 1) := by decide +kernel
theorem dX6_enter_51 : decode cX6_enter 51 = .ok (.lastore, 1) := by decide +kernel
theorem dX6_enter_52 : decode cX6_enter 52 = .ok (.iconst 1, 1) := by decide +kernel
theorem dX6_enter_53 : decode cX6_enter 53 = .ok (.ireturn, 1) := by decide +kernel
def f_Rnd_enter   (a1 : Int) (σ : JSg) : Option (Int × JSg) :=
  lt_ (sr32 a1 6) fun v1 => lt_ (sl64 1 (an32 a1 63)) fun v2 => if v1 < 0 then (some (1, σ)) else (if v1 < 32768 then (chk (0 ≤ v1 ∧ v1 < 32768) <| if (cmpL (an64 (σ 103 v1.toNat) v2) 0) = 0 then (chk (0 ≤ v1 ∧ v1 < 32768) <| chk (0 ≤ v1 ∧ v1 < 32768) <| lt_ (sp σ 103 v1.toNat (or64 (σ 103 v1.toNat) v2)) fun s3 => some (1, s3)) else (some (0, σ))) else (some (1, σ)))
set_option maxRecDepth 20000 in
set_option maxHeartbeats 4000000 in
theorem k_Rnd_enter     (a1 : Int) (σ : JSg) : Call yX6_enter cX6_enter 5 (some .boolean) 0 SH RHO [vR 107, vI a1] σ dIm (f_Rnd_enter a1 σ) := by
  refine call_of_sim (by decide +kernel) (Nat.le_of_ble_eq_true rfl) ?_
  show Sim RX6 cX6_enter 5 (some .boolean) 0 SH RHO 0 [(0, vR 107), (1, vI a1)] [] σ dIm (f_Rnd_enter a1 σ)
  unfold f_Rnd_enter
  refine sim_iload_n 1 rfl dX6_enter_0 ?_
  refine sim_bipush dX6_enter_1 (by decide +kernel) ?_
  refine sim_ishr dX6_enter_3 ?_
  refine sim_istore_n (fun v1 => [(2, vI v1), (0, vR 107), (1, vI a1)]) (fun _ => rfl) (by decide) dX6_enter_4 (fun v1 => ?_)
  refine sim_lconst (v := 1) dX6_enter_5 (by decide +kernel) ?_
  refine sim_iload_n 2 rfl dX6_enter_6 ?_
  refine sim_bipush dX6_enter_7 (by decide +kernel) ?_
  refine sim_iand dX6_enter_9 ?_
  refine sim_lshl dX6_enter_10 ?_
  refine sim_lstore_n (fun v2 => [(3, vL v2), (2, vI v1), (0, vR 107), (1, vI a1)]) (fun _ => rfl) (by decide) dX6_enter_11 (fun v2 => ?_)
  refine sim_iload_n 1 rfl dX6_enter_12 ?_
  refine sim_if_lt (tgt := 25) dX6_enter_13 (by decide) ?_ ?_
  · refine sim_iconst dX6_enter_25 (by decide) ?_
    exact sim_zret (Or.inr rfl) rfl rfl dX6_enter_26
  · refine sim_iload_n 1 rfl dX6_enter_16 ?_
    refine sim_aload_n 2 rfl dX6_enter_17 ?_
    refine sim_getR g_RX6_55 sh_107 rh_107_2 dX6_enter_18 ?_
    refine sim_alen sh_103 (by decide) ⟨rfl, okI_lit (by decide)⟩ dX6_enter_21 ?_
    refine sim_icmp_lt (tgt := 27) dX6_enter_22 (by decide) ?_ ?_
    · refine sim_aload_n 2 rfl dX6_enter_27 ?_
      refine sim_getR g_RX6_55 sh_107 rh_107_2 dX6_enter_28 ?_
      refine sim_iload_n 1 rfl dX6_enter_31 ?_
      refine sim_laload sh_103 rfl dX6_enter_32 ?_
      refine sim_lload_n 0 rfl dX6_enter_33 ?_
      refine sim_land dX6_enter_34 ?_
      refine sim_lconst (v := 0) dX6_enter_35 (by decide +kernel) ?_
      refine sim_lcmp dX6_enter_36 ?_
      refine sim_if_eq (tgt := 42) dX6_enter_37 (by decide) ?_ ?_
      · refine sim_aload_n 2 rfl dX6_enter_42 ?_
        refine sim_getR g_RX6_55 sh_107 rh_107_2 dX6_enter_43 ?_
        refine sim_iload_n 1 rfl dX6_enter_46 ?_
        refine sim_dup2 rfl rfl dX6_enter_47 ?_
        refine sim_laload sh_103 rfl dX6_enter_48 ?_
        refine sim_lload_n 0 rfl dX6_enter_49 ?_
        refine sim_lor dX6_enter_50 ?_
        refine sim_lastore sh_103 rfl dX6_enter_51 (fun s3 => ?_)
        refine sim_iconst dX6_enter_52 (by decide) ?_
        exact sim_zret (Or.inr rfl) rfl rfl dX6_enter_53
      · refine sim_iconst dX6_enter_40 (by decide) ?_
        exact sim_zret (Or.inl rfl) rfl rfl dX6_enter_41
    · refine sim_iconst dX6_enter_25 (by decide) ?_
      exact sim_zret (Or.inr rfl) rfl rfl dX6_enter_26
theorem dX6_laidOn_0 : decode cX6_laidOn 0 = .ok (.aload_n 0, 1) := by decide +kernel
theorem dX6_laidOn_1 : decode cX6_laidOn 1 = .ok (.getfield 25, 3) := by decide +kernel
theorem dX6_laidOn_4 : decode cX6_laidOn 4 = .ok (.iload_n 2, 1) := by decide +kernel
theorem dX6_laidOn_5 : decode cX6_laidOn 5 = .ok (.iaload, 1) := by decide +kernel
theorem dX6_laidOn_6 : decode cX6_laidOn 6 = .ok (.aload_n 0, 1) := by decide +kernel
theorem dX6_laidOn_7 : decode cX6_laidOn 7 = .ok (.getfield 25, 3) := by decide +kernel
theorem dX6_laidOn_10 : decode cX6_laidOn 10 = .ok (.iconst 2, 1) := by decide +kernel
theorem dX6_laidOn_11 : decode cX6_laidOn 11 = .ok (.iload_n 1, 1) := by decide +kernel
theorem dX6_laidOn_12 : decode cX6_laidOn 12 = .ok (.imul, 1) := by decide +kernel
theorem dX6_laidOn_13 : decode cX6_laidOn 13 = .ok (.iaload, 1) := by decide +kernel
theorem dX6_laidOn_14 : decode cX6_laidOn 14 = .ok (.if_icmp .ne 5, 3) := by decide +kernel
theorem dX6_laidOn_17 : decode cX6_laidOn 17 = .ok (.iconst (-1), 1) := by decide +kernel
theorem dX6_laidOn_18 : decode cX6_laidOn 18 = .ok (.ireturn, 1) := by decide +kernel
theorem dX6_laidOn_19 : decode cX6_laidOn 19 = .ok (.aload_n 0, 1) := by decide +kernel
theorem dX6_laidOn_20 : decode cX6_laidOn 20 = .ok (.getfield 54, 3) := by decide +kernel
theorem dX6_laidOn_23 : decode cX6_laidOn 23 = .ok (.aload_n 0, 1) := by decide +kernel
theorem dX6_laidOn_24 : decode cX6_laidOn 24 = .ok (.getfield 22, 3) := by decide +kernel
theorem dX6_laidOn_27 : decode cX6_laidOn 27 = .ok (.iconst 2, 1) := by decide +kernel
theorem dX6_laidOn_28 : decode cX6_laidOn 28 = .ok (.iload_n 1, 1) := by decide +kernel
theorem dX6_laidOn_29 : decode cX6_laidOn 29 = .ok (.imul, 1) := by decide +kernel
theorem dX6_laidOn_30 : decode cX6_laidOn 30 = .ok (.iaload, 1) := by decide +kernel
theorem dX6_laidOn_31 : decode cX6_laidOn 31 = .ok (.aload_n 0, 1) := by decide +kernel
theorem dX6_laidOn_32 : decode cX6_laidOn 32 = .ok (.getfield 22, 3) := by decide +kernel
theorem dX6_laidOn_35 : decode cX6_laidOn 35 = .ok (.iload_n 2, 1) := by decide +kernel
theorem dX6_laidOn_36 : decode cX6_laidOn 36 = .ok (.iaload, 1) := by decide +kernel
theorem dX6_laidOn_37 : decode cX6_laidOn 37 = .ok (.invokevirtual 123, 3) := by decide +kernel
theorem dX6_laidOn_40 : decode cX6_laidOn 40 = .ok (.ifCond .eq 9, 3) := by decide +kernel
theorem dX6_laidOn_43 : decode cX6_laidOn 43 = .ok (.iconst 2, 1) := by decide +kernel
theorem dX6_laidOn_44 : decode cX6_laidOn 44 = .ok (.iload_n 1, 1) := by decide +kernel
theorem dX6_laidOn_45 : decode cX6_laidOn 45 = .ok (.imul, 1) := by decide +kernel
theorem dX6_laidOn_46 : decode cX6_laidOn 46 = .ok (.iconst 1, 1) := by decide +kernel
theorem dX6_laidOn_47 : decode cX6_laidOn 47 = .ok (.iadd, 1) := by decide +kernel
theorem dX6_laidOn_48 : decode cX6_laidOn 48 = .ok (.ireturn, 1) := by decide +kernel
theorem dX6_laidOn_49 : decode cX6_laidOn 49 = .ok (.aload_n 0, 1) := by decide +kernel
theorem dX6_laidOn_50 : decode cX6_laidOn 50 = .ok (.getfield 54, 3) := by decide +kernel
theorem dX6_laidOn_53 : decode cX6_laidOn 53 = .ok (.aload_n 0, 1) := by decide +kernel
theorem dX6_laidOn_54 : decode cX6_laidOn 54 = .ok (.getfield 22, 3) := by decide +kernel
theorem dX6_laidOn_57 : decode cX6_laidOn 57 = .ok (.iconst 2, 1) := by decide +kernel
theorem dX6_laidOn_58 : decode cX6_laidOn 58 = .ok (.iload_n 1, 1) := by decide +kernel
theorem dX6_laidOn_59 : decode cX6_laidOn 59 = .ok (.imul, 1) := by decide +kernel
theorem dX6_laidOn_60 : decode cX6_laidOn 60 = .ok (.iconst 1, 1) := by decide +kernel
theorem dX6_laidOn_61 : decode cX6_laidOn 61 = .ok (.iadd, 1) := by decide +kernel
theorem dX6_laidOn_62 : decode cX6_laidOn 62 = .ok (.iaload, 1) := by decide +kernel
theorem dX6_laidOn_63 : decode cX6_laidOn 63 = .ok (.aload_n 0, 1) := by decide +kernel
theorem dX6_laidOn_64 : decode cX6_laidOn 64 = .ok (.getfield 22, 3) := by decide +kernel
theorem dX6_laidOn_67 : decode cX6_laidOn 67 = .ok (.iload_n 2, 1) := by decide +kernel
theorem dX6_laidOn_68 : decode cX6_laidOn 68 = .ok (.iaload, 1) := by decide +kernel
theorem dX6_laidOn_69 : decode cX6_laidOn 69 = .ok (.invokevirtual 123, 3) := by decide +kernel
theorem dX6_laidOn_72 : decode cX6_laidOn 72 = .ok (.ifCond .eq 9, 3) := by decide +kernel
theorem dX6_laidOn_75 : decode cX6_laidOn 75 = .ok (.iconst 2, 1) := by decide +kernel
theorem dX6_laidOn_76 : decode cX6_laidOn 76 = .ok (.iload_n 1, 1) := by decide +kernel
theorem dX6_laidOn_77 : decode cX6_laidOn 77 = .ok (.imul, 1) := by decide +kernel
theorem dX6_laidOn_78 : decode cX6_laidOn 78 = .ok (.goto 4, 3) := by decide +kernel
theorem dX6_laidOn_81 : decode cX6_laidOn 81 = .ok (.iconst (-1), 1) := by decide +kernel
theorem dX6_laidOn_82 : decode cX6_laidOn 82 = .ok (.ireturn, 1) := by decide +kernel
def f_Rnd_laidOn   (a1 : Int) (a2 : Int) (σ : JSg) : Option (Int) :=
  chk (0 ≤ a2 ∧ a2 < 23) <| chk (0 ≤ (w32 (2 * a1)) ∧ (w32 (2 * a1)) < 23) <| if (σ 111 a2.toNat) = (σ 111 (w32 (2 * a1)).toNat) then (some (-1)) else (chk (0 ≤ (w32 (2 * a1)) ∧ (w32 (2 * a1)) < 23) <| chk (0 ≤ a2 ∧ a2 < 23) <| bd1 (f_Isl_fit 4 (σ 110 (w32 (2 * a1)).toNat) (σ 110 a2.toNat) σ) fun r1 => if r1 = 0 then (chk (0 ≤ (w32 ((w32 (2 * a1)) + 1)) ∧ (w32 ((w32 (2 * a1)) + 1)) < 23) <| chk (0 ≤ a2 ∧ a2 < 23) <| bd1 (f_Isl_fit 4 (σ 110 (w32 ((w32 (2 * a1)) + 1)).toNat) (σ 110 a2.toNat) σ) fun r2 => if r2 = 0 then (some (-1)) else (some (w32 (2 * a1)))) else (some (w32 ((w32 (2 * a1)) + 1))))
set_option maxRecDepth 20000 in
set_option maxHeartbeats 4000000 in
theorem k_Rnd_laidOn     (a1 : Int) (a2 : Int) (σ : JSg) : Call yX6_laidOn cX6_laidOn 3 (some .int) 1 SH RHO [vR 107, vI a1, vI a2] σ (dIp σ) (f_Rnd_laidOn a1 a2 σ) := by
  refine call_of_sim (by decide +kernel) (Nat.le_of_ble_eq_true rfl) ?_
  show Sim RX6 cX6_laidOn 3 (some .int) 1 SH RHO 0 [(0, vR 107), (1, vI a1), (2, vI a2)] [] σ (dIp σ) (f_Rnd_laidOn a1 a2 σ)
  unfold f_Rnd_laidOn
  refine sim_aload_n 0 rfl dX6_laidOn_0 ?_
  refine sim_getR g_RX6_25 sh_107 rh_107_7 dX6_laidOn_1 ?_
  refine sim_iload_n 2 rfl dX6_laidOn_4 ?_
  refine sim_iaload sh_111 rfl dX6_laidOn_5 ?_
  refine sim_aload_n 0 rfl dX6_laidOn_6 ?_
  refine sim_getR g_RX6_25 sh_107 rh_107_7 dX6_laidOn_7 ?_
  refine sim_iconst dX6_laidOn_10 (by decide) ?_
  refine sim_iload_n 1 rfl dX6_laidOn_11 ?_
  refine sim_imul dX6_laidOn_12 ?_
  refine sim_iaload sh_111 rfl dX6_laidOn_13 ?_
  refine sim_icmp_ne (tgt := 19) dX6_laidOn_14 (by decide) ?_ ?_
  · refine sim_aload_n 0 rfl dX6_laidOn_19 ?_
    refine sim_getR g_RX6_54 sh_107 rh_107_1 dX6_laidOn_20 ?_
    refine sim_aload_n 0 rfl dX6_laidOn_23 ?_
    refine sim_getR g_RX6_22 sh_107 rh_107_6 dX6_laidOn_24 ?_
    refine sim_iconst dX6_laidOn_27 (by decide) ?_
    refine sim_iload_n 1 rfl dX6_laidOn_28 ?_
    refine sim_imul dX6_laidOn_29 ?_
    refine sim_iaload sh_110 rfl dX6_laidOn_30 ?_
    refine sim_aload_n 0 rfl dX6_laidOn_31 ?_
    refine sim_getR g_RX6_22 sh_107 rh_107_6 dX6_laidOn_32 ?_
    refine sim_iload_n 2 rfl dX6_laidOn_35 ?_
    refine sim_iaload sh_110 rfl dX6_laidOn_36 ?_
    refine sim_callVIp v_RX6_123 (LIsl_o lay_4) dX6_laidOn_37 (k_Isl_fit SH RHO 4 lay_4 (σ 110 (w32 (2 * a1)).toNat) (σ 110 a2.toNat) σ) rfl ⟨by decide, by decide⟩ (S := []) rfl (Nat.le_of_ble_eq_true rfl) (fun r1 => ?_)
    refine sim_if_eq (tgt := 49) dX6_laidOn_40 (by decide) ?_ ?_
    · refine sim_aload_n 0 rfl dX6_laidOn_49 ?_
      refine sim_getR g_RX6_54 sh_107 rh_107_1 dX6_laidOn_50 ?_
      refine sim_aload_n 0 rfl dX6_laidOn_53 ?_
      refine sim_getR g_RX6_22 sh_107 rh_107_6 dX6_laidOn_54 ?_
      refine sim_iconst dX6_laidOn_57 (by decide) ?_
      refine sim_iload_n 1 rfl dX6_laidOn_58 ?_
      refine sim_imul dX6_laidOn_59 ?_
      refine sim_iconst dX6_laidOn_60 (by decide) ?_
      refine sim_iadd dX6_laidOn_61 ?_
      refine sim_iaload sh_110 rfl dX6_laidOn_62 ?_
      refine sim_aload_n 0 rfl dX6_laidOn_63 ?_
      refine sim_getR g_RX6_22 sh_107 rh_107_6 dX6_laidOn_64 ?_
      refine sim_iload_n 2 rfl dX6_laidOn_67 ?_
      refine sim_iaload sh_110 rfl dX6_laidOn_68 ?_
      refine sim_callVIp v_RX6_123 (LIsl_o lay_4) dX6_laidOn_69 (k_Isl_fit SH RHO 4 lay_4 (σ 110 (w32 ((w32 (2 * a1)) + 1)).toNat) (σ 110 a2.toNat) σ) rfl ⟨by decide, by decide⟩ (S := []) rfl (Nat.le_of_ble_eq_true rfl) (fun r2 => ?_)
      refine sim_if_eq (tgt := 81) dX6_laidOn_72 (by decide) ?_ ?_
      · refine sim_iconst dX6_laidOn_81 (by decide) ?_
        exact sim_iret rfl rfl dX6_laidOn_82
      · refine sim_iconst dX6_laidOn_75 (by decide) ?_
        refine sim_iload_n 1 rfl dX6_laidOn_76 ?_
        refine sim_imul dX6_laidOn_77 ?_
        refine sim_goto (tgt := 82) dX6_laidOn_78 (by decide) ?_
        exact sim_iret rfl rfl dX6_laidOn_82
    · refine sim_iconst dX6_laidOn_43 (by decide) ?_
      refine sim_iload_n 1 rfl dX6_laidOn_44 ?_
      refine sim_imul dX6_laidOn_45 ?_
      refine sim_iconst dX6_laidOn_46 (by decide) ?_
      refine sim_iadd dX6_laidOn_47 ?_
      exact sim_iret rfl rfl dX6_laidOn_48
  · refine sim_iconst dX6_laidOn_17 (by decide) ?_
    exact sim_iret rfl rfl dX6_laidOn_18
theorem dX6_search_0 : decode cX6_search 0 = .ok (.aload_n 0, 1) := by decide +kernel
theorem dX6_search_1 : decode cX6_search 1 = .ok (.iload_n 1, 1) := by decide +kernel
theorem dX6_search_2 : decode cX6_search 2 = .ok (.invokevirtual 67, 3) := by decide +kernel
theorem dX6_search_5 : decode cX6_search 5 = .ok (.istore 5, 2) := by decide +kernel
theorem dX6_search_7 : decode cX6_search 7 = .ok (.iload 5, 2) := by decide +kernel
theorem dX6_search_9 : decode cX6_search 9 = .ok (.ifCond .ne 5, 3) := by decide +kernel
theorem dX6_search_12 : decode cX6_search 12 = .ok (.iconst 1, 1) := by decide +kernel
theorem dX6_search_13 : decode cX6_search 13 = .ok (.ireturn, 1) := by decide +kernel
theorem dX6_search_14 : decode cX6_search 14 = .ok (.iload 5, 2) := by decide +kernel
theorem dX6_search_16 : decode cX6_search 16 = .ok (.aload_n 0, 1) := by decide +kernel
theorem dX6_search_17 : decode cX6_search 17 = .ok (.getfield 31, 3) := by decide +kernel
theorem dX6_search_20 : decode cX6_search 20 = .ok (.iload 4, 2) := by decide +kernel
theorem dX6_search_22 : decode cX6_search 22 = .ok (.isub, 1) := by decide +kernel
theorem dX6_search_23 : decode cX6_search 23 = .ok (.if_icmp .gt 10, 3) := by decide +kernel
theorem dX6_search_26 : decode cX6_search 26 = .ok (.iload 4, 2) := by decide +kernel
theorem dX6_search_28 : decode cX6_search 28 = .ok (.bipush 10, 2) := by decide +kernel
theorem dX6_search_30 : decode cX6_search 30 = .ok (.if_icmp .lt 10, 3) := by decide +kernel
theorem dX6_search_33 : decode cX6_search 33 = .ok (.aload_n 0, 1) := by decide +kernel
theorem dX6_search_34 : decode cX6_search 34 = .ok (.iconst 1, 1) := by decide +kernel
theorem dX6_search_35 : decode cX6_search 35 = .ok (.putfield 34, 3) := by decide +kernel
theorem dX6_search_38 : decode cX6_search 38 = .ok (.iconst 0, 1) := by decide +kernel
theorem dX6_search_39 : decode cX6_search 39 = .ok (.ireturn, 1) := by decide +kernel
theorem dX6_search_40 : decode cX6_search 40 = .ok (.aload_n 0, 1) := by decide +kernel
theorem dX6_search_41 : decode cX6_search 41 = .ok (.iload_n 1, 1) := by decide +kernel
theorem dX6_search_42 : decode cX6_search 42 = .ok (.iload_n 2, 1) := by decide +kernel
theorem dX6_search_43 : decode cX6_search 43 = .ok (.iload_n 3, 1) := by decide +kernel
theorem dX6_search_44 : decode cX6_search 44 = .ok (.invokestatic 71, 3) := by decide +kernel
theorem dX6_search_47 : decode cX6_search 47 = .ok (.invokevirtual 111, 3) := by decide +kernel
theorem dX6_search_50 : decode cX6_search 50 = .ok (.ifCond .ne 5, 3) := by decide +kernel
theorem dX6_search_53 : decode cX6_search 53 = .ok (.iconst 0, 1) := by decide +kernel
theorem dX6_search_54 : decode cX6_search 54 = .ok (.ireturn, 1) := by decide +kernel
theorem dX6_search_55 : decode cX6_search 55 = .ok (.iconst 0, 1) := by decide +kernel
theorem dX6_search_56 : decode cX6_search 56 = .ok (.istore 6, 2) := by decide +kernel
theorem dX6_search_58 : decode cX6_search 58 = .ok (.iload 6, 2) := by decide +kernel
theorem dX6_search_60 : decode cX6_search 60 = .ok (.iconst 2, 1) := by decide +kernel
theorem dX6_search_61 : decode cX6_search 61 = .ok (.aload_n 0, 1) := by decide +kernel
theorem dX6_search_62 : decode cX6_search 62 = .ok (.getfield 15, 3) := by decide +kernel
theorem dX6_search_65 : decode cX6_search 65 = .ok (.imul, 1) := by decide +kernel
theorem dX6_search_66 : decode cX6_search 66 = .ok (.if_icmp .ge 59, 3) := by decide +kernel
theorem dX6_search_69 : decode cX6_search 69 = .ok (.aload_n 0, 1) := by decide +kernel
theorem dX6_search_70 : decode cX6_search 70 = .ok (.getfield 28, 3) := by decide +kernel
theorem dX6_search_73 : decode cX6_search 73 = .ok (.iload 4, 2) := by decide +kernel
theorem dX6_search_75 : decode cX6_search 75 = .ok (.iconst 2, 1) := by decide +kernel
theorem dX6_search_76 : decode cX6_search 76 = .ok (.aload_n 0, 1) := by decide +kernel
theorem dX6_search_77 : decode cX6_search 77 = .ok (.getfield 11, 3) := by decide +kernel
theorem dX6_search_80 : decode cX6_search 80 = .ok (.iload 6, 2) := by decide +kernel
theorem dX6_search_82 : decode cX6_search 82 = .ok (.iconst 1, 1) := by decide +kernel
theorem dX6_search_83 : decode cX6_search 83 = .ok (.ishr, 1) := by decide +kernel
theorem dX6_search_84 : decode cX6_search 84 = .ok (.iaload, 1) := by decide +kernel
theorem dX6_search_85 : decode cX6_search 85 = .ok (.imul, 1) := by decide +kernel
theorem dX6_search_86 : decode cX6_search 86 = .ok (.iload 6, 2) := by decide +kernel
theorem dX6_search_88 : decode cX6_search 88 = .ok (.iconst 1, 1) := by decide +kernel
theorem dX6_search_89 : decode cX6_search 89 = .ok (.iand, 1) := by decide +kernel
theorem dX6_search_90 : decode cX6_search 90 = .ok (.iadd, 1) := by decide +kernel
theorem dX6_search_91 : decode cX6_search 91 = .ok (.iastore, 1) := by decide +kernel
theorem dX6_search_92 : decode cX6_search 92 = .ok (.iload_n 1, 1) := by decide +kernel
theorem dX6_search_93 : decode cX6_search 93 = .ok (.iload 6, 2) := by decide +kernel
theorem dX6_search_95 : decode cX6_search 95 = .ok (.iconst 1, 1) := by decide +kernel
theorem dX6_search_96 : decode cX6_search 96 = .ok (.ishr, 1) := by decide +kernel
theorem dX6_search_97 : decode cX6_search 97 = .ok (.ishr, 1) := by decide +kernel
theorem dX6_search_98 : decode cX6_search 98 = .ok (.iconst 1, 1) := by decide +kernel
theorem dX6_search_99 : decode cX6_search 99 = .ok (.iand, 1) := by decide +kernel
theorem dX6_search_100 : decode cX6_search 100 = .ok (.ifCond .ne 19, 3) := by decide +kernel
theorem dX6_search_103 : decode cX6_search 103 = .ok (.aload_n 0, 1) := by decide +kernel
theorem dX6_search_104 : decode cX6_search 104 = .ok (.iload_n 1, 1) := by decide +kernel
theorem dX6_search_105 : decode cX6_search 105 = .ok (.iload_n 2, 1) := by decide +kernel
theorem dX6_search_106 : decode cX6_search 106 = .ok (.iload_n 3, 1) := by decide +kernel
theorem dX6_search_107 : decode cX6_search 107 = .ok (.iload 4, 2) := by decide +kernel
theorem dX6_search_109 : decode cX6_search 109 = .ok (.iload 6, 2) := by decide +kernel
theorem dX6_search_111 : decode cX6_search 111 = .ok (.invokevirtual 115, 3) := by decide +kernel
theorem dX6_search_114 : decode cX6_search 114 = .ok (.ifCond .eq 5, 3) := by decide +kernel
theorem dX6_search_117 : decode cX6_search 117 = .ok (.iconst 1, 1) := by decide +kernel
theorem dX6_search_118 : decode cX6_search 118 = .ok (.ireturn, 1) := by decide +kernel
theorem dX6_search_119 : decode cX6_search 119 = .ok (.iinc 6 1, 3) := by decide +kernel
theorem dX6_search_122 : decode cX6_search 122 = .ok (.goto (-64), 3) := by decide +kernel
theorem dX6_search_125 : decode cX6_search 125 = .ok (.iconst 0, 1) := by decide +kernel
theorem dX6_search_126 : decode cX6_search 126 = .ok (.ireturn, 1) := by decide +kernel
theorem dX6_searchBehind_0 : decode cX6_searchBehind 0 = .ok (.iload 5, 2) := by decide +kernel
theorem dX6_searchBehind_2 : decode cX6_searchBehind 2 = .ok (.iconst 1, 1) := by decide +kernel
theorem dX6_searchBehind_3 : decode cX6_searchBehind 3 = .ok (.ishr, 1) := by decide +kernel
theorem dX6_searchBehind_4 : decode cX6_searchBehind 4 = .ok (.istore 6, 2) := by decide +kernel
theorem dX6_searchBehind_6 : decode cX6_searchBehind 6 = .ok (.iload_n 1, 1) := by decide +kernel
theorem dX6_searchBehind_7 : decode cX6_searchBehind 7 = .ok (.iconst 1, 1) := by decide +kernel
theorem dX6_searchBehind_8 : decode cX6_searchBehind 8 = .ok (.iload 6, 2) := by decide +kernel
theorem dX6_searchBehind_10 : decode cX6_searchBehind 10 = .ok (.ishl, 1) := by decide +kernel
theorem dX6_searchBehind_11 : decode cX6_searchBehind 11 = .ok (.ior, 1) := by decide +kernel
theorem dX6_searchBehind_12 : decode cX6_searchBehind 12 = .ok (.istore 7, 2) := by decide +kernel
theorem dX6_searchBehind_14 : decode cX6_searchBehind 14 = .ok (.iload_n 2, 1) := by decide +kernel
theorem dX6_searchBehind_15 : decode cX6_searchBehind 15 = .ok (.bipush 22, 2) := by decide +kernel
theorem dX6_searchBehind_17 : decode cX6_searchBehind 17 = .ok (.if_icmp .ne 24, 3) := by decide +kernel
theorem dX6_searchBehind_20 : decode cX6_searchBehind 20 = .ok (.aload_n 0, 1) := by decide +kernel
theorem dX6_searchBehind_21 : decode cX6_searchBehind 21 = .ok (.iload 7, 2) := by decide +kernel
theorem dX6_searchBehind_23 : decode cX6_searchBehind 23 = .ok (.iconst 2, 1) := by decide +kernel
theorem dX6_searchBehind_24 : decode cX6_searchBehind 24 = .ok (.iload 6, 2) := by decide +kernel
theorem dX6_searchBehind_26 : decode cX6_searchBehind 26 = .ok (.imul, 1) := by decide +kernel
theorem dX6_searchBehind_27 : decode cX6_searchBehind 27 = .ok (.iconst 2, 1) := by decide +kernel
theorem dX6_searchBehind_28 : decode cX6_searchBehind 28 = .ok (.iload 6, 2) := by decide +kernel
theorem dX6_searchBehind_30 : decode cX6_searchBehind 30 = .ok (.imul, 1) := by decide +kernel
theorem dX6_searchBehind_31 : decode cX6_searchBehind 31 = .ok (.iconst 1, 1) := by decide +kernel
theorem dX6_searchBehind_32 : decode cX6_searchBehind 32 = .ok (.iadd, 1) := by decide +kernel
theorem dX6_searchBehind_33 : decode cX6_searchBehind 33 = .ok (.iload 4, 2) := by decide +kernel
theorem dX6_searchBehind_35 : decode cX6_searchBehind 35 = .ok (.iconst 1, 1) := by decide +kernel
theorem dX6_searchBehind_36 : decode cX6_searchBehind 36 = .ok (.iadd, 1) := by decide +kernel
theorem dX6_searchBehind_37 : decode cX6_searchBehind 37 = .ok (.invokevirtual 81, 3) := by decide +kernel
theorem dX6_searchBehind_40 : decode cX6_searchBehind 40 = .ok (.ireturn, 1) := by decide +kernel
theorem dX6_searchBehind_41 : decode cX6_searchBehind 41 = .ok (.aload_n 0, 1) := by decide +kernel
theorem dX6_searchBehind_42 : decode cX6_searchBehind 42 = .ok (.iload 6, 2) := by decide +kernel
theorem dX6_searchBehind_44 : decode cX6_searchBehind 44 = .ok (.iload 5, 2) := by decide +kernel
theorem dX6_searchBehind_46 : decode cX6_searchBehind 46 = .ok (.iconst 1, 1) := by decide +kernel
theorem dX6_searchBehind_47 : decode cX6_searchBehind 47 = .ok (.iand, 1) := by decide +kernel
theorem dX6_searchBehind_48 : decode cX6_searchBehind 48 = .ok (.ifCond .ne 7, 3) := by decide +kernel
theorem dX6_searchBehind_51 : decode cX6_searchBehind 51 = .ok (.iload_n 2, 1) := by decide +kernel
theorem dX6_searchBehind_52 : decode cX6_searchBehind 52 = .ok (.goto 4, 3) := by decide +kernel
theorem dX6_searchBehind_55 : decode cX6_searchBehind 55 = .ok (.iload_n 3, 1) := by decide +kernel
theorem dX6_searchBehind_56 : decode cX6_searchBehind 56 = .ok (.invokevirtual 119, 3) := by decide +kernel
theorem dX6_searchBehind_59 : decode cX6_searchBehind 59 = .ok (.istore 8, 2) := by decide +kernel
theorem dX6_searchBehind_61 : decode cX6_searchBehind 61 = .ok (.iload 8, 2) := by decide +kernel
theorem dX6_searchBehind_63 : decode cX6_searchBehind 63 = .ok (.iconst (-1), 1) := by decide +kernel
theorem dX6_searchBehind_64 : decode cX6_searchBehind 64 = .ok (.if_icmp .ne 5, 3) := by decide +kernel
theorem dX6_searchBehind_67 : decode cX6_searchBehind 67 = .ok (.iconst 0, 1) := by decide +kernel
theorem dX6_searchBehind_68 : decode cX6_searchBehind 68 = .ok (.ireturn, 1) := by decide +kernel
theorem dX6_searchBehind_69 : decode cX6_searchBehind 69 = .ok (.iload 5, 2) := by decide +kernel
theorem dX6_searchBehind_71 : decode cX6_searchBehind 71 = .ok (.iconst 1, 1) := by decide +kernel
theorem dX6_searchBehind_72 : decode cX6_searchBehind 72 = .ok (.iand, 1) := by decide +kernel
theorem dX6_searchBehind_73 : decode cX6_searchBehind 73 = .ok (.ifCond .ne 19, 3) := by decide +kernel
theorem dX6_searchBehind_76 : decode cX6_searchBehind 76 = .ok (.aload_n 0, 1) := by decide +kernel
theorem dX6_searchBehind_77 : decode cX6_searchBehind 77 = .ok (.iload 7, 2) := by decide +kernel
theorem dX6_searchBehind_79 : decode cX6_searchBehind 79 = .ok (.iload 8, 2) := by decide +kernel
theorem dX6_searchBehind_81 : decode cX6_searchBehind 81 = .ok (.iload_n 3, 1) := by decide +kernel
theorem dX6_searchBehind_82 : decode cX6_searchBehind 82 = .ok (.iload 4, 2) := by decide +kernel
theorem dX6_searchBehind_84 : decode cX6_searchBehind 84 = .ok (.iconst 1, 1) := by decide +kernel
theorem dX6_searchBehind_85 : decode cX6_searchBehind 85 = .ok (.iadd, 1) := by decide +kernel
theorem dX6_searchBehind_86 : decode cX6_searchBehind 86 = .ok (.invokevirtual 81, 3) := by decide +kernel
theorem dX6_searchBehind_89 : decode cX6_searchBehind 89 = .ok (.goto 16, 3) := by decide +kernel
theorem dX6_searchBehind_92 : decode cX6_searchBehind 92 = .ok (.aload_n 0, 1) := by decide +kernel
theorem dX6_searchBehind_93 : decode cX6_searchBehind 93 = .ok (.iload 7, 2) := by decide +kernel
theorem dX6_searchBehind_95 : decode cX6_searchBehind 95 = .ok (.iload_n 2, 1) := by decide +kernel
theorem dX6_searchBehind_96 : decode cX6_searchBehind 96 = .ok (.iload 8, 2) := by decide +kernel
theorem dX6_searchBehind_98 : decode cX6_searchBehind 98 = .ok (.iload 4, 2) := by decide +kernel
theorem dX6_searchBehind_100 : decode cX6_searchBehind 100 = .ok (.iconst 1, 1) := by decide +kernel
theorem dX6_searchBehind_101 : decode cX6_searchBehind 101 = .ok (.iadd, 1) := by decide +kernel
theorem dX6_searchBehind_102 : decode cX6_searchBehind 102 = .ok (.invokevirtual 81, 3) := by decide +kernel
theorem dX6_searchBehind_105 : decode cX6_searchBehind 105 = .ok (.ireturn, 1) := by decide +kernel
def f_Rnd_search_s (n : Nat)  (gsearch : Int → Int → Int → Int → JSg → Option (Int × JSg)) (gsearchBehind : Int → Int → Int → Int → Int → JSg → Option (Int × JSg)) (a1 : Int) (a2 : Int) (a3 : Int) (a4 : Int) (σ : JSg) : Option (Int × JSg) :=
  bd1 (f_Rnd_missing n a1 σ) fun r1 => lt_ r1 fun v2 => if v2 = 0 then (some (1, σ)) else (jn0 (lt_ (sp σ 107 10 1) fun s4 => some (0, s4)) fun j3 => if (w32 ((σ 107 9) - a4)) < v2 then (j3) else (if a4 < 10 then (bd1 (f_Rnd_placeOf a1 a2 a3 σ) fun r5 => bd2 (f_Rnd_enter r5 σ) fun r6 s7 => if r6 = 0 then (some (0, s7)) else (lt_ 0 fun v8 => wh2 n (fun rc9 (x10 : Int) (s11 : JSg) => if x10 < (w32 (2 * (s11 107 4))) then (chk (0 ≤ (sr32 x10 1) ∧ (sr32 x10 1) < 10) <| chk (0 ≤ a4 ∧ a4 < 10) <| lt_ (sp s11 112 a4.toNat (w32 ((w32 (2 * (s11 108 (sr32 x10 1).toNat))) + (an32 x10 1)))) fun s12 => jn1 (fun  (s14 : JSg) => lt_ (w32 (x10 + 1)) fun v15 => rc9 v15 s14) fun j13 => if (an32 (sr32 a1 (sr32 x10 1)) 1) = 0 then (bd2 (gsearchBehind a1 a2 a3 a4 x10 s12) fun r16 s17 => if r16 = 0 then (j13 s17) else (some (1, s17))) else (j13 s12)) else (some (0, s11))) v8 s7)) else (j3)))
set_option maxRecDepth 20000 in
set_option maxHeartbeats 4000000 in
theorem k_Rnd_search_s  (n : Nat)   (gsearch : Int → Int → Int → Int → JSg → Option (Int × JSg)) (gsearchBehind : Int → Int → Int → Int → Int → JSg → Option (Int × JSg)) (d : Nat) (hd9 : 2 ≤ d) (hgsearch : ∀ (a1 : Int) (a2 : Int) (a3 : Int) (a4 : Int) (σ : JSg), Call yX6_search cX6_search 7 (some .boolean) d SH RHO [vR 107, vI a1, vI a2, vI a3, vI a4] σ dIm (gsearch a1 a2 a3 a4 σ)) (hgsearchBehind : ∀ (a1 : Int) (a2 : Int) (a3 : Int) (a4 : Int) (a5 : Int) (σ : JSg), Call yX6_searchBehind cX6_searchBehind 9 (some .boolean) d SH RHO [vR 107, vI a1, vI a2, vI a3, vI a4, vI a5] σ dIm (gsearchBehind a1 a2 a3 a4 a5 σ)) (a1 : Int) (a2 : Int) (a3 : Int) (a4 : Int) (σ : JSg) : Call yX6_search cX6_search 7 (some .boolean) (d + 1) SH RHO [vR 107, vI a1, vI a2, vI a3, vI a4] σ dIm (f_Rnd_search_s n gsearch gsearchBehind a1 a2 a3 a4 σ) := by
  refine call_of_sim (by decide +kernel) (Nat.le_of_ble_eq_true rfl) ?_
  show Sim RX6 cX6_search 7 (some .boolean) (d + 1) SH RHO 0 [(0, vR 107), (1, vI a1), (2, vI a2), (3, vI a3), (4, vI a4)] [] σ dIm (f_Rnd_search_s n gsearch gsearchBehind a1 a2 a3 a4 σ)
  unfold f_Rnd_search_s
  refine sim_aload_n 0 rfl dX6_search_0 ?_
  refine sim_iload_n 1 rfl dX6_search_1 ?_
  refine sim_callVIp v_RX6_67 sh_107 dX6_search_2 (k_Rnd_missing n a1 σ) rfl ⟨by omega, by decide⟩ (S := []) rfl (Nat.le_of_ble_eq_true rfl) (fun r1 => ?_)
  refine sim_istore (fun v2 => [(5, vI v2), (0, vR 107), (1, vI a1), (2, vI a2), (3, vI a3), (4, vI a4)]) (fun _ => rfl) (by decide) dX6_search_5 (fun v2 => ?_)
  refine sim_iload 0 rfl dX6_search_7 ?_
  refine sim_if_ne (tgt := 14) dX6_search_9 (by decide) ?_ ?_
  · refine sim_iload 0 rfl dX6_search_14 ?_
    refine sim_aload_n 1 rfl dX6_search_16 ?_
    refine sim_getI g_RX6_31 sh_107 dX6_search_17 ?_
    refine sim_iload 5 rfl dX6_search_20 ?_
    refine sim_isub dX6_search_22 ?_
    refine sim_jn0 (pc' := 33) ([(0, vR 107)]) ([]) (σ) ?_ (fun j3 hj3 => ?_)
    · refine sim_aload_n 0 rfl dX6_search_33 ?_
      refine sim_iconst dX6_search_34 (by decide) ?_
      refine sim_putZ (Or.inr rfl) g_RX6_34 sh_107 dX6_search_35 (fun s4 => ?_)
      refine sim_iconst dX6_search_38 (by decide) ?_
      exact sim_zret (Or.inl rfl) rfl rfl dX6_search_39
    refine sim_icmp_gt (tgt := 33) dX6_search_23 (by decide) ?_ ?_
    · exact sim_sub [1] rfl (hj3 )
    · refine sim_iload 5 rfl dX6_search_26 ?_
      refine sim_bipush dX6_search_28 (by decide +kernel) ?_
      refine sim_icmp_lt (tgt := 40) dX6_search_30 (by decide) ?_ ?_
      · refine sim_aload_n 1 rfl dX6_search_40 ?_
        refine sim_iload_n 2 rfl dX6_search_41 ?_
        refine sim_iload_n 3 rfl dX6_search_42 ?_
        refine sim_iload_n 4 rfl dX6_search_43 ?_
        refine sim_callSIp s_RX6_71 dX6_search_44 (k_Rnd_placeOf SH RHO a1 a2 a3 σ) rfl ⟨by omega, by decide⟩ (S := [vR 107]) rfl (Nat.le_of_ble_eq_true rfl) (fun r5 => ?_)
        refine sim_callVIm v_RX6_111 sh_107 dX6_search_47 (k_Rnd_enter r5 σ) rfl ⟨by omega, by decide⟩ (S := []) rfl (Nat.le_of_ble_eq_true rfl) (fun r6 s7 => ?_)
        refine sim_if_ne (tgt := 55) dX6_search_50 (by decide) ?_ ?_
        · refine sim_iconst dX6_search_55 (by decide) ?_
          refine sim_istore (fun v8 => [(6, vI v8), (5, vI v2), (0, vR 107), (1, vI a1), (2, vI a2), (3, vI a3), (4, vI a4)]) (fun _ => rfl) (by decide) dX6_search_56 (fun v8 => ?_)
          refine sim_sub [2, 3, 4, 5, 6, 0] (L' := [(0, vR 107), (1, vI a1), (2, vI a2), (3, vI a3), (4, vI a4), (6, vI v8)]) rfl ?_
          refine sim_wh2 (fun (x10 : Int) (s11 : JSg) => [(0, vR 107), (1, vI a1), (2, vI a2), (3, vI a3), (4, vI a4), (6, vI x10)]) (fun (x10 : Int) (s11 : JSg) => s11) ?_ n v8 s7
          intro rc9 hrc9 x10 s11
          refine sim_iload 5 rfl dX6_search_58 ?_
          refine sim_iconst dX6_search_60 (by decide) ?_
          refine sim_aload_n 0 rfl dX6_search_61 ?_
          refine sim_getI g_RX6_15 sh_107 dX6_search_62 ?_
          refine sim_imul dX6_search_65 ?_
          refine sim_icmp_ge (tgt := 125) dX6_search_66 (by decide) ?_ ?_
          · refine sim_iconst dX6_search_125 (by decide) ?_
            exact sim_zret (Or.inl rfl) rfl rfl dX6_search_126
          · refine sim_aload_n 0 rfl dX6_search_69 ?_
            refine sim_getR g_RX6_28 sh_107 rh_107_8 dX6_search_70 ?_
            refine sim_iload 4 rfl dX6_search_73 ?_
            refine sim_iconst dX6_search_75 (by decide) ?_
            refine sim_aload_n 0 rfl dX6_search_76 ?_
            refine sim_getR g_RX6_11 sh_107 rh_107_3 dX6_search_77 ?_
            refine sim_iload 5 rfl dX6_search_80 ?_
            refine sim_iconst dX6_search_82 (by decide) ?_
            refine sim_ishr dX6_search_83 ?_
            refine sim_iaload sh_108 rfl dX6_search_84 ?_
            refine sim_imul dX6_search_85 ?_
            refine sim_iload 5 rfl dX6_search_86 ?_
            refine sim_iconst dX6_search_88 (by decide) ?_
            refine sim_iand dX6_search_89 ?_
            refine sim_iadd dX6_search_90 ?_
            refine sim_iastore sh_112 rfl dX6_search_91 (fun s12 => ?_)
            refine sim_iload_n 1 rfl dX6_search_92 ?_
            refine sim_iload 5 rfl dX6_search_93 ?_
            refine sim_iconst dX6_search_95 (by decide) ?_
            refine sim_ishr dX6_search_96 ?_
            refine sim_ishr dX6_search_97 ?_
            refine sim_iconst dX6_search_98 (by decide) ?_
            refine sim_iand dX6_search_99 ?_
            refine sim_jn1 (pc' := 119) (fun  (s14 : JSg) => [(0, vR 107), (1, vI a1), (2, vI a2), (3, vI a3), (4, vI a4), (6, vI x10)]) (fun  (s14 : JSg) => []) (fun  (s14 : JSg) => s14) ?_ (fun j13 hj13 => ?_)
            · intro s14
              refine sim_iinc 5 rfl (fun v15 => [(6, vI v15), (0, vR 107), (1, vI a1), (2, vI a2), (3, vI a3), (4, vI a4)]) (fun _ => rfl) (by decide) dX6_search_119 (fun v15 => ?_)
              refine sim_goto (tgt := 58) dX6_search_122 (by decide) ?_
              exact sim_sub [1, 2, 3, 4, 5, 0] rfl (hrc9 v15 s14)
            refine sim_if_ne (tgt := 119) dX6_search_100 (by decide) ?_ ?_
            · exact sim_sub [0, 1, 2, 3, 4, 5] rfl (hj13 s12)
            · refine sim_aload_n 0 rfl dX6_search_103 ?_
              refine sim_iload_n 1 rfl dX6_search_104 ?_
              refine sim_iload_n 2 rfl dX6_search_105 ?_
              refine sim_iload_n 3 rfl dX6_search_106 ?_
              refine sim_iload 4 rfl dX6_search_107 ?_
              refine sim_iload 5 rfl dX6_search_109 ?_
              refine sim_callVIm v_RX6_115 sh_107 dX6_search_111 (hgsearchBehind a1 a2 a3 a4 x10 s12) rfl ⟨by omega, by decide⟩ (S := []) rfl (Nat.le_of_ble_eq_true rfl) (fun r16 s17 => ?_)
              refine sim_if_eq (tgt := 119) dX6_search_114 (by decide) ?_ ?_
              · exact sim_sub [0, 1, 2, 3, 4, 5] rfl (hj13 s17)
              · refine sim_iconst dX6_search_117 (by decide) ?_
                exact sim_zret (Or.inr rfl) rfl rfl dX6_search_118
        · refine sim_iconst dX6_search_53 (by decide) ?_
          exact sim_zret (Or.inl rfl) rfl rfl dX6_search_54
      · exact sim_sub [1] rfl (hj3 )
  · refine sim_iconst dX6_search_12 (by decide) ?_
    exact sim_zret (Or.inr rfl) rfl rfl dX6_search_13
def f_Rnd_searchBehind_s (n : Nat)  (gsearch : Int → Int → Int → Int → JSg → Option (Int × JSg)) (gsearchBehind : Int → Int → Int → Int → Int → JSg → Option (Int × JSg)) (a1 : Int) (a2 : Int) (a3 : Int) (a4 : Int) (a5 : Int) (σ : JSg) : Option (Int × JSg) :=
  lt_ (sr32 a5 1) fun v1 => lt_ (or32 a1 (sl32 1 v1)) fun v2 => if a2 = 22 then (bd2 (gsearch v2 (w32 (2 * v1)) (w32 ((w32 (2 * v1)) + 1)) (w32 (a4 + 1)) σ) fun r11 s12 => chk (r11 = 0 ∨ r11 = 1) <| some (r11, s12)) else (jn1 (fun (u4 : Int) => bd1 (f_Rnd_laidOn v1 u4 σ) fun r5 => lt_ r5 fun v6 => if v6 = (-1) then (some (0, σ)) else (if (an32 a5 1) = 0 then (bd2 (gsearch v2 v6 a3 (w32 (a4 + 1)) σ) fun r9 s10 => chk (r9 = 0 ∨ r9 = 1) <| some (r9, s10)) else (bd2 (gsearch v2 a2 v6 (w32 (a4 + 1)) σ) fun r7 s8 => chk (r7 = 0 ∨ r7 = 1) <| some (r7, s8)))) fun j3 => if (an32 a5 1) = 0 then (j3 a2) else (j3 a3))
set_option maxRecDepth 20000 in
set_option maxHeartbeats 4000000 in
theorem k_Rnd_searchBehind_s  (n : Nat)   (gsearch : Int → Int → Int → Int → JSg → Option (Int × JSg)) (gsearchBehind : Int → Int → Int → Int → Int → JSg → Option (Int × JSg)) (d : Nat) (hd9 : 2 ≤ d) (hgsearch : ∀ (a1 : Int) (a2 : Int) (a3 : Int) (a4 : Int) (σ : JSg), Call yX6_search cX6_search 7 (some .boolean) d SH RHO [vR 107, vI a1, vI a2, vI a3, vI a4] σ dIm (gsearch a1 a2 a3 a4 σ)) (hgsearchBehind : ∀ (a1 : Int) (a2 : Int) (a3 : Int) (a4 : Int) (a5 : Int) (σ : JSg), Call yX6_searchBehind cX6_searchBehind 9 (some .boolean) d SH RHO [vR 107, vI a1, vI a2, vI a3, vI a4, vI a5] σ dIm (gsearchBehind a1 a2 a3 a4 a5 σ)) (a1 : Int) (a2 : Int) (a3 : Int) (a4 : Int) (a5 : Int) (σ : JSg) : Call yX6_searchBehind cX6_searchBehind 9 (some .boolean) (d + 1) SH RHO [vR 107, vI a1, vI a2, vI a3, vI a4, vI a5] σ dIm (f_Rnd_searchBehind_s n gsearch gsearchBehind a1 a2 a3 a4 a5 σ) := by
  refine call_of_sim (by decide +kernel) (Nat.le_of_ble_eq_true rfl) ?_
  show Sim RX6 cX6_searchBehind 9 (some .boolean) (d + 1) SH RHO 0 [(0, vR 107), (1, vI a1), (2, vI a2), (3, vI a3), (4, vI a4), (5, vI a5)] [] σ dIm (f_Rnd_searchBehind_s n gsearch gsearchBehind a1 a2 a3 a4 a5 σ)
  unfold f_Rnd_searchBehind_s
  refine sim_iload 5 rfl dX6_searchBehind_0 ?_
  refine sim_iconst dX6_searchBehind_2 (by decide) ?_
  refine sim_ishr dX6_searchBehind_3 ?_
  refine sim_istore (fun v1 => [(6, vI v1), (0, vR 107), (1, vI a1), (2, vI a2), (3, vI a3), (4, vI a4), (5, vI a5)]) (fun _ => rfl) (by decide) dX6_searchBehind_4 (fun v1 => ?_)
  refine sim_iload_n 2 rfl dX6_searchBehind_6 ?_
  refine sim_iconst dX6_searchBehind_7 (by decide) ?_
  refine sim_iload 0 rfl dX6_searchBehind_8 ?_
  refine sim_ishl dX6_searchBehind_10 ?_
  refine sim_ior dX6_searchBehind_11 ?_
  refine sim_istore (fun v2 => [(7, vI v2), (6, vI v1), (0, vR 107), (1, vI a1), (2, vI a2), (3, vI a3), (4, vI a4), (5, vI a5)]) (fun _ => rfl) (by decide) dX6_searchBehind_12 (fun v2 => ?_)
  refine sim_iload_n 4 rfl dX6_searchBehind_14 ?_
  refine sim_bipush dX6_searchBehind_15 (by decide +kernel) ?_
  refine sim_icmp_ne (tgt := 41) dX6_searchBehind_17 (by decide) ?_ ?_
  · refine sim_aload_n 2 rfl dX6_searchBehind_41 ?_
    refine sim_iload 1 rfl dX6_searchBehind_42 ?_
    refine sim_iload 7 rfl dX6_searchBehind_44 ?_
    refine sim_iconst dX6_searchBehind_46 (by decide) ?_
    refine sim_iand dX6_searchBehind_47 ?_
    refine sim_jn1 (pc' := 56) (fun (u4 : Int) => [(0, vR 107), (2, vI a2), (3, vI a3), (4, vI a4), (5, vI a5), (7, vI v2)]) (fun (u4 : Int) => [vI u4, vI v1, vR 107]) (fun (u4 : Int) => σ) ?_ (fun j3 hj3 => ?_)
    · intro u4
      refine sim_callVIp v_RX6_119 sh_107 dX6_searchBehind_56 (k_Rnd_laidOn v1 u4 σ) rfl ⟨by omega, by decide⟩ (S := []) rfl (Nat.le_of_ble_eq_true rfl) (fun r5 => ?_)
      refine sim_istore (fun v6 => [(8, vI v6), (0, vR 107), (2, vI a2), (3, vI a3), (4, vI a4), (5, vI a5), (7, vI v2)]) (fun _ => rfl) (by decide) dX6_searchBehind_59 (fun v6 => ?_)
      refine sim_iload 0 rfl dX6_searchBehind_61 ?_
      refine sim_iconst dX6_searchBehind_63 (by decide) ?_
      refine sim_icmp_ne (tgt := 69) dX6_searchBehind_64 (by decide) ?_ ?_
      · refine sim_iload 5 rfl dX6_searchBehind_69 ?_
        refine sim_iconst dX6_searchBehind_71 (by decide) ?_
        refine sim_iand dX6_searchBehind_72 ?_
        refine sim_if_ne (tgt := 92) dX6_searchBehind_73 (by decide) ?_ ?_
        · refine sim_aload_n 1 rfl dX6_searchBehind_92 ?_
          refine sim_iload 6 rfl dX6_searchBehind_93 ?_
          refine sim_iload_n 2 rfl dX6_searchBehind_95 ?_
          refine sim_iload 0 rfl dX6_searchBehind_96 ?_
          refine sim_iload 4 rfl dX6_searchBehind_98 ?_
          refine sim_iconst dX6_searchBehind_100 (by decide) ?_
          refine sim_iadd dX6_searchBehind_101 ?_
          refine sim_callVIm v_RX6_81 sh_107 dX6_searchBehind_102 (hgsearch v2 a2 v6 (w32 (a4 + 1)) σ) rfl ⟨by omega, by decide⟩ (S := []) rfl (Nat.le_of_ble_eq_true rfl) (fun r7 s8 => ?_)
          exact sim_zretc rfl rfl dX6_searchBehind_105
        · refine sim_aload_n 1 rfl dX6_searchBehind_76 ?_
          refine sim_iload 6 rfl dX6_searchBehind_77 ?_
          refine sim_iload 0 rfl dX6_searchBehind_79 ?_
          refine sim_iload_n 3 rfl dX6_searchBehind_81 ?_
          refine sim_iload 4 rfl dX6_searchBehind_82 ?_
          refine sim_iconst dX6_searchBehind_84 (by decide) ?_
          refine sim_iadd dX6_searchBehind_85 ?_
          refine sim_callVIm v_RX6_81 sh_107 dX6_searchBehind_86 (hgsearch v2 v6 a3 (w32 (a4 + 1)) σ) rfl ⟨by omega, by decide⟩ (S := []) rfl (Nat.le_of_ble_eq_true rfl) (fun r9 s10 => ?_)
          refine sim_goto (tgt := 105) dX6_searchBehind_89 (by decide) ?_
          exact sim_zretc rfl rfl dX6_searchBehind_105
      · refine sim_iconst dX6_searchBehind_67 (by decide) ?_
        exact sim_zret (Or.inl rfl) rfl rfl dX6_searchBehind_68
    refine sim_if_ne (tgt := 55) dX6_searchBehind_48 (by decide) ?_ ?_
    · refine sim_iload_n 5 rfl dX6_searchBehind_55 ?_
      exact sim_sub [2, 4, 5, 6, 7, 0] rfl (hj3 a3)
    · refine sim_iload_n 4 rfl dX6_searchBehind_51 ?_
      refine sim_goto (tgt := 56) dX6_searchBehind_52 (by decide) ?_
      exact sim_sub [2, 4, 5, 6, 7, 0] rfl (hj3 a2)
  · refine sim_aload_n 2 rfl dX6_searchBehind_20 ?_
    refine sim_iload 0 rfl dX6_searchBehind_21 ?_
    refine sim_iconst dX6_searchBehind_23 (by decide) ?_
    refine sim_iload 1 rfl dX6_searchBehind_24 ?_
    refine sim_imul dX6_searchBehind_26 ?_
    refine sim_iconst dX6_searchBehind_27 (by decide) ?_
    refine sim_iload 1 rfl dX6_searchBehind_28 ?_
    refine sim_imul dX6_searchBehind_30 ?_
    refine sim_iconst dX6_searchBehind_31 (by decide) ?_
    refine sim_iadd dX6_searchBehind_32 ?_
    refine sim_iload 6 rfl dX6_searchBehind_33 ?_
    refine sim_iconst dX6_searchBehind_35 (by decide) ?_
    refine sim_iadd dX6_searchBehind_36 ?_
    refine sim_callVIm v_RX6_81 sh_107 dX6_searchBehind_37 (hgsearch v2 (w32 (2 * v1)) (w32 ((w32 (2 * v1)) + 1)) (w32 (a4 + 1)) σ) rfl ⟨by omega, by decide⟩ (S := []) rfl (Nat.le_of_ble_eq_true rfl) (fun r11 s12 => ?_)
    exact sim_zretc rfl rfl dX6_searchBehind_40
def fg_Rnd_search (n : Nat)  : Nat → (Int → Int → Int → Int → JSg → Option (Int × JSg)) × (Int → Int → Int → Int → Int → JSg → Option (Int × JSg))
  | 0 => (fun _ _ _ _ _ => none, fun _ _ _ _ _ _ => none)
  | r + 1 => (f_Rnd_search_s n (fg_Rnd_search n r).1 (fg_Rnd_search n r).2, f_Rnd_searchBehind_s n (fg_Rnd_search n r).1 (fg_Rnd_search n r).2)
def f_Rnd_search (n : Nat)  (a1 : Int) (a2 : Int) (a3 : Int) (a4 : Int) (σ : JSg) : Option (Int × JSg) := (fg_Rnd_search n 64).1 a1 a2 a3 a4 σ
def f_Rnd_searchBehind (n : Nat)  (a1 : Int) (a2 : Int) (a3 : Int) (a4 : Int) (a5 : Int) (σ : JSg) : Option (Int × JSg) := (fg_Rnd_search n 64).2 a1 a2 a3 a4 a5 σ
theorem kg_Rnd_search  (n : Nat)   : ∀ r : Nat, (∀ (a1 : Int) (a2 : Int) (a3 : Int) (a4 : Int) (σ : JSg), Call yX6_search cX6_search 7 (some .boolean) (2 + r) SH RHO [vR 107, vI a1, vI a2, vI a3, vI a4] σ dIm ((fg_Rnd_search n r).1 a1 a2 a3 a4 σ)) ∧ (∀ (a1 : Int) (a2 : Int) (a3 : Int) (a4 : Int) (a5 : Int) (σ : JSg), Call yX6_searchBehind cX6_searchBehind 9 (some .boolean) (2 + r) SH RHO [vR 107, vI a1, vI a2, vI a3, vI a4, vI a5] σ dIm ((fg_Rnd_search n r).2 a1 a2 a3 a4 a5 σ)) := by
  intro r
  induction r with
  | zero => exact ⟨fun _ _ _ _ _ _ _ _ h => (by cases h), fun _ _ _ _ _ _ _ _ _ h => (by cases h)⟩
  | succ r ih =>
    obtain ⟨h0, h1⟩ := ih
    exact ⟨fun a1 a2 a3 a4 σ => k_Rnd_search_s n _ _ (2 + r) (by omega) h0 h1 a1 a2 a3 a4 σ, fun a1 a2 a3 a4 a5 σ => k_Rnd_searchBehind_s n _ _ (2 + r) (by omega) h0 h1 a1 a2 a3 a4 a5 σ⟩
theorem k_Rnd_search  (n : Nat)   (a1 : Int) (a2 : Int) (a3 : Int) (a4 : Int) (σ : JSg) : Call yX6_search cX6_search 7 (some .boolean) 66 SH RHO [vR 107, vI a1, vI a2, vI a3, vI a4] σ dIm (f_Rnd_search n a1 a2 a3 a4 σ) := (kg_Rnd_search n 64).1 a1 a2 a3 a4 σ
theorem k_Rnd_searchBehind  (n : Nat)   (a1 : Int) (a2 : Int) (a3 : Int) (a4 : Int) (a5 : Int) (σ : JSg) : Call yX6_searchBehind cX6_searchBehind 9 (some .boolean) 66 SH RHO [vR 107, vI a1, vI a2, vI a3, vI a4, vI a5] σ dIm (f_Rnd_searchBehind n a1 a2 a3 a4 a5 σ) := (kg_Rnd_search n 64).2 a1 a2 a3 a4 a5 σ
theorem dX6_findFewest_0 : decode cX6_findFewest 0 = .ok (.aload_n 0, 1) := by decide +kernel
theorem dX6_findFewest_1 : decode cX6_findFewest 1 = .ok (.aload_n 0, 1) := by decide +kernel
theorem dX6_findFewest_2 : decode cX6_findFewest 2 = .ok (.getfield 44, 3) := by decide +kernel
theorem dX6_findFewest_5 : decode cX6_findFewest 5 = .ok (.aload_n 0, 1) := by decide +kernel
theorem dX6_findFewest_6 : decode cX6_findFewest 6 = .ok (.getfield 11, 3) := by decide +kernel
theorem dX6_findFewest_9 : decode cX6_findFewest 9 = .ok (.invokevirtual 59, 3) := by decide +kernel
theorem dX6_findFewest_12 : decode cX6_findFewest 12 = .ok (.putfield 15, 3) := by decide +kernel
theorem dX6_findFewest_15 : decode cX6_findFewest 15 = .ok (.aload_n 0, 1) := by decide +kernel
theorem dX6_findFewest_16 : decode cX6_findFewest 16 = .ok (.getfield 15, 3) := by decide +kernel
theorem dX6_findFewest_19 : decode cX6_findFewest 19 = .ok (.iconst (-1), 1) := by decide +kernel
theorem dX6_findFewest_20 : decode cX6_findFewest 20 = .ok (.if_icmp .ne 5, 3) := by decide +kernel
theorem dX6_findFewest_23 : decode cX6_findFewest 23 = .ok (.iconst (-1), 1) := by decide +kernel
theorem dX6_findFewest_24 : decode cX6_findFewest 24 = .ok (.ireturn, 1) := by decide +kernel
theorem dX6_findFewest_25 : decode cX6_findFewest 25 = .ok (.aload_n 0, 1) := by decide +kernel
theorem dX6_findFewest_26 : decode cX6_findFewest 26 = .ok (.invokevirtual 63, 3) := by decide +kernel
theorem dX6_findFewest_29 : decode cX6_findFewest 29 = .ok (.aload_n 0, 1) := by decide +kernel
theorem dX6_findFewest_30 : decode cX6_findFewest 30 = .ok (.getfield 44, 3) := by decide +kernel
theorem dX6_findFewest_33 : decode cX6_findFewest 33 = .ok (.getfield 66, 3) := by decide +kernel
theorem dX6_findFewest_36 : decode cX6_findFewest 36 = .ok (.ifCond .ne 8, 3) := by decide +kernel
theorem dX6_findFewest_39 : decode cX6_findFewest 39 = .ok (.bipush 22, 2) := by decide +kernel
theorem dX6_findFewest_41 : decode cX6_findFewest 41 = .ok (.goto 5, 3) := by decide +kernel
theorem dX6_findFewest_44 : decode cX6_findFewest 44 = .ok (.bipush 20, 2) := by decide +kernel
theorem dX6_findFewest_46 : decode cX6_findFewest 46 = .ok (.istore_n 1, 1) := by decide +kernel
theorem dX6_findFewest_47 : decode cX6_findFewest 47 = .ok (.aload_n 0, 1) := by decide +kernel
theorem dX6_findFewest_48 : decode cX6_findFewest 48 = .ok (.getfield 44, 3) := by decide +kernel
theorem dX6_findFewest_51 : decode cX6_findFewest 51 = .ok (.getfield 66, 3) := by decide +kernel
theorem dX6_findFewest_54 : decode cX6_findFewest 54 = .ok (.ifCond .ne 8, 3) := by decide +kernel
theorem dX6_findFewest_57 : decode cX6_findFewest 57 = .ok (.bipush 22, 2) := by decide +kernel
theorem dX6_findFewest_59 : decode cX6_findFewest 59 = .ok (.goto 5, 3) := by decide +kernel
theorem dX6_findFewest_62 : decode cX6_findFewest 62 = .ok (.bipush 21, 2) := by decide +kernel
theorem dX6_findFewest_64 : decode cX6_findFewest 64 = .ok (.istore_n 2, 1) := by decide +kernel
theorem dX6_findFewest_65 : decode cX6_findFewest 65 = .ok (.aload_n 0, 1) := by decide +kernel
theorem dX6_findFewest_66 : decode cX6_findFewest 66 = .ok (.aload_n 0, 1) := by decide +kernel
theorem dX6_findFewest_67 : decode cX6_findFewest 67 = .ok (.iconst 0, 1) := by decide +kernel
theorem dX6_findFewest_68 : decode cX6_findFewest 68 = .ok (.invokevirtual 67, 3) := by decide +kernel
theorem dX6_findFewest_71 : decode cX6_findFewest 71 = .ok (.putfield 31, 3) := by decide +kernel
theorem dX6_findFewest_74 : decode cX6_findFewest 74 = .ok (.aload_n 0, 1) := by decide +kernel
theorem dX6_findFewest_75 : decode cX6_findFewest 75 = .ok (.getfield 31, 3) := by decide +kernel
theorem dX6_findFewest_78 : decode cX6_findFewest 78 = .ok (.aload_n 0, 1) := by decide +kernel
theorem dX6_findFewest_79 : decode cX6_findFewest 79 = .ok (.getfield 15, 3) := by decide +kernel
theorem dX6_findFewest_82 : decode cX6_findFewest 82 = .ok (.if_icmp .gt 92, 3) := by decide +kernel
theorem dX6_findFewest_85 : decode cX6_findFewest 85 = .ok (.aload_n 0, 1) := by decide +kernel
theorem dX6_findFewest_86 : decode cX6_findFewest 86 = .ok (.iconst 0, 1) := by decide +kernel
theorem dX6_findFewest_87 : decode cX6_findFewest 87 = .ok (.putfield 34, 3) := by decide +kernel
theorem dX6_findFewest_90 : decode cX6_findFewest 90 = .ok (.aload_n 0, 1) := by decide +kernel
theorem dX6_findFewest_91 : decode cX6_findFewest 91 = .ok (.getfield 55, 3) := by decide +kernel
theorem dX6_findFewest_94 : decode cX6_findFewest 94 = .ok (.iconst 0, 1) := by decide +kernel
theorem dX6_findFewest_95 : decode cX6_findFewest 95 = .ok (.iconst 1, 1) := by decide +kernel
theorem dX6_findFewest_96 : decode cX6_findFewest 96 = .ok (.aload_n 0, 1) := by decide +kernel
theorem dX6_findFewest_97 : decode cX6_findFewest 97 = .ok (.getfield 15, 3) := by decide +kernel
theorem dX6_findFewest_100 : decode cX6_findFewest 100 = .ok (.ishl, 1) := by decide +kernel
theorem dX6_findFewest_101 : decode cX6_findFewest 101 = .ok (.iconst 0, 1) := by decide +kernel
theorem dX6_findFewest_102 : decode cX6_findFewest 102 = .ok (.iconst 0, 1) := by decide +kernel
theorem dX6_findFewest_103 : decode cX6_findFewest 103 = .ok (.invokestatic 71, 3) := by decide +kernel
theorem dX6_findFewest_106 : decode cX6_findFewest 106 = .ok (.bipush 6, 2) := by decide +kernel
theorem dX6_findFewest_108 : decode cX6_findFewest 108 = .ok (.ishr, 1) := by decide +kernel
theorem dX6_findFewest_109 : decode cX6_findFewest 109 = .ok (.lconst 0, 1) := by decide +kernel
theorem dX6_findFewest_110 : decode cX6_findFewest 110 = .ok (.invokestatic 75, 3) := by decide +kernel
theorem dX6_findFewest_113 : decode cX6_findFewest 113 = .ok (.aload_n 0, 1) := by decide +kernel
theorem dX6_findFewest_114 : decode cX6_findFewest 114 = .ok (.iconst 0, 1) := by decide +kernel
theorem dX6_findFewest_115 : decode cX6_findFewest 115 = .ok (.iload_n 1, 1) := by decide +kernel
theorem dX6_findFewest_116 : decode cX6_findFewest 116 = .ok (.iload_n 2, 1) := by decide +kernel
theorem dX6_findFewest_117 : decode cX6_findFewest 117 = .ok (.iconst 0, 1) := by decide +kernel
theorem dX6_findFewest_118 : decode cX6_findFewest 118 = .ok (.invokevirtual 81, 3) := by decide +kernel
theorem dX6_findFewest_121 : decode cX6_findFewest 121 = .ok (.ifCond .eq 31, 3) := by decide +kernel
theorem dX6_findFewest_124 : decode cX6_findFewest 124 = .ok (.aload_n 0, 1) := by decide +kernel
theorem dX6_findFewest_125 : decode cX6_findFewest 125 = .ok (.aload_n 0, 1) := by decide +kernel
theorem dX6_findFewest_126 : decode cX6_findFewest 126 = .ok (.getfield 31, 3) := by decide +kernel
theorem dX6_findFewest_129 : decode cX6_findFewest 129 = .ok (.putfield 41, 3) := by decide +kernel
theorem dX6_findFewest_132 : decode cX6_findFewest 132 = .ok (.aload_n 0, 1) := by decide +kernel
theorem dX6_findFewest_133 : decode cX6_findFewest 133 = .ok (.getfield 28, 3) := by decide +kernel
theorem dX6_findFewest_136 : decode cX6_findFewest 136 = .ok (.iconst 0, 1) := by decide +kernel
theorem dX6_findFewest_137 : decode cX6_findFewest 137 = .ok (.aload_n 0, 1) := by decide +kernel
theorem dX6_findFewest_138 : decode cX6_findFewest 138 = .ok (.getfield 38, 3) := by decide +kernel
theorem dX6_findFewest_141 : decode cX6_findFewest 141 = .ok (.iconst 0, 1) := by decide +kernel
theorem dX6_findFewest_142 : decode cX6_findFewest 142 = .ok (.bipush 10, 2) := by decide +kernel
theorem dX6_findFewest_144 : decode cX6_findFewest 144 = .ok (.invokestatic 85, 3) := by decide +kernel
theorem dX6_findFewest_147 : decode cX6_findFewest 147 = .ok (.aload_n 0, 1) := by decide +kernel
theorem dX6_findFewest_148 : decode cX6_findFewest 148 = .ok (.getfield 41, 3) := by decide +kernel
theorem dX6_findFewest_151 : decode cX6_findFewest 151 = .ok (.ireturn, 1) := by decide +kernel
theorem dX6_findFewest_152 : decode cX6_findFewest 152 = .ok (.aload_n 0, 1) := by decide +kernel
theorem dX6_findFewest_153 : decode cX6_findFewest 153 = .ok (.getfield 34, 3) := by decide +kernel
theorem dX6_findFewest_156 : decode cX6_findFewest 156 = .ok (.ifCond .ne 5, 3) := by decide +kernel
theorem dX6_findFewest_159 : decode cX6_findFewest 159 = .ok (.iconst (-1), 1) := by decide +kernel
theorem dX6_findFewest_160 : decode cX6_findFewest 160 = .ok (.ireturn, 1) := by decide +kernel
theorem dX6_findFewest_161 : decode cX6_findFewest 161 = .ok (.aload_n 0, 1) := by decide +kernel
theorem dX6_findFewest_162 : decode cX6_findFewest 162 = .ok (.dup, 1) := by decide +kernel
theorem dX6_findFewest_163 : decode cX6_findFewest 163 = .ok (.getfield 31, 3) := by decide +kernel
theorem dX6_findFewest_166 : decode cX6_findFewest 166 = .ok (.iconst 1, 1) := by decide +kernel
theorem dX6_findFewest_167 : decode cX6_findFewest 167 = .ok (.iadd, 1) := by decide +kernel
theorem dX6_findFewest_168 : decode cX6_findFewest 168 = .ok (.putfield 31, 3) := by decide +kernel
theorem dX6_findFewest_171 : decode cX6_findFewest 171 = .ok (.goto (-97), 3) := by decide +kernel
theorem dX6_findFewest_174 : decode cX6_findFewest 174 = .ok (.iconst (-1), 1) := by decide +kernel
theorem dX6_findFewest_175 : decode cX6_findFewest 175 = .ok (.ireturn, 1) := by decide +kernel
def f_Rnd_findFewest (n : Nat)   (σ : JSg) : Option (Int × JSg) :=
  bd2 (f_Row_gather n 11 4 108 10 σ) fun r1 s2 => lt_ (sp s2 107 4 r1) fun s3 => if (s3 107 4) = (-1) then (some ((-1), s3)) else (bd1 (f_Rnd_prepare n s3) fun s4 => jn1 (fun (u6 : Int) => lt_ u6 fun v7 => jn1 (fun (u9 : Int) => lt_ u9 fun v10 => bd1 (f_Rnd_missing n 0 s4) fun r11 => lt_ (sp s4 107 9 r11) fun s12 => wh1 n (fun rc13  (s14 : JSg) => if (s14 107 4) < (s14 107 9) then (some ((-1), s14)) else (lt_ (sp s14 107 10 0) fun s15 => bd1 (f_Rnd_placeOf (sl32 1 (s15 107 4)) 0 0 s15) fun r16 => bd1 (f_JArr_fill_bad5a n 103 32768 0 (sr32 r16 6) 0 s15) fun s17 => bd2 (f_Rnd_search n 0 v7 v10 0 s17) fun r18 s19 => if r18 = 0 then (if (s19 107 10) = 0 then (some ((-1), s19)) else (lt_ (sp s19 107 9 (w32 ((s19 107 9) + 1))) fun s20 => rc13 s20)) else (lt_ (sp s19 107 12 (s19 107 9)) fun s21 => lt_ (acp s21 112 0 113 0 10) fun s22 => some (s22 107 12, s22)))) s12) fun j8 => if (s4 11 4) = 0 then (j8 22) else (j8 21)) fun j5 => if (s4 11 4) = 0 then (j5 22) else (j5 20))
set_option maxRecDepth 20000 in
set_option maxHeartbeats 4000000 in
theorem k_Rnd_findFewest  (n : Nat)    (σ : JSg) : Call yX6_findFewest cX6_findFewest 3 (some .int) 67 SH RHO [vR 107] σ dIm (f_Rnd_findFewest n σ) := by
  refine call_of_sim (by decide +kernel) (Nat.le_of_ble_eq_true rfl) ?_
  show Sim RX6 cX6_findFewest 3 (some .int) 67 SH RHO 0 [(0, vR 107)] [] σ dIm (f_Rnd_findFewest n σ)
  unfold f_Rnd_findFewest
  refine sim_aload_n 0 rfl dX6_findFewest_0 ?_
  refine sim_aload_n 0 rfl dX6_findFewest_1 ?_
  refine sim_getR g_RX6_44 sh_107 rh_107_0 dX6_findFewest_2 ?_
  refine sim_aload_n 0 rfl dX6_findFewest_5 ?_
  refine sim_getR g_RX6_11 sh_107 rh_107_3 dX6_findFewest_6 ?_
  refine sim_callVIm v_RX6_59 (LRow_o lay_11) dX6_findFewest_9 (k_Row_gather SH RHO n 11 4 108 10 lay_11 lay_4 sh_108 (okI_lit (by decide)) σ) rfl ⟨by decide, by decide⟩ (S := [vR 107]) rfl (Nat.le_of_ble_eq_true rfl) (fun r1 s2 => ?_)
  refine sim_putI g_RX6_15 sh_107 dX6_findFewest_12 (fun s3 => ?_)
  refine sim_aload_n 0 rfl dX6_findFewest_15 ?_
  refine sim_getI g_RX6_15 sh_107 dX6_findFewest_16 ?_
  refine sim_iconst dX6_findFewest_19 (by decide) ?_
  refine sim_icmp_ne (tgt := 25) dX6_findFewest_20 (by decide) ?_ ?_
  · refine sim_aload_n 0 rfl dX6_findFewest_25 ?_
    refine sim_callVVm v_RX6_63 sh_107 dX6_findFewest_26 (k_Rnd_prepare n s3) rfl ⟨by decide, by decide⟩ (S := []) rfl (Nat.le_of_ble_eq_true rfl) (fun s4 => ?_)
    refine sim_aload_n 0 rfl dX6_findFewest_29 ?_
    refine sim_getR g_RX6_44 sh_107 rh_107_0 dX6_findFewest_30 ?_
    refine sim_getI g_RX6_66 (LRow_o lay_11) dX6_findFewest_33 ?_
    refine sim_jn1 (pc' := 46) (fun (u6 : Int) => [(0, vR 107)]) (fun (u6 : Int) => [vI u6]) (fun (u6 : Int) => s4) ?_ (fun j5 hj5 => ?_)
    · intro u6
      refine sim_istore_n (fun v7 => [(1, vI v7), (0, vR 107)]) (fun _ => rfl) (by decide) dX6_findFewest_46 (fun v7 => ?_)
      refine sim_aload_n 1 rfl dX6_findFewest_47 ?_
      refine sim_getR g_RX6_44 sh_107 rh_107_0 dX6_findFewest_48 ?_
      refine sim_getI g_RX6_66 (LRow_o lay_11) dX6_findFewest_51 ?_
      refine sim_jn1 (pc' := 64) (fun (u9 : Int) => [(0, vR 107), (1, vI v7)]) (fun (u9 : Int) => [vI u9]) (fun (u9 : Int) => s4) ?_ (fun j8 hj8 => ?_)
      · intro u9
        refine sim_istore_n (fun v10 => [(2, vI v10), (0, vR 107), (1, vI v7)]) (fun _ => rfl) (by decide) dX6_findFewest_64 (fun v10 => ?_)
        refine sim_aload_n 1 rfl dX6_findFewest_65 ?_
        refine sim_aload_n 1 rfl dX6_findFewest_66 ?_
        refine sim_iconst dX6_findFewest_67 (by decide) ?_
        refine sim_callVIp v_RX6_67 sh_107 dX6_findFewest_68 (k_Rnd_missing n 0 s4) rfl ⟨by decide, by decide⟩ (S := [vR 107]) rfl (Nat.le_of_ble_eq_true rfl) (fun r11 => ?_)
        refine sim_putI g_RX6_31 sh_107 dX6_findFewest_71 (fun s12 => ?_)
        refine sim_sub [1, 2, 0] (L' := [(0, vR 107), (1, vI v7), (2, vI v10)]) rfl ?_
        refine sim_wh1 (fun  (s14 : JSg) => [(0, vR 107), (1, vI v7), (2, vI v10)]) (fun  (s14 : JSg) => s14) ?_ n s12
        intro rc13 hrc13 s14
        refine sim_aload_n 0 rfl dX6_findFewest_74 ?_
        refine sim_getI g_RX6_31 sh_107 dX6_findFewest_75 ?_
        refine sim_aload_n 0 rfl dX6_findFewest_78 ?_
        refine sim_getI g_RX6_15 sh_107 dX6_findFewest_79 ?_
        refine sim_icmp_gt (tgt := 174) dX6_findFewest_82 (by decide) ?_ ?_
        · refine sim_iconst dX6_findFewest_174 (by decide) ?_
          exact sim_iret rfl rfl dX6_findFewest_175
        · refine sim_aload_n 0 rfl dX6_findFewest_85 ?_
          refine sim_iconst dX6_findFewest_86 (by decide) ?_
          refine sim_putZ (Or.inl rfl) g_RX6_34 sh_107 dX6_findFewest_87 (fun s15 => ?_)
          refine sim_aload_n 0 rfl dX6_findFewest_90 ?_
          refine sim_getR g_RX6_55 sh_107 rh_107_2 dX6_findFewest_91 ?_
          refine sim_iconst dX6_findFewest_94 (by decide) ?_
          refine sim_iconst dX6_findFewest_95 (by decide) ?_
          refine sim_aload_n 0 rfl dX6_findFewest_96 ?_
          refine sim_getI g_RX6_15 sh_107 dX6_findFewest_97 ?_
          refine sim_ishl dX6_findFewest_100 ?_
          refine sim_iconst dX6_findFewest_101 (by decide) ?_
          refine sim_iconst dX6_findFewest_102 (by decide) ?_
          refine sim_callSIp s_RX6_71 dX6_findFewest_103 (k_Rnd_placeOf SH RHO (sl32 1 (s15 107 4)) 0 0 s15) rfl ⟨by decide, by decide⟩ (S := [vI 0, vR 103]) rfl (Nat.le_of_ble_eq_true rfl) (fun r16 => ?_)
          refine sim_bipush dX6_findFewest_106 (by decide +kernel) ?_
          refine sim_ishr dX6_findFewest_108 ?_
          refine sim_lconst (v := 0) dX6_findFewest_109 (by decide +kernel) ?_
          refine sim_callSVm s_RX6_75 dX6_findFewest_110 (k_JArr_fill_bad5a SH RHO n 103 32768 sh_103 (okI_lit (by decide)) 0 (sr32 r16 6) 0 s15) rfl ⟨by decide, by decide⟩ (S := []) rfl (Nat.le_of_ble_eq_true rfl) (fun s17 => ?_)
          refine sim_aload_n 0 rfl dX6_findFewest_113 ?_
          refine sim_iconst dX6_findFewest_114 (by decide) ?_
          refine sim_iload_n 1 rfl dX6_findFewest_115 ?_
          refine sim_iload_n 2 rfl dX6_findFewest_116 ?_
          refine sim_iconst dX6_findFewest_117 (by decide) ?_
          refine sim_callVIm v_RX6_81 sh_107 dX6_findFewest_118 (k_Rnd_search n 0 v7 v10 0 s17) rfl ⟨by decide, by decide⟩ (S := []) rfl (Nat.le_of_ble_eq_true rfl) (fun r18 s19 => ?_)
          refine sim_if_eq (tgt := 152) dX6_findFewest_121 (by decide) ?_ ?_
          · refine sim_aload_n 0 rfl dX6_findFewest_152 ?_
            refine sim_getZ g_RX6_34 sh_107 dX6_findFewest_153 ?_
            refine sim_if_ne (tgt := 161) dX6_findFewest_156 (by decide) ?_ ?_
            · refine sim_aload_n 0 rfl dX6_findFewest_161 ?_
              refine sim_dup rfl dX6_findFewest_162 ?_
              refine sim_getI g_RX6_31 sh_107 dX6_findFewest_163 ?_
              refine sim_iconst dX6_findFewest_166 (by decide) ?_
              refine sim_iadd dX6_findFewest_167 ?_
              refine sim_putI g_RX6_31 sh_107 dX6_findFewest_168 (fun s20 => ?_)
              refine sim_goto (tgt := 74) dX6_findFewest_171 (by decide) ?_
              exact sim_sub [0, 1, 2] rfl (hrc13 s20)
            · refine sim_iconst dX6_findFewest_159 (by decide) ?_
              exact sim_iret rfl rfl dX6_findFewest_160
          · refine sim_aload_n 0 rfl dX6_findFewest_124 ?_
            refine sim_aload_n 0 rfl dX6_findFewest_125 ?_
            refine sim_getI g_RX6_31 sh_107 dX6_findFewest_126 ?_
            refine sim_putI g_RX6_41 sh_107 dX6_findFewest_129 (fun s21 => ?_)
            refine sim_aload_n 0 rfl dX6_findFewest_132 ?_
            refine sim_getR g_RX6_28 sh_107 rh_107_8 dX6_findFewest_133 ?_
            refine sim_iconst dX6_findFewest_136 (by decide) ?_
            refine sim_aload_n 0 rfl dX6_findFewest_137 ?_
            refine sim_getR g_RX6_38 sh_107 rh_107_11 dX6_findFewest_138 ?_
            refine sim_iconst dX6_findFewest_141 (by decide) ?_
            refine sim_bipush dX6_findFewest_142 (by decide +kernel) ?_
            refine sim_acpIK (a := 0) (b := 0) (n := 10) sh_112 sh_113 rfl rfl rfl (by decide) w_1062 w_783 w_782 w_21 (by decide) (Nat.le_of_ble_eq_true rfl) dX6_findFewest_144 (fun s22 => ?_)
            refine sim_aload_n 0 rfl dX6_findFewest_147 ?_
            refine sim_getI g_RX6_41 sh_107 dX6_findFewest_148 ?_
            exact sim_iret rfl rfl dX6_findFewest_151
      refine sim_if_ne (tgt := 62) dX6_findFewest_54 (by decide) ?_ ?_
      · refine sim_bipush dX6_findFewest_62 (by decide +kernel) ?_
        exact sim_sub [1, 0] rfl (hj8 21)
      · refine sim_bipush dX6_findFewest_57 (by decide +kernel) ?_
        refine sim_goto (tgt := 64) dX6_findFewest_59 (by decide) ?_
        exact sim_sub [1, 0] rfl (hj8 22)
    refine sim_if_ne (tgt := 44) dX6_findFewest_36 (by decide) ?_ ?_
    · refine sim_bipush dX6_findFewest_44 (by decide +kernel) ?_
      exact sim_sub [0] rfl (hj5 20)
    · refine sim_bipush dX6_findFewest_39 (by decide +kernel) ?_
      refine sim_goto (tgt := 46) dX6_findFewest_41 (by decide) ?_
      exact sim_sub [0] rfl (hj5 22)
  · refine sim_iconst dX6_findFewest_23 (by decide) ?_
    exact sim_iret rfl rfl dX6_findFewest_24
theorem dX11_all_0 : decode cX11_all 0 = .ok (.aload_n 0, 1) := by decide +kernel
theorem dX11_all_1 : decode cX11_all 1 = .ok (.getfield 85, 3) := by decide +kernel
theorem dX11_all_4 : decode cX11_all 4 = .ok (.invokevirtual 268, 3) := by decide +kernel
theorem dX11_all_7 : decode cX11_all 7 = .ok (.ireturn, 1) := by decide +kernel
def f_W_all (n : Nat)   (σ : JSg) : Option (Int × JSg) :=
  bd2 (f_Rnd_findFewest n σ) fun r1 s2 => some (r1, s2)
set_option maxRecDepth 20000 in
set_option maxHeartbeats 4000000 in
theorem k_W_all  (n : Nat)    (σ : JSg) : Call yX11_all cX11_all 1 (some .int) 68 SH RHO [vR 0] σ dIm (f_W_all n σ) := by
  refine call_of_sim (by decide +kernel) (Nat.le_of_ble_eq_true rfl) ?_
  show Sim RX11 cX11_all 1 (some .int) 68 SH RHO 0 [(0, vR 0)] [] σ dIm (f_W_all n σ)
  unfold f_W_all
  refine sim_aload_n 0 rfl dX11_all_0 ?_
  refine sim_getR g_RX11_85 sh_0 rh_0_13 dX11_all_1 ?_
  refine sim_callVIm v_RX11_268 sh_107 dX11_all_4 (k_Rnd_findFewest n σ) rfl ⟨by decide, by decide⟩ (S := []) rfl (Nat.le_of_ble_eq_true rfl) (fun r1 s2 => ?_)
  exact sim_iret rfl rfl dX11_all_7
theorem dX11_longAt_0 : decode cX11_longAt 0 = .ok (.iload_n 1, 1) := by decide +kernel
theorem dX11_longAt_1 : decode cX11_longAt 1 = .ok (.ifCond .lt 26, 3) := by decide +kernel
theorem dX11_longAt_4 : decode cX11_longAt 4 = .ok (.iload_n 1, 1) := by decide +kernel
theorem dX11_longAt_5 : decode cX11_longAt 5 = .ok (.aload_n 0, 1) := by decide +kernel
theorem dX11_longAt_6 : decode cX11_longAt 6 = .ok (.getfield 78, 3) := by decide +kernel
theorem dX11_longAt_9 : decode cX11_longAt 9 = .ok (.getfield 264, 3) := by decide +kernel
theorem dX11_longAt_12 : decode cX11_longAt 12 = .ok (.if_icmp .ge 15, 3) := by decide +kernel
theorem dX11_longAt_15 : decode cX11_longAt 15 = .ok (.aload_n 0, 1) := by decide +kernel
theorem dX11_longAt_16 : decode cX11_longAt 16 = .ok (.getfield 78, 3) := by decide +kernel
theorem dX11_longAt_19 : decode cX11_longAt 19 = .ok (.getfield 265, 3) := by decide +kernel
theorem dX11_longAt_22 : decode cX11_longAt 22 = .ok (.iload_n 1, 1) := by decide +kernel
theorem dX11_longAt_23 : decode cX11_longAt 23 = .ok (.iaload, 1) := by decide +kernel
theorem dX11_longAt_24 : decode cX11_longAt 24 = .ok (.goto 4, 3) := by decide +kernel
theorem dX11_longAt_27 : decode cX11_longAt 27 = .ok (.iconst (-1), 1) := by decide +kernel
theorem dX11_longAt_28 : decode cX11_longAt 28 = .ok (.ireturn, 1) := by decide +kernel
def f_W_longAt   (a1 : Int) (σ : JSg) : Option (Int) :=
  if a1 < 0 then (some (-1)) else (if a1 < (σ 104 6) then (chk (0 ≤ a1 ∧ a1 < 12) <| some (σ 106 a1.toNat)) else (some (-1)))
set_option maxRecDepth 20000 in
set_option maxHeartbeats 4000000 in
theorem k_W_longAt     (a1 : Int) (σ : JSg) : Call yX11_longAt cX11_longAt 2 (some .int) 0 SH RHO [vR 0, vI a1] σ (dIp σ) (f_W_longAt a1 σ) := by
  refine call_of_sim (by decide +kernel) (Nat.le_of_ble_eq_true rfl) ?_
  show Sim RX11 cX11_longAt 2 (some .int) 0 SH RHO 0 [(0, vR 0), (1, vI a1)] [] σ (dIp σ) (f_W_longAt a1 σ)
  unfold f_W_longAt
  refine sim_iload_n 1 rfl dX11_longAt_0 ?_
  refine sim_if_lt (tgt := 27) dX11_longAt_1 (by decide) ?_ ?_
  · refine sim_iconst dX11_longAt_27 (by decide) ?_
    exact sim_iret rfl rfl dX11_longAt_28
  · refine sim_iload_n 1 rfl dX11_longAt_4 ?_
    refine sim_aload_n 0 rfl dX11_longAt_5 ?_
    refine sim_getR g_RX11_78 sh_0 rh_0_12 dX11_longAt_6 ?_
    refine sim_getI g_RX11_264 sh_104 dX11_longAt_9 ?_
    refine sim_icmp_ge (tgt := 27) dX11_longAt_12 (by decide) ?_ ?_
    · refine sim_iconst dX11_longAt_27 (by decide) ?_
      exact sim_iret rfl rfl dX11_longAt_28
    · refine sim_aload_n 0 rfl dX11_longAt_15 ?_
      refine sim_getR g_RX11_78 sh_0 rh_0_12 dX11_longAt_16 ?_
      refine sim_getR g_RX11_265 sh_104 rh_104_5 dX11_longAt_19 ?_
      refine sim_iload_n 1 rfl dX11_longAt_22 ?_
      refine sim_iaload sh_106 rfl dX11_longAt_23 ?_
      refine sim_goto (tgt := 28) dX11_longAt_24 (by decide) ?_
      exact sim_iret rfl rfl dX11_longAt_28
theorem dX0_usefulBy_0 : decode cX0_usefulBy 0 = .ok (.aload_n 0, 1) := by decide +kernel
theorem dX0_usefulBy_1 : decode cX0_usefulBy 1 = .ok (.getfield 36, 3) := by decide +kernel
theorem dX0_usefulBy_4 : decode cX0_usefulBy 4 = .ok (.sipush 4096, 3) := by decide +kernel
theorem dX0_usefulBy_7 : decode cX0_usefulBy 7 = .ok (.iload_n 1, 1) := by decide +kernel
theorem dX0_usefulBy_8 : decode cX0_usefulBy 8 = .ok (.iconst 1, 1) := by decide +kernel
theorem dX0_usefulBy_9 : decode cX0_usefulBy 9 = .ok (.iload_n 2, 1) := by decide +kernel
theorem dX0_usefulBy_10 : decode cX0_usefulBy 10 = .ok (.ishl, 1) := by decide +kernel
theorem dX0_usefulBy_11 : decode cX0_usefulBy 11 = .ok (.ior, 1) := by decide +kernel
theorem dX0_usefulBy_12 : decode cX0_usefulBy 12 = .ok (.iadd, 1) := by decide +kernel
theorem dX0_usefulBy_13 : decode cX0_usefulBy 13 = .ok (.laload, 1) := by decide +kernel
theorem dX0_usefulBy_14 : decode cX0_usefulBy 14 = .ok (.lstore_n 3, 1) := by decide +kernel
theorem dX0_usefulBy_15 : decode cX0_usefulBy 15 = .ok (.aload_n 0, 1) := by decide +kernel
theorem dX0_usefulBy_16 : decode cX0_usefulBy 16 = .ok (.getfield 35, 3) := by decide +kernel
theorem dX0_usefulBy_19 : decode cX0_usefulBy 19 = .ok (.getfield 85, 3) := by decide +kernel
theorem dX0_usefulBy_22 : decode cX0_usefulBy 22 = .ok (.aload_n 0, 1) := by decide +kernel
theorem dX0_usefulBy_23 : decode cX0_usefulBy 23 = .ok (.getfield 11, 3) := by decide +kernel
theorem dX0_usefulBy_26 : decode cX0_usefulBy 26 = .ok (.iload_n 2, 1) := by decide +kernel
theorem dX0_usefulBy_27 : decode cX0_usefulBy 27 = .ok (.iaload, 1) := by decide +kernel
theorem dX0_usefulBy_28 : decode cX0_usefulBy 28 = .ok (.iaload, 1) := by decide +kernel
theorem dX0_usefulBy_29 : decode cX0_usefulBy 29 = .ok (.istore 5, 2) := by decide +kernel
theorem dX0_usefulBy_31 : decode cX0_usefulBy 31 = .ok (.aload_n 0, 1) := by decide +kernel
theorem dX0_usefulBy_32 : decode cX0_usefulBy 32 = .ok (.getfield 35, 3) := by decide +kernel
theorem dX0_usefulBy_35 : decode cX0_usefulBy 35 = .ok (.getfield 88, 3) := by decide +kernel
theorem dX0_usefulBy_38 : decode cX0_usefulBy 38 = .ok (.aload_n 0, 1) := by decide +kernel
theorem dX0_usefulBy_39 : decode cX0_usefulBy 39 = .ok (.getfield 11, 3) := by decide +kernel
theorem dX0_usefulBy_42 : decode cX0_usefulBy 42 = .ok (.iload_n 2, 1) := by decide +kernel
theorem dX0_usefulBy_43 : decode cX0_usefulBy 43 = .ok (.iaload, 1) := by decide +kernel
theorem dX0_usefulBy_44 : decode cX0_usefulBy 44 = .ok (.iaload, 1) := by decide +kernel
theorem dX0_usefulBy_45 : decode cX0_usefulBy 45 = .ok (.istore 6, 2) := by decide +kernel
theorem dX0_usefulBy_47 : decode cX0_usefulBy 47 = .ok (.lload_n 3, 1) := by decide +kernel
theorem dX0_usefulBy_48 : decode cX0_usefulBy 48 = .ok (.iload 6, 2) := by decide +kernel
theorem dX0_usefulBy_50 : decode cX0_usefulBy 50 = .ok (.lshr, 1) := by decide +kernel
theorem dX0_usefulBy_51 : decode cX0_usefulBy 51 = .ok (.lconst 1, 1) := by decide +kernel
theorem dX0_usefulBy_52 : decode cX0_usefulBy 52 = .ok (.land, 1) := by decide +kernel
theorem dX0_usefulBy_53 : decode cX0_usefulBy 53 = .ok (.lconst 0, 1) := by decide +kernel
theorem dX0_usefulBy_54 : decode cX0_usefulBy 54 = .ok (.lcmp, 1) := by decide +kernel
theorem dX0_usefulBy_55 : decode cX0_usefulBy 55 = .ok (.ifCond .eq 12, 3) := by decide +kernel
theorem dX0_usefulBy_58 : decode cX0_usefulBy 58 = .ok (.aload_n 0, 1) := by decide +kernel
theorem dX0_usefulBy_59 : decode cX0_usefulBy 59 = .ok (.iload 5, 2) := by decide +kernel
theorem dX0_usefulBy_61 : decode cX0_usefulBy 61 = .ok (.invokevirtual 91, 3) := by decide +kernel
theorem dX0_usefulBy_64 : decode cX0_usefulBy 64 = .ok (.goto 4, 3) := by decide +kernel
theorem dX0_usefulBy_67 : decode cX0_usefulBy 67 = .ok (.lconst 0, 1) := by decide +kernel
theorem dX0_usefulBy_68 : decode cX0_usefulBy 68 = .ok (.lload_n 3, 1) := by decide +kernel
theorem dX0_usefulBy_69 : decode cX0_usefulBy 69 = .ok (.iload 5, 2) := by decide +kernel
theorem dX0_usefulBy_71 : decode cX0_usefulBy 71 = .ok (.lshr, 1) := by decide +kernel
theorem dX0_usefulBy_72 : decode cX0_usefulBy 72 = .ok (.lconst 1, 1) := by decide +kernel
theorem dX0_usefulBy_73 : decode cX0_usefulBy 73 = .ok (.land, 1) := by decide +kernel
theorem dX0_usefulBy_74 : decode cX0_usefulBy 74 = .ok (.lconst 0, 1) := by decide +kernel
theorem dX0_usefulBy_75 : decode cX0_usefulBy 75 = .ok (.lcmp, 1) := by decide +kernel
theorem dX0_usefulBy_76 : decode cX0_usefulBy 76 = .ok (.ifCond .eq 12, 3) := by decide +kernel
theorem dX0_usefulBy_79 : decode cX0_usefulBy 79 = .ok (.aload_n 0, 1) := by decide +kernel
theorem dX0_usefulBy_80 : decode cX0_usefulBy 80 = .ok (.iload 6, 2) := by decide +kernel
theorem dX0_usefulBy_82 : decode cX0_usefulBy 82 = .ok (.invokevirtual 91, 3) := by decide +kernel
theorem dX0_usefulBy_85 : decode cX0_usefulBy 85 = .ok (.goto 4, 3) := by decide +kernel
theorem dX0_usefulBy_88 : decode cX0_usefulBy 88 = .ok (.lconst 0, 1) := by decide +kernel
theorem dX0_usefulBy_89 : decode cX0_usefulBy 89 = .ok (.lor, 1) := by decide +kernel
theorem dX0_usefulBy_90 : decode cX0_usefulBy 90 = .ok (.lreturn, 1) := by decide +kernel
def f_Chn_usefulBy   (a1 : Int) (a2 : Int) (σ : JSg) : Option (Int) :=
  chk (0 ≤ (w32 (4096 + (or32 a1 (sl32 1 a2)))) ∧ (w32 (4096 + (or32 a1 (sl32 1 a2)))) < 32768) <| lt_ (σ 103 (w32 (4096 + (or32 a1 (sl32 1 a2)))).toNat) fun v1 => chk (0 ≤ a2 ∧ a2 < 12) <| chk (0 ≤ (σ 105 a2.toNat) ∧ (σ 105 a2.toNat) < 28) <| lt_ (σ 6 (σ 105 a2.toNat).toNat) fun v2 => chk (0 ≤ a2 ∧ a2 < 12) <| chk (0 ≤ (σ 105 a2.toNat) ∧ (σ 105 a2.toNat) < 28) <| lt_ (σ 7 (σ 105 a2.toNat).toNat) fun v3 => jn1 (fun (u5 : Int) => jn1 (fun (u7 : Int) => some (or64 u5 u7)) fun j6 => if (cmpL (an64 (sr64 v1 v2) 1) 0) = 0 then (j6 0) else (bd1 (f_Chn_ahead v3 σ) fun r8 => j6 r8)) fun j4 => if (cmpL (an64 (sr64 v1 v3) 1) 0) = 0 then (j4 0) else (bd1 (f_Chn_ahead v2 σ) fun r9 => j4 r9)
set_option maxRecDepth 20000 in
set_option maxHeartbeats 4000000 in
theorem k_Chn_usefulBy     (a1 : Int) (a2 : Int) (σ : JSg) : Call yX0_usefulBy cX0_usefulBy 7 (some .long) 1 SH RHO [vR 104, vI a1, vI a2] σ (dLp σ) (f_Chn_usefulBy a1 a2 σ) := by
  refine call_of_sim (by decide +kernel) (Nat.le_of_ble_eq_true rfl) ?_
  show Sim RX0 cX0_usefulBy 7 (some .long) 1 SH RHO 0 [(0, vR 104), (1, vI a1), (2, vI a2)] [] σ (dLp σ) (f_Chn_usefulBy a1 a2 σ)
  unfold f_Chn_usefulBy
  refine sim_aload_n 0 rfl dX0_usefulBy_0 ?_
  refine sim_getR g_RX0_36 sh_104 rh_104_2 dX0_usefulBy_1 ?_
  refine sim_sipush dX0_usefulBy_4 (by decide +kernel) ?_
  refine sim_iload_n 1 rfl dX0_usefulBy_7 ?_
  refine sim_iconst dX0_usefulBy_8 (by decide) ?_
  refine sim_iload_n 2 rfl dX0_usefulBy_9 ?_
  refine sim_ishl dX0_usefulBy_10 ?_
  refine sim_ior dX0_usefulBy_11 ?_
  refine sim_iadd dX0_usefulBy_12 ?_
  refine sim_laload sh_103 rfl dX0_usefulBy_13 ?_
  refine sim_lstore_n (fun v1 => [(3, vL v1), (0, vR 104), (1, vI a1), (2, vI a2)]) (fun _ => rfl) (by decide) dX0_usefulBy_14 (fun v1 => ?_)
  refine sim_aload_n 1 rfl dX0_usefulBy_15 ?_
  refine sim_getR g_RX0_35 sh_104 rh_104_1 dX0_usefulBy_16 ?_
  refine sim_getR g_RX0_85 (LIsl_o lay_4) rh_4_8 dX0_usefulBy_19 ?_
  refine sim_aload_n 1 rfl dX0_usefulBy_22 ?_
  refine sim_getR g_RX0_11 sh_104 rh_104_3 dX0_usefulBy_23 ?_
  refine sim_iload_n 3 rfl dX0_usefulBy_26 ?_
  refine sim_iaload sh_105 rfl dX0_usefulBy_27 ?_
  refine sim_iaload sh_6 rfl dX0_usefulBy_28 ?_
  refine sim_istore (fun v2 => [(5, vI v2), (3, vL v1), (0, vR 104), (1, vI a1), (2, vI a2)]) (fun _ => rfl) (by decide) dX0_usefulBy_29 (fun v2 => ?_)
  refine sim_aload_n 2 rfl dX0_usefulBy_31 ?_
  refine sim_getR g_RX0_35 sh_104 rh_104_1 dX0_usefulBy_32 ?_
  refine sim_getR g_RX0_88 (LIsl_o lay_4) rh_4_9 dX0_usefulBy_35 ?_
  refine sim_aload_n 2 rfl dX0_usefulBy_38 ?_
  refine sim_getR g_RX0_11 sh_104 rh_104_3 dX0_usefulBy_39 ?_
  refine sim_iload_n 4 rfl dX0_usefulBy_42 ?_
  refine sim_iaload sh_105 rfl dX0_usefulBy_43 ?_
  refine sim_iaload sh_7 rfl dX0_usefulBy_44 ?_
  refine sim_istore (fun v3 => [(6, vI v3), (5, vI v2), (3, vL v1), (0, vR 104), (1, vI a1), (2, vI a2)]) (fun _ => rfl) (by decide) dX0_usefulBy_45 (fun v3 => ?_)
  refine sim_lload_n 2 rfl dX0_usefulBy_47 ?_
  refine sim_iload 0 rfl dX0_usefulBy_48 ?_
  refine sim_lshr dX0_usefulBy_50 ?_
  refine sim_lconst (v := 1) dX0_usefulBy_51 (by decide +kernel) ?_
  refine sim_land dX0_usefulBy_52 ?_
  refine sim_lconst (v := 0) dX0_usefulBy_53 (by decide +kernel) ?_
  refine sim_lcmp dX0_usefulBy_54 ?_
  refine sim_jn1 (pc' := 68) (fun (u5 : Int) => [(0, vR 104), (3, vL v1), (5, vI v2), (6, vI v3)]) (fun (u5 : Int) => [vL u5]) (fun (u5 : Int) => σ) ?_ (fun j4 hj4 => ?_)
  · intro u5
    refine sim_lload_n 1 rfl dX0_usefulBy_68 ?_
    refine sim_iload 2 rfl dX0_usefulBy_69 ?_
    refine sim_lshr dX0_usefulBy_71 ?_
    refine sim_lconst (v := 1) dX0_usefulBy_72 (by decide +kernel) ?_
    refine sim_land dX0_usefulBy_73 ?_
    refine sim_lconst (v := 0) dX0_usefulBy_74 (by decide +kernel) ?_
    refine sim_lcmp dX0_usefulBy_75 ?_
    refine sim_jn1 (pc' := 89) (fun (u7 : Int) => []) (fun (u7 : Int) => [vL u7, vL u5]) (fun (u7 : Int) => σ) ?_ (fun j6 hj6 => ?_)
    · intro u7
      refine sim_lor dX0_usefulBy_89 ?_
      exact sim_lret rfl rfl dX0_usefulBy_90
    refine sim_if_eq (tgt := 88) dX0_usefulBy_76 (by decide) ?_ ?_
    · refine sim_lconst (v := 0) dX0_usefulBy_88 (by decide +kernel) ?_
      exact sim_sub [] rfl (hj6 0)
    · refine sim_aload_n 0 rfl dX0_usefulBy_79 ?_
      refine sim_iload 3 rfl dX0_usefulBy_80 ?_
      refine sim_callVLp v_RX0_91 sh_104 dX0_usefulBy_82 (k_Chn_ahead v3 σ) rfl ⟨by decide, by decide⟩ (S := [vL u5]) rfl (Nat.le_of_ble_eq_true rfl) (fun r8 => ?_)
      refine sim_goto (tgt := 89) dX0_usefulBy_85 (by decide) ?_
      exact sim_sub [] rfl (hj6 r8)
  refine sim_if_eq (tgt := 67) dX0_usefulBy_55 (by decide) ?_ ?_
  · refine sim_lconst (v := 0) dX0_usefulBy_67 (by decide +kernel) ?_
    exact sim_sub [3, 2, 1, 0] rfl (hj4 0)
  · refine sim_aload_n 3 rfl dX0_usefulBy_58 ?_
    refine sim_iload 1 rfl dX0_usefulBy_59 ?_
    refine sim_callVLp v_RX0_91 sh_104 dX0_usefulBy_61 (k_Chn_ahead v2 σ) rfl ⟨by decide, by decide⟩ (S := []) rfl (Nat.le_of_ble_eq_true rfl) (fun r9 => ?_)
    refine sim_goto (tgt := 68) dX0_usefulBy_64 (by decide) ?_
    exact sim_sub [3, 2, 1, 0] rfl (hj4 r9)
theorem dX0_markUseful_0 : decode cX0_markUseful 0 = .ok (.iconst 1, 1) := by decide +kernel
theorem dX0_markUseful_1 : decode cX0_markUseful 1 = .ok (.aload_n 0, 1) := by decide +kernel
theorem dX0_markUseful_2 : decode cX0_markUseful 2 = .ok (.getfield 15, 3) := by decide +kernel
theorem dX0_markUseful_5 : decode cX0_markUseful 5 = .ok (.ishl, 1) := by decide +kernel
theorem dX0_markUseful_6 : decode cX0_markUseful 6 = .ok (.iconst 1, 1) := by decide +kernel
theorem dX0_markUseful_7 : decode cX0_markUseful 7 = .ok (.isub, 1) := by decide +kernel
theorem dX0_markUseful_8 : decode cX0_markUseful 8 = .ok (.istore_n 1, 1) := by decide +kernel
theorem dX0_markUseful_9 : decode cX0_markUseful 9 = .ok (.iload_n 1, 1) := by decide +kernel
theorem dX0_markUseful_10 : decode cX0_markUseful 10 = .ok (.ifCond .lt 111, 3) := by decide +kernel
theorem dX0_markUseful_13 : decode cX0_markUseful 13 = .ok (.iload_n 1, 1) := by decide +kernel
theorem dX0_markUseful_14 : decode cX0_markUseful 14 = .ok (.invokestatic 53, 3) := by decide +kernel
theorem dX0_markUseful_17 : decode cX0_markUseful 17 = .ok (.istore_n 2, 1) := by decide +kernel
theorem dX0_markUseful_18 : decode cX0_markUseful 18 = .ok (.aload_n 0, 1) := by decide +kernel
theorem dX0_markUseful_19 : decode cX0_markUseful 19 = .ok (.getfield 36, 3) := by decide +kernel
theorem dX0_markUseful_22 : decode cX0_markUseful 22 = .ok (.sipush 4096, 3) := by decide +kernel
theorem dX0_markUseful_25 : decode cX0_markUseful 25 = .ok (.iload_n 1, 1) := by decide +kernel
theorem dX0_markUseful_26 : decode cX0_markUseful 26 = .ok (.iadd, 1) := by decide +kernel
theorem dX0_markUseful_27 : decode cX0_markUseful 27 = .ok (.iload_n 2, 1) := by decide +kernel
theorem dX0_markUseful_28 : decode cX0_markUseful 28 = .ok (.aload_n 0, 1) := by decide +kernel
theorem dX0_markUseful_29 : decode cX0_markUseful 29 = .ok (.getfield 22, 3) := by decide +kernel
theorem dX0_markUseful_32 : decode cX0_markUseful 32 = .ok (.if_icmp .ne 12, 3) := by decide +kernel
theorem dX0_markUseful_35 : decode cX0_markUseful 35 = .ok (.aload_n 0, 1) := by decide +kernel
theorem dX0_markUseful_36 : decode cX0_markUseful 36 = .ok (.getfield 36, 3) := by decide +kernel
theorem dX0_markUseful_39 : decode cX0_markUseful 39 = .ok (.iload_n 1, 1) := by decide +kernel
theorem dX0_markUseful_40 : decode cX0_markUseful 40 = .ok (.laload, 1) := by decide +kernel
theorem dX0_markUseful_41 : decode cX0_markUseful 41 = .ok (.goto 4, 3) := by decide +kernel
theorem dX0_markUseful_44 : decode cX0_markUseful 44 = .ok (.lconst 0, 1) := by decide +kernel
theorem dX0_markUseful_45 : decode cX0_markUseful 45 = .ok (.lastore, 1) := by decide +kernel
theorem dX0_markUseful_46 : decode cX0_markUseful 46 = .ok (.iconst 0, 1) := by decide +kernel
theorem dX0_markUseful_47 : decode cX0_markUseful 47 = .ok (.istore_n 3, 1) := by decide +kernel
theorem dX0_markUseful_48 : decode cX0_markUseful 48 = .ok (.iload_n 3, 1) := by decide +kernel
theorem dX0_markUseful_49 : decode cX0_markUseful 49 = .ok (.aload_n 0, 1) := by decide +kernel
theorem dX0_markUseful_50 : decode cX0_markUseful 50 = .ok (.getfield 15, 3) := by decide +kernel
theorem dX0_markUseful_53 : decode cX0_markUseful 53 = .ok (.if_icmp .ge 62, 3) := by decide +kernel
theorem dX0_markUseful_56 : decode cX0_markUseful 56 = .ok (.iload_n 2, 1) := by decide +kernel
theorem dX0_markUseful_57 : decode cX0_markUseful 57 = .ok (.aload_n 0, 1) := by decide +kernel
theorem dX0_markUseful_58 : decode cX0_markUseful 58 = .ok (.getfield 22, 3) := by decide +kernel
theorem dX0_markUseful_61 : decode cX0_markUseful 61 = .ok (.if_icmp .ge 54, 3) := by decide +kernel
theorem dX0_markUseful_64 : decode cX0_markUseful 64 = .ok (.aload_n 0, 1) := by decide +kernel
theorem dX0_markUseful_65 : decode cX0_markUseful 65 = .ok (.getfield 36, 3) := by decide +kernel
theorem dX0_markUseful_68 : decode cX0_markUseful 68 = .ok (.iload_n 1, 1) := by decide +kernel
theorem dX0_markUseful_69 : decode cX0_markUseful 69 = .ok (.laload, 1) := by decide +kernel
theorem dX0_markUseful_70 : decode cX0_markUseful 70 = .ok (.lconst 0, 1) := by decide +kernel
theorem dX0_markUseful_71 : decode cX0_markUseful 71 = .ok (.lcmp, 1) := by decide +kernel
theorem dX0_markUseful_72 : decode cX0_markUseful 72 = .ok (.ifCond .eq 43, 3) := by decide +kernel
theorem dX0_markUseful_75 : decode cX0_markUseful 75 = .ok (.iload_n 1, 1) := by decide +kernel
theorem dX0_markUseful_76 : decode cX0_markUseful 76 = .ok (.iload_n 3, 1) := by decide +kernel
theorem dX0_markUseful_77 : decode cX0_markUseful 77 = .ok (.ishr, 1) := by decide +kernel
theorem dX0_markUseful_78 : decode cX0_markUseful 78 = .ok (.iconst 1, 1) := by decide +kernel
theorem dX0_markUseful_79 : decode cX0_markUseful 79 = .ok (.iand, 1) := by decide +kernel
theorem dX0_markUseful_80 : decode cX0_markUseful 80 = .ok (.ifCond .ne 29, 3) := by decide +kernel
theorem dX0_markUseful_83 : decode cX0_markUseful 83 = .ok (.aload_n 0, 1) := by decide +kernel
theorem dX0_markUseful_84 : decode cX0_markUseful 84 = .ok (.getfield 36, 3) := by decide +kernel
theorem dX0_markUseful_87 : decode cX0_markUseful 87 = .ok (.sipush 4096, 3) := by decide +kernel
theorem dX0_markUseful_90 : decode cX0_markUseful 90 = .ok (.iload_n 1, 1) := by decide +kernel
theorem dX0_markUseful_91 : decode cX0_markUseful 91 = .ok (.iadd, 1) := by decide +kernel
theorem dX0_markUseful_92 : decode cX0_markUseful 92 = .ok (.dup2, 1) := by decide +kernel
theorem dX0_markUseful_93 : decode cX0_markUseful 93 = .ok (.laload, 1) := by decide +kernel
theorem dX0_markUseful_94 : decode cX0_markUseful 94 = .ok (.aload_n 0, 1) := by decide +kernel
theorem dX0_markUseful_95 : decode cX0_markUseful 95 = .ok (.getfield 36, 3) := by decide +kernel
theorem dX0_markUseful_98 : decode cX0_markUseful 98 = .ok (.iload_n 1, 1) := by decide +kernel
theorem dX0_markUseful_99 : decode cX0_markUseful 99 = .ok (.laload, 1) := by decide +kernel
theorem dX0_markUseful_100 : decode cX0_markUseful 100 = .ok (.aload_n 0, 1) := by decide +kernel
theorem dX0_markUseful_101 : decode cX0_markUseful 101 = .ok (.iload_n 1, 1) := by decide +kernel
theorem dX0_markUseful_102 : decode cX0_markUseful 102 = .ok (.iload_n 3, 1) := by decide +kernel
theorem dX0_markUseful_103 : decode cX0_markUseful 103 = .ok (.invokevirtual 95, 3) := by decide +kernel
theorem dX0_markUseful_106 : decode cX0_markUseful 106 = .ok (.land, 1) := by decide +kernel
theorem dX0_markUseful_107 : decode cX0_markUseful 107 = .ok (.lor, 1) := by decide +kernel
theorem dX0_markUseful_108 : decode cX0_markUseful 108 = .ok (.lastore, 1) := by decide +kernel
theorem dX0_markUseful_109 : decode cX0_markUseful 109 = .ok (.iinc 3 1, 3) := by decide +kernel
theorem dX0_markUseful_112 : decode cX0_markUseful 112 = .ok (.goto (-64), 3) := by decide +kernel
theorem dX0_markUseful_115 : decode cX0_markUseful 115 = .ok (.iinc 1 (-1), 3) := by decide +kernel
theorem dX0_markUseful_118 : decode cX0_markUseful 118 = .ok (.goto (-109), 3) := by decide +kernel
theorem dX0_markUseful_121 : decode cX0_markUseful 121 = .ok (.return_, 1) := by decide +kernel
def f_Chn_markUseful (n : Nat)   (σ : JSg) : Option (JSg) :=
  lt_ (w32 ((sl32 1 (σ 104 4)) - 1)) fun v1 => wh2 n (fun rc2 (x3 : Int) (s4 : JSg) => if x3 < 0 then (some s4) else (bd1 (f_JInt_bitCount_0f7a4 x3 s4) fun r5 => lt_ r5 fun v6 => jn1 (fun (u8 : Int) => chk (0 ≤ (w32 (4096 + x3)) ∧ (w32 (4096 + x3)) < 32768) <| lt_ (sp s4 103 (w32 (4096 + x3)).toNat u8) fun s9 => lt_ 0 fun v10 => wh2 n (fun rc11 (x12 : Int) (s13 : JSg) => jn0 (lt_ (w32 (x3 + (-1))) fun v15 => rc2 v15 s13) fun j14 => if x12 < (s13 104 4) then (if v6 < (s13 104 6) then (chk (0 ≤ x3 ∧ x3 < 32768) <| if (cmpL (s13 103 x3.toNat) 0) = 0 then (j14) else (jn1 (fun  (s17 : JSg) => lt_ (w32 (x12 + 1)) fun v18 => rc11 v18 s17) fun j16 => if (an32 (sr32 x3 x12) 1) = 0 then (chk (0 ≤ (w32 (4096 + x3)) ∧ (w32 (4096 + x3)) < 32768) <| chk (0 ≤ x3 ∧ x3 < 32768) <| bd1 (f_Chn_usefulBy x3 x12 s13) fun r19 => chk (0 ≤ (w32 (4096 + x3)) ∧ (w32 (4096 + x3)) < 32768) <| lt_ (sp s13 103 (w32 (4096 + x3)).toNat (or64 (s13 103 (w32 (4096 + x3)).toNat) (an64 (s13 103 x3.toNat) r19))) fun s20 => j16 s20) else (j16 s13))) else (j14)) else (j14)) v10 s9) fun j7 => if v6 = (s4 104 6) then (chk (0 ≤ x3 ∧ x3 < 32768) <| j7 (s4 103 x3.toNat)) else (j7 0))) v1 (σ)
set_option maxRecDepth 20000 in
set_option maxHeartbeats 4000000 in
theorem k_Chn_markUseful  (n : Nat)    (σ : JSg) : Call yX0_markUseful cX0_markUseful 4 none 2 SH RHO [vR 104] σ dVm (f_Chn_markUseful n σ) := by
  refine call_of_sim (by decide +kernel) (Nat.le_of_ble_eq_true rfl) ?_
  show Sim RX0 cX0_markUseful 4 none 2 SH RHO 0 [(0, vR 104)] [] σ dVm (f_Chn_markUseful n σ)
  unfold f_Chn_markUseful
  refine sim_iconst dX0_markUseful_0 (by decide) ?_
  refine sim_aload_n 0 rfl dX0_markUseful_1 ?_
  refine sim_getI g_RX0_15 sh_104 dX0_markUseful_2 ?_
  refine sim_ishl dX0_markUseful_5 ?_
  refine sim_iconst dX0_markUseful_6 (by decide) ?_
  refine sim_isub dX0_markUseful_7 ?_
  refine sim_istore_n (fun v1 => [(1, vI v1), (0, vR 104)]) (fun _ => rfl) (by decide) dX0_markUseful_8 (fun v1 => ?_)
  refine sim_sub [1, 0] (L' := [(0, vR 104), (1, vI v1)]) rfl ?_
  refine sim_wh2 (fun (x3 : Int) (s4 : JSg) => [(0, vR 104), (1, vI x3)]) (fun (x3 : Int) (s4 : JSg) => s4) ?_ n v1 (σ)
  intro rc2 hrc2 x3 s4
  refine sim_iload_n 1 rfl dX0_markUseful_9 ?_
  refine sim_if_lt (tgt := 121) dX0_markUseful_10 (by decide) ?_ ?_
  · exact sim_vret rfl rfl dX0_markUseful_121
  · refine sim_iload_n 1 rfl dX0_markUseful_13 ?_
    refine sim_callSIp s_RX0_53 dX0_markUseful_14 (k_JInt_bitCount_0f7a4 SH RHO x3 s4) rfl ⟨by decide, by decide⟩ (S := []) rfl (Nat.le_of_ble_eq_true rfl) (fun r5 => ?_)
    refine sim_istore_n (fun v6 => [(2, vI v6), (0, vR 104), (1, vI x3)]) (fun _ => rfl) (by decide) dX0_markUseful_17 (fun v6 => ?_)
    refine sim_aload_n 1 rfl dX0_markUseful_18 ?_
    refine sim_getR g_RX0_36 sh_104 rh_104_2 dX0_markUseful_19 ?_
    refine sim_sipush dX0_markUseful_22 (by decide +kernel) ?_
    refine sim_iload_n 2 rfl dX0_markUseful_25 ?_
    refine sim_iadd dX0_markUseful_26 ?_
    refine sim_iload_n 0 rfl dX0_markUseful_27 ?_
    refine sim_aload_n 1 rfl dX0_markUseful_28 ?_
    refine sim_getI g_RX0_22 sh_104 dX0_markUseful_29 ?_
    refine sim_jn1 (pc' := 45) (fun (u8 : Int) => [(0, vR 104), (1, vI x3), (2, vI v6)]) (fun (u8 : Int) => [vL u8, vI (w32 (4096 + x3)), vR 103]) (fun (u8 : Int) => s4) ?_ (fun j7 hj7 => ?_)
    · intro u8
      refine sim_lastore sh_103 rfl dX0_markUseful_45 (fun s9 => ?_)
      refine sim_iconst dX0_markUseful_46 (by decide) ?_
      refine sim_istore_n (fun v10 => [(3, vI v10), (0, vR 104), (1, vI x3), (2, vI v6)]) (fun _ => rfl) (by decide) dX0_markUseful_47 (fun v10 => ?_)
      refine sim_sub [1, 2, 3, 0] (L' := [(0, vR 104), (1, vI x3), (2, vI v6), (3, vI v10)]) rfl ?_
      refine sim_wh2 (fun (x12 : Int) (s13 : JSg) => [(0, vR 104), (1, vI x3), (2, vI v6), (3, vI x12)]) (fun (x12 : Int) (s13 : JSg) => s13) ?_ n v10 s9
      intro rc11 hrc11 x12 s13
      refine sim_iload_n 3 rfl dX0_markUseful_48 ?_
      refine sim_aload_n 0 rfl dX0_markUseful_49 ?_
      refine sim_getI g_RX0_15 sh_104 dX0_markUseful_50 ?_
      refine sim_jn0 (pc' := 115) ([(0, vR 104), (1, vI x3)]) ([]) (s13) ?_ (fun j14 hj14 => ?_)
      · refine sim_iinc 1 rfl (fun v15 => [(1, vI v15), (0, vR 104)]) (fun _ => rfl) (by decide) dX0_markUseful_115 (fun v15 => ?_)
        refine sim_goto (tgt := 9) dX0_markUseful_118 (by decide) ?_
        exact sim_sub [1, 0] rfl (hrc2 v15 s13)
      refine sim_icmp_ge (tgt := 115) dX0_markUseful_53 (by decide) ?_ ?_
      · exact sim_sub [0, 1] rfl (hj14 )
      · refine sim_iload_n 2 rfl dX0_markUseful_56 ?_
        refine sim_aload_n 0 rfl dX0_markUseful_57 ?_
        refine sim_getI g_RX0_22 sh_104 dX0_markUseful_58 ?_
        refine sim_icmp_ge (tgt := 115) dX0_markUseful_61 (by decide) ?_ ?_
        · exact sim_sub [0, 1] rfl (hj14 )
        · refine sim_aload_n 0 rfl dX0_markUseful_64 ?_
          refine sim_getR g_RX0_36 sh_104 rh_104_2 dX0_markUseful_65 ?_
          refine sim_iload_n 1 rfl dX0_markUseful_68 ?_
          refine sim_laload sh_103 rfl dX0_markUseful_69 ?_
          refine sim_lconst (v := 0) dX0_markUseful_70 (by decide +kernel) ?_
          refine sim_lcmp dX0_markUseful_71 ?_
          refine sim_if_eq (tgt := 115) dX0_markUseful_72 (by decide) ?_ ?_
          · exact sim_sub [0, 1] rfl (hj14 )
          · refine sim_iload_n 1 rfl dX0_markUseful_75 ?_
            refine sim_iload_n 3 rfl dX0_markUseful_76 ?_
            refine sim_ishr dX0_markUseful_77 ?_
            refine sim_iconst dX0_markUseful_78 (by decide) ?_
            refine sim_iand dX0_markUseful_79 ?_
            refine sim_jn1 (pc' := 109) (fun  (s17 : JSg) => [(0, vR 104), (1, vI x3), (2, vI v6), (3, vI x12)]) (fun  (s17 : JSg) => []) (fun  (s17 : JSg) => s17) ?_ (fun j16 hj16 => ?_)
            · intro s17
              refine sim_iinc 3 rfl (fun v18 => [(3, vI v18), (0, vR 104), (1, vI x3), (2, vI v6)]) (fun _ => rfl) (by decide) dX0_markUseful_109 (fun v18 => ?_)
              refine sim_goto (tgt := 48) dX0_markUseful_112 (by decide) ?_
              exact sim_sub [1, 2, 3, 0] rfl (hrc11 v18 s17)
            refine sim_if_ne (tgt := 109) dX0_markUseful_80 (by decide) ?_ ?_
            · exact sim_sub [0, 1, 2, 3] rfl (hj16 s13)
            · refine sim_aload_n 0 rfl dX0_markUseful_83 ?_
              refine sim_getR g_RX0_36 sh_104 rh_104_2 dX0_markUseful_84 ?_
              refine sim_sipush dX0_markUseful_87 (by decide +kernel) ?_
              refine sim_iload_n 1 rfl dX0_markUseful_90 ?_
              refine sim_iadd dX0_markUseful_91 ?_
              refine sim_dup2 rfl rfl dX0_markUseful_92 ?_
              refine sim_laload sh_103 rfl dX0_markUseful_93 ?_
              refine sim_aload_n 0 rfl dX0_markUseful_94 ?_
              refine sim_getR g_RX0_36 sh_104 rh_104_2 dX0_markUseful_95 ?_
              refine sim_iload_n 1 rfl dX0_markUseful_98 ?_
              refine sim_laload sh_103 rfl dX0_markUseful_99 ?_
              refine sim_aload_n 0 rfl dX0_markUseful_100 ?_
              refine sim_iload_n 1 rfl dX0_markUseful_101 ?_
              refine sim_iload_n 3 rfl dX0_markUseful_102 ?_
              refine sim_callVLp v_RX0_95 sh_104 dX0_markUseful_103 (k_Chn_usefulBy x3 x12 s13) rfl ⟨by decide, by decide⟩ (S := [vL (s13 103 x3.toNat), vL (s13 103 (w32 (4096 + x3)).toNat), vI (w32 (4096 + x3)), vR 103]) rfl (Nat.le_of_ble_eq_true rfl) (fun r19 => ?_)
              refine sim_land dX0_markUseful_106 ?_
              refine sim_lor dX0_markUseful_107 ?_
              refine sim_lastore sh_103 rfl dX0_markUseful_108 (fun s20 => ?_)
              exact sim_sub [0, 1, 2, 3] rfl (hj16 s20)
    refine sim_icmp_ne (tgt := 44) dX0_markUseful_32 (by decide) ?_ ?_
    · refine sim_lconst (v := 0) dX0_markUseful_44 (by decide +kernel) ?_
      exact sim_sub [1, 2, 0] rfl (hj7 0)
    · refine sim_aload_n 1 rfl dX0_markUseful_35 ?_
      refine sim_getR g_RX0_36 sh_104 rh_104_2 dX0_markUseful_36 ?_
      refine sim_iload_n 2 rfl dX0_markUseful_39 ?_
      refine sim_laload sh_103 rfl dX0_markUseful_40 ?_
      refine sim_goto (tgt := 45) dX0_markUseful_41 (by decide) ?_
      exact sim_sub [1, 2, 0] rfl (hj7 (s4 103 x3.toNat))
theorem dX0_firstUseful_0 : decode cX0_firstUseful 0 = .ok (.iconst 0, 1) := by decide +kernel
theorem dX0_firstUseful_1 : decode cX0_firstUseful 1 = .ok (.istore_n 3, 1) := by decide +kernel
theorem dX0_firstUseful_2 : decode cX0_firstUseful 2 = .ok (.iload_n 3, 1) := by decide +kernel
theorem dX0_firstUseful_3 : decode cX0_firstUseful 3 = .ok (.iconst 2, 1) := by decide +kernel
theorem dX0_firstUseful_4 : decode cX0_firstUseful 4 = .ok (.aload_n 0, 1) := by decide +kernel
theorem dX0_firstUseful_5 : decode cX0_firstUseful 5 = .ok (.getfield 15, 3) := by decide +kernel
theorem dX0_firstUseful_8 : decode cX0_firstUseful 8 = .ok (.imul, 1) := by decide +kernel
theorem dX0_firstUseful_9 : decode cX0_firstUseful 9 = .ok (.if_icmp .ge 125, 3) := by decide +kernel
theorem dX0_firstUseful_12 : decode cX0_firstUseful 12 = .ok (.iload_n 3, 1) := by decide +kernel
theorem dX0_firstUseful_13 : decode cX0_firstUseful 13 = .ok (.iconst 1, 1) := by decide +kernel
theorem dX0_firstUseful_14 : decode cX0_firstUseful 14 = .ok (.ishr, 1) := by decide +kernel
theorem dX0_firstUseful_15 : decode cX0_firstUseful 15 = .ok (.istore 4, 2) := by decide +kernel
theorem dX0_firstUseful_17 : decode cX0_firstUseful 17 = .ok (.iload_n 3, 1) := by decide +kernel
theorem dX0_firstUseful_18 : decode cX0_firstUseful 18 = .ok (.iconst 1, 1) := by decide +kernel
theorem dX0_firstUseful_19 : decode cX0_firstUseful 19 = .ok (.iand, 1) := by decide +kernel
theorem dX0_firstUseful_20 : decode cX0_firstUseful 20 = .ok (.ifCond .ne 21, 3) := by decide +kernel
theorem dX0_firstUseful_23 : decode cX0_firstUseful 23 = .ok (.aload_n 0, 1) := by decide +kernel
theorem dX0_firstUseful_24 : decode cX0_firstUseful 24 = .ok (.getfield 35, 3) := by decide +kernel
theorem dX0_firstUseful_27 : decode cX0_firstUseful 27 = .ok (.getfield 85, 3) := by decide +kernel
theorem dX0_firstUseful_30 : decode cX0_firstUseful 30 = .ok (.aload_n 0, 1) := by decide +kernel
theorem dX0_firstUseful_31 : decode cX0_firstUseful 31 = .ok (.getfield 11, 3) := by decide +kernel
theorem dX0_firstUseful_34 : decode cX0_firstUseful 34 = .ok (.iload 4, 2) := by decide +kernel
theorem dX0_firstUseful_36 : decode cX0_firstUseful 36 = .ok (.iaload, 1) := by decide +kernel
theorem dX0_firstUseful_37 : decode cX0_firstUseful 37 = .ok (.iaload, 1) := by decide +kernel
theorem dX0_firstUseful_38 : decode cX0_firstUseful 38 = .ok (.goto 18, 3) := by decide +kernel
theorem dX0_firstUseful_41 : decode cX0_firstUseful 41 = .ok (.aload_n 0, 1) := by decide +kernel
theorem dX0_firstUseful_42 : decode cX0_firstUseful 42 = .ok (.getfield 35, 3) := by decide +kernel
theorem dX0_firstUseful_45 : decode cX0_firstUseful 45 = .ok (.getfield 88, 3) := by decide +kernel
theorem dX0_firstUseful_48 : decode cX0_firstUseful 48 = .ok (.aload_n 0, 1) := by decide +kernel
theorem dX0_firstUseful_49 : decode cX0_firstUseful 49 = .ok (.getfield 11, 3) := by decide +kernel
theorem dX0_firstUseful_52 : decode cX0_firstUseful 52 = .ok (.iload 4, 2) := by decide +kernel
theorem dX0_firstUseful_54 : decode cX0_firstUseful 54 = .ok (.iaload, 1) := by decide +kernel
theorem dX0_firstUseful_55 : decode cX0_firstUseful 55 = .ok (.iaload, 1) := by decide +kernel
theorem dX0_firstUseful_56 : decode cX0_firstUseful 56 = .ok (.istore 5, 2) := by decide +kernel
theorem dX0_firstUseful_58 : decode cX0_firstUseful 58 = .ok (.aload_n 0, 1) := by decide +kernel
theorem dX0_firstUseful_59 : decode cX0_firstUseful 59 = .ok (.getfield 35, 3) := by decide +kernel
theorem dX0_firstUseful_62 : decode cX0_firstUseful 62 = .ok (.aload_n 0, 1) := by decide +kernel
theorem dX0_firstUseful_63 : decode cX0_firstUseful 63 = .ok (.getfield 11, 3) := by decide +kernel
theorem dX0_firstUseful_66 : decode cX0_firstUseful 66 = .ok (.iload 4, 2) := by decide +kernel
theorem dX0_firstUseful_68 : decode cX0_firstUseful 68 = .ok (.iaload, 1) := by decide +kernel
theorem dX0_firstUseful_69 : decode cX0_firstUseful 69 = .ok (.invokevirtual 102, 3) := by decide +kernel
theorem dX0_firstUseful_72 : decode cX0_firstUseful 72 = .ok (.iload 5, 2) := by decide +kernel
theorem dX0_firstUseful_74 : decode cX0_firstUseful 74 = .ok (.isub, 1) := by decide +kernel
theorem dX0_firstUseful_75 : decode cX0_firstUseful 75 = .ok (.istore 6, 2) := by decide +kernel
theorem dX0_firstUseful_77 : decode cX0_firstUseful 77 = .ok (.iload_n 1, 1) := by decide +kernel
theorem dX0_firstUseful_78 : decode cX0_firstUseful 78 = .ok (.iload 4, 2) := by decide +kernel
theorem dX0_firstUseful_80 : decode cX0_firstUseful 80 = .ok (.ishr, 1) := by decide +kernel
theorem dX0_firstUseful_81 : decode cX0_firstUseful 81 = .ok (.iconst 1, 1) := by decide +kernel
theorem dX0_firstUseful_82 : decode cX0_firstUseful 82 = .ok (.iand, 1) := by decide +kernel
theorem dX0_firstUseful_83 : decode cX0_firstUseful 83 = .ok (.ifCond .ne 45, 3) := by decide +kernel
theorem dX0_firstUseful_86 : decode cX0_firstUseful 86 = .ok (.aload_n 0, 1) := by decide +kernel
theorem dX0_firstUseful_87 : decode cX0_firstUseful 87 = .ok (.iload 5, 2) := by decide +kernel
theorem dX0_firstUseful_89 : decode cX0_firstUseful 89 = .ok (.invokevirtual 91, 3) := by decide +kernel
theorem dX0_firstUseful_92 : decode cX0_firstUseful 92 = .ok (.iload_n 2, 1) := by decide +kernel
theorem dX0_firstUseful_93 : decode cX0_firstUseful 93 = .ok (.lshr, 1) := by decide +kernel
theorem dX0_firstUseful_94 : decode cX0_firstUseful 94 = .ok (.lconst 1, 1) := by decide +kernel
theorem dX0_firstUseful_95 : decode cX0_firstUseful 95 = .ok (.land, 1) := by decide +kernel
theorem dX0_firstUseful_96 : decode cX0_firstUseful 96 = .ok (.lconst 0, 1) := by decide +kernel
theorem dX0_firstUseful_97 : decode cX0_firstUseful 97 = .ok (.lcmp, 1) := by decide +kernel
theorem dX0_firstUseful_98 : decode cX0_firstUseful 98 = .ok (.ifCond .eq 30, 3) := by decide +kernel
theorem dX0_firstUseful_101 : decode cX0_firstUseful 101 = .ok (.aload_n 0, 1) := by decide +kernel
theorem dX0_firstUseful_102 : decode cX0_firstUseful 102 = .ok (.getfield 36, 3) := by decide +kernel
theorem dX0_firstUseful_105 : decode cX0_firstUseful 105 = .ok (.sipush 4096, 3) := by decide +kernel
theorem dX0_firstUseful_108 : decode cX0_firstUseful 108 = .ok (.iload_n 1, 1) := by decide +kernel
theorem dX0_firstUseful_109 : decode cX0_firstUseful 109 = .ok (.iconst 1, 1) := by decide +kernel
theorem dX0_firstUseful_110 : decode cX0_firstUseful 110 = .ok (.iload 4, 2) := by decide +kernel
theorem dX0_firstUseful_112 : decode cX0_firstUseful 112 = .ok (.ishl, 1) := by decide +kernel
theorem dX0_firstUseful_113 : decode cX0_firstUseful 113 = .ok (.ior, 1) := by decide +kernel
theorem dX0_firstUseful_114 : decode cX0_firstUseful 114 = .ok (.iadd, 1) := by decide +kernel
theorem dX0_firstUseful_115 : decode cX0_firstUseful 115 = .ok (.laload, 1) := by decide +kernel
theorem dX0_firstUseful_116 : decode cX0_firstUseful 116 = .ok (.iload 6, 2) := by decide +kernel
theorem dX0_firstUseful_118 : decode cX0_firstUseful 118 = .ok (.lshr, 1) := by decide +kernel
theorem dX0_firstUseful_119 : decode cX0_firstUseful 119 = .ok (.lconst 1, 1) := by decide +kernel
theorem dX0_firstUseful_120 : decode cX0_firstUseful 120 = .ok (.land, 1) := by decide +kernel
theorem dX0_firstUseful_121 : decode cX0_firstUseful 121 = .ok (.lconst 0, 1) := by decide +kernel
theorem dX0_firstUseful_122 : decode cX0_firstUseful 122 = .ok (.lcmp, 1) := by decide +kernel
theorem dX0_firstUseful_123 : decode cX0_firstUseful 123 = .ok (.ifCond .eq 5, 3) := by decide +kernel
theorem dX0_firstUseful_126 : decode cX0_firstUseful 126 = .ok (.iload_n 3, 1) := by decide +kernel
theorem dX0_firstUseful_127 : decode cX0_firstUseful 127 = .ok (.ireturn, 1) := by decide +kernel
theorem dX0_firstUseful_128 : decode cX0_firstUseful 128 = .ok (.iinc 3 1, 3) := by decide +kernel
theorem dX0_firstUseful_131 : decode cX0_firstUseful 131 = .ok (.goto (-129), 3) := by decide +kernel
theorem dX0_firstUseful_134 : decode cX0_firstUseful 134 = .ok (.iconst 0, 1) := by decide +kernel
theorem dX0_firstUseful_135 : decode cX0_firstUseful 135 = .ok (.ireturn, 1) := by decide +kernel
def f_Chn_firstUseful (n : Nat)  (a1 : Int) (a2 : Int) (σ : JSg) : Option (Int) :=
  lt_ 0 fun v1 => wh1 n (fun rc2 (x3 : Int) => if x3 < (w32 (2 * (σ 104 4))) then (lt_ (sr32 x3 1) fun v4 => jn1 (fun (u6 : Int) => lt_ u6 fun v7 => chk (0 ≤ v4 ∧ v4 < 12) <| bd1 (f_Isl_together 4 (σ 105 v4.toNat) σ) fun r8 => lt_ (w32 (r8 - v7)) fun v9 => jn0 (lt_ (w32 (x3 + 1)) fun v11 => rc2 v11) fun j10 => if (an32 (sr32 a1 v4) 1) = 0 then (bd1 (f_Chn_ahead v7 σ) fun r12 => if (cmpL (an64 (sr64 r12 a2) 1) 0) = 0 then (j10) else (chk (0 ≤ (w32 (4096 + (or32 a1 (sl32 1 v4)))) ∧ (w32 (4096 + (or32 a1 (sl32 1 v4)))) < 32768) <| if (cmpL (an64 (sr64 (σ 103 (w32 (4096 + (or32 a1 (sl32 1 v4)))).toNat) v9) 1) 0) = 0 then (j10) else (some x3))) else (j10)) fun j5 => if (an32 x3 1) = 0 then (chk (0 ≤ v4 ∧ v4 < 12) <| chk (0 ≤ (σ 105 v4.toNat) ∧ (σ 105 v4.toNat) < 28) <| j5 (σ 6 (σ 105 v4.toNat).toNat)) else (chk (0 ≤ v4 ∧ v4 < 12) <| chk (0 ≤ (σ 105 v4.toNat) ∧ (σ 105 v4.toNat) < 28) <| j5 (σ 7 (σ 105 v4.toNat).toNat))) else (some 0)) v1
set_option maxRecDepth 20000 in
set_option maxHeartbeats 4000000 in
theorem k_Chn_firstUseful  (n : Nat)   (a1 : Int) (a2 : Int) (σ : JSg) : Call yX0_firstUseful cX0_firstUseful 7 (some .int) 1 SH RHO [vR 104, vI a1, vI a2] σ (dIp σ) (f_Chn_firstUseful n a1 a2 σ) := by
  refine call_of_sim (by decide +kernel) (Nat.le_of_ble_eq_true rfl) ?_
  show Sim RX0 cX0_firstUseful 7 (some .int) 1 SH RHO 0 [(0, vR 104), (1, vI a1), (2, vI a2)] [] σ (dIp σ) (f_Chn_firstUseful n a1 a2 σ)
  unfold f_Chn_firstUseful
  refine sim_iconst dX0_firstUseful_0 (by decide) ?_
  refine sim_istore_n (fun v1 => [(3, vI v1), (0, vR 104), (1, vI a1), (2, vI a2)]) (fun _ => rfl) (by decide) dX0_firstUseful_1 (fun v1 => ?_)
  refine sim_sub [1, 2, 3, 0] (L' := [(0, vR 104), (1, vI a1), (2, vI a2), (3, vI v1)]) rfl ?_
  refine sim_wh1 (fun (x3 : Int) => [(0, vR 104), (1, vI a1), (2, vI a2), (3, vI x3)]) (fun (x3 : Int) => σ) ?_ n v1
  intro rc2 hrc2 x3
  refine sim_iload_n 3 rfl dX0_firstUseful_2 ?_
  refine sim_iconst dX0_firstUseful_3 (by decide) ?_
  refine sim_aload_n 0 rfl dX0_firstUseful_4 ?_
  refine sim_getI g_RX0_15 sh_104 dX0_firstUseful_5 ?_
  refine sim_imul dX0_firstUseful_8 ?_
  refine sim_icmp_ge (tgt := 134) dX0_firstUseful_9 (by decide) ?_ ?_
  · refine sim_iconst dX0_firstUseful_134 (by decide) ?_
    exact sim_iret rfl rfl dX0_firstUseful_135
  · refine sim_iload_n 3 rfl dX0_firstUseful_12 ?_
    refine sim_iconst dX0_firstUseful_13 (by decide) ?_
    refine sim_ishr dX0_firstUseful_14 ?_
    refine sim_istore (fun v4 => [(4, vI v4), (0, vR 104), (1, vI a1), (2, vI a2), (3, vI x3)]) (fun _ => rfl) (by decide) dX0_firstUseful_15 (fun v4 => ?_)
    refine sim_iload_n 4 rfl dX0_firstUseful_17 ?_
    refine sim_iconst dX0_firstUseful_18 (by decide) ?_
    refine sim_iand dX0_firstUseful_19 ?_
    refine sim_jn1 (pc' := 56) (fun (u6 : Int) => [(0, vR 104), (1, vI a1), (2, vI a2), (3, vI x3), (4, vI v4)]) (fun (u6 : Int) => [vI u6]) (fun (u6 : Int) => σ) ?_ (fun j5 hj5 => ?_)
    · intro u6
      refine sim_istore (fun v7 => [(5, vI v7), (0, vR 104), (1, vI a1), (2, vI a2), (3, vI x3), (4, vI v4)]) (fun _ => rfl) (by decide) dX0_firstUseful_56 (fun v7 => ?_)
      refine sim_aload_n 1 rfl dX0_firstUseful_58 ?_
      refine sim_getR g_RX0_35 sh_104 rh_104_1 dX0_firstUseful_59 ?_
      refine sim_aload_n 1 rfl dX0_firstUseful_62 ?_
      refine sim_getR g_RX0_11 sh_104 rh_104_3 dX0_firstUseful_63 ?_
      refine sim_iload 5 rfl dX0_firstUseful_66 ?_
      refine sim_iaload sh_105 rfl dX0_firstUseful_68 ?_
      refine sim_callVIp v_RX0_102 (LIsl_o lay_4) dX0_firstUseful_69 (k_Isl_together SH RHO 4 lay_4 (σ 105 v4.toNat) σ) rfl ⟨by decide, by decide⟩ (S := []) rfl (Nat.le_of_ble_eq_true rfl) (fun r8 => ?_)
      refine sim_iload 0 rfl dX0_firstUseful_72 ?_
      refine sim_isub dX0_firstUseful_74 ?_
      refine sim_istore (fun v9 => [(6, vI v9), (5, vI v7), (0, vR 104), (1, vI a1), (2, vI a2), (3, vI x3), (4, vI v4)]) (fun _ => rfl) (by decide) dX0_firstUseful_75 (fun v9 => ?_)
      refine sim_iload_n 3 rfl dX0_firstUseful_77 ?_
      refine sim_iload 6 rfl dX0_firstUseful_78 ?_
      refine sim_ishr dX0_firstUseful_80 ?_
      refine sim_iconst dX0_firstUseful_81 (by decide) ?_
      refine sim_iand dX0_firstUseful_82 ?_
      refine sim_jn0 (pc' := 128) ([(0, vR 104), (1, vI a1), (2, vI a2), (3, vI x3)]) ([]) (σ) ?_ (fun j10 hj10 => ?_)
      · refine sim_iinc 3 rfl (fun v11 => [(3, vI v11), (0, vR 104), (1, vI a1), (2, vI a2)]) (fun _ => rfl) (by decide) dX0_firstUseful_128 (fun v11 => ?_)
        refine sim_goto (tgt := 2) dX0_firstUseful_131 (by decide) ?_
        exact sim_sub [1, 2, 3, 0] rfl (hrc2 v11)
      refine sim_if_ne (tgt := 128) dX0_firstUseful_83 (by decide) ?_ ?_
      · exact sim_sub [2, 3, 4, 5] rfl (hj10 )
      · refine sim_aload_n 2 rfl dX0_firstUseful_86 ?_
        refine sim_iload 1 rfl dX0_firstUseful_87 ?_
        refine sim_callVLp v_RX0_91 sh_104 dX0_firstUseful_89 (k_Chn_ahead v7 σ) rfl ⟨by decide, by decide⟩ (S := []) rfl (Nat.le_of_ble_eq_true rfl) (fun r12 => ?_)
        refine sim_iload_n 4 rfl dX0_firstUseful_92 ?_
        refine sim_lshr dX0_firstUseful_93 ?_
        refine sim_lconst (v := 1) dX0_firstUseful_94 (by decide +kernel) ?_
        refine sim_land dX0_firstUseful_95 ?_
        refine sim_lconst (v := 0) dX0_firstUseful_96 (by decide +kernel) ?_
        refine sim_lcmp dX0_firstUseful_97 ?_
        refine sim_if_eq (tgt := 128) dX0_firstUseful_98 (by decide) ?_ ?_
        · exact sim_sub [2, 3, 4, 5] rfl (hj10 )
        · refine sim_aload_n 2 rfl dX0_firstUseful_101 ?_
          refine sim_getR g_RX0_36 sh_104 rh_104_2 dX0_firstUseful_102 ?_
          refine sim_sipush dX0_firstUseful_105 (by decide +kernel) ?_
          refine sim_iload_n 3 rfl dX0_firstUseful_108 ?_
          refine sim_iconst dX0_firstUseful_109 (by decide) ?_
          refine sim_iload 6 rfl dX0_firstUseful_110 ?_
          refine sim_ishl dX0_firstUseful_112 ?_
          refine sim_ior dX0_firstUseful_113 ?_
          refine sim_iadd dX0_firstUseful_114 ?_
          refine sim_laload sh_103 rfl dX0_firstUseful_115 ?_
          refine sim_iload 0 rfl dX0_firstUseful_116 ?_
          refine sim_lshr dX0_firstUseful_118 ?_
          refine sim_lconst (v := 1) dX0_firstUseful_119 (by decide +kernel) ?_
          refine sim_land dX0_firstUseful_120 ?_
          refine sim_lconst (v := 0) dX0_firstUseful_121 (by decide +kernel) ?_
          refine sim_lcmp dX0_firstUseful_122 ?_
          refine sim_if_eq (tgt := 128) dX0_firstUseful_123 (by decide) ?_ ?_
          · exact sim_sub [2, 3, 4, 5] rfl (hj10 )
          · refine sim_iload_n 5 rfl dX0_firstUseful_126 ?_
            exact sim_iret rfl rfl dX0_firstUseful_127
    refine sim_if_ne (tgt := 41) dX0_firstUseful_20 (by decide) ?_ ?_
    · refine sim_aload_n 1 rfl dX0_firstUseful_41 ?_
      refine sim_getR g_RX0_35 sh_104 rh_104_1 dX0_firstUseful_42 ?_
      refine sim_getR g_RX0_88 (LIsl_o lay_4) rh_4_9 dX0_firstUseful_45 ?_
      refine sim_aload_n 1 rfl dX0_firstUseful_48 ?_
      refine sim_getR g_RX0_11 sh_104 rh_104_3 dX0_firstUseful_49 ?_
      refine sim_iload 0 rfl dX0_firstUseful_52 ?_
      refine sim_iaload sh_105 rfl dX0_firstUseful_54 ?_
      refine sim_iaload sh_7 rfl dX0_firstUseful_55 ?_
      exact sim_sub [1, 2, 3, 4, 0] rfl (hj5 (σ 7 (σ 105 v4.toNat).toNat))
    · refine sim_aload_n 1 rfl dX0_firstUseful_23 ?_
      refine sim_getR g_RX0_35 sh_104 rh_104_1 dX0_firstUseful_24 ?_
      refine sim_getR g_RX0_85 (LIsl_o lay_4) rh_4_8 dX0_firstUseful_27 ?_
      refine sim_aload_n 1 rfl dX0_firstUseful_30 ?_
      refine sim_getR g_RX0_11 sh_104 rh_104_3 dX0_firstUseful_31 ?_
      refine sim_iload 0 rfl dX0_firstUseful_34 ?_
      refine sim_iaload sh_105 rfl dX0_firstUseful_36 ?_
      refine sim_iaload sh_6 rfl dX0_firstUseful_37 ?_
      refine sim_goto (tgt := 56) dX0_firstUseful_38 (by decide) ?_
      exact sim_sub [1, 2, 3, 4, 0] rfl (hj5 (σ 6 (σ 105 v4.toNat).toNat))
