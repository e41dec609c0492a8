theorem dX12_game_0 : decode cX12_game 0 = .ok (.aload_n 0, 1) := by decide +kernel
theorem dX12_game_1 : decode cX12_game 1 = .ok (.iconst 0, 1) := by decide +kernel
theorem dX12_game_2 : decode cX12_game 2 = .ok (.putfield 87, 3) := by decide +kernel
theorem dX12_game_5 : decode cX12_game 5 = .ok (.aload_n 0, 1) := by decide +kernel
theorem dX12_game_6 : decode cX12_game 6 = .ok (.iload_n 1, 1) := by decide +kernel
theorem dX12_game_7 : decode cX12_game 7 = .ok (.invokevirtual 262, 3) := by decide +kernel
theorem dX12_game_10 : decode cX12_game 10 = .ok (.ifCond .eq 23, 3) := by decide +kernel
theorem dX12_game_13 : decode cX12_game 13 = .ok (.aload_n 0, 1) := by decide +kernel
theorem dX12_game_14 : decode cX12_game 14 = .ok (.iload_n 2, 1) := by decide +kernel
theorem dX12_game_15 : decode cX12_game 15 = .ok (.invokevirtual 262, 3) := by decide +kernel
theorem dX12_game_18 : decode cX12_game 18 = .ok (.ifCond .eq 15, 3) := by decide +kernel
theorem dX12_game_21 : decode cX12_game 21 = .ok (.iload_n 1, 1) := by decide +kernel
theorem dX12_game_22 : decode cX12_game 22 = .ok (.iload_n 2, 1) := by decide +kernel
theorem dX12_game_23 : decode cX12_game 23 = .ok (.if_icmp .eq 10, 3) := by decide +kernel
theorem dX12_game_26 : decode cX12_game 26 = .ok (.aload_n 0, 1) := by decide +kernel
theorem dX12_game_27 : decode cX12_game 27 = .ok (.invokevirtual 250, 3) := by decide +kernel
theorem dX12_game_30 : decode cX12_game 30 = .ok (.ifCond .ne 6, 3) := by decide +kernel
theorem dX12_game_33 : decode cX12_game 33 = .ok (.bipush (-2), 2) := by decide +kernel
theorem dX12_game_35 : decode cX12_game 35 = .ok (.ireturn, 1) := by decide +kernel
theorem dX12_game_36 : decode cX12_game 36 = .ok (.iconst 0, 1) := by decide +kernel
theorem dX12_game_37 : decode cX12_game 37 = .ok (.istore_n 3, 1) := by decide +kernel
theorem dX12_game_38 : decode cX12_game 38 = .ok (.iconst 0, 1) := by decide +kernel
theorem dX12_game_39 : decode cX12_game 39 = .ok (.istore 4, 2) := by decide +kernel
theorem dX12_game_41 : decode cX12_game 41 = .ok (.iload 4, 2) := by decide +kernel
theorem dX12_game_43 : decode cX12_game 43 = .ok (.aload_n 0, 1) := by decide +kernel
theorem dX12_game_44 : decode cX12_game 44 = .ok (.invokevirtual 240, 3) := by decide +kernel
theorem dX12_game_47 : decode cX12_game 47 = .ok (.if_icmp .ge 69, 3) := by decide +kernel
theorem dX12_game_50 : decode cX12_game 50 = .ok (.aload_n 0, 1) := by decide +kernel
theorem dX12_game_51 : decode cX12_game 51 = .ok (.iload 4, 2) := by decide +kernel
theorem dX12_game_53 : decode cX12_game 53 = .ok (.invokevirtual 265, 3) := by decide +kernel
theorem dX12_game_56 : decode cX12_game 56 = .ok (.ifCond .eq 54, 3) := by decide +kernel
theorem dX12_game_59 : decode cX12_game 59 = .ok (.aload_n 0, 1) := by decide +kernel
theorem dX12_game_60 : decode cX12_game 60 = .ok (.getfield 13, 3) := by decide +kernel
theorem dX12_game_63 : decode cX12_game 63 = .ok (.bipush 67, 2) := by decide +kernel
theorem dX12_game_65 : decode cX12_game 65 = .ok (.iload 4, 2) := by decide +kernel
theorem dX12_game_67 : decode cX12_game 67 = .ok (.iadd, 1) := by decide +kernel
theorem dX12_game_68 : decode cX12_game 68 = .ok (.iaload, 1) := by decide +kernel
theorem dX12_game_69 : decode cX12_game 69 = .ok (.iload_n 1, 1) := by decide +kernel
theorem dX12_game_70 : decode cX12_game 70 = .ok (.if_icmp .eq 20, 3) := by decide +kernel
theorem dX12_game_73 : decode cX12_game 73 = .ok (.aload_n 0, 1) := by decide +kernel
theorem dX12_game_74 : decode cX12_game 74 = .ok (.getfield 13, 3) := by decide +kernel
theorem dX12_game_77 : decode cX12_game 77 = .ok (.bipush 67, 2) := by decide +kernel
theorem dX12_game_79 : decode cX12_game 79 = .ok (.iload 4, 2) := by decide +kernel
theorem dX12_game_81 : decode cX12_game 81 = .ok (.iadd, 1) := by decide +kernel
theorem dX12_game_82 : decode cX12_game 82 = .ok (.iaload, 1) := by decide +kernel
theorem dX12_game_83 : decode cX12_game 83 = .ok (.iload_n 2, 1) := by decide +kernel
theorem dX12_game_84 : decode cX12_game 84 = .ok (.if_icmp .eq 6, 3) := by decide +kernel
theorem dX12_game_87 : decode cX12_game 87 = .ok (.goto 23, 3) := by decide +kernel
theorem dX12_game_90 : decode cX12_game 90 = .ok (.iload_n 3, 1) := by decide +kernel
theorem dX12_game_91 : decode cX12_game 91 = .ok (.bipush 10, 2) := by decide +kernel
theorem dX12_game_93 : decode cX12_game 93 = .ok (.if_icmp .ne 6, 3) := by decide +kernel
theorem dX12_game_96 : decode cX12_game 96 = .ok (.bipush (-2), 2) := by decide +kernel
theorem dX12_game_98 : decode cX12_game 98 = .ok (.ireturn, 1) := by decide +kernel
theorem dX12_game_99 : decode cX12_game 99 = .ok (.aload_n 0, 1) := by decide +kernel
theorem dX12_game_100 : decode cX12_game 100 = .ok (.getfield 39, 3) := by decide +kernel
theorem dX12_game_103 : decode cX12_game 103 = .ok (.iload_n 3, 1) := by decide +kernel
theorem dX12_game_104 : decode cX12_game 104 = .ok (.iload 4, 2) := by decide +kernel
theorem dX12_game_106 : decode cX12_game 106 = .ok (.iastore, 1) := by decide +kernel
theorem dX12_game_107 : decode cX12_game 107 = .ok (.iinc 3 1, 3) := by decide +kernel
theorem dX12_game_110 : decode cX12_game 110 = .ok (.iinc 4 1, 3) := by decide +kernel
theorem dX12_game_113 : decode cX12_game 113 = .ok (.goto (-72), 3) := by decide +kernel
theorem dX12_game_116 : decode cX12_game 116 = .ok (.aload_n 0, 1) := by decide +kernel
theorem dX12_game_117 : decode cX12_game 117 = .ok (.iload_n 1, 1) := by decide +kernel
theorem dX12_game_118 : decode cX12_game 118 = .ok (.putfield 355, 3) := by decide +kernel
theorem dX12_game_121 : decode cX12_game 121 = .ok (.aload_n 0, 1) := by decide +kernel
theorem dX12_game_122 : decode cX12_game 122 = .ok (.iload_n 2, 1) := by decide +kernel
theorem dX12_game_123 : decode cX12_game 123 = .ok (.putfield 361, 3) := by decide +kernel
theorem dX12_game_126 : decode cX12_game 126 = .ok (.iconst 0, 1) := by decide +kernel
theorem dX12_game_127 : decode cX12_game 127 = .ok (.istore 4, 2) := by decide +kernel
theorem dX12_game_129 : decode cX12_game 129 = .ok (.iload 4, 2) := by decide +kernel
theorem dX12_game_131 : decode cX12_game 131 = .ok (.bipush 98, 2) := by decide +kernel
theorem dX12_game_133 : decode cX12_game 133 = .ok (.iload_n 3, 1) := by decide +kernel
theorem dX12_game_134 : decode cX12_game 134 = .ok (.ishl, 1) := by decide +kernel
theorem dX12_game_135 : decode cX12_game 135 = .ok (.if_icmp .ge 18, 3) := by decide +kernel
theorem dX12_game_138 : decode cX12_game 138 = .ok (.aload_n 0, 1) := by decide +kernel
theorem dX12_game_139 : decode cX12_game 139 = .ok (.getfield 52, 3) := by decide +kernel
theorem dX12_game_142 : decode cX12_game 142 = .ok (.iload 4, 2) := by decide +kernel
theorem dX12_game_144 : decode cX12_game 144 = .ok (.bipush (-2), 2) := by decide +kernel
theorem dX12_game_146 : decode cX12_game 146 = .ok (.iastore, 1) := by decide +kernel
theorem dX12_game_147 : decode cX12_game 147 = .ok (.iinc 4 1, 3) := by decide +kernel
theorem dX12_game_150 : decode cX12_game 150 = .ok (.goto (-21), 3) := by decide +kernel
theorem dX12_game_153 : decode cX12_game 153 = .ok (.aload_n 0, 1) := by decide +kernel
theorem dX12_game_154 : decode cX12_game 154 = .ok (.iconst 0, 1) := by decide +kernel
theorem dX12_game_155 : decode cX12_game 155 = .ok (.invokevirtual 280, 3) := by decide +kernel
theorem dX12_game_158 : decode cX12_game 158 = .ok (.istore 4, 2) := by decide +kernel
theorem dX12_game_160 : decode cX12_game 160 = .ok (.aload_n 0, 1) := by decide +kernel
theorem dX12_game_161 : decode cX12_game 161 = .ok (.iconst 1, 1) := by decide +kernel
theorem dX12_game_162 : decode cX12_game 162 = .ok (.invokevirtual 280, 3) := by decide +kernel
theorem dX12_game_165 : decode cX12_game 165 = .ok (.istore 5, 2) := by decide +kernel
theorem dX12_game_167 : decode cX12_game 167 = .ok (.aload_n 0, 1) := by decide +kernel
theorem dX12_game_168 : decode cX12_game 168 = .ok (.iconst (-1), 1) := by decide +kernel
theorem dX12_game_169 : decode cX12_game 169 = .ok (.putfield 58, 3) := by decide +kernel
theorem dX12_game_172 : decode cX12_game 172 = .ok (.aload_n 0, 1) := by decide +kernel
theorem dX12_game_173 : decode cX12_game 173 = .ok (.iconst 0, 1) := by decide +kernel
theorem dX12_game_174 : decode cX12_game 174 = .ok (.iload_n 3, 1) := by decide +kernel
theorem dX12_game_175 : decode cX12_game 175 = .ok (.iload_n 1, 1) := by decide +kernel
theorem dX12_game_176 : decode cX12_game 176 = .ok (.invokevirtual 358, 3) := by decide +kernel
theorem dX12_game_179 : decode cX12_game 179 = .ok (.ifCond .ne 13, 3) := by decide +kernel
theorem dX12_game_182 : decode cX12_game 182 = .ok (.aload_n 0, 1) := by decide +kernel
theorem dX12_game_183 : decode cX12_game 183 = .ok (.iconst 0, 1) := by decide +kernel
theorem dX12_game_184 : decode cX12_game 184 = .ok (.iload_n 3, 1) := by decide +kernel
theorem dX12_game_185 : decode cX12_game 185 = .ok (.iload_n 2, 1) := by decide +kernel
theorem dX12_game_186 : decode cX12_game 186 = .ok (.invokevirtual 358, 3) := by decide +kernel
theorem dX12_game_189 : decode cX12_game 189 = .ok (.ifCond .eq 7, 3) := by decide +kernel
theorem dX12_game_192 : decode cX12_game 192 = .ok (.iconst 1, 1) := by decide +kernel
theorem dX12_game_193 : decode cX12_game 193 = .ok (.goto 4, 3) := by decide +kernel
theorem dX12_game_196 : decode cX12_game 196 = .ok (.iconst 0, 1) := by decide +kernel
theorem dX12_game_197 : decode cX12_game 197 = .ok (.istore 6, 2) := by decide +kernel
theorem dX12_game_199 : decode cX12_game 199 = .ok (.iload 6, 2) := by decide +kernel
theorem dX12_game_201 : decode cX12_game 201 = .ok (.ifCond .ne 53, 3) := by decide +kernel
theorem dX12_game_204 : decode cX12_game 204 = .ok (.aload_n 0, 1) := by decide +kernel
theorem dX12_game_205 : decode cX12_game 205 = .ok (.iconst 0, 1) := by decide +kernel
theorem dX12_game_206 : decode cX12_game 206 = .ok (.iload 4, 2) := by decide +kernel
theorem dX12_game_208 : decode cX12_game 208 = .ok (.iload 5, 2) := by decide +kernel
theorem dX12_game_210 : decode cX12_game 210 = .ok (.iload_n 1, 1) := by decide +kernel
theorem dX12_game_211 : decode cX12_game 211 = .ok (.iload_n 3, 1) := by decide +kernel
theorem dX12_game_212 : decode cX12_game 212 = .ok (.invokevirtual 368, 3) := by decide +kernel
theorem dX12_game_215 : decode cX12_game 215 = .ok (.ifCond .eq 39, 3) := by decide +kernel
theorem dX12_game_218 : decode cX12_game 218 = .ok (.aload_n 0, 1) := by decide +kernel
theorem dX12_game_219 : decode cX12_game 219 = .ok (.iconst 0, 1) := by decide +kernel
theorem dX12_game_220 : decode cX12_game 220 = .ok (.iload 4, 2) := by decide +kernel
theorem dX12_game_222 : decode cX12_game 222 = .ok (.iload 5, 2) := by decide +kernel
theorem dX12_game_224 : decode cX12_game 224 = .ok (.iconst 0, 1) := by decide +kernel
theorem dX12_game_225 : decode cX12_game 225 = .ok (.iload_n 3, 1) := by decide +kernel
theorem dX12_game_226 : decode cX12_game 226 = .ok (.invokevirtual 372, 3) := by decide +kernel
theorem dX12_game_229 : decode cX12_game 229 = .ok (.bipush 100, 2) := by decide +kernel
theorem dX12_game_231 : decode cX12_game 231 = .ok (.irem, 1) := by decide +kernel
theorem dX12_game_232 : decode cX12_game 232 = .ok (.istore 7, 2) := by decide +kernel
theorem dX12_game_234 : decode cX12_game 234 = .ok (.aload_n 0, 1) := by decide +kernel
theorem dX12_game_235 : decode cX12_game 235 = .ok (.iconst 2, 1) := by decide +kernel
theorem dX12_game_236 : decode cX12_game 236 = .ok (.aload_n 0, 1) := by decide +kernel
theorem dX12_game_237 : decode cX12_game 237 = .ok (.getfield 39, 3) := by decide +kernel
theorem dX12_game_240 : decode cX12_game 240 = .ok (.iload 7, 2) := by decide +kernel
theorem dX12_game_242 : decode cX12_game 242 = .ok (.iconst 2, 1) := by decide +kernel
theorem dX12_game_243 : decode cX12_game 243 = .ok (.idiv, 1) := by decide +kernel
theorem dX12_game_244 : decode cX12_game 244 = .ok (.iaload, 1) := by decide +kernel
theorem dX12_game_245 : decode cX12_game 245 = .ok (.imul, 1) := by decide +kernel
theorem dX12_game_246 : decode cX12_game 246 = .ok (.iload 7, 2) := by decide +kernel
theorem dX12_game_248 : decode cX12_game 248 = .ok (.iconst 2, 1) := by decide +kernel
theorem dX12_game_249 : decode cX12_game 249 = .ok (.irem, 1) := by decide +kernel
theorem dX12_game_250 : decode cX12_game 250 = .ok (.iadd, 1) := by decide +kernel
theorem dX12_game_251 : decode cX12_game 251 = .ok (.putfield 58, 3) := by decide +kernel
theorem dX12_game_254 : decode cX12_game 254 = .ok (.aload_n 0, 1) := by decide +kernel
theorem dX12_game_255 : decode cX12_game 255 = .ok (.iconst 0, 1) := by decide +kernel
theorem dX12_game_256 : decode cX12_game 256 = .ok (.iload 4, 2) := by decide +kernel
theorem dX12_game_258 : decode cX12_game 258 = .ok (.iload 5, 2) := by decide +kernel
theorem dX12_game_260 : decode cX12_game 260 = .ok (.iconst 0, 1) := by decide +kernel
theorem dX12_game_261 : decode cX12_game 261 = .ok (.iload_n 3, 1) := by decide +kernel
theorem dX12_game_262 : decode cX12_game 262 = .ok (.invokevirtual 376, 3) := by decide +kernel
theorem dX12_game_265 : decode cX12_game 265 = .ok (.ireturn, 1) := by decide +kernel
def f_M_game (n : Nat)  (a1 : Int) (a2 : Int) (σ : JSg) : Option (Int × JSg) :=
  lt_ (sp σ 179 0 0) fun s1 => bd1 (f_M_isWidow a1 s1) fun r2 => if r2 = 0 then (some ((-2), s1)) else (bd1 (f_M_isWidow a2 s1) fun r3 => if r3 = 0 then (some ((-2), s1)) else (if a1 = a2 then (some ((-2), s1)) else (bd1 (f_M_rowMany s1) fun r4 => if r4 = 0 then (some ((-2), s1)) else (lt_ 0 fun v5 => lt_ 0 fun v6 => wh3 n (fun rc7 (x8 : Int) (x9 : Int) (s10 : JSg) => bd1 (f_M_stones s10) fun r11 => if x9 < r11 then (bd1 (f_M_isHeld x9 s10) fun r40 => jn2 (fun (y42 : Int) (s43 : JSg) => lt_ (w32 (x9 + 1)) fun v44 => rc7 y42 v44 s43) fun j41 => if r40 = 0 then (j41 x8 s10) else (chk (0 ≤ (w32 (67 + x9)) ∧ (w32 (67 + x9)) < 448) <| jn0 (if x8 = 10 then (some ((-2), s10)) else (chk (0 ≤ x8 ∧ x8 < 28) <| lt_ (sp s10 189 x8.toNat x9) fun s46 => lt_ (w32 (x8 + 1)) fun v47 => j41 v47 s46)) fun j45 => if (s10 181 (w32 (67 + x9)).toNat) = a1 then (j45) else (chk (0 ≤ (w32 (67 + x9)) ∧ (w32 (67 + x9)) < 448) <| if (s10 181 (w32 (67 + x9)).toNat) = a2 then (j45) else (j41 x8 s10)))) else (lt_ (sp s10 179 34 a1) fun s12 => lt_ (sp s12 179 35 a2) fun s13 => lt_ 0 fun v14 => wh2 n (fun rc15 (x16 : Int) (s17 : JSg) => if x16 < (sl32 98 x8) then (chk (0 ≤ x16 ∧ x16 < 495616) <| lt_ (sp s17 193 x16.toNat (-2)) fun s38 => lt_ (w32 (x16 + 1)) fun v39 => rc15 v39 s38) else (bd1 (f_M_pipsAt 0 s17) fun r18 => lt_ r18 fun v19 => bd1 (f_M_pipsAt 1 s17) fun r20 => lt_ r20 fun v21 => lt_ (sp s17 179 36 (-1)) fun s22 => bd1 (f_M_isOver n 0 x8 a1 s22) fun r23 => jn1 (fun (u25 : Int) => lt_ u25 fun v26 => jn1 (fun  (s28 : JSg) => bd2 (f_M_play n 0 v19 v21 0 x8 s28) fun r29 s30 => some (r29, s30)) fun j27 => if v26 = 0 then (bd1 (f_M_canLay n 0 v19 v21 a1 x8 s22) fun r31 => if r31 = 0 then (j27 s22) else (bd2 (f_M_bestOf n 0 v19 v21 0 x8 s22) fun r32 s33 => lt_ (rm32 r32 100) fun v34 => chk (0 ≤ (dv32 v34 2) ∧ (dv32 v34 2) < 28) <| lt_ (sp s33 179 36 (w32 ((w32 (2 * (s33 189 (dv32 v34 2).toNat))) + (rm32 v34 2)))) fun s35 => j27 s35)) else (j27 s22)) fun j24 => jn0 (j24 1) fun j36 => if r23 = 0 then (bd1 (f_M_isOver n 0 x8 a2 s22) fun r37 => if r37 = 0 then (j24 0) else (j36)) else (j36))) v14 s13)) v5 v6 s1))))
set_option maxRecDepth 20000 in
set_option maxHeartbeats 4000000 in
theorem k_M_game  (n : Nat)   (a1 : Int) (a2 : Int) (σ : JSg) : Call yX12_game cX12_game 8 (some .int) 69 SH RHO [vR 179, vI a1, vI a2] σ dIm (f_M_game n a1 a2 σ) := by
  refine call_of_sim (by decide +kernel) (Nat.le_of_ble_eq_true rfl) ?_
  show Sim RX12 cX12_game 8 (some .int) 69 SH RHO 0 [(0, vR 179), (1, vI a1), (2, vI a2)] [] σ dIm (f_M_game n a1 a2 σ)
  unfold f_M_game
  refine sim_aload_n 0 rfl dX12_game_0 ?_
  refine sim_iconst dX12_game_1 (by decide) ?_
  refine sim_putI g_RX12_87 sh_179 dX12_game_2 (fun s1 => ?_)
  refine sim_aload_n 0 rfl dX12_game_5 ?_
  refine sim_iload_n 1 rfl dX12_game_6 ?_
  refine sim_callVIp v_RX12_262 sh_179 dX12_game_7 (k_M_isWidow a1 s1) rfl ⟨by decide, by decide⟩ (S := []) rfl (Nat.le_of_ble_eq_true rfl) (fun r2 => ?_)
  refine sim_if_eq (tgt := 33) dX12_game_10 (by decide) ?_ ?_
  · refine sim_bipush dX12_game_33 (by decide +kernel) ?_
    exact sim_iret rfl rfl dX12_game_35
  · refine sim_aload_n 0 rfl dX12_game_13 ?_
    refine sim_iload_n 2 rfl dX12_game_14 ?_
    refine sim_callVIp v_RX12_262 sh_179 dX12_game_15 (k_M_isWidow a2 s1) rfl ⟨by decide, by decide⟩ (S := []) rfl (Nat.le_of_ble_eq_true rfl) (fun r3 => ?_)
    refine sim_if_eq (tgt := 33) dX12_game_18 (by decide) ?_ ?_
    · refine sim_bipush dX12_game_33 (by decide +kernel) ?_
      exact sim_iret rfl rfl dX12_game_35
    · refine sim_iload_n 1 rfl dX12_game_21 ?_
      refine sim_iload_n 2 rfl dX12_game_22 ?_
      refine sim_icmp_eq (tgt := 33) dX12_game_23 (by decide) ?_ ?_
      · refine sim_bipush dX12_game_33 (by decide +kernel) ?_
        exact sim_iret rfl rfl dX12_game_35
      · refine sim_aload_n 0 rfl dX12_game_26 ?_
        refine sim_callVIp v_RX12_250 sh_179 dX12_game_27 (k_M_rowMany s1) rfl ⟨by decide, by decide⟩ (S := []) rfl (Nat.le_of_ble_eq_true rfl) (fun r4 => ?_)
        refine sim_if_ne (tgt := 36) dX12_game_30 (by decide) ?_ ?_
        · refine sim_iconst dX12_game_36 (by decide) ?_
          refine sim_istore_n (fun v5 => [(3, vI v5), (0, vR 179), (1, vI a1), (2, vI a2)]) (fun _ => rfl) (by decide) dX12_game_37 (fun v5 => ?_)
          refine sim_iconst dX12_game_38 (by decide) ?_
          refine sim_istore (fun v6 => [(4, vI v6), (3, vI v5), (0, vR 179), (1, vI a1), (2, vI a2)]) (fun _ => rfl) (by decide) dX12_game_39 (fun v6 => ?_)
          refine sim_sub [2, 3, 4, 1, 0] (L' := [(0, vR 179), (1, vI a1), (2, vI a2), (3, vI v5), (4, vI v6)]) rfl ?_
          refine sim_wh3 (fun (x8 : Int) (x9 : Int) (s10 : JSg) => [(0, vR 179), (1, vI a1), (2, vI a2), (3, vI x8), (4, vI x9)]) (fun (x8 : Int) (x9 : Int) (s10 : JSg) => s10) ?_ n v5 v6 s1
          intro rc7 hrc7 x8 x9 s10
          refine sim_iload 4 rfl dX12_game_41 ?_
          refine sim_aload_n 0 rfl dX12_game_43 ?_
          refine sim_callVIp v_RX12_240 sh_179 dX12_game_44 (k_M_stones s10) rfl ⟨by decide, by decide⟩ (S := [vI x9]) rfl (Nat.le_of_ble_eq_true rfl) (fun r11 => ?_)
          refine sim_icmp_ge (tgt := 116) dX12_game_47 (by decide) ?_ ?_
          · refine sim_aload_n 0 rfl dX12_game_116 ?_
            refine sim_iload_n 1 rfl dX12_game_117 ?_
            refine sim_putI g_RX12_355 sh_179 dX12_game_118 (fun s12 => ?_)
            refine sim_aload_n 0 rfl dX12_game_121 ?_
            refine sim_iload_n 2 rfl dX12_game_122 ?_
            refine sim_putI g_RX12_361 sh_179 dX12_game_123 (fun s13 => ?_)
            refine sim_iconst dX12_game_126 (by decide) ?_
            refine sim_istore (fun v14 => [(4, vI v14), (0, vR 179), (1, vI a1), (2, vI a2), (3, vI x8)]) (fun _ => rfl) (by decide) dX12_game_127 (fun v14 => ?_)
            refine sim_sub [1, 2, 3, 4, 0] (L' := [(0, vR 179), (1, vI a1), (2, vI a2), (3, vI x8), (4, vI v14)]) rfl ?_
            refine sim_wh2 (fun (x16 : Int) (s17 : JSg) => [(0, vR 179), (1, vI a1), (2, vI a2), (3, vI x8), (4, vI x16)]) (fun (x16 : Int) (s17 : JSg) => s17) ?_ n v14 s13
            intro rc15 hrc15 x16 s17
            refine sim_iload 4 rfl dX12_game_129 ?_
            refine sim_bipush dX12_game_131 (by decide +kernel) ?_
            refine sim_iload_n 3 rfl dX12_game_133 ?_
            refine sim_ishl dX12_game_134 ?_
            refine sim_icmp_ge (tgt := 153) dX12_game_135 (by decide) ?_ ?_
            · refine sim_aload_n 0 rfl dX12_game_153 ?_
              refine sim_iconst dX12_game_154 (by decide) ?_
              refine sim_callVIp v_RX12_280 sh_179 dX12_game_155 (k_M_pipsAt 0 s17) rfl ⟨by decide, by decide⟩ (S := []) rfl (Nat.le_of_ble_eq_true rfl) (fun r18 => ?_)
              refine sim_istore (fun v19 => [(4, vI v19), (0, vR 179), (1, vI a1), (2, vI a2), (3, vI x8)]) (fun _ => rfl) (by decide) dX12_game_158 (fun v19 => ?_)
              refine sim_aload_n 1 rfl dX12_game_160 ?_
              refine sim_iconst dX12_game_161 (by decide) ?_
              refine sim_callVIp v_RX12_280 sh_179 dX12_game_162 (k_M_pipsAt 1 s17) rfl ⟨by decide, by decide⟩ (S := []) rfl (Nat.le_of_ble_eq_true rfl) (fun r20 => ?_)
              refine sim_istore (fun v21 => [(5, vI v21), (4, vI v19), (0, vR 179), (1, vI a1), (2, vI a2), (3, vI x8)]) (fun _ => rfl) (by decide) dX12_game_165 (fun v21 => ?_)
              refine sim_aload_n 2 rfl dX12_game_167 ?_
              refine sim_iconst dX12_game_168 (by decide) ?_
              refine sim_putI g_RX12_58 sh_179 dX12_game_169 (fun s22 => ?_)
              refine sim_aload_n 2 rfl dX12_game_172 ?_
              refine sim_iconst dX12_game_173 (by decide) ?_
              refine sim_iload_n 5 rfl dX12_game_174 ?_
              refine sim_iload_n 3 rfl dX12_game_175 ?_
              refine sim_callVIp v_RX12_358 sh_179 dX12_game_176 (k_M_isOver n 0 x8 a1 s22) rfl ⟨by decide, by decide⟩ (S := []) rfl (Nat.le_of_ble_eq_true rfl) (fun r23 => ?_)
              refine sim_jn1 (pc' := 197) (fun (u25 : Int) => [(0, vR 179), (1, vI a1), (3, vI x8), (4, vI v19), (5, vI v21)]) (fun (u25 : Int) => [vI u25]) (fun (u25 : Int) => s22) ?_ (fun j24 hj24 => ?_)
              · intro u25
                refine sim_istore (fun v26 => [(6, vI v26), (0, vR 179), (1, vI a1), (3, vI x8), (4, vI v19), (5, vI v21)]) (fun _ => rfl) (by decide) dX12_game_197 (fun v26 => ?_)
                refine sim_iload 0 rfl dX12_game_199 ?_
                refine sim_jn1 (pc' := 254) (fun  (s28 : JSg) => [(0, vR 179), (3, vI x8), (4, vI v19), (5, vI v21)]) (fun  (s28 : JSg) => []) (fun  (s28 : JSg) => s28) ?_ (fun j27 hj27 => ?_)
                · intro s28
                  refine sim_aload_n 0 rfl dX12_game_254 ?_
                  refine sim_iconst dX12_game_255 (by decide) ?_
                  refine sim_iload 2 rfl dX12_game_256 ?_
                  refine sim_iload 3 rfl dX12_game_258 ?_
                  refine sim_iconst dX12_game_260 (by decide) ?_
                  refine sim_iload_n 1 rfl dX12_game_261 ?_
                  refine sim_callVIm v_RX12_376 sh_179 dX12_game_262 (k_M_play n 0 v19 v21 0 x8 s28) rfl ⟨by decide, by decide⟩ (S := []) rfl (Nat.le_of_ble_eq_true rfl) (fun r29 s30 => ?_)
                  exact sim_iret rfl rfl dX12_game_265
                refine sim_if_ne (tgt := 254) dX12_game_201 (by decide) ?_ ?_
                · exact sim_sub [1, 3, 4, 5] rfl (hj27 s22)
                · refine sim_aload_n 1 rfl dX12_game_204 ?_
                  refine sim_iconst dX12_game_205 (by decide) ?_
                  refine sim_iload 4 rfl dX12_game_206 ?_
                  refine sim_iload 5 rfl dX12_game_208 ?_
                  refine sim_iload_n 2 rfl dX12_game_210 ?_
                  refine sim_iload_n 3 rfl dX12_game_211 ?_
                  refine sim_callVIp v_RX12_368 sh_179 dX12_game_212 (k_M_canLay n 0 v19 v21 a1 x8 s22) rfl ⟨by decide, by decide⟩ (S := []) rfl (Nat.le_of_ble_eq_true rfl) (fun r31 => ?_)
                  refine sim_if_eq (tgt := 254) dX12_game_215 (by decide) ?_ ?_
                  · exact sim_sub [1, 3, 4, 5] rfl (hj27 s22)
                  · refine sim_aload_n 1 rfl dX12_game_218 ?_
                    refine sim_iconst dX12_game_219 (by decide) ?_
                    refine sim_iload 4 rfl dX12_game_220 ?_
                    refine sim_iload 5 rfl dX12_game_222 ?_
                    refine sim_iconst dX12_game_224 (by decide) ?_
                    refine sim_iload_n 3 rfl dX12_game_225 ?_
                    refine sim_callVIm v_RX12_372 sh_179 dX12_game_226 (k_M_bestOf n 0 v19 v21 0 x8 s22) rfl ⟨by decide, by decide⟩ (S := []) rfl (Nat.le_of_ble_eq_true rfl) (fun r32 s33 => ?_)
                    refine sim_bipush dX12_game_229 (by decide +kernel) ?_
                    refine sim_iremK (by decide) dX12_game_231 ?_
                    refine sim_istore (fun v34 => [(7, vI v34), (6, vI v26), (0, vR 179), (1, vI a1), (3, vI x8), (4, vI v19), (5, vI v21)]) (fun _ => rfl) (by decide) dX12_game_232 (fun v34 => ?_)
                    refine sim_aload_n 2 rfl dX12_game_234 ?_
                    refine sim_iconst dX12_game_235 (by decide) ?_
                    refine sim_aload_n 2 rfl dX12_game_236 ?_
                    refine sim_getR g_RX12_39 sh_179 rh_179_25 dX12_game_237 ?_
                    refine sim_iload 0 rfl dX12_game_240 ?_
                    refine sim_iconst dX12_game_242 (by decide) ?_
                    refine sim_idivK (by decide) dX12_game_243 ?_
                    refine sim_iaload sh_189 rfl dX12_game_244 ?_
                    refine sim_imul dX12_game_245 ?_
                    refine sim_iload 0 rfl dX12_game_246 ?_
                    refine sim_iconst dX12_game_248 (by decide) ?_
                    refine sim_iremK (by decide) dX12_game_249 ?_
                    refine sim_iadd dX12_game_250 ?_
                    refine sim_putI g_RX12_58 sh_179 dX12_game_251 (fun s35 => ?_)
                    exact sim_sub [2, 4, 5, 6] rfl (hj27 s35)
              refine sim_jn0 (pc' := 192) ([(0, vR 179), (1, vI a1), (3, vI x8), (4, vI v19), (5, vI v21)]) ([]) (s22) ?_ (fun j36 hj36 => ?_)
              · refine sim_iconst dX12_game_192 (by decide) ?_
                refine sim_goto (tgt := 197) dX12_game_193 (by decide) ?_
                exact sim_sub [0, 1, 2, 3, 4] rfl (hj24 1)
              refine sim_if_ne (tgt := 192) dX12_game_179 (by decide) ?_ ?_
              · exact sim_sub [2, 3, 5, 1, 0] rfl (hj36 )
              · refine sim_aload_n 2 rfl dX12_game_182 ?_
                refine sim_iconst dX12_game_183 (by decide) ?_
                refine sim_iload_n 5 rfl dX12_game_184 ?_
                refine sim_iload_n 4 rfl dX12_game_185 ?_
                refine sim_callVIp v_RX12_358 sh_179 dX12_game_186 (k_M_isOver n 0 x8 a2 s22) rfl ⟨by decide, by decide⟩ (S := []) rfl (Nat.le_of_ble_eq_true rfl) (fun r37 => ?_)
                refine sim_if_eq (tgt := 196) dX12_game_189 (by decide) ?_ ?_
                · refine sim_iconst dX12_game_196 (by decide) ?_
                  exact sim_sub [2, 3, 5, 1, 0] rfl (hj24 0)
                · exact sim_sub [2, 3, 5, 1, 0] rfl (hj36 )
            · refine sim_aload_n 0 rfl dX12_game_138 ?_
              refine sim_getR g_RX12_52 sh_179 rh_179_30 dX12_game_139 ?_
              refine sim_iload 4 rfl dX12_game_142 ?_
              refine sim_bipush dX12_game_144 (by decide +kernel) ?_
              refine sim_iastore sh_193 rfl dX12_game_146 (fun s38 => ?_)
              refine sim_iinc 4 rfl (fun v39 => [(4, vI v39), (0, vR 179), (1, vI a1), (2, vI a2), (3, vI x8)]) (fun _ => rfl) (by decide) dX12_game_147 (fun v39 => ?_)
              refine sim_goto (tgt := 129) dX12_game_150 (by decide) ?_
              exact sim_sub [1, 2, 3, 4, 0] rfl (hrc15 v39 s38)
          · refine sim_aload_n 0 rfl dX12_game_50 ?_
            refine sim_iload 4 rfl dX12_game_51 ?_
            refine sim_callVIp v_RX12_265 sh_179 dX12_game_53 (k_M_isHeld x9 s10) rfl ⟨by decide, by decide⟩ (S := []) rfl (Nat.le_of_ble_eq_true rfl) (fun r40 => ?_)
            refine sim_jn2 (pc' := 110) (fun (y42 : Int) (s43 : JSg) => [(0, vR 179), (1, vI a1), (2, vI a2), (3, vI y42), (4, vI x9)]) (fun (y42 : Int) (s43 : JSg) => []) (fun (y42 : Int) (s43 : JSg) => s43) ?_ (fun j41 hj41 => ?_)
            · intro y42 s43
              refine sim_iinc 4 rfl (fun v44 => [(4, vI v44), (0, vR 179), (1, vI a1), (2, vI a2), (3, vI y42)]) (fun _ => rfl) (by decide) dX12_game_110 (fun v44 => ?_)
              refine sim_goto (tgt := 41) dX12_game_113 (by decide) ?_
              exact sim_sub [1, 2, 3, 4, 0] rfl (hrc7 y42 v44 s43)
            refine sim_if_eq (tgt := 110) dX12_game_56 (by decide) ?_ ?_
            · exact sim_sub [0, 1, 2, 3, 4] rfl (hj41 x8 s10)
            · refine sim_aload_n 0 rfl dX12_game_59 ?_
              refine sim_getR g_RX12_13 sh_179 rh_179_14 dX12_game_60 ?_
              refine sim_bipush dX12_game_63 (by decide +kernel) ?_
              refine sim_iload 4 rfl dX12_game_65 ?_
              refine sim_iadd dX12_game_67 ?_
              refine sim_iaload sh_181 rfl dX12_game_68 ?_
              refine sim_iload_n 1 rfl dX12_game_69 ?_
              refine sim_jn0 (pc' := 90) ([(0, vR 179), (1, vI a1), (2, vI a2), (3, vI x8), (4, vI x9)]) ([]) (s10) ?_ (fun j45 hj45 => ?_)
              · refine sim_iload_n 3 rfl dX12_game_90 ?_
                refine sim_bipush dX12_game_91 (by decide +kernel) ?_
                refine sim_icmp_ne (tgt := 99) dX12_game_93 (by decide) ?_ ?_
                · refine sim_aload_n 0 rfl dX12_game_99 ?_
                  refine sim_getR g_RX12_39 sh_179 rh_179_25 dX12_game_100 ?_
                  refine sim_iload_n 3 rfl dX12_game_103 ?_
                  refine sim_iload 4 rfl dX12_game_104 ?_
                  refine sim_iastore sh_189 rfl dX12_game_106 (fun s46 => ?_)
                  refine sim_iinc 3 rfl (fun v47 => [(3, vI v47), (0, vR 179), (1, vI a1), (2, vI a2), (4, vI x9)]) (fun _ => rfl) (by decide) dX12_game_107 (fun v47 => ?_)
                  exact sim_sub [1, 2, 3, 0, 4] rfl (hj41 v47 s46)
                · refine sim_bipush dX12_game_96 (by decide +kernel) ?_
                  exact sim_iret rfl rfl dX12_game_98
              refine sim_icmp_eq (tgt := 90) dX12_game_70 (by decide) ?_ ?_
              · exact sim_sub [0, 1, 2, 3, 4] rfl (hj45 )
              · refine sim_aload_n 0 rfl dX12_game_73 ?_
                refine sim_getR g_RX12_13 sh_179 rh_179_14 dX12_game_74 ?_
                refine sim_bipush dX12_game_77 (by decide +kernel) ?_
                refine sim_iload 4 rfl dX12_game_79 ?_
                refine sim_iadd dX12_game_81 ?_
                refine sim_iaload sh_181 rfl dX12_game_82 ?_
                refine sim_iload_n 2 rfl dX12_game_83 ?_
                refine sim_icmp_eq (tgt := 90) dX12_game_84 (by decide) ?_ ?_
                · exact sim_sub [0, 1, 2, 3, 4] rfl (hj45 )
                · refine sim_goto (tgt := 110) dX12_game_87 (by decide) ?_
                  exact sim_sub [0, 1, 2, 3, 4] rfl (hj41 x8 s10)
        · refine sim_bipush dX12_game_33 (by decide +kernel) ?_
          exact sim_iret rfl rfl dX12_game_35
theorem dX12_allAt_0 : decode cX12_allAt 0 = .ok (.aload_n 0, 1) := by decide +kernel
theorem dX12_allAt_1 : decode cX12_allAt 1 = .ok (.iconst 0, 1) := by decide +kernel
theorem dX12_allAt_2 : decode cX12_allAt 2 = .ok (.putfield 87, 3) := by decide +kernel
theorem dX12_allAt_5 : decode cX12_allAt 5 = .ok (.iload_n 1, 1) := by decide +kernel
theorem dX12_allAt_6 : decode cX12_allAt 6 = .ok (.ifCond .lt 20, 3) := by decide +kernel
theorem dX12_allAt_9 : decode cX12_allAt 9 = .ok (.iload_n 1, 1) := by decide +kernel
theorem dX12_allAt_10 : decode cX12_allAt 10 = .ok (.aload_n 0, 1) := by decide +kernel
theorem dX12_allAt_11 : decode cX12_allAt 11 = .ok (.getfield 349, 3) := by decide +kernel
theorem dX12_allAt_14 : decode cX12_allAt 14 = .ok (.if_icmp .ge 12, 3) := by decide +kernel
theorem dX12_allAt_17 : decode cX12_allAt 17 = .ok (.aload_n 0, 1) := by decide +kernel
theorem dX12_allAt_18 : decode cX12_allAt 18 = .ok (.getfield 55, 3) := by decide +kernel
theorem dX12_allAt_21 : decode cX12_allAt 21 = .ok (.iload_n 1, 1) := by decide +kernel
theorem dX12_allAt_22 : decode cX12_allAt 22 = .ok (.iaload, 1) := by decide +kernel
theorem dX12_allAt_23 : decode cX12_allAt 23 = .ok (.goto 4, 3) := by decide +kernel
theorem dX12_allAt_26 : decode cX12_allAt 26 = .ok (.iconst (-1), 1) := by decide +kernel
theorem dX12_allAt_27 : decode cX12_allAt 27 = .ok (.ireturn, 1) := by decide +kernel
def f_M_allAt   (a1 : Int) (σ : JSg) : Option (Int × JSg) :=
  lt_ (sp σ 179 0 0) fun s1 => if a1 < 0 then (some ((-1), s1)) else (if a1 < (s1 179 32) then (chk (0 ≤ a1 ∧ a1 < 10) <| some (s1 194 a1.toNat, s1)) else (some ((-1), s1)))
set_option maxRecDepth 20000 in
set_option maxHeartbeats 4000000 in
theorem k_M_allAt     (a1 : Int) (σ : JSg) : Call yX12_allAt cX12_allAt 2 (some .int) 0 SH RHO [vR 179, vI a1] σ dIm (f_M_allAt a1 σ) := by
  refine call_of_sim (by decide +kernel) (Nat.le_of_ble_eq_true rfl) ?_
  show Sim RX12 cX12_allAt 2 (some .int) 0 SH RHO 0 [(0, vR 179), (1, vI a1)] [] σ dIm (f_M_allAt a1 σ)
  unfold f_M_allAt
  refine sim_aload_n 0 rfl dX12_allAt_0 ?_
  refine sim_iconst dX12_allAt_1 (by decide) ?_
  refine sim_putI g_RX12_87 sh_179 dX12_allAt_2 (fun s1 => ?_)
  refine sim_iload_n 1 rfl dX12_allAt_5 ?_
  refine sim_if_lt (tgt := 26) dX12_allAt_6 (by decide) ?_ ?_
  · refine sim_iconst dX12_allAt_26 (by decide) ?_
    exact sim_iret rfl rfl dX12_allAt_27
  · refine sim_iload_n 1 rfl dX12_allAt_9 ?_
    refine sim_aload_n 0 rfl dX12_allAt_10 ?_
    refine sim_getI g_RX12_349 sh_179 dX12_allAt_11 ?_
    refine sim_icmp_ge (tgt := 26) dX12_allAt_14 (by decide) ?_ ?_
    · refine sim_iconst dX12_allAt_26 (by decide) ?_
      exact sim_iret rfl rfl dX12_allAt_27
    · refine sim_aload_n 0 rfl dX12_allAt_17 ?_
      refine sim_getR g_RX12_55 sh_179 rh_179_31 dX12_allAt_18 ?_
      refine sim_iload_n 1 rfl dX12_allAt_21 ?_
      refine sim_iaload sh_194 rfl dX12_allAt_22 ?_
      refine sim_goto (tgt := 27) dX12_allAt_23 (by decide) ?_
      exact sim_iret rfl rfl dX12_allAt_27
theorem dX12_layHand_0 : decode cX12_layHand 0 = .ok (.iconst 0, 1) := by decide +kernel
theorem dX12_layHand_1 : decode cX12_layHand 1 = .ok (.istore_n 1, 1) := by decide +kernel
theorem dX12_layHand_2 : decode cX12_layHand 2 = .ok (.iconst 0, 1) := by decide +kernel
theorem dX12_layHand_3 : decode cX12_layHand 3 = .ok (.istore_n 2, 1) := by decide +kernel
theorem dX12_layHand_4 : decode cX12_layHand 4 = .ok (.iload_n 2, 1) := by decide +kernel
theorem dX12_layHand_5 : decode cX12_layHand 5 = .ok (.aload_n 0, 1) := by decide +kernel
theorem dX12_layHand_6 : decode cX12_layHand 6 = .ok (.invokevirtual 240, 3) := by decide +kernel
theorem dX12_layHand_9 : decode cX12_layHand 9 = .ok (.if_icmp .ge 30, 3) := by decide +kernel
theorem dX12_layHand_12 : decode cX12_layHand 12 = .ok (.aload_n 0, 1) := by decide +kernel
theorem dX12_layHand_13 : decode cX12_layHand 13 = .ok (.iload_n 2, 1) := by decide +kernel
theorem dX12_layHand_14 : decode cX12_layHand 14 = .ok (.invokevirtual 265, 3) := by decide +kernel
theorem dX12_layHand_17 : decode cX12_layHand 17 = .ok (.ifCond .ne 6, 3) := by decide +kernel
theorem dX12_layHand_20 : decode cX12_layHand 20 = .ok (.goto 13, 3) := by decide +kernel
theorem dX12_layHand_23 : decode cX12_layHand 23 = .ok (.aload_n 0, 1) := by decide +kernel
theorem dX12_layHand_24 : decode cX12_layHand 24 = .ok (.getfield 39, 3) := by decide +kernel
theorem dX12_layHand_27 : decode cX12_layHand 27 = .ok (.iload_n 1, 1) := by decide +kernel
theorem dX12_layHand_28 : decode cX12_layHand 28 = .ok (.iload_n 2, 1) := by decide +kernel
theorem dX12_layHand_29 : decode cX12_layHand 29 = .ok (.iastore, 1) := by decide +kernel
theorem dX12_layHand_30 : decode cX12_layHand 30 = .ok (.iinc 1 1, 3) := by decide +kernel
theorem dX12_layHand_33 : decode cX12_layHand 33 = .ok (.iinc 2 1, 3) := by decide +kernel
theorem dX12_layHand_36 : decode cX12_layHand 36 = .ok (.goto (-32), 3) := by decide +kernel
theorem dX12_layHand_39 : decode cX12_layHand 39 = .ok (.iload_n 1, 1) := by decide +kernel
theorem dX12_layHand_40 : decode cX12_layHand 40 = .ok (.ireturn, 1) := by decide +kernel
def f_M_layHand (n : Nat)   (σ : JSg) : Option (Int × JSg) :=
  lt_ 0 fun v1 => lt_ 0 fun v2 => wh3 n (fun rc3 (x4 : Int) (x5 : Int) (s6 : JSg) => bd1 (f_M_stones s6) fun r7 => if x5 < r7 then (bd1 (f_M_isHeld x5 s6) fun r8 => jn2 (fun (y10 : Int) (s11 : JSg) => lt_ (w32 (x5 + 1)) fun v12 => rc3 y10 v12 s11) fun j9 => if r8 = 0 then (j9 x4 s6) else (chk (0 ≤ x4 ∧ x4 < 28) <| lt_ (sp s6 189 x4.toNat x5) fun s13 => lt_ (w32 (x4 + 1)) fun v14 => j9 v14 s13)) else (some (x4, s6))) v1 v2 (σ)
set_option maxRecDepth 20000 in
set_option maxHeartbeats 4000000 in
theorem k_M_layHand  (n : Nat)    (σ : JSg) : Call yX12_layHand cX12_layHand 3 (some .int) 1 SH RHO [vR 179] σ dIm (f_M_layHand n σ) := by
  refine call_of_sim (by decide +kernel) (Nat.le_of_ble_eq_true rfl) ?_
  show Sim RX12 cX12_layHand 3 (some .int) 1 SH RHO 0 [(0, vR 179)] [] σ dIm (f_M_layHand n σ)
  unfold f_M_layHand
  refine sim_iconst dX12_layHand_0 (by decide) ?_
  refine sim_istore_n (fun v1 => [(1, vI v1), (0, vR 179)]) (fun _ => rfl) (by decide) dX12_layHand_1 (fun v1 => ?_)
  refine sim_iconst dX12_layHand_2 (by decide) ?_
  refine sim_istore_n (fun v2 => [(2, vI v2), (1, vI v1), (0, vR 179)]) (fun _ => rfl) (by decide) dX12_layHand_3 (fun v2 => ?_)
  refine sim_sub [2, 1, 0] (L' := [(0, vR 179), (1, vI v1), (2, vI v2)]) rfl ?_
  refine sim_wh3 (fun (x4 : Int) (x5 : Int) (s6 : JSg) => [(0, vR 179), (1, vI x4), (2, vI x5)]) (fun (x4 : Int) (x5 : Int) (s6 : JSg) => s6) ?_ n v1 v2 (σ)
  intro rc3 hrc3 x4 x5 s6
  refine sim_iload_n 2 rfl dX12_layHand_4 ?_
  refine sim_aload_n 0 rfl dX12_layHand_5 ?_
  refine sim_callVIp v_RX12_240 sh_179 dX12_layHand_6 (k_M_stones s6) rfl ⟨by decide, by decide⟩ (S := [vI x5]) rfl (Nat.le_of_ble_eq_true rfl) (fun r7 => ?_)
  refine sim_icmp_ge (tgt := 39) dX12_layHand_9 (by decide) ?_ ?_
  · refine sim_iload_n 1 rfl dX12_layHand_39 ?_
    exact sim_iret rfl rfl dX12_layHand_40
  · refine sim_aload_n 0 rfl dX12_layHand_12 ?_
    refine sim_iload_n 2 rfl dX12_layHand_13 ?_
    refine sim_callVIp v_RX12_265 sh_179 dX12_layHand_14 (k_M_isHeld x5 s6) rfl ⟨by decide, by decide⟩ (S := []) rfl (Nat.le_of_ble_eq_true rfl) (fun r8 => ?_)
    refine sim_jn2 (pc' := 33) (fun (y10 : Int) (s11 : JSg) => [(0, vR 179), (1, vI y10), (2, vI x5)]) (fun (y10 : Int) (s11 : JSg) => []) (fun (y10 : Int) (s11 : JSg) => s11) ?_ (fun j9 hj9 => ?_)
    · intro y10 s11
      refine sim_iinc 2 rfl (fun v12 => [(2, vI v12), (0, vR 179), (1, vI y10)]) (fun _ => rfl) (by decide) dX12_layHand_33 (fun v12 => ?_)
      refine sim_goto (tgt := 4) dX12_layHand_36 (by decide) ?_
      exact sim_sub [1, 2, 0] rfl (hrc3 y10 v12 s11)
    refine sim_if_ne (tgt := 23) dX12_layHand_17 (by decide) ?_ ?_
    · refine sim_aload_n 0 rfl dX12_layHand_23 ?_
      refine sim_getR g_RX12_39 sh_179 rh_179_25 dX12_layHand_24 ?_
      refine sim_iload_n 1 rfl dX12_layHand_27 ?_
      refine sim_iload_n 2 rfl dX12_layHand_28 ?_
      refine sim_iastore sh_189 rfl dX12_layHand_29 (fun s13 => ?_)
      refine sim_iinc 1 rfl (fun v14 => [(1, vI v14), (0, vR 179), (2, vI x5)]) (fun _ => rfl) (by decide) dX12_layHand_30 (fun v14 => ?_)
      exact sim_sub [1, 0, 2] rfl (hj9 v14 s13)
    · refine sim_goto (tgt := 33) dX12_layHand_20 (by decide) ?_
      exact sim_sub [0, 1, 2] rfl (hj9 x4 s6)
theorem dX12_stateOf_0 : decode cX12_stateOf 0 = .ok (.iload_n 0, 1) := by decide +kernel
theorem dX12_stateOf_1 : decode cX12_stateOf 1 = .ok (.bipush 22, 2) := by decide +kernel
theorem dX12_stateOf_3 : decode cX12_stateOf 3 = .ok (.imul, 1) := by decide +kernel
theorem dX12_stateOf_4 : decode cX12_stateOf 4 = .ok (.iload_n 1, 1) := by decide +kernel
theorem dX12_stateOf_5 : decode cX12_stateOf 5 = .ok (.iadd, 1) := by decide +kernel
theorem dX12_stateOf_6 : decode cX12_stateOf 6 = .ok (.bipush 22, 2) := by decide +kernel
theorem dX12_stateOf_8 : decode cX12_stateOf 8 = .ok (.imul, 1) := by decide +kernel
theorem dX12_stateOf_9 : decode cX12_stateOf 9 = .ok (.iload_n 2, 1) := by decide +kernel
theorem dX12_stateOf_10 : decode cX12_stateOf 10 = .ok (.iadd, 1) := by decide +kernel
theorem dX12_stateOf_11 : decode cX12_stateOf 11 = .ok (.ireturn, 1) := by decide +kernel
def f_M_stateOf   (a1 : Int) (a2 : Int) (a3 : Int) (σ : JSg) : Option (Int) :=
  some (w32 ((w32 ((w32 ((w32 (a1 * 22)) + a2)) * 22)) + a3))
set_option maxRecDepth 20000 in
set_option maxHeartbeats 4000000 in
theorem k_M_stateOf (Sh : JSh) (ρ : JRo)    (a1 : Int) (a2 : Int) (a3 : Int) (σ : JSg) : Call yX12_stateOf cX12_stateOf 3 (some .int) 0 Sh ρ [vI a1, vI a2, vI a3] σ (dIp σ) (f_M_stateOf a1 a2 a3 σ) := by
  refine call_of_sim (by decide +kernel) (Nat.le_of_ble_eq_true rfl) ?_
  show Sim RX12 cX12_stateOf 3 (some .int) 0 Sh ρ 0 [(0, vI a1), (1, vI a2), (2, vI a3)] [] σ (dIp σ) (f_M_stateOf a1 a2 a3 σ)
  unfold f_M_stateOf
  refine sim_iload_n 0 rfl dX12_stateOf_0 ?_
  refine sim_bipush dX12_stateOf_1 (by decide +kernel) ?_
  refine sim_imul dX12_stateOf_3 ?_
  refine sim_iload_n 1 rfl dX12_stateOf_4 ?_
  refine sim_iadd dX12_stateOf_5 ?_
  refine sim_bipush dX12_stateOf_6 (by decide +kernel) ?_
  refine sim_imul dX12_stateOf_8 ?_
  refine sim_iload_n 2 rfl dX12_stateOf_9 ?_
  refine sim_iadd dX12_stateOf_10 ?_
  exact sim_iret rfl rfl dX12_stateOf_11
theorem dX12_isAll_0 : decode cX12_isAll 0 = .ok (.iconst 0, 1) := by decide +kernel
theorem dX12_isAll_1 : decode cX12_isAll 1 = .ok (.istore_n 3, 1) := by decide +kernel
theorem dX12_isAll_2 : decode cX12_isAll 2 = .ok (.iconst 0, 1) := by decide +kernel
theorem dX12_isAll_3 : decode cX12_isAll 3 = .ok (.istore 4, 2) := by decide +kernel
theorem dX12_isAll_5 : decode cX12_isAll 5 = .ok (.iload 4, 2) := by decide +kernel
theorem dX12_isAll_7 : decode cX12_isAll 7 = .ok (.iload_n 2, 1) := by decide +kernel
theorem dX12_isAll_8 : decode cX12_isAll 8 = .ok (.if_icmp .ge 38, 3) := by decide +kernel
theorem dX12_isAll_11 : decode cX12_isAll 11 = .ok (.iload_n 1, 1) := by decide +kernel
theorem dX12_isAll_12 : decode cX12_isAll 12 = .ok (.iload 4, 2) := by decide +kernel
theorem dX12_isAll_14 : decode cX12_isAll 14 = .ok (.invokestatic 201, 3) := by decide +kernel
theorem dX12_isAll_17 : decode cX12_isAll 17 = .ok (.ifCond .eq 23, 3) := by decide +kernel
theorem dX12_isAll_20 : decode cX12_isAll 20 = .ok (.iload_n 3, 1) := by decide +kernel
theorem dX12_isAll_21 : decode cX12_isAll 21 = .ok (.iconst 1, 1) := by decide +kernel
theorem dX12_isAll_22 : decode cX12_isAll 22 = .ok (.aload_n 0, 1) := by decide +kernel
theorem dX12_isAll_23 : decode cX12_isAll 23 = .ok (.getfield 13, 3) := by decide +kernel
theorem dX12_isAll_26 : decode cX12_isAll 26 = .ok (.bipush 67, 2) := by decide +kernel
theorem dX12_isAll_28 : decode cX12_isAll 28 = .ok (.aload_n 0, 1) := by decide +kernel
theorem dX12_isAll_29 : decode cX12_isAll 29 = .ok (.getfield 39, 3) := by decide +kernel
theorem dX12_isAll_32 : decode cX12_isAll 32 = .ok (.iload 4, 2) := by decide +kernel
theorem dX12_isAll_34 : decode cX12_isAll 34 = .ok (.iaload, 1) := by decide +kernel
theorem dX12_isAll_35 : decode cX12_isAll 35 = .ok (.iadd, 1) := by decide +kernel
theorem dX12_isAll_36 : decode cX12_isAll 36 = .ok (.iaload, 1) := by decide +kernel
theorem dX12_isAll_37 : decode cX12_isAll 37 = .ok (.ishl, 1) := by decide +kernel
theorem dX12_isAll_38 : decode cX12_isAll 38 = .ok (.ior, 1) := by decide +kernel
theorem dX12_isAll_39 : decode cX12_isAll 39 = .ok (.istore_n 3, 1) := by decide +kernel
theorem dX12_isAll_40 : decode cX12_isAll 40 = .ok (.iinc 4 1, 3) := by decide +kernel
theorem dX12_isAll_43 : decode cX12_isAll 43 = .ok (.goto (-38), 3) := by decide +kernel
theorem dX12_isAll_46 : decode cX12_isAll 46 = .ok (.iload_n 3, 1) := by decide +kernel
theorem dX12_isAll_47 : decode cX12_isAll 47 = .ok (.aload_n 0, 1) := by decide +kernel
theorem dX12_isAll_48 : decode cX12_isAll 48 = .ok (.getfield 331, 3) := by decide +kernel
theorem dX12_isAll_51 : decode cX12_isAll 51 = .ok (.if_icmp .ne 7, 3) := by decide +kernel
theorem dX12_isAll_54 : decode cX12_isAll 54 = .ok (.iconst 1, 1) := by decide +kernel
theorem dX12_isAll_55 : decode cX12_isAll 55 = .ok (.goto 4, 3) := by decide +kernel
theorem dX12_isAll_58 : decode cX12_isAll 58 = .ok (.iconst 0, 1) := by decide +kernel
theorem dX12_isAll_59 : decode cX12_isAll 59 = .ok (.ireturn, 1) := by decide +kernel
def f_M_isAll (n : Nat)  (a1 : Int) (a2 : Int) (σ : JSg) : Option (Int) :=
  lt_ 0 fun v1 => lt_ 0 fun v2 => wh2 n (fun rc3 (x4 : Int) (x5 : Int) => if x5 < a2 then (bd1 (f_M_has a1 x5 σ) fun r6 => jn1 (fun (y8 : Int) => lt_ (w32 (x5 + 1)) fun v9 => rc3 y8 v9) fun j7 => if r6 = 0 then (j7 x4) else (chk (0 ≤ x5 ∧ x5 < 28) <| chk (0 ≤ (w32 (67 + (σ 189 x5.toNat))) ∧ (w32 (67 + (σ 189 x5.toNat))) < 448) <| lt_ (or32 x4 (sl32 1 (σ 181 (w32 (67 + (σ 189 x5.toNat))).toNat))) fun v10 => j7 v10)) else (if x4 = (σ 179 33) then (some 1) else (some 0))) v1 v2
set_option maxRecDepth 20000 in
set_option maxHeartbeats 4000000 in
theorem k_M_isAll  (n : Nat)   (a1 : Int) (a2 : Int) (σ : JSg) : Call yX12_isAll cX12_isAll 5 (some .boolean) 1 SH RHO [vR 179, vI a1, vI a2] σ (dIp σ) (f_M_isAll n a1 a2 σ) := by
  refine call_of_sim (by decide +kernel) (Nat.le_of_ble_eq_true rfl) ?_
  show Sim RX12 cX12_isAll 5 (some .boolean) 1 SH RHO 0 [(0, vR 179), (1, vI a1), (2, vI a2)] [] σ (dIp σ) (f_M_isAll n a1 a2 σ)
  unfold f_M_isAll
  refine sim_iconst dX12_isAll_0 (by decide) ?_
  refine sim_istore_n (fun v1 => [(3, vI v1), (0, vR 179), (1, vI a1), (2, vI a2)]) (fun _ => rfl) (by decide) dX12_isAll_1 (fun v1 => ?_)
  refine sim_iconst dX12_isAll_2 (by decide) ?_
  refine sim_istore (fun v2 => [(4, vI v2), (3, vI v1), (0, vR 179), (1, vI a1), (2, vI a2)]) (fun _ => rfl) (by decide) dX12_isAll_3 (fun v2 => ?_)
  refine sim_sub [2, 3, 4, 1, 0] (L' := [(0, vR 179), (1, vI a1), (2, vI a2), (3, vI v1), (4, vI v2)]) rfl ?_
  refine sim_wh2 (fun (x4 : Int) (x5 : Int) => [(0, vR 179), (1, vI a1), (2, vI a2), (3, vI x4), (4, vI x5)]) (fun (x4 : Int) (x5 : Int) => σ) ?_ n v1 v2
  intro rc3 hrc3 x4 x5
  refine sim_iload 4 rfl dX12_isAll_5 ?_
  refine sim_iload_n 2 rfl dX12_isAll_7 ?_
  refine sim_icmp_ge (tgt := 46) dX12_isAll_8 (by decide) ?_ ?_
  · refine sim_iload_n 3 rfl dX12_isAll_46 ?_
    refine sim_aload_n 0 rfl dX12_isAll_47 ?_
    refine sim_getI g_RX12_331 sh_179 dX12_isAll_48 ?_
    refine sim_icmp_ne (tgt := 58) dX12_isAll_51 (by decide) ?_ ?_
    · refine sim_iconst dX12_isAll_58 (by decide) ?_
      exact sim_zret (Or.inl rfl) rfl rfl dX12_isAll_59
    · refine sim_iconst dX12_isAll_54 (by decide) ?_
      refine sim_goto (tgt := 59) dX12_isAll_55 (by decide) ?_
      exact sim_zret (Or.inr rfl) rfl rfl dX12_isAll_59
  · refine sim_iload_n 1 rfl dX12_isAll_11 ?_
    refine sim_iload 4 rfl dX12_isAll_12 ?_
    refine sim_callSIp s_RX12_201 dX12_isAll_14 (k_M_has SH RHO a1 x5 σ) rfl ⟨by decide, by decide⟩ (S := []) rfl (Nat.le_of_ble_eq_true rfl) (fun r6 => ?_)
    refine sim_jn1 (pc' := 40) (fun (y8 : Int) => [(0, vR 179), (1, vI a1), (2, vI a2), (3, vI y8), (4, vI x5)]) (fun (y8 : Int) => []) (fun (y8 : Int) => σ) ?_ (fun j7 hj7 => ?_)
    · intro y8
      refine sim_iinc 4 rfl (fun v9 => [(4, vI v9), (0, vR 179), (1, vI a1), (2, vI a2), (3, vI y8)]) (fun _ => rfl) (by decide) dX12_isAll_40 (fun v9 => ?_)
      refine sim_goto (tgt := 5) dX12_isAll_43 (by decide) ?_
      exact sim_sub [1, 2, 3, 4, 0] rfl (hrc3 y8 v9)
    refine sim_if_eq (tgt := 40) dX12_isAll_17 (by decide) ?_ ?_
    · exact sim_sub [0, 1, 2, 3, 4] rfl (hj7 x4)
    · refine sim_iload_n 3 rfl dX12_isAll_20 ?_
      refine sim_iconst dX12_isAll_21 (by decide) ?_
      refine sim_aload_n 0 rfl dX12_isAll_22 ?_
      refine sim_getR g_RX12_13 sh_179 rh_179_14 dX12_isAll_23 ?_
      refine sim_bipush dX12_isAll_26 (by decide +kernel) ?_
      refine sim_aload_n 0 rfl dX12_isAll_28 ?_
      refine sim_getR g_RX12_39 sh_179 rh_179_25 dX12_isAll_29 ?_
      refine sim_iload 4 rfl dX12_isAll_32 ?_
      refine sim_iaload sh_189 rfl dX12_isAll_34 ?_
      refine sim_iadd dX12_isAll_35 ?_
      refine sim_iaload sh_181 rfl dX12_isAll_36 ?_
      refine sim_ishl dX12_isAll_37 ?_
      refine sim_ior dX12_isAll_38 ?_
      refine sim_istore_n (fun v10 => [(3, vI v10), (0, vR 179), (1, vI a1), (2, vI a2), (4, vI x5)]) (fun _ => rfl) (by decide) dX12_isAll_39 (fun v10 => ?_)
      exact sim_sub [1, 2, 3, 0, 4] rfl (hj7 v10)
theorem dX12_endPips_0 : decode cX12_endPips 0 = .ok (.iload_n 1, 1) := by decide +kernel
theorem dX12_endPips_1 : decode cX12_endPips 1 = .ok (.iconst 2, 1) := by decide +kernel
theorem dX12_endPips_2 : decode cX12_endPips 2 = .ok (.idiv, 1) := by decide +kernel
theorem dX12_endPips_3 : decode cX12_endPips 3 = .ok (.bipush 10, 2) := by decide +kernel
theorem dX12_endPips_5 : decode cX12_endPips 5 = .ok (.if_icmp .ne 9, 3) := by decide +kernel
theorem dX12_endPips_8 : decode cX12_endPips 8 = .ok (.aload_n 0, 1) := by decide +kernel
theorem dX12_endPips_9 : decode cX12_endPips 9 = .ok (.iload_n 2, 1) := by decide +kernel
theorem dX12_endPips_10 : decode cX12_endPips 10 = .ok (.invokevirtual 280, 3) := by decide +kernel
theorem dX12_endPips_13 : decode cX12_endPips 13 = .ok (.ireturn, 1) := by decide +kernel
theorem dX12_endPips_14 : decode cX12_endPips 14 = .ok (.aload_n 0, 1) := by decide +kernel
theorem dX12_endPips_15 : decode cX12_endPips 15 = .ok (.aload_n 0, 1) := by decide +kernel
theorem dX12_endPips_16 : decode cX12_endPips 16 = .ok (.getfield 39, 3) := by decide +kernel
theorem dX12_endPips_19 : decode cX12_endPips 19 = .ok (.iload_n 1, 1) := by decide +kernel
theorem dX12_endPips_20 : decode cX12_endPips 20 = .ok (.iconst 2, 1) := by decide +kernel
theorem dX12_endPips_21 : decode cX12_endPips 21 = .ok (.idiv, 1) := by decide +kernel
theorem dX12_endPips_22 : decode cX12_endPips 22 = .ok (.iaload, 1) := by decide +kernel
theorem dX12_endPips_23 : decode cX12_endPips 23 = .ok (.iload_n 1, 1) := by decide +kernel
theorem dX12_endPips_24 : decode cX12_endPips 24 = .ok (.iconst 2, 1) := by decide +kernel
theorem dX12_endPips_25 : decode cX12_endPips 25 = .ok (.irem, 1) := by decide +kernel
theorem dX12_endPips_26 : decode cX12_endPips 26 = .ok (.ifCond .ne 7, 3) := by decide +kernel
theorem dX12_endPips_29 : decode cX12_endPips 29 = .ok (.iload_n 2, 1) := by decide +kernel
theorem dX12_endPips_30 : decode cX12_endPips 30 = .ok (.goto 6, 3) := by decide +kernel
theorem dX12_endPips_33 : decode cX12_endPips 33 = .ok (.iconst 1, 1) := by decide +kernel
theorem dX12_endPips_34 : decode cX12_endPips 34 = .ok (.iload_n 2, 1) := by decide +kernel
theorem dX12_endPips_35 : decode cX12_endPips 35 = .ok (.isub, 1) := by decide +kernel
theorem dX12_endPips_36 : decode cX12_endPips 36 = .ok (.invokevirtual 243, 3) := by decide +kernel
theorem dX12_endPips_39 : decode cX12_endPips 39 = .ok (.ireturn, 1) := by decide +kernel
def f_M_endPips   (a1 : Int) (a2 : Int) (σ : JSg) : Option (Int) :=
  if (dv32 a1 2) = 10 then (bd1 (f_M_pipsAt a2 σ) fun r4 => some r4) else (chk (0 ≤ (dv32 a1 2) ∧ (dv32 a1 2) < 28) <| jn1 (fun (u2 : Int) => bd1 (f_M_pip (σ 189 (dv32 a1 2).toNat) u2 σ) fun r3 => some r3) fun j1 => if (rm32 a1 2) = 0 then (j1 a2) else (j1 (w32 (1 - a2))))
set_option maxRecDepth 20000 in
set_option maxHeartbeats 4000000 in
theorem k_M_endPips     (a1 : Int) (a2 : Int) (σ : JSg) : Call yX12_endPips cX12_endPips 3 (some .int) 3 SH RHO [vR 179, vI a1, vI a2] σ (dIp σ) (f_M_endPips a1 a2 σ) := by
  refine call_of_sim (by decide +kernel) (Nat.le_of_ble_eq_true rfl) ?_
  show Sim RX12 cX12_endPips 3 (some .int) 3 SH RHO 0 [(0, vR 179), (1, vI a1), (2, vI a2)] [] σ (dIp σ) (f_M_endPips a1 a2 σ)
  unfold f_M_endPips
  refine sim_iload_n 1 rfl dX12_endPips_0 ?_
  refine sim_iconst dX12_endPips_1 (by decide) ?_
  refine sim_idivK (by decide) dX12_endPips_2 ?_
  refine sim_bipush dX12_endPips_3 (by decide +kernel) ?_
  refine sim_icmp_ne (tgt := 14) dX12_endPips_5 (by decide) ?_ ?_
  · refine sim_aload_n 0 rfl dX12_endPips_14 ?_
    refine sim_aload_n 0 rfl dX12_endPips_15 ?_
    refine sim_getR g_RX12_39 sh_179 rh_179_25 dX12_endPips_16 ?_
    refine sim_iload_n 1 rfl dX12_endPips_19 ?_
    refine sim_iconst dX12_endPips_20 (by decide) ?_
    refine sim_idivK (by decide) dX12_endPips_21 ?_
    refine sim_iaload sh_189 rfl dX12_endPips_22 ?_
    refine sim_iload_n 1 rfl dX12_endPips_23 ?_
    refine sim_iconst dX12_endPips_24 (by decide) ?_
    refine sim_iremK (by decide) dX12_endPips_25 ?_
    refine sim_jn1 (pc' := 36) (fun (u2 : Int) => []) (fun (u2 : Int) => [vI u2, vI (σ 189 (dv32 a1 2).toNat), vR 179]) (fun (u2 : Int) => σ) ?_ (fun j1 hj1 => ?_)
    · intro u2
      refine sim_callVIp v_RX12_243 sh_179 dX12_endPips_36 (k_M_pip (σ 189 (dv32 a1 2).toNat) u2 σ) rfl ⟨by decide, by decide⟩ (S := []) rfl (Nat.le_of_ble_eq_true rfl) (fun r3 => ?_)
      exact sim_iret rfl rfl dX12_endPips_39
    refine sim_if_ne (tgt := 33) dX12_endPips_26 (by decide) ?_ ?_
    · refine sim_iconst dX12_endPips_33 (by decide) ?_
      refine sim_iload_n 2 rfl dX12_endPips_34 ?_
      refine sim_isub dX12_endPips_35 ?_
      exact sim_sub [] rfl (hj1 (w32 (1 - a2)))
    · refine sim_iload_n 2 rfl dX12_endPips_29 ?_
      refine sim_goto (tgt := 36) dX12_endPips_30 (by decide) ?_
      exact sim_sub [] rfl (hj1 a2)
  · refine sim_aload_n 0 rfl dX12_endPips_8 ?_
    refine sim_iload_n 2 rfl dX12_endPips_9 ?_
    refine sim_callVIp v_RX12_280 sh_179 dX12_endPips_10 (k_M_pipsAt a2 σ) rfl ⟨by decide, by decide⟩ (S := []) rfl (Nat.le_of_ble_eq_true rfl) (fun r4 => ?_)
    exact sim_iret rfl rfl dX12_endPips_13
theorem dX12_endLayer_0 : decode cX12_endLayer 0 = .ok (.iload_n 1, 1) := by decide +kernel
theorem dX12_endLayer_1 : decode cX12_endLayer 1 = .ok (.iconst 2, 1) := by decide +kernel
theorem dX12_endLayer_2 : decode cX12_endLayer 2 = .ok (.idiv, 1) := by decide +kernel
theorem dX12_endLayer_3 : decode cX12_endLayer 3 = .ok (.bipush 10, 2) := by decide +kernel
theorem dX12_endLayer_5 : decode cX12_endLayer 5 = .ok (.if_icmp .ne 22, 3) := by decide +kernel
theorem dX12_endLayer_8 : decode cX12_endLayer 8 = .ok (.aload_n 0, 1) := by decide +kernel
theorem dX12_endLayer_9 : decode cX12_endLayer 9 = .ok (.invokevirtual 250, 3) := by decide +kernel
theorem dX12_endLayer_12 : decode cX12_endLayer 12 = .ok (.ifCond .ne 7, 3) := by decide +kernel
theorem dX12_endLayer_15 : decode cX12_endLayer 15 = .ok (.iconst (-1), 1) := by decide +kernel
theorem dX12_endLayer_16 : decode cX12_endLayer 16 = .ok (.goto 27, 3) := by decide +kernel
theorem dX12_endLayer_19 : decode cX12_endLayer 19 = .ok (.aload_n 0, 1) := by decide +kernel
theorem dX12_endLayer_20 : decode cX12_endLayer 20 = .ok (.iload_n 2, 1) := by decide +kernel
theorem dX12_endLayer_21 : decode cX12_endLayer 21 = .ok (.invokevirtual 283, 3) := by decide +kernel
theorem dX12_endLayer_24 : decode cX12_endLayer 24 = .ok (.goto 19, 3) := by decide +kernel
theorem dX12_endLayer_27 : decode cX12_endLayer 27 = .ok (.aload_n 0, 1) := by decide +kernel
theorem dX12_endLayer_28 : decode cX12_endLayer 28 = .ok (.getfield 13, 3) := by decide +kernel
theorem dX12_endLayer_31 : decode cX12_endLayer 31 = .ok (.bipush 67, 2) := by decide +kernel
theorem dX12_endLayer_33 : decode cX12_endLayer 33 = .ok (.aload_n 0, 1) := by decide +kernel
theorem dX12_endLayer_34 : decode cX12_endLayer 34 = .ok (.getfield 39, 3) := by decide +kernel
theorem dX12_endLayer_37 : decode cX12_endLayer 37 = .ok (.iload_n 1, 1) := by decide +kernel
theorem dX12_endLayer_38 : decode cX12_endLayer 38 = .ok (.iconst 2, 1) := by decide +kernel
theorem dX12_endLayer_39 : decode cX12_endLayer 39 = .ok (.idiv, 1) := by decide +kernel
theorem dX12_endLayer_40 : decode cX12_endLayer 40 = .ok (.iaload, 1) := by decide +kernel
theorem dX12_endLayer_41 : decode cX12_endLayer 41 = .ok (.iadd, 1) := by decide +kernel
theorem dX12_endLayer_42 : decode cX12_endLayer 42 = .ok (.iaload, 1) := by decide +kernel
theorem dX12_endLayer_43 : decode cX12_endLayer 43 = .ok (.ireturn, 1) := by decide +kernel
def f_M_endLayer   (a1 : Int) (a2 : Int) (σ : JSg) : Option (Int) :=
  if (dv32 a1 2) = 10 then (bd1 (f_M_rowMany σ) fun r1 => if r1 = 0 then (some (-1)) else (bd1 (f_M_layerAt a2 σ) fun r2 => some r2)) else (chk (0 ≤ (dv32 a1 2) ∧ (dv32 a1 2) < 28) <| chk (0 ≤ (w32 (67 + (σ 189 (dv32 a1 2).toNat))) ∧ (w32 (67 + (σ 189 (dv32 a1 2).toNat))) < 448) <| some (σ 181 (w32 (67 + (σ 189 (dv32 a1 2).toNat))).toNat))
set_option maxRecDepth 20000 in
set_option maxHeartbeats 4000000 in
theorem k_M_endLayer     (a1 : Int) (a2 : Int) (σ : JSg) : Call yX12_endLayer cX12_endLayer 3 (some .int) 3 SH RHO [vR 179, vI a1, vI a2] σ (dIp σ) (f_M_endLayer a1 a2 σ) := by
  refine call_of_sim (by decide +kernel) (Nat.le_of_ble_eq_true rfl) ?_
  show Sim RX12 cX12_endLayer 3 (some .int) 3 SH RHO 0 [(0, vR 179), (1, vI a1), (2, vI a2)] [] σ (dIp σ) (f_M_endLayer a1 a2 σ)
  unfold f_M_endLayer
  refine sim_iload_n 1 rfl dX12_endLayer_0 ?_
  refine sim_iconst dX12_endLayer_1 (by decide) ?_
  refine sim_idivK (by decide) dX12_endLayer_2 ?_
  refine sim_bipush dX12_endLayer_3 (by decide +kernel) ?_
  refine sim_icmp_ne (tgt := 27) dX12_endLayer_5 (by decide) ?_ ?_
  · refine sim_aload_n 0 rfl dX12_endLayer_27 ?_
    refine sim_getR g_RX12_13 sh_179 rh_179_14 dX12_endLayer_28 ?_
    refine sim_bipush dX12_endLayer_31 (by decide +kernel) ?_
    refine sim_aload_n 0 rfl dX12_endLayer_33 ?_
    refine sim_getR g_RX12_39 sh_179 rh_179_25 dX12_endLayer_34 ?_
    refine sim_iload_n 1 rfl dX12_endLayer_37 ?_
    refine sim_iconst dX12_endLayer_38 (by decide) ?_
    refine sim_idivK (by decide) dX12_endLayer_39 ?_
    refine sim_iaload sh_189 rfl dX12_endLayer_40 ?_
    refine sim_iadd dX12_endLayer_41 ?_
    refine sim_iaload sh_181 rfl dX12_endLayer_42 ?_
    exact sim_iret rfl rfl dX12_endLayer_43
  · refine sim_aload_n 0 rfl dX12_endLayer_8 ?_
    refine sim_callVIp v_RX12_250 sh_179 dX12_endLayer_9 (k_M_rowMany σ) rfl ⟨by decide, by decide⟩ (S := []) rfl (Nat.le_of_ble_eq_true rfl) (fun r1 => ?_)
    refine sim_if_ne (tgt := 19) dX12_endLayer_12 (by decide) ?_ ?_
    · refine sim_aload_n 0 rfl dX12_endLayer_19 ?_
      refine sim_iload_n 2 rfl dX12_endLayer_20 ?_
      refine sim_callVIp v_RX12_283 sh_179 dX12_endLayer_21 (k_M_layerAt a2 σ) rfl ⟨by decide, by decide⟩ (S := []) rfl (Nat.le_of_ble_eq_true rfl) (fun r2 => ?_)
      refine sim_goto (tgt := 43) dX12_endLayer_24 (by decide) ?_
      exact sim_iret rfl rfl dX12_endLayer_43
    · refine sim_iconst dX12_endLayer_15 (by decide) ?_
      refine sim_goto (tgt := 43) dX12_endLayer_16 (by decide) ?_
      exact sim_iret rfl rfl dX12_endLayer_43
theorem dX12_laysAt_0 : decode cX12_laysAt 0 = .ok (.aload_n 0, 1) := by decide +kernel
theorem dX12_laysAt_1 : decode cX12_laysAt 1 = .ok (.getfield 39, 3) := by decide +kernel
theorem dX12_laysAt_4 : decode cX12_laysAt 4 = .ok (.iload_n 1, 1) := by decide +kernel
theorem dX12_laysAt_5 : decode cX12_laysAt 5 = .ok (.iaload, 1) := by decide +kernel
theorem dX12_laysAt_6 : decode cX12_laysAt 6 = .ok (.istore 4, 2) := by decide +kernel
theorem dX12_laysAt_8 : decode cX12_laysAt 8 = .ok (.aload_n 0, 1) := by decide +kernel
theorem dX12_laysAt_9 : decode cX12_laysAt 9 = .ok (.iload_n 2, 1) := by decide +kernel
theorem dX12_laysAt_10 : decode cX12_laysAt 10 = .ok (.iload_n 3, 1) := by decide +kernel
theorem dX12_laysAt_11 : decode cX12_laysAt 11 = .ok (.invokevirtual 325, 3) := by decide +kernel
theorem dX12_laysAt_14 : decode cX12_laysAt 14 = .ok (.istore 5, 2) := by decide +kernel
theorem dX12_laysAt_16 : decode cX12_laysAt 16 = .ok (.iload 5, 2) := by decide +kernel
theorem dX12_laysAt_18 : decode cX12_laysAt 18 = .ok (.iconst (-1), 1) := by decide +kernel
theorem dX12_laysAt_19 : decode cX12_laysAt 19 = .ok (.if_icmp .ne 7, 3) := by decide +kernel
theorem dX12_laysAt_22 : decode cX12_laysAt 22 = .ok (.iconst 2, 1) := by decide +kernel
theorem dX12_laysAt_23 : decode cX12_laysAt 23 = .ok (.iload_n 1, 1) := by decide +kernel
theorem dX12_laysAt_24 : decode cX12_laysAt 24 = .ok (.imul, 1) := by decide +kernel
theorem dX12_laysAt_25 : decode cX12_laysAt 25 = .ok (.ireturn, 1) := by decide +kernel
theorem dX12_laysAt_26 : decode cX12_laysAt 26 = .ok (.aload_n 0, 1) := by decide +kernel
theorem dX12_laysAt_27 : decode cX12_laysAt 27 = .ok (.iload_n 2, 1) := by decide +kernel
theorem dX12_laysAt_28 : decode cX12_laysAt 28 = .ok (.iload_n 3, 1) := by decide +kernel
theorem dX12_laysAt_29 : decode cX12_laysAt 29 = .ok (.invokevirtual 328, 3) := by decide +kernel
theorem dX12_laysAt_32 : decode cX12_laysAt 32 = .ok (.aload_n 0, 1) := by decide +kernel
theorem dX12_laysAt_33 : decode cX12_laysAt 33 = .ok (.getfield 13, 3) := by decide +kernel
theorem dX12_laysAt_36 : decode cX12_laysAt 36 = .ok (.bipush 67, 2) := by decide +kernel
theorem dX12_laysAt_38 : decode cX12_laysAt 38 = .ok (.iload 4, 2) := by decide +kernel
theorem dX12_laysAt_40 : decode cX12_laysAt 40 = .ok (.iadd, 1) := by decide +kernel
theorem dX12_laysAt_41 : decode cX12_laysAt 41 = .ok (.iaload, 1) := by decide +kernel
theorem dX12_laysAt_42 : decode cX12_laysAt 42 = .ok (.if_icmp .ne 5, 3) := by decide +kernel
theorem dX12_laysAt_45 : decode cX12_laysAt 45 = .ok (.iconst (-1), 1) := by decide +kernel
theorem dX12_laysAt_46 : decode cX12_laysAt 46 = .ok (.ireturn, 1) := by decide +kernel
theorem dX12_laysAt_47 : decode cX12_laysAt 47 = .ok (.aload_n 0, 1) := by decide +kernel
theorem dX12_laysAt_48 : decode cX12_laysAt 48 = .ok (.aload_n 0, 1) := by decide +kernel
theorem dX12_laysAt_49 : decode cX12_laysAt 49 = .ok (.iload 4, 2) := by decide +kernel
theorem dX12_laysAt_51 : decode cX12_laysAt 51 = .ok (.iconst 0, 1) := by decide +kernel
theorem dX12_laysAt_52 : decode cX12_laysAt 52 = .ok (.invokevirtual 243, 3) := by decide +kernel
theorem dX12_laysAt_55 : decode cX12_laysAt 55 = .ok (.iload 5, 2) := by decide +kernel
theorem dX12_laysAt_57 : decode cX12_laysAt 57 = .ok (.invokevirtual 271, 3) := by decide +kernel
theorem dX12_laysAt_60 : decode cX12_laysAt 60 = .ok (.istore 6, 2) := by decide +kernel
theorem dX12_laysAt_62 : decode cX12_laysAt 62 = .ok (.iload 6, 2) := by decide +kernel
theorem dX12_laysAt_64 : decode cX12_laysAt 64 = .ok (.ifCond .ne 21, 3) := by decide +kernel
theorem dX12_laysAt_67 : decode cX12_laysAt 67 = .ok (.aload_n 0, 1) := by decide +kernel
theorem dX12_laysAt_68 : decode cX12_laysAt 68 = .ok (.aload_n 0, 1) := by decide +kernel
theorem dX12_laysAt_69 : decode cX12_laysAt 69 = .ok (.iload 4, 2) := by decide +kernel
theorem dX12_laysAt_71 : decode cX12_laysAt 71 = .ok (.iconst 1, 1) := by decide +kernel
theorem dX12_laysAt_72 : decode cX12_laysAt 72 = .ok (.invokevirtual 243, 3) := by decide +kernel
theorem dX12_laysAt_75 : decode cX12_laysAt 75 = .ok (.iload 5, 2) := by decide +kernel
theorem dX12_laysAt_77 : decode cX12_laysAt 77 = .ok (.invokevirtual 271, 3) := by decide +kernel
theorem dX12_laysAt_80 : decode cX12_laysAt 80 = .ok (.ifCond .ne 5, 3) := by decide +kernel
theorem dX12_laysAt_83 : decode cX12_laysAt 83 = .ok (.iconst (-1), 1) := by decide +kernel
theorem dX12_laysAt_84 : decode cX12_laysAt 84 = .ok (.ireturn, 1) := by decide +kernel
theorem dX12_laysAt_85 : decode cX12_laysAt 85 = .ok (.iconst 2, 1) := by decide +kernel
theorem dX12_laysAt_86 : decode cX12_laysAt 86 = .ok (.iload_n 1, 1) := by decide +kernel
theorem dX12_laysAt_87 : decode cX12_laysAt 87 = .ok (.imul, 1) := by decide +kernel
theorem dX12_laysAt_88 : decode cX12_laysAt 88 = .ok (.iload 6, 2) := by decide +kernel
theorem dX12_laysAt_90 : decode cX12_laysAt 90 = .ok (.iload_n 3, 1) := by decide +kernel
theorem dX12_laysAt_91 : decode cX12_laysAt 91 = .ok (.iconst 1, 1) := by decide +kernel
theorem dX12_laysAt_92 : decode cX12_laysAt 92 = .ok (.if_icmp .ne 7, 3) := by decide +kernel
theorem dX12_laysAt_95 : decode cX12_laysAt 95 = .ok (.iconst 1, 1) := by decide +kernel
theorem dX12_laysAt_96 : decode cX12_laysAt 96 = .ok (.goto 4, 3) := by decide +kernel
theorem dX12_laysAt_99 : decode cX12_laysAt 99 = .ok (.iconst 0, 1) := by decide +kernel
theorem dX12_laysAt_100 : decode cX12_laysAt 100 = .ok (.if_icmp .ne 7, 3) := by decide +kernel
theorem dX12_laysAt_103 : decode cX12_laysAt 103 = .ok (.iconst 0, 1) := by decide +kernel
theorem dX12_laysAt_104 : decode cX12_laysAt 104 = .ok (.goto 4, 3) := by decide +kernel
theorem dX12_laysAt_107 : decode cX12_laysAt 107 = .ok (.iconst 1, 1) := by decide +kernel
theorem dX12_laysAt_108 : decode cX12_laysAt 108 = .ok (.iadd, 1) := by decide +kernel
theorem dX12_laysAt_109 : decode cX12_laysAt 109 = .ok (.ireturn, 1) := by decide +kernel
def f_M_laysAt   (a1 : Int) (a2 : Int) (a3 : Int) (σ : JSg) : Option (Int) :=
  chk (0 ≤ a1 ∧ a1 < 28) <| lt_ (σ 189 a1.toNat) fun v1 => bd1 (f_M_endPips a2 a3 σ) fun r2 => lt_ r2 fun v3 => if v3 = (-1) then (some (w32 (2 * a1))) else (bd1 (f_M_endLayer a2 a3 σ) fun r4 => chk (0 ≤ (w32 (67 + v1)) ∧ (w32 (67 + v1)) < 448) <| if r4 = (σ 181 (w32 (67 + v1)).toNat) then (some (-1)) else (bd1 (f_M_pip v1 0 σ) fun r5 => bd1 (f_M_fit r5 v3 σ) fun r6 => lt_ r6 fun v7 => jn0 (jn1 (fun (u10 : Int) => jn1 (fun (u12 : Int) => some (w32 ((w32 (2 * a1)) + u12))) fun j11 => if v7 = u10 then (j11 0) else (j11 1)) fun j9 => if a3 = 1 then (j9 1) else (j9 0)) fun j8 => if v7 = 0 then (bd1 (f_M_pip v1 1 σ) fun r13 => bd1 (f_M_fit r13 v3 σ) fun r14 => if r14 = 0 then (some (-1)) else (j8)) else (j8)))
set_option maxRecDepth 20000 in
set_option maxHeartbeats 4000000 in
theorem k_M_laysAt     (a1 : Int) (a2 : Int) (a3 : Int) (σ : JSg) : Call yX12_laysAt cX12_laysAt 7 (some .int) 4 SH RHO [vR 179, vI a1, vI a2, vI a3] σ (dIp σ) (f_M_laysAt a1 a2 a3 σ) := by
  refine call_of_sim (by decide +kernel) (Nat.le_of_ble_eq_true rfl) ?_
  show Sim RX12 cX12_laysAt 7 (some .int) 4 SH RHO 0 [(0, vR 179), (1, vI a1), (2, vI a2), (3, vI a3)] [] σ (dIp σ) (f_M_laysAt a1 a2 a3 σ)
  unfold f_M_laysAt
  refine sim_aload_n 0 rfl dX12_laysAt_0 ?_
  refine sim_getR g_RX12_39 sh_179 rh_179_25 dX12_laysAt_1 ?_
  refine sim_iload_n 1 rfl dX12_laysAt_4 ?_
  refine sim_iaload sh_189 rfl dX12_laysAt_5 ?_
  refine sim_istore (fun v1 => [(4, vI v1), (0, vR 179), (1, vI a1), (2, vI a2), (3, vI a3)]) (fun _ => rfl) (by decide) dX12_laysAt_6 (fun v1 => ?_)
  refine sim_aload_n 1 rfl dX12_laysAt_8 ?_
  refine sim_iload_n 3 rfl dX12_laysAt_9 ?_
  refine sim_iload_n 4 rfl dX12_laysAt_10 ?_
  refine sim_callVIp v_RX12_325 sh_179 dX12_laysAt_11 (k_M_endPips a2 a3 σ) rfl ⟨by decide, by decide⟩ (S := []) rfl (Nat.le_of_ble_eq_true rfl) (fun r2 => ?_)
  refine sim_istore (fun v3 => [(5, vI v3), (4, vI v1), (0, vR 179), (1, vI a1), (2, vI a2), (3, vI a3)]) (fun _ => rfl) (by decide) dX12_laysAt_14 (fun v3 => ?_)
  refine sim_iload 0 rfl dX12_laysAt_16 ?_
  refine sim_iconst dX12_laysAt_18 (by decide) ?_
  refine sim_icmp_ne (tgt := 26) dX12_laysAt_19 (by decide) ?_ ?_
  · refine sim_aload_n 2 rfl dX12_laysAt_26 ?_
    refine sim_iload_n 4 rfl dX12_laysAt_27 ?_
    refine sim_iload_n 5 rfl dX12_laysAt_28 ?_
    refine sim_callVIp v_RX12_328 sh_179 dX12_laysAt_29 (k_M_endLayer a2 a3 σ) rfl ⟨by decide, by decide⟩ (S := []) rfl (Nat.le_of_ble_eq_true rfl) (fun r4 => ?_)
    refine sim_aload_n 2 rfl dX12_laysAt_32 ?_
    refine sim_getR g_RX12_13 sh_179 rh_179_14 dX12_laysAt_33 ?_
    refine sim_bipush dX12_laysAt_36 (by decide +kernel) ?_
    refine sim_iload 1 rfl dX12_laysAt_38 ?_
    refine sim_iadd dX12_laysAt_40 ?_
    refine sim_iaload sh_181 rfl dX12_laysAt_41 ?_
    refine sim_icmp_ne (tgt := 47) dX12_laysAt_42 (by decide) ?_ ?_
    · refine sim_aload_n 2 rfl dX12_laysAt_47 ?_
      refine sim_aload_n 2 rfl dX12_laysAt_48 ?_
      refine sim_iload 1 rfl dX12_laysAt_49 ?_
      refine sim_iconst dX12_laysAt_51 (by decide) ?_
      refine sim_callVIp v_RX12_243 sh_179 dX12_laysAt_52 (k_M_pip v1 0 σ) rfl ⟨by decide, by decide⟩ (S := [vR 179]) rfl (Nat.le_of_ble_eq_true rfl) (fun r5 => ?_)
      refine sim_iload 0 rfl dX12_laysAt_55 ?_
      refine sim_callVIp v_RX12_271 sh_179 dX12_laysAt_57 (k_M_fit r5 v3 σ) rfl ⟨by decide, by decide⟩ (S := []) rfl (Nat.le_of_ble_eq_true rfl) (fun r6 => ?_)
      refine sim_istore (fun v7 => [(6, vI v7), (5, vI v3), (4, vI v1), (0, vR 179), (1, vI a1), (2, vI a2), (3, vI a3)]) (fun _ => rfl) (by decide) dX12_laysAt_60 (fun v7 => ?_)
      refine sim_iload 0 rfl dX12_laysAt_62 ?_
      refine sim_jn0 (pc' := 85) ([(1, vI a1), (3, vI a3), (6, vI v7)]) ([]) (σ) ?_ (fun j8 hj8 => ?_)
      · refine sim_iconst dX12_laysAt_85 (by decide) ?_
        refine sim_iload_n 0 rfl dX12_laysAt_86 ?_
        refine sim_imul dX12_laysAt_87 ?_
        refine sim_iload 2 rfl dX12_laysAt_88 ?_
        refine sim_iload_n 1 rfl dX12_laysAt_90 ?_
        refine sim_iconst dX12_laysAt_91 (by decide) ?_
        refine sim_jn1 (pc' := 100) (fun (u10 : Int) => []) (fun (u10 : Int) => [vI u10, vI v7, vI (w32 (2 * a1))]) (fun (u10 : Int) => σ) ?_ (fun j9 hj9 => ?_)
        · intro u10
          refine sim_jn1 (pc' := 108) (fun (u12 : Int) => []) (fun (u12 : Int) => [vI u12, vI (w32 (2 * a1))]) (fun (u12 : Int) => σ) ?_ (fun j11 hj11 => ?_)
          · intro u12
            refine sim_iadd dX12_laysAt_108 ?_
            exact sim_iret rfl rfl dX12_laysAt_109
          refine sim_icmp_ne (tgt := 107) dX12_laysAt_100 (by decide) ?_ ?_
          · refine sim_iconst dX12_laysAt_107 (by decide) ?_
            exact sim_sub [] rfl (hj11 1)
          · refine sim_iconst dX12_laysAt_103 (by decide) ?_
            refine sim_goto (tgt := 108) dX12_laysAt_104 (by decide) ?_
            exact sim_sub [] rfl (hj11 0)
        refine sim_icmp_ne (tgt := 99) dX12_laysAt_92 (by decide) ?_ ?_
        · refine sim_iconst dX12_laysAt_99 (by decide) ?_
          exact sim_sub [] rfl (hj9 0)
        · refine sim_iconst dX12_laysAt_95 (by decide) ?_
          refine sim_goto (tgt := 100) dX12_laysAt_96 (by decide) ?_
          exact sim_sub [] rfl (hj9 1)
      refine sim_if_ne (tgt := 85) dX12_laysAt_64 (by decide) ?_ ?_
      · exact sim_sub [4, 6, 0] rfl (hj8 )
      · refine sim_aload_n 3 rfl dX12_laysAt_67 ?_
        refine sim_aload_n 3 rfl dX12_laysAt_68 ?_
        refine sim_iload 2 rfl dX12_laysAt_69 ?_
        refine sim_iconst dX12_laysAt_71 (by decide) ?_
        refine sim_callVIp v_RX12_243 sh_179 dX12_laysAt_72 (k_M_pip v1 1 σ) rfl ⟨by decide, by decide⟩ (S := [vR 179]) rfl (Nat.le_of_ble_eq_true rfl) (fun r13 => ?_)
        refine sim_iload 1 rfl dX12_laysAt_75 ?_
        refine sim_callVIp v_RX12_271 sh_179 dX12_laysAt_77 (k_M_fit r13 v3 σ) rfl ⟨by decide, by decide⟩ (S := []) rfl (Nat.le_of_ble_eq_true rfl) (fun r14 => ?_)
        refine sim_if_ne (tgt := 85) dX12_laysAt_80 (by decide) ?_ ?_
        · exact sim_sub [4, 6, 0] rfl (hj8 )
        · refine sim_iconst dX12_laysAt_83 (by decide) ?_
          exact sim_iret rfl rfl dX12_laysAt_84
    · refine sim_iconst dX12_laysAt_45 (by decide) ?_
      exact sim_iret rfl rfl dX12_laysAt_46
  · refine sim_iconst dX12_laysAt_22 (by decide) ?_
    refine sim_iload_n 3 rfl dX12_laysAt_23 ?_
    refine sim_imul dX12_laysAt_24 ?_
    exact sim_iret rfl rfl dX12_laysAt_25
theorem dX12_moved_0 : decode cX12_moved 0 = .ok (.iload_n 1, 1) := by decide +kernel
theorem dX12_moved_1 : decode cX12_moved 1 = .ok (.bipush 22, 2) := by decide +kernel
theorem dX12_moved_3 : decode cX12_moved 3 = .ok (.irem, 1) := by decide +kernel
theorem dX12_moved_4 : decode cX12_moved 4 = .ok (.istore 4, 2) := by decide +kernel
theorem dX12_moved_6 : decode cX12_moved 6 = .ok (.iload_n 1, 1) := by decide +kernel
theorem dX12_moved_7 : decode cX12_moved 7 = .ok (.bipush 22, 2) := by decide +kernel
theorem dX12_moved_9 : decode cX12_moved 9 = .ok (.idiv, 1) := by decide +kernel
theorem dX12_moved_10 : decode cX12_moved 10 = .ok (.bipush 22, 2) := by decide +kernel
theorem dX12_moved_12 : decode cX12_moved 12 = .ok (.irem, 1) := by decide +kernel
theorem dX12_moved_13 : decode cX12_moved 13 = .ok (.istore 5, 2) := by decide +kernel
theorem dX12_moved_15 : decode cX12_moved 15 = .ok (.iload_n 1, 1) := by decide +kernel
theorem dX12_moved_16 : decode cX12_moved 16 = .ok (.sipush 484, 3) := by decide +kernel
theorem dX12_moved_19 : decode cX12_moved 19 = .ok (.idiv, 1) := by decide +kernel
theorem dX12_moved_20 : decode cX12_moved 20 = .ok (.istore 6, 2) := by decide +kernel
theorem dX12_moved_22 : decode cX12_moved 22 = .ok (.iload 6, 2) := by decide +kernel
theorem dX12_moved_24 : decode cX12_moved 24 = .ok (.iload_n 2, 1) := by decide +kernel
theorem dX12_moved_25 : decode cX12_moved 25 = .ok (.invokestatic 201, 3) := by decide +kernel
theorem dX12_moved_28 : decode cX12_moved 28 = .ok (.ifCond .eq 5, 3) := by decide +kernel
theorem dX12_moved_31 : decode cX12_moved 31 = .ok (.iconst (-1), 1) := by decide +kernel
theorem dX12_moved_32 : decode cX12_moved 32 = .ok (.ireturn, 1) := by decide +kernel
theorem dX12_moved_33 : decode cX12_moved 33 = .ok (.aload_n 0, 1) := by decide +kernel
theorem dX12_moved_34 : decode cX12_moved 34 = .ok (.iload_n 2, 1) := by decide +kernel
theorem dX12_moved_35 : decode cX12_moved 35 = .ok (.iload_n 3, 1) := by decide +kernel
theorem dX12_moved_36 : decode cX12_moved 36 = .ok (.ifCond .ne 8, 3) := by decide +kernel
theorem dX12_moved_39 : decode cX12_moved 39 = .ok (.iload 5, 2) := by decide +kernel
theorem dX12_moved_41 : decode cX12_moved 41 = .ok (.goto 5, 3) := by decide +kernel
theorem dX12_moved_44 : decode cX12_moved 44 = .ok (.iload 4, 2) := by decide +kernel
theorem dX12_moved_46 : decode cX12_moved 46 = .ok (.iload_n 3, 1) := by decide +kernel
theorem dX12_moved_47 : decode cX12_moved 47 = .ok (.invokevirtual 334, 3) := by decide +kernel
theorem dX12_moved_50 : decode cX12_moved 50 = .ok (.istore 7, 2) := by decide +kernel
theorem dX12_moved_52 : decode cX12_moved 52 = .ok (.iload 7, 2) := by decide +kernel
theorem dX12_moved_54 : decode cX12_moved 54 = .ok (.iconst (-1), 1) := by decide +kernel
theorem dX12_moved_55 : decode cX12_moved 55 = .ok (.if_icmp .ne 5, 3) := by decide +kernel
theorem dX12_moved_58 : decode cX12_moved 58 = .ok (.iconst (-1), 1) := by decide +kernel
theorem dX12_moved_59 : decode cX12_moved 59 = .ok (.ireturn, 1) := by decide +kernel
theorem dX12_moved_60 : decode cX12_moved 60 = .ok (.aload_n 0, 1) := by decide +kernel
theorem dX12_moved_61 : decode cX12_moved 61 = .ok (.invokevirtual 250, 3) := by decide +kernel
theorem dX12_moved_64 : decode cX12_moved 64 = .ok (.ifCond .ne 12, 3) := by decide +kernel
theorem dX12_moved_67 : decode cX12_moved 67 = .ok (.iload 6, 2) := by decide +kernel
theorem dX12_moved_69 : decode cX12_moved 69 = .ok (.ifCond .ne 7, 3) := by decide +kernel
theorem dX12_moved_72 : decode cX12_moved 72 = .ok (.iconst 1, 1) := by decide +kernel
theorem dX12_moved_73 : decode cX12_moved 73 = .ok (.goto 4, 3) := by decide +kernel
theorem dX12_moved_76 : decode cX12_moved 76 = .ok (.iconst 0, 1) := by decide +kernel
theorem dX12_moved_77 : decode cX12_moved 77 = .ok (.istore 8, 2) := by decide +kernel
theorem dX12_moved_79 : decode cX12_moved 79 = .ok (.iload 6, 2) := by decide +kernel
theorem dX12_moved_81 : decode cX12_moved 81 = .ok (.iconst 1, 1) := by decide +kernel
theorem dX12_moved_82 : decode cX12_moved 82 = .ok (.iload_n 2, 1) := by decide +kernel
theorem dX12_moved_83 : decode cX12_moved 83 = .ok (.ishl, 1) := by decide +kernel
theorem dX12_moved_84 : decode cX12_moved 84 = .ok (.ior, 1) := by decide +kernel
theorem dX12_moved_85 : decode cX12_moved 85 = .ok (.iload_n 3, 1) := by decide +kernel
theorem dX12_moved_86 : decode cX12_moved 86 = .ok (.ifCond .eq 8, 3) := by decide +kernel
theorem dX12_moved_89 : decode cX12_moved 89 = .ok (.iload 8, 2) := by decide +kernel
theorem dX12_moved_91 : decode cX12_moved 91 = .ok (.ifCond .eq 8, 3) := by decide +kernel
theorem dX12_moved_94 : decode cX12_moved 94 = .ok (.iload 7, 2) := by decide +kernel
theorem dX12_moved_96 : decode cX12_moved 96 = .ok (.goto 5, 3) := by decide +kernel
theorem dX12_moved_99 : decode cX12_moved 99 = .ok (.iload 5, 2) := by decide +kernel
theorem dX12_moved_101 : decode cX12_moved 101 = .ok (.iload_n 3, 1) := by decide +kernel
theorem dX12_moved_102 : decode cX12_moved 102 = .ok (.iconst 1, 1) := by decide +kernel
theorem dX12_moved_103 : decode cX12_moved 103 = .ok (.if_icmp .eq 8, 3) := by decide +kernel
theorem dX12_moved_106 : decode cX12_moved 106 = .ok (.iload 8, 2) := by decide +kernel
theorem dX12_moved_108 : decode cX12_moved 108 = .ok (.ifCond .eq 8, 3) := by decide +kernel
theorem dX12_moved_111 : decode cX12_moved 111 = .ok (.iload 7, 2) := by decide +kernel
theorem dX12_moved_113 : decode cX12_moved 113 = .ok (.goto 5, 3) := by decide +kernel
theorem dX12_moved_116 : decode cX12_moved 116 = .ok (.iload 4, 2) := by decide +kernel
theorem dX12_moved_118 : decode cX12_moved 118 = .ok (.invokestatic 337, 3) := by decide +kernel
theorem dX12_moved_121 : decode cX12_moved 121 = .ok (.ireturn, 1) := by decide +kernel
def f_M_moved   (a1 : Int) (a2 : Int) (a3 : Int) (σ : JSg) : Option (Int) :=
  lt_ (rm32 a1 22) fun v1 => lt_ (rm32 (dv32 a1 22) 22) fun v2 => lt_ (dv32 a1 484) fun v3 => bd1 (f_M_has v3 a2 σ) fun r4 => if r4 = 0 then (jn1 (fun (u6 : Int) => bd1 (f_M_laysAt a2 u6 a3 σ) fun r7 => lt_ r7 fun v8 => if v8 = (-1) then (some (-1)) else (bd1 (f_M_rowMany σ) fun r9 => jn1 (fun (u11 : Int) => lt_ u11 fun v12 => jn1 (fun (u14 : Int) => jn1 (fun (u16 : Int) => bd1 (f_M_stateOf (or32 v3 (sl32 1 a2)) u14 u16 σ) fun r17 => some r17) fun j15 => jn0 (j15 v8) fun j18 => if a3 = 1 then (j18) else (if v12 = 0 then (j15 v1) else (j18))) fun j13 => jn0 (j13 v8) fun j19 => if a3 = 0 then (j19) else (if v12 = 0 then (j13 v2) else (j19))) fun j10 => jn0 (j10 0) fun j20 => if r9 = 0 then (if v3 = 0 then (j10 1) else (j20)) else (j20))) fun j5 => if a3 = 0 then (j5 v2) else (j5 v1)) else (some (-1))
set_option maxRecDepth 20000 in
set_option maxHeartbeats 4000000 in
theorem k_M_moved     (a1 : Int) (a2 : Int) (a3 : Int) (σ : JSg) : Call yX12_moved cX12_moved 9 (some .int) 5 SH RHO [vR 179, vI a1, vI a2, vI a3] σ (dIp σ) (f_M_moved a1 a2 a3 σ) := by
  refine call_of_sim (by decide +kernel) (Nat.le_of_ble_eq_true rfl) ?_
  show Sim RX12 cX12_moved 9 (some .int) 5 SH RHO 0 [(0, vR 179), (1, vI a1), (2, vI a2), (3, vI a3)] [] σ (dIp σ) (f_M_moved a1 a2 a3 σ)
  unfold f_M_moved
  refine sim_iload_n 1 rfl dX12_moved_0 ?_
  refine sim_bipush dX12_moved_1 (by decide +kernel) ?_
  refine sim_iremK (by decide) dX12_moved_3 ?_
  refine sim_istore (fun v1 => [(4, vI v1), (0, vR 179), (1, vI a1), (2, vI a2), (3, vI a3)]) (fun _ => rfl) (by decide) dX12_moved_4 (fun v1 => ?_)
  refine sim_iload_n 2 rfl dX12_moved_6 ?_
  refine sim_bipush dX12_moved_7 (by decide +kernel) ?_
  refine sim_idivK (by decide) dX12_moved_9 ?_
  refine sim_bipush dX12_moved_10 (by decide +kernel) ?_
  refine sim_iremK (by decide) dX12_moved_12 ?_
  refine sim_istore (fun v2 => [(5, vI v2), (4, vI v1), (0, vR 179), (1, vI a1), (2, vI a2), (3, vI a3)]) (fun _ => rfl) (by decide) dX12_moved_13 (fun v2 => ?_)
  refine sim_iload_n 3 rfl dX12_moved_15 ?_
  refine sim_sipush dX12_moved_16 (by decide +kernel) ?_
  refine sim_idivK (by decide) dX12_moved_19 ?_
  refine sim_istore (fun v3 => [(6, vI v3), (5, vI v2), (4, vI v1), (0, vR 179), (1, vI a1), (2, vI a2), (3, vI a3)]) (fun _ => rfl) (by decide) dX12_moved_20 (fun v3 => ?_)
  refine sim_iload 0 rfl dX12_moved_22 ?_
  refine sim_iload_n 5 rfl dX12_moved_24 ?_
  refine sim_callSIp s_RX12_201 dX12_moved_25 (k_M_has SH RHO v3 a2 σ) rfl ⟨by decide, by decide⟩ (S := []) rfl (Nat.le_of_ble_eq_true rfl) (fun r4 => ?_)
  refine sim_if_eq (tgt := 33) dX12_moved_28 (by decide) ?_ ?_
  · refine sim_aload_n 3 rfl dX12_moved_33 ?_
    refine sim_iload_n 5 rfl dX12_moved_34 ?_
    refine sim_iload_n 6 rfl dX12_moved_35 ?_
    refine sim_jn1 (pc' := 46) (fun (u6 : Int) => [(0, vR 179), (2, vI a2), (3, vI a3), (4, vI v1), (5, vI v2), (6, vI v3)]) (fun (u6 : Int) => [vI u6, vI a2, vR 179]) (fun (u6 : Int) => σ) ?_ (fun j5 hj5 => ?_)
    · intro u6
      refine sim_iload_n 2 rfl dX12_moved_46 ?_
      refine sim_callVIp v_RX12_334 sh_179 dX12_moved_47 (k_M_laysAt a2 u6 a3 σ) rfl ⟨by decide, by decide⟩ (S := []) rfl (Nat.le_of_ble_eq_true rfl) (fun r7 => ?_)
      refine sim_istore (fun v8 => [(7, vI v8), (0, vR 179), (2, vI a2), (3, vI a3), (4, vI v1), (5, vI v2), (6, vI v3)]) (fun _ => rfl) (by decide) dX12_moved_50 (fun v8 => ?_)
      refine sim_iload 0 rfl dX12_moved_52 ?_
      refine sim_iconst dX12_moved_54 (by decide) ?_
      refine sim_icmp_ne (tgt := 60) dX12_moved_55 (by decide) ?_ ?_
      · refine sim_aload_n 1 rfl dX12_moved_60 ?_
        refine sim_callVIp v_RX12_250 sh_179 dX12_moved_61 (k_M_rowMany σ) rfl ⟨by decide, by decide⟩ (S := []) rfl (Nat.le_of_ble_eq_true rfl) (fun r9 => ?_)
        refine sim_jn1 (pc' := 77) (fun (u11 : Int) => [(2, vI a2), (3, vI a3), (4, vI v1), (5, vI v2), (6, vI v3), (7, vI v8)]) (fun (u11 : Int) => [vI u11]) (fun (u11 : Int) => σ) ?_ (fun j10 hj10 => ?_)
        · intro u11
          refine sim_istore (fun v12 => [(8, vI v12), (2, vI a2), (3, vI a3), (4, vI v1), (5, vI v2), (6, vI v3), (7, vI v8)]) (fun _ => rfl) (by decide) dX12_moved_77 (fun v12 => ?_)
          refine sim_iload 5 rfl dX12_moved_79 ?_
          refine sim_iconst dX12_moved_81 (by decide) ?_
          refine sim_iload_n 1 rfl dX12_moved_82 ?_
          refine sim_ishl dX12_moved_83 ?_
          refine sim_ior dX12_moved_84 ?_
          refine sim_iload_n 2 rfl dX12_moved_85 ?_
          refine sim_jn1 (pc' := 101) (fun (u14 : Int) => [(3, vI a3), (4, vI v1), (7, vI v8), (8, vI v12)]) (fun (u14 : Int) => [vI u14, vI (or32 v3 (sl32 1 a2))]) (fun (u14 : Int) => σ) ?_ (fun j13 hj13 => ?_)
          · intro u14
            refine sim_iload_n 0 rfl dX12_moved_101 ?_
            refine sim_iconst dX12_moved_102 (by decide) ?_
            refine sim_jn1 (pc' := 118) (fun (u16 : Int) => []) (fun (u16 : Int) => [vI u16, vI u14, vI (or32 v3 (sl32 1 a2))]) (fun (u16 : Int) => σ) ?_ (fun j15 hj15 => ?_)
            · intro u16
              refine sim_callSIp s_RX12_337 dX12_moved_118 (k_M_stateOf SH RHO (or32 v3 (sl32 1 a2)) u14 u16 σ) rfl ⟨by decide, by decide⟩ (S := []) rfl (Nat.le_of_ble_eq_true rfl) (fun r17 => ?_)
              exact sim_iret rfl rfl dX12_moved_121
            refine sim_jn0 (pc' := 111) ([(7, vI v8)]) ([vI u14, vI (or32 v3 (sl32 1 a2))]) (σ) ?_ (fun j18 hj18 => ?_)
            · refine sim_iload 0 rfl dX12_moved_111 ?_
              refine sim_goto (tgt := 118) dX12_moved_113 (by decide) ?_
              exact sim_sub [] rfl (hj15 v8)
            refine sim_icmp_eq (tgt := 111) dX12_moved_103 (by decide) ?_ ?_
            · exact sim_sub [2] rfl (hj18 )
            · refine sim_iload 3 rfl dX12_moved_106 ?_
              refine sim_if_eq (tgt := 116) dX12_moved_108 (by decide) ?_ ?_
              · refine sim_iload 1 rfl dX12_moved_116 ?_
                exact sim_sub [] rfl (hj15 v1)
              · exact sim_sub [2] rfl (hj18 )
          refine sim_jn0 (pc' := 94) ([(3, vI a3), (4, vI v1), (7, vI v8), (8, vI v12)]) ([vI (or32 v3 (sl32 1 a2))]) (σ) ?_ (fun j19 hj19 => ?_)
          · refine sim_iload 2 rfl dX12_moved_94 ?_
            refine sim_goto (tgt := 101) dX12_moved_96 (by decide) ?_
            exact sim_sub [0, 1, 2, 3] rfl (hj13 v8)
          refine sim_if_eq (tgt := 94) dX12_moved_86 (by decide) ?_ ?_
          · exact sim_sub [2, 3, 6, 0] rfl (hj19 )
          · refine sim_iload 0 rfl dX12_moved_89 ?_
            refine sim_if_eq (tgt := 99) dX12_moved_91 (by decide) ?_ ?_
            · refine sim_iload 4 rfl dX12_moved_99 ?_
              exact sim_sub [2, 3, 6, 0] rfl (hj13 v2)
            · exact sim_sub [2, 3, 6, 0] rfl (hj19 )
        refine sim_jn0 (pc' := 76) ([(2, vI a2), (3, vI a3), (4, vI v1), (5, vI v2), (6, vI v3), (7, vI v8)]) ([]) (σ) ?_ (fun j20 hj20 => ?_)
        · refine sim_iconst dX12_moved_76 (by decide) ?_
          exact sim_sub [0, 1, 2, 3, 4, 5] rfl (hj10 0)
        refine sim_if_ne (tgt := 76) dX12_moved_64 (by decide) ?_ ?_
        · exact sim_sub [2, 3, 4, 5, 6, 0] rfl (hj20 )
        · refine sim_iload 6 rfl dX12_moved_67 ?_
          refine sim_if_ne (tgt := 76) dX12_moved_69 (by decide) ?_ ?_
          · exact sim_sub [2, 3, 4, 5, 6, 0] rfl (hj20 )
          · refine sim_iconst dX12_moved_72 (by decide) ?_
            refine sim_goto (tgt := 77) dX12_moved_73 (by decide) ?_
            exact sim_sub [2, 3, 4, 5, 6, 0] rfl (hj10 1)
      · refine sim_iconst dX12_moved_58 (by decide) ?_
        exact sim_iret rfl rfl dX12_moved_59
    refine sim_if_ne (tgt := 44) dX12_moved_36 (by decide) ?_ ?_
    · refine sim_iload 2 rfl dX12_moved_44 ?_
      exact sim_sub [3, 5, 6, 2, 1, 0] rfl (hj5 v1)
    · refine sim_iload 1 rfl dX12_moved_39 ?_
      refine sim_goto (tgt := 46) dX12_moved_41 (by decide) ?_
      exact sim_sub [3, 5, 6, 2, 1, 0] rfl (hj5 v2)
  · refine sim_iconst dX12_moved_31 (by decide) ?_
    exact sim_iret rfl rfl dX12_moved_32
theorem dX12_fewestFrom_0 : decode cX12_fewestFrom 0 = .ok (.aload_n 0, 1) := by decide +kernel
theorem dX12_fewestFrom_1 : decode cX12_fewestFrom 1 = .ok (.getfield 52, 3) := by decide +kernel
theorem dX12_fewestFrom_4 : decode cX12_fewestFrom 4 = .ok (.iload_n 1, 1) := by decide +kernel
theorem dX12_fewestFrom_5 : decode cX12_fewestFrom 5 = .ok (.iaload, 1) := by decide +kernel
theorem dX12_fewestFrom_6 : decode cX12_fewestFrom 6 = .ok (.bipush (-2), 2) := by decide +kernel
theorem dX12_fewestFrom_8 : decode cX12_fewestFrom 8 = .ok (.if_icmp .eq 10, 3) := by decide +kernel
theorem dX12_fewestFrom_11 : decode cX12_fewestFrom 11 = .ok (.aload_n 0, 1) := by decide +kernel
theorem dX12_fewestFrom_12 : decode cX12_fewestFrom 12 = .ok (.getfield 52, 3) := by decide +kernel
theorem dX12_fewestFrom_15 : decode cX12_fewestFrom 15 = .ok (.iload_n 1, 1) := by decide +kernel
theorem dX12_fewestFrom_16 : decode cX12_fewestFrom 16 = .ok (.iaload, 1) := by decide +kernel
theorem dX12_fewestFrom_17 : decode cX12_fewestFrom 17 = .ok (.ireturn, 1) := by decide +kernel
theorem dX12_fewestFrom_18 : decode cX12_fewestFrom 18 = .ok (.bipush 99, 2) := by decide +kernel
theorem dX12_fewestFrom_20 : decode cX12_fewestFrom 20 = .ok (.istore_n 3, 1) := by decide +kernel
theorem dX12_fewestFrom_21 : decode cX12_fewestFrom 21 = .ok (.aload_n 0, 1) := by decide +kernel
theorem dX12_fewestFrom_22 : decode cX12_fewestFrom 22 = .ok (.iload_n 1, 1) := by decide +kernel
theorem dX12_fewestFrom_23 : decode cX12_fewestFrom 23 = .ok (.sipush 484, 3) := by decide +kernel
theorem dX12_fewestFrom_26 : decode cX12_fewestFrom 26 = .ok (.idiv, 1) := by decide +kernel
theorem dX12_fewestFrom_27 : decode cX12_fewestFrom 27 = .ok (.iload_n 2, 1) := by decide +kernel
theorem dX12_fewestFrom_28 : decode cX12_fewestFrom 28 = .ok (.invokevirtual 340, 3) := by decide +kernel
theorem dX12_fewestFrom_31 : decode cX12_fewestFrom 31 = .ok (.ifCond .eq 5, 3) := by decide +kernel
theorem dX12_fewestFrom_34 : decode cX12_fewestFrom 34 = .ok (.iconst 0, 1) := by decide +kernel
theorem dX12_fewestFrom_35 : decode cX12_fewestFrom 35 = .ok (.istore_n 3, 1) := by decide +kernel
theorem dX12_fewestFrom_36 : decode cX12_fewestFrom 36 = .ok (.iconst 0, 1) := by decide +kernel
theorem dX12_fewestFrom_37 : decode cX12_fewestFrom 37 = .ok (.istore 4, 2) := by decide +kernel
theorem dX12_fewestFrom_39 : decode cX12_fewestFrom 39 = .ok (.iload 4, 2) := by decide +kernel
theorem dX12_fewestFrom_41 : decode cX12_fewestFrom 41 = .ok (.iload_n 2, 1) := by decide +kernel
theorem dX12_fewestFrom_42 : decode cX12_fewestFrom 42 = .ok (.if_icmp .ge 68, 3) := by decide +kernel
theorem dX12_fewestFrom_45 : decode cX12_fewestFrom 45 = .ok (.iload_n 3, 1) := by decide +kernel
theorem dX12_fewestFrom_46 : decode cX12_fewestFrom 46 = .ok (.ifCond .le 64, 3) := by decide +kernel
theorem dX12_fewestFrom_49 : decode cX12_fewestFrom 49 = .ok (.iconst 0, 1) := by decide +kernel
theorem dX12_fewestFrom_50 : decode cX12_fewestFrom 50 = .ok (.istore 5, 2) := by decide +kernel
theorem dX12_fewestFrom_52 : decode cX12_fewestFrom 52 = .ok (.iload 5, 2) := by decide +kernel
theorem dX12_fewestFrom_54 : decode cX12_fewestFrom 54 = .ok (.iconst 2, 1) := by decide +kernel
theorem dX12_fewestFrom_55 : decode cX12_fewestFrom 55 = .ok (.if_icmp .ge 49, 3) := by decide +kernel
theorem dX12_fewestFrom_58 : decode cX12_fewestFrom 58 = .ok (.aload_n 0, 1) := by decide +kernel
theorem dX12_fewestFrom_59 : decode cX12_fewestFrom 59 = .ok (.iload_n 1, 1) := by decide +kernel
theorem dX12_fewestFrom_60 : decode cX12_fewestFrom 60 = .ok (.iload 4, 2) := by decide +kernel
theorem dX12_fewestFrom_62 : decode cX12_fewestFrom 62 = .ok (.iload 5, 2) := by decide +kernel
theorem dX12_fewestFrom_64 : decode cX12_fewestFrom 64 = .ok (.invokevirtual 343, 3) := by decide +kernel
theorem dX12_fewestFrom_67 : decode cX12_fewestFrom 67 = .ok (.istore 6, 2) := by decide +kernel
theorem dX12_fewestFrom_69 : decode cX12_fewestFrom 69 = .ok (.iload 6, 2) := by decide +kernel
theorem dX12_fewestFrom_71 : decode cX12_fewestFrom 71 = .ok (.iconst (-1), 1) := by decide +kernel
theorem dX12_fewestFrom_72 : decode cX12_fewestFrom 72 = .ok (.if_icmp .eq 26, 3) := by decide +kernel
theorem dX12_fewestFrom_75 : decode cX12_fewestFrom 75 = .ok (.aload_n 0, 1) := by decide +kernel
theorem dX12_fewestFrom_76 : decode cX12_fewestFrom 76 = .ok (.iload 6, 2) := by decide +kernel
theorem dX12_fewestFrom_78 : decode cX12_fewestFrom 78 = .ok (.iload_n 2, 1) := by decide +kernel
theorem dX12_fewestFrom_79 : decode cX12_fewestFrom 79 = .ok (.invokevirtual 346, 3) := by decide +kernel
theorem dX12_fewestFrom_82 : decode cX12_fewestFrom 82 = .ok (.iconst 1, 1) := by decide +kernel
theorem dX12_fewestFrom_83 : decode cX12_fewestFrom 83 = .ok (.iadd, 1) := by decide +kernel
theorem dX12_fewestFrom_84 : decode cX12_fewestFrom 84 = .ok (.iload_n 3, 1) := by decide +kernel
theorem dX12_fewestFrom_85 : decode cX12_fewestFrom 85 = .ok (.if_icmp .ge 13, 3) := by decide +kernel
theorem dX12_fewestFrom_88 : decode cX12_fewestFrom 88 = .ok (.aload_n 0, 1) := by decide +kernel
theorem dX12_fewestFrom_89 : decode cX12_fewestFrom 89 = .ok (.iload 6, 2) := by decide +kernel
theorem dX12_fewestFrom_91 : decode cX12_fewestFrom 91 = .ok (.iload_n 2, 1) := by decide +kernel
theorem dX12_fewestFrom_92 : decode cX12_fewestFrom 92 = .ok (.invokevirtual 346, 3) := by decide +kernel
theorem dX12_fewestFrom_95 : decode cX12_fewestFrom 95 = .ok (.iconst 1, 1) := by decide +kernel
theorem dX12_fewestFrom_96 : decode cX12_fewestFrom 96 = .ok (.iadd, 1) := by decide +kernel
theorem dX12_fewestFrom_97 : decode cX12_fewestFrom 97 = .ok (.istore_n 3, 1) := by decide +kernel
theorem dX12_fewestFrom_98 : decode cX12_fewestFrom 98 = .ok (.iinc 5 1, 3) := by decide +kernel
theorem dX12_fewestFrom_101 : decode cX12_fewestFrom 101 = .ok (.goto (-49), 3) := by decide +kernel
theorem dX12_fewestFrom_104 : decode cX12_fewestFrom 104 = .ok (.iinc 4 1, 3) := by decide +kernel
theorem dX12_fewestFrom_107 : decode cX12_fewestFrom 107 = .ok (.goto (-68), 3) := by decide +kernel
theorem dX12_fewestFrom_110 : decode cX12_fewestFrom 110 = .ok (.aload_n 0, 1) := by decide +kernel
theorem dX12_fewestFrom_111 : decode cX12_fewestFrom 111 = .ok (.getfield 52, 3) := by decide +kernel
theorem dX12_fewestFrom_114 : decode cX12_fewestFrom 114 = .ok (.iload_n 1, 1) := by decide +kernel
theorem dX12_fewestFrom_115 : decode cX12_fewestFrom 115 = .ok (.iload_n 3, 1) := by decide +kernel
theorem dX12_fewestFrom_116 : decode cX12_fewestFrom 116 = .ok (.iastore, 1) := by decide +kernel
theorem dX12_fewestFrom_117 : decode cX12_fewestFrom 117 = .ok (.iload_n 3, 1) := by decide +kernel
theorem dX12_fewestFrom_118 : decode cX12_fewestFrom 118 = .ok (.ireturn, 1) := by decide +kernel
def f_M_fewestFrom_s (n : Nat)  (gfewestFrom : Int → Int → JSg → Option (Int × JSg)) (a1 : Int) (a2 : Int) (σ : JSg) : Option (Int × JSg) :=
  chk (0 ≤ a1 ∧ a1 < 495616) <| if (σ 193 a1.toNat) = (-2) then (lt_ 99 fun v1 => bd1 (f_M_isAll n (dv32 a1 484) a2 σ) fun r2 => jn1 (fun (y4 : Int) => lt_ 0 fun v5 => wh3 n (fun rc6 (x7 : Int) (x8 : Int) (s9 : JSg) => jn0 (chk (0 ≤ a1 ∧ a1 < 495616) <| lt_ (sp s9 193 a1.toNat x7) fun s11 => some (x7, s11)) fun j10 => if x8 < a2 then (if 0 < x7 then (lt_ 0 fun v12 => wh3 n (fun rc13 (x14 : Int) (x15 : Int) (s16 : JSg) => if x15 < 2 then (bd1 (f_M_moved a1 x8 x15 s16) fun r18 => lt_ r18 fun v19 => jn2 (fun (y21 : Int) (s22 : JSg) => lt_ (w32 (x15 + 1)) fun v23 => rc13 y21 v23 s22) fun j20 => if v19 = (-1) then (j20 x14 s16) else (bd2 (gfewestFrom v19 a2 s16) fun r24 s25 => if (w32 (r24 + 1)) < x14 then (bd2 (gfewestFrom v19 a2 s25) fun r26 s27 => lt_ (w32 (r26 + 1)) fun v28 => j20 v28 s27) else (j20 x14 s25))) else (lt_ (w32 (x8 + 1)) fun v17 => rc6 x14 v17 s16)) x7 v12 s9) else (j10)) else (j10)) y4 v5 (σ)) fun j3 => if r2 = 0 then (j3 v1) else (lt_ 0 fun v29 => j3 v29)) else (chk (0 ≤ a1 ∧ a1 < 495616) <| some (σ 193 a1.toNat, σ))
set_option maxRecDepth 20000 in
set_option maxHeartbeats 4000000 in
theorem k_M_fewestFrom_s  (n : Nat)   (gfewestFrom : Int → Int → JSg → Option (Int × JSg)) (d : Nat) (hd9 : 6 ≤ d) (hgfewestFrom : ∀ (a1 : Int) (a2 : Int) (σ : JSg), Call yX12_fewestFrom cX12_fewestFrom 7 (some .int) d SH RHO [vR 179, vI a1, vI a2] σ dIm (gfewestFrom a1 a2 σ)) (a1 : Int) (a2 : Int) (σ : JSg) : Call yX12_fewestFrom cX12_fewestFrom 7 (some .int) (d + 1) SH RHO [vR 179, vI a1, vI a2] σ dIm (f_M_fewestFrom_s n gfewestFrom a1 a2 σ) := by
  refine call_of_sim (by decide +kernel) (Nat.le_of_ble_eq_true rfl) ?_
  show Sim RX12 cX12_fewestFrom 7 (some .int) (d + 1) SH RHO 0 [(0, vR 179), (1, vI a1), (2, vI a2)] [] σ dIm (f_M_fewestFrom_s n gfewestFrom a1 a2 σ)
  unfold f_M_fewestFrom_s
  refine sim_aload_n 0 rfl dX12_fewestFrom_0 ?_
  refine sim_getR g_RX12_52 sh_179 rh_179_30 dX12_fewestFrom_1 ?_
  refine sim_iload_n 1 rfl dX12_fewestFrom_4 ?_
  refine sim_iaload sh_193 rfl dX12_fewestFrom_5 ?_
  refine sim_bipush dX12_fewestFrom_6 (by decide +kernel) ?_
  refine sim_icmp_eq (tgt := 18) dX12_fewestFrom_8 (by decide) ?_ ?_
  · refine sim_bipush dX12_fewestFrom_18 (by decide +kernel) ?_
    refine sim_istore_n (fun v1 => [(3, vI v1), (0, vR 179), (1, vI a1), (2, vI a2)]) (fun _ => rfl) (by decide) dX12_fewestFrom_20 (fun v1 => ?_)
    refine sim_aload_n 1 rfl dX12_fewestFrom_21 ?_
    refine sim_iload_n 2 rfl dX12_fewestFrom_22 ?_
    refine sim_sipush dX12_fewestFrom_23 (by decide +kernel) ?_
    refine sim_idivK (by decide) dX12_fewestFrom_26 ?_
    refine sim_iload_n 3 rfl dX12_fewestFrom_27 ?_
    refine sim_callVIp v_RX12_340 sh_179 dX12_fewestFrom_28 (k_M_isAll n (dv32 a1 484) a2 σ) rfl ⟨by omega, by decide⟩ (S := []) rfl (Nat.le_of_ble_eq_true rfl) (fun r2 => ?_)
    refine sim_jn1 (pc' := 36) (fun (y4 : Int) => [(0, vR 179), (1, vI a1), (2, vI a2), (3, vI y4)]) (fun (y4 : Int) => []) (fun (y4 : Int) => σ) ?_ (fun j3 hj3 => ?_)
    · intro y4
      refine sim_iconst dX12_fewestFrom_36 (by decide) ?_
      refine sim_istore (fun v5 => [(4, vI v5), (0, vR 179), (1, vI a1), (2, vI a2), (3, vI y4)]) (fun _ => rfl) (by decide) dX12_fewestFrom_37 (fun v5 => ?_)
      refine sim_sub [1, 2, 3, 4, 0] (L' := [(0, vR 179), (1, vI a1), (2, vI a2), (3, vI y4), (4, vI v5)]) rfl ?_
      refine sim_wh3 (fun (x7 : Int) (x8 : Int) (s9 : JSg) => [(0, vR 179), (1, vI a1), (2, vI a2), (3, vI x7), (4, vI x8)]) (fun (x7 : Int) (x8 : Int) (s9 : JSg) => s9) ?_ n y4 v5 (σ)
      intro rc6 hrc6 x7 x8 s9
      refine sim_iload 4 rfl dX12_fewestFrom_39 ?_
      refine sim_iload_n 2 rfl dX12_fewestFrom_41 ?_
      refine sim_jn0 (pc' := 110) ([(0, vR 179), (1, vI a1), (3, vI x7)]) ([]) (s9) ?_ (fun j10 hj10 => ?_)
      · refine sim_aload_n 0 rfl dX12_fewestFrom_110 ?_
        refine sim_getR g_RX12_52 sh_179 rh_179_30 dX12_fewestFrom_111 ?_
        refine sim_iload_n 1 rfl dX12_fewestFrom_114 ?_
        refine sim_iload_n 2 rfl dX12_fewestFrom_115 ?_
        refine sim_iastore sh_193 rfl dX12_fewestFrom_116 (fun s11 => ?_)
        refine sim_iload_n 2 rfl dX12_fewestFrom_117 ?_
        exact sim_iret rfl rfl dX12_fewestFrom_118
      refine sim_icmp_ge (tgt := 110) dX12_fewestFrom_42 (by decide) ?_ ?_
      · exact sim_sub [0, 1, 3] rfl (hj10 )
      · refine sim_iload_n 3 rfl dX12_fewestFrom_45 ?_
        refine sim_if_le (tgt := 110) dX12_fewestFrom_46 (by decide) ?_ ?_
        · exact sim_sub [0, 1, 3] rfl (hj10 )
        · refine sim_iconst dX12_fewestFrom_49 (by decide) ?_
          refine sim_istore (fun v12 => [(5, vI v12), (0, vR 179), (1, vI a1), (2, vI a2), (3, vI x7), (4, vI x8)]) (fun _ => rfl) (by decide) dX12_fewestFrom_50 (fun v12 => ?_)
          refine sim_sub [1, 2, 3, 4, 5, 0] (L' := [(0, vR 179), (1, vI a1), (2, vI a2), (3, vI x7), (4, vI x8), (5, vI v12)]) rfl ?_
          refine sim_wh3 (fun (x14 : Int) (x15 : Int) (s16 : JSg) => [(0, vR 179), (1, vI a1), (2, vI a2), (3, vI x14), (4, vI x8), (5, vI x15)]) (fun (x14 : Int) (x15 : Int) (s16 : JSg) => s16) ?_ n x7 v12 s9
          intro rc13 hrc13 x14 x15 s16
          refine sim_iload 5 rfl dX12_fewestFrom_52 ?_
          refine sim_iconst dX12_fewestFrom_54 (by decide) ?_
          refine sim_icmp_ge (tgt := 104) dX12_fewestFrom_55 (by decide) ?_ ?_
          · refine sim_iinc 4 rfl (fun v17 => [(4, vI v17), (0, vR 179), (1, vI a1), (2, vI a2), (3, vI x14), (5, vI x15)]) (fun _ => rfl) (by decide) dX12_fewestFrom_104 (fun v17 => ?_)
            refine sim_goto (tgt := 39) dX12_fewestFrom_107 (by decide) ?_
            exact sim_sub [1, 2, 3, 4, 0] rfl (hrc6 x14 v17 s16)
          · refine sim_aload_n 0 rfl dX12_fewestFrom_58 ?_
            refine sim_iload_n 1 rfl dX12_fewestFrom_59 ?_
            refine sim_iload 4 rfl dX12_fewestFrom_60 ?_
            refine sim_iload 5 rfl dX12_fewestFrom_62 ?_
            refine sim_callVIp v_RX12_343 sh_179 dX12_fewestFrom_64 (k_M_moved a1 x8 x15 s16) rfl ⟨by omega, by decide⟩ (S := []) rfl (Nat.le_of_ble_eq_true rfl) (fun r18 => ?_)
            refine sim_istore (fun v19 => [(6, vI v19), (0, vR 179), (1, vI a1), (2, vI a2), (3, vI x14), (4, vI x8), (5, vI x15)]) (fun _ => rfl) (by decide) dX12_fewestFrom_67 (fun v19 => ?_)
            refine sim_iload 0 rfl dX12_fewestFrom_69 ?_
            refine sim_iconst dX12_fewestFrom_71 (by decide) ?_
            refine sim_jn2 (pc' := 98) (fun (y21 : Int) (s22 : JSg) => [(0, vR 179), (1, vI a1), (2, vI a2), (3, vI y21), (4, vI x8), (5, vI x15)]) (fun (y21 : Int) (s22 : JSg) => []) (fun (y21 : Int) (s22 : JSg) => s22) ?_ (fun j20 hj20 => ?_)
            · intro y21 s22
              refine sim_iinc 5 rfl (fun v23 => [(5, vI v23), (0, vR 179), (1, vI a1), (2, vI a2), (3, vI y21), (4, vI x8)]) (fun _ => rfl) (by decide) dX12_fewestFrom_98 (fun v23 => ?_)
              refine sim_goto (tgt := 52) dX12_fewestFrom_101 (by decide) ?_
              exact sim_sub [1, 2, 3, 4, 5, 0] rfl (hrc13 y21 v23 s22)
            refine sim_icmp_eq (tgt := 98) dX12_fewestFrom_72 (by decide) ?_ ?_
            · exact sim_sub [1, 2, 3, 4, 5, 6] rfl (hj20 x14 s16)
            · refine sim_aload_n 1 rfl dX12_fewestFrom_75 ?_
              refine sim_iload 0 rfl dX12_fewestFrom_76 ?_
              refine sim_iload_n 3 rfl dX12_fewestFrom_78 ?_
              refine sim_callVIm v_RX12_346 sh_179 dX12_fewestFrom_79 (hgfewestFrom v19 a2 s16) rfl ⟨by omega, by decide⟩ (S := []) rfl (Nat.le_of_ble_eq_true rfl) (fun r24 s25 => ?_)
              refine sim_iconst dX12_fewestFrom_82 (by decide) ?_
              refine sim_iadd dX12_fewestFrom_83 ?_
              refine sim_iload_n 4 rfl dX12_fewestFrom_84 ?_
              refine sim_icmp_ge (tgt := 98) dX12_fewestFrom_85 (by decide) ?_ ?_
              · exact sim_sub [1, 2, 3, 4, 5, 6] rfl (hj20 x14 s25)
              · refine sim_aload_n 1 rfl dX12_fewestFrom_88 ?_
                refine sim_iload 0 rfl dX12_fewestFrom_89 ?_
                refine sim_iload_n 3 rfl dX12_fewestFrom_91 ?_
                refine sim_callVIm v_RX12_346 sh_179 dX12_fewestFrom_92 (hgfewestFrom v19 a2 s25) rfl ⟨by omega, by decide⟩ (S := []) rfl (Nat.le_of_ble_eq_true rfl) (fun r26 s27 => ?_)
                refine sim_iconst dX12_fewestFrom_95 (by decide) ?_
                refine sim_iadd dX12_fewestFrom_96 ?_
                refine sim_istore_n (fun v28 => [(3, vI v28), (6, vI v19), (0, vR 179), (1, vI a1), (2, vI a2), (4, vI x8), (5, vI x15)]) (fun _ => rfl) (by decide) dX12_fewestFrom_97 (fun v28 => ?_)
                exact sim_sub [2, 3, 4, 0, 5, 6] rfl (hj20 v28 s27)
    refine sim_if_eq (tgt := 36) dX12_fewestFrom_31 (by decide) ?_ ?_
    · exact sim_sub [1, 2, 3, 0] rfl (hj3 v1)
    · refine sim_iconst dX12_fewestFrom_34 (by decide) ?_
      refine sim_istore_n (fun v29 => [(3, vI v29), (0, vR 179), (1, vI a1), (2, vI a2)]) (fun _ => rfl) (by decide) dX12_fewestFrom_35 (fun v29 => ?_)
      exact sim_sub [1, 2, 3, 0] rfl (hj3 v29)
  · refine sim_aload_n 0 rfl dX12_fewestFrom_11 ?_
    refine sim_getR g_RX12_52 sh_179 rh_179_30 dX12_fewestFrom_12 ?_
    refine sim_iload_n 1 rfl dX12_fewestFrom_15 ?_
    refine sim_iaload sh_193 rfl dX12_fewestFrom_16 ?_
    exact sim_iret rfl rfl dX12_fewestFrom_17
def fg_M_fewestFrom (n : Nat)  : Nat → (Int → Int → JSg → Option (Int × JSg))
  | 0 => (fun _ _ _ => none)
  | r + 1 => (f_M_fewestFrom_s n (fg_M_fewestFrom n r))
def f_M_fewestFrom (n : Nat)  (a1 : Int) (a2 : Int) (σ : JSg) : Option (Int × JSg) := (fg_M_fewestFrom n 64) a1 a2 σ
theorem kg_M_fewestFrom  (n : Nat)   : ∀ r : Nat, (∀ (a1 : Int) (a2 : Int) (σ : JSg), Call yX12_fewestFrom cX12_fewestFrom 7 (some .int) (6 + r) SH RHO [vR 179, vI a1, vI a2] σ dIm ((fg_M_fewestFrom n r) a1 a2 σ)) := by
  intro r
  induction r with
  | zero => exact fun _ _ _ _ _ _ h => (by cases h)
  | succ r ih =>
    have h0 := ih
    exact fun a1 a2 σ => k_M_fewestFrom_s n _ (6 + r) (by omega) h0 a1 a2 σ
theorem k_M_fewestFrom  (n : Nat)   (a1 : Int) (a2 : Int) (σ : JSg) : Call yX12_fewestFrom cX12_fewestFrom 7 (some .int) 70 SH RHO [vR 179, vI a1, vI a2] σ dIm (f_M_fewestFrom n a1 a2 σ) := (kg_M_fewestFrom n 64) a1 a2 σ
theorem dX12_all_0 : decode cX12_all 0 = .ok (.aload_n 0, 1) := by decide +kernel
theorem dX12_all_1 : decode cX12_all 1 = .ok (.iconst 0, 1) := by decide +kernel
theorem dX12_all_2 : decode cX12_all 2 = .ok (.putfield 87, 3) := by decide +kernel
theorem dX12_all_5 : decode cX12_all 5 = .ok (.aload_n 0, 1) := by decide +kernel
theorem dX12_all_6 : decode cX12_all 6 = .ok (.invokevirtual 312, 3) := by decide +kernel
theorem dX12_all_9 : decode cX12_all 9 = .ok (.istore_n 1, 1) := by decide +kernel
theorem dX12_all_10 : decode cX12_all 10 = .ok (.iload_n 1, 1) := by decide +kernel
theorem dX12_all_11 : decode cX12_all 11 = .ok (.bipush 10, 2) := by decide +kernel
theorem dX12_all_13 : decode cX12_all 13 = .ok (.if_icmp .le 5, 3) := by decide +kernel
theorem dX12_all_16 : decode cX12_all 16 = .ok (.iconst (-1), 1) := by decide +kernel
theorem dX12_all_17 : decode cX12_all 17 = .ok (.ireturn, 1) := by decide +kernel
theorem dX12_all_18 : decode cX12_all 18 = .ok (.aload_n 0, 1) := by decide +kernel
theorem dX12_all_19 : decode cX12_all 19 = .ok (.iconst 0, 1) := by decide +kernel
theorem dX12_all_20 : decode cX12_all 20 = .ok (.putfield 331, 3) := by decide +kernel
theorem dX12_all_23 : decode cX12_all 23 = .ok (.iconst 0, 1) := by decide +kernel
theorem dX12_all_24 : decode cX12_all 24 = .ok (.istore_n 2, 1) := by decide +kernel
theorem dX12_all_25 : decode cX12_all 25 = .ok (.iload_n 2, 1) := by decide +kernel
theorem dX12_all_26 : decode cX12_all 26 = .ok (.iload_n 1, 1) := by decide +kernel
theorem dX12_all_27 : decode cX12_all 27 = .ok (.if_icmp .ge 34, 3) := by decide +kernel
theorem dX12_all_30 : decode cX12_all 30 = .ok (.aload_n 0, 1) := by decide +kernel
theorem dX12_all_31 : decode cX12_all 31 = .ok (.dup, 1) := by decide +kernel
theorem dX12_all_32 : decode cX12_all 32 = .ok (.getfield 331, 3) := by decide +kernel
theorem dX12_all_35 : decode cX12_all 35 = .ok (.iconst 1, 1) := by decide +kernel
theorem dX12_all_36 : decode cX12_all 36 = .ok (.aload_n 0, 1) := by decide +kernel
theorem dX12_all_37 : decode cX12_all 37 = .ok (.getfield 13, 3) := by decide +kernel
theorem dX12_all_40 : decode cX12_all 40 = .ok (.bipush 67, 2) := by decide +kernel
theorem dX12_all_42 : decode cX12_all 42 = .ok (.aload_n 0, 1) := by decide +kernel
theorem dX12_all_43 : decode cX12_all 43 = .ok (.getfield 39, 3) := by decide +kernel
theorem dX12_all_46 : decode cX12_all 46 = .ok (.iload_n 2, 1) := by decide +kernel
theorem dX12_all_47 : decode cX12_all 47 = .ok (.iaload, 1) := by decide +kernel
theorem dX12_all_48 : decode cX12_all 48 = .ok (.iadd, 1) := by decide +kernel
theorem dX12_all_49 : decode cX12_all 49 = .ok (.iaload, 1) := by decide +kernel
theorem dX12_all_50 : decode cX12_all 50 = .ok (.ishl, 1) := by decide +kernel
theorem dX12_all_51 : decode cX12_all 51 = .ok (.ior, 1) := by decide +kernel
theorem dX12_all_52 : decode cX12_all 52 = .ok (.putfield 331, 3) := by decide +kernel
theorem dX12_all_55 : decode cX12_all 55 = .ok (.iinc 2 1, 3) := by decide +kernel
theorem dX12_all_58 : decode cX12_all 58 = .ok (.goto (-33), 3) := by decide +kernel
theorem dX12_all_61 : decode cX12_all 61 = .ok (.iconst 0, 1) := by decide +kernel
theorem dX12_all_62 : decode cX12_all 62 = .ok (.istore_n 2, 1) := by decide +kernel
theorem dX12_all_63 : decode cX12_all 63 = .ok (.iload_n 2, 1) := by decide +kernel
theorem dX12_all_64 : decode cX12_all 64 = .ok (.sipush 484, 3) := by decide +kernel
theorem dX12_all_67 : decode cX12_all 67 = .ok (.iload_n 1, 1) := by decide +kernel
theorem dX12_all_68 : decode cX12_all 68 = .ok (.ishl, 1) := by decide +kernel
theorem dX12_all_69 : decode cX12_all 69 = .ok (.if_icmp .ge 17, 3) := by decide +kernel
theorem dX12_all_72 : decode cX12_all 72 = .ok (.aload_n 0, 1) := by decide +kernel
theorem dX12_all_73 : decode cX12_all 73 = .ok (.getfield 52, 3) := by decide +kernel
theorem dX12_all_76 : decode cX12_all 76 = .ok (.iload_n 2, 1) := by decide +kernel
theorem dX12_all_77 : decode cX12_all 77 = .ok (.bipush (-2), 2) := by decide +kernel
theorem dX12_all_79 : decode cX12_all 79 = .ok (.iastore, 1) := by decide +kernel
theorem dX12_all_80 : decode cX12_all 80 = .ok (.iinc 2 1, 3) := by decide +kernel
theorem dX12_all_83 : decode cX12_all 83 = .ok (.goto (-20), 3) := by decide +kernel
theorem dX12_all_86 : decode cX12_all 86 = .ok (.iconst 0, 1) := by decide +kernel
theorem dX12_all_87 : decode cX12_all 87 = .ok (.bipush 20, 2) := by decide +kernel
theorem dX12_all_89 : decode cX12_all 89 = .ok (.bipush 20, 2) := by decide +kernel
theorem dX12_all_91 : decode cX12_all 91 = .ok (.invokestatic 337, 3) := by decide +kernel
theorem dX12_all_94 : decode cX12_all 94 = .ok (.istore_n 2, 1) := by decide +kernel
theorem dX12_all_95 : decode cX12_all 95 = .ok (.aload_n 0, 1) := by decide +kernel
theorem dX12_all_96 : decode cX12_all 96 = .ok (.iload_n 2, 1) := by decide +kernel
theorem dX12_all_97 : decode cX12_all 97 = .ok (.iload_n 1, 1) := by decide +kernel
theorem dX12_all_98 : decode cX12_all 98 = .ok (.invokevirtual 346, 3) := by decide +kernel
theorem dX12_all_101 : decode cX12_all 101 = .ok (.istore_n 3, 1) := by decide +kernel
theorem dX12_all_102 : decode cX12_all 102 = .ok (.iload_n 3, 1) := by decide +kernel
theorem dX12_all_103 : decode cX12_all 103 = .ok (.bipush 99, 2) := by decide +kernel
theorem dX12_all_105 : decode cX12_all 105 = .ok (.if_icmp .lt 5, 3) := by decide +kernel
theorem dX12_all_108 : decode cX12_all 108 = .ok (.iconst (-1), 1) := by decide +kernel
theorem dX12_all_109 : decode cX12_all 109 = .ok (.ireturn, 1) := by decide +kernel
theorem dX12_all_110 : decode cX12_all 110 = .ok (.aload_n 0, 1) := by decide +kernel
theorem dX12_all_111 : decode cX12_all 111 = .ok (.iconst 0, 1) := by decide +kernel
theorem dX12_all_112 : decode cX12_all 112 = .ok (.putfield 349, 3) := by decide +kernel
theorem dX12_all_115 : decode cX12_all 115 = .ok (.iload_n 3, 1) := by decide +kernel
theorem dX12_all_116 : decode cX12_all 116 = .ok (.istore 4, 2) := by decide +kernel
theorem dX12_all_118 : decode cX12_all 118 = .ok (.iload 4, 2) := by decide +kernel
theorem dX12_all_120 : decode cX12_all 120 = .ok (.ifCond .le 109, 3) := by decide +kernel
theorem dX12_all_123 : decode cX12_all 123 = .ok (.iconst 0, 1) := by decide +kernel
theorem dX12_all_124 : decode cX12_all 124 = .ok (.istore 5, 2) := by decide +kernel
theorem dX12_all_126 : decode cX12_all 126 = .ok (.aload_n 0, 1) := by decide +kernel
theorem dX12_all_127 : decode cX12_all 127 = .ok (.iload_n 2, 1) := by decide +kernel
theorem dX12_all_128 : decode cX12_all 128 = .ok (.iload 5, 2) := by decide +kernel
theorem dX12_all_130 : decode cX12_all 130 = .ok (.iconst 2, 1) := by decide +kernel
theorem dX12_all_131 : decode cX12_all 131 = .ok (.idiv, 1) := by decide +kernel
theorem dX12_all_132 : decode cX12_all 132 = .ok (.iload 5, 2) := by decide +kernel
theorem dX12_all_134 : decode cX12_all 134 = .ok (.iconst 2, 1) := by decide +kernel
theorem dX12_all_135 : decode cX12_all 135 = .ok (.irem, 1) := by decide +kernel
theorem dX12_all_136 : decode cX12_all 136 = .ok (.invokevirtual 343, 3) := by decide +kernel
theorem dX12_all_139 : decode cX12_all 139 = .ok (.iconst (-1), 1) := by decide +kernel
theorem dX12_all_140 : decode cX12_all 140 = .ok (.if_icmp .eq 28, 3) := by decide +kernel
theorem dX12_all_143 : decode cX12_all 143 = .ok (.aload_n 0, 1) := by decide +kernel
theorem dX12_all_144 : decode cX12_all 144 = .ok (.aload_n 0, 1) := by decide +kernel
theorem dX12_all_145 : decode cX12_all 145 = .ok (.iload_n 2, 1) := by decide +kernel
theorem dX12_all_146 : decode cX12_all 146 = .ok (.iload 5, 2) := by decide +kernel
theorem dX12_all_148 : decode cX12_all 148 = .ok (.iconst 2, 1) := by decide +kernel
theorem dX12_all_149 : decode cX12_all 149 = .ok (.idiv, 1) := by decide +kernel
theorem dX12_all_150 : decode cX12_all 150 = .ok (.iload 5, 2) := by decide +kernel
theorem dX12_all_152 : decode cX12_all 152 = .ok (.iconst 2, 1) := by decide +kernel
theorem dX12_all_153 : decode cX12_all 153 = .ok (.irem, 1) := by decide +kernel
theorem dX12_all_154 : decode cX12_all 154 = .ok (.invokevirtual 343, 3) := by decide +kernel
theorem dX12_all_157 : decode cX12_all 157 = .ok (.iload_n 1, 1) := by decide +kernel
theorem dX12_all_158 : decode cX12_all 158 = .ok (.invokevirtual 346, 3) := by decide +kernel
theorem dX12_all_161 : decode cX12_all 161 = .ok (.iload 4, 2) := by decide +kernel
theorem dX12_all_163 : decode cX12_all 163 = .ok (.iconst 1, 1) := by decide +kernel
theorem dX12_all_164 : decode cX12_all 164 = .ok (.isub, 1) := by decide +kernel
theorem dX12_all_165 : decode cX12_all 165 = .ok (.if_icmp .eq 9, 3) := by decide +kernel
theorem dX12_all_168 : decode cX12_all 168 = .ok (.iinc 5 1, 3) := by decide +kernel
theorem dX12_all_171 : decode cX12_all 171 = .ok (.goto (-45), 3) := by decide +kernel
theorem dX12_all_174 : decode cX12_all 174 = .ok (.aload_n 0, 1) := by decide +kernel
theorem dX12_all_175 : decode cX12_all 175 = .ok (.iload_n 2, 1) := by decide +kernel
theorem dX12_all_176 : decode cX12_all 176 = .ok (.iload 5, 2) := by decide +kernel
theorem dX12_all_178 : decode cX12_all 178 = .ok (.iconst 2, 1) := by decide +kernel
theorem dX12_all_179 : decode cX12_all 179 = .ok (.idiv, 1) := by decide +kernel
theorem dX12_all_180 : decode cX12_all 180 = .ok (.iload 5, 2) := by decide +kernel
theorem dX12_all_182 : decode cX12_all 182 = .ok (.iconst 2, 1) := by decide +kernel
theorem dX12_all_183 : decode cX12_all 183 = .ok (.irem, 1) := by decide +kernel
theorem dX12_all_184 : decode cX12_all 184 = .ok (.invokevirtual 343, 3) := by decide +kernel
theorem dX12_all_187 : decode cX12_all 187 = .ok (.istore_n 2, 1) := by decide +kernel
theorem dX12_all_188 : decode cX12_all 188 = .ok (.aload_n 0, 1) := by decide +kernel
theorem dX12_all_189 : decode cX12_all 189 = .ok (.getfield 55, 3) := by decide +kernel
theorem dX12_all_192 : decode cX12_all 192 = .ok (.aload_n 0, 1) := by decide +kernel
theorem dX12_all_193 : decode cX12_all 193 = .ok (.getfield 349, 3) := by decide +kernel
theorem dX12_all_196 : decode cX12_all 196 = .ok (.iconst 2, 1) := by decide +kernel
theorem dX12_all_197 : decode cX12_all 197 = .ok (.aload_n 0, 1) := by decide +kernel
theorem dX12_all_198 : decode cX12_all 198 = .ok (.getfield 39, 3) := by decide +kernel
theorem dX12_all_201 : decode cX12_all 201 = .ok (.iload 5, 2) := by decide +kernel
theorem dX12_all_203 : decode cX12_all 203 = .ok (.iconst 2, 1) := by decide +kernel
theorem dX12_all_204 : decode cX12_all 204 = .ok (.idiv, 1) := by decide +kernel
theorem dX12_all_205 : decode cX12_all 205 = .ok (.iaload, 1) := by decide +kernel
theorem dX12_all_206 : decode cX12_all 206 = .ok (.imul, 1) := by decide +kernel
theorem dX12_all_207 : decode cX12_all 207 = .ok (.iload 5, 2) := by decide +kernel
theorem dX12_all_209 : decode cX12_all 209 = .ok (.iconst 2, 1) := by decide +kernel
theorem dX12_all_210 : decode cX12_all 210 = .ok (.irem, 1) := by decide +kernel
theorem dX12_all_211 : decode cX12_all 211 = .ok (.iadd, 1) := by decide +kernel
theorem dX12_all_212 : decode cX12_all 212 = .ok (.iastore, 1) := by decide +kernel
theorem dX12_all_213 : decode cX12_all 213 = .ok (.aload_n 0, 1) := by decide +kernel
theorem dX12_all_214 : decode cX12_all 214 = .ok (.dup, 1) := by decide +kernel
theorem dX12_all_215 : decode cX12_all 215 = .ok (.getfield 349, 3) := by decide +kernel
theorem dX12_all_218 : decode cX12_all 218 = .ok (.iconst 1, 1) := by decide +kernel
theorem dX12_all_219 : decode cX12_all 219 = .ok (.iadd, 1) := by decide +kernel
theorem dX12_all_220 : decode cX12_all 220 = .ok (.putfield 349, 3) := by decide +kernel
theorem dX12_all_223 : decode cX12_all 223 = .ok (.iinc 4 (-1), 3) := by decide +kernel
theorem dX12_all_226 : decode cX12_all 226 = .ok (.goto (-108), 3) := by decide +kernel
theorem dX12_all_229 : decode cX12_all 229 = .ok (.iload_n 3, 1) := by decide +kernel
theorem dX12_all_230 : decode cX12_all 230 = .ok (.ireturn, 1) := by decide +kernel
def f_M_all (n : Nat)   (σ : JSg) : Option (Int × JSg) :=
  lt_ (sp σ 179 0 0) fun s1 => bd2 (f_M_layHand n s1) fun r2 s3 => lt_ r2 fun v4 => if 10 < v4 then (some ((-1), s3)) else (lt_ (sp s3 179 33 0) fun s5 => lt_ 0 fun v6 => wh2 n (fun rc7 (x8 : Int) (s9 : JSg) => if x8 < v4 then (chk (0 ≤ x8 ∧ x8 < 28) <| chk (0 ≤ (w32 (67 + (s9 189 x8.toNat))) ∧ (w32 (67 + (s9 189 x8.toNat))) < 448) <| lt_ (or32 (s9 179 33) (sl32 1 (s9 181 (w32 (67 + (s9 189 x8.toNat))).toNat))) fun t43 => lt_ (sp s9 179 33 t43) fun s44 => lt_ (w32 (x8 + 1)) fun v45 => rc7 v45 s44) else (lt_ 0 fun v10 => wh2 n (fun rc11 (x12 : Int) (s13 : JSg) => if x12 < (sl32 484 v4) then (chk (0 ≤ x12 ∧ x12 < 495616) <| lt_ (sp s13 193 x12.toNat (-2)) fun s41 => lt_ (w32 (x12 + 1)) fun v42 => rc11 v42 s41) else (bd1 (f_M_stateOf 0 20 20 s13) fun r14 => lt_ r14 fun v15 => bd2 (f_M_fewestFrom n v15 v4 s13) fun r16 s17 => lt_ r16 fun v18 => if v18 < 99 then (lt_ (sp s17 179 32 0) fun s19 => lt_ v18 fun v20 => wh3 n (fun rc21 (x22 : Int) (x23 : Int) (s24 : JSg) => if 0 < x23 then (lt_ 0 fun v25 => wh2 n (fun rc26 (x27 : Int) (s28 : JSg) => bd1 (f_M_moved x22 (dv32 x27 2) (rm32 x27 2) s28) fun r29 => jn1 (fun  (s31 : JSg) => lt_ (w32 (x27 + 1)) fun v32 => rc26 v32 s31) fun j30 => if r29 = (-1) then (j30 s28) else (bd1 (f_M_moved x22 (dv32 x27 2) (rm32 x27 2) s28) fun r33 => bd2 (f_M_fewestFrom n r33 v4 s28) fun r34 s35 => if r34 = (w32 (x23 - 1)) then (bd1 (f_M_moved x22 (dv32 x27 2) (rm32 x27 2) s35) fun r36 => lt_ r36 fun v37 => chk (0 ≤ (dv32 x27 2) ∧ (dv32 x27 2) < 28) <| chk (0 ≤ (s35 179 32) ∧ (s35 179 32) < 10) <| lt_ (sp s35 194 (s35 179 32).toNat (w32 ((w32 (2 * (s35 189 (dv32 x27 2).toNat))) + (rm32 x27 2)))) fun s38 => lt_ (sp s38 179 32 (w32 ((s38 179 32) + 1))) fun s39 => lt_ (w32 (x23 + (-1))) fun v40 => rc21 v37 v40 s39) else (j30 s35))) v25 s24) else (some (v18, s24))) v15 v20 s19) else (some ((-1), s17)))) v10 s9)) v6 s5)
set_option maxRecDepth 20000 in
set_option maxHeartbeats 4000000 in
theorem k_M_all  (n : Nat)    (σ : JSg) : Call yX12_all cX12_all 6 (some .int) 71 SH RHO [vR 179] σ dIm (f_M_all n σ) := by
  refine call_of_sim (by decide +kernel) (Nat.le_of_ble_eq_true rfl) ?_
  show Sim RX12 cX12_all 6 (some .int) 71 SH RHO 0 [(0, vR 179)] [] σ dIm (f_M_all n σ)
  unfold f_M_all
  refine sim_aload_n 0 rfl dX12_all_0 ?_
  refine sim_iconst dX12_all_1 (by decide) ?_
  refine sim_putI g_RX12_87 sh_179 dX12_all_2 (fun s1 => ?_)
  refine sim_aload_n 0 rfl dX12_all_5 ?_
  refine sim_callVIm v_RX12_312 sh_179 dX12_all_6 (k_M_layHand n s1) rfl ⟨by decide, by decide⟩ (S := []) rfl (Nat.le_of_ble_eq_true rfl) (fun r2 s3 => ?_)
  refine sim_istore_n (fun v4 => [(1, vI v4), (0, vR 179)]) (fun _ => rfl) (by decide) dX12_all_9 (fun v4 => ?_)
  refine sim_iload_n 0 rfl dX12_all_10 ?_
  refine sim_bipush dX12_all_11 (by decide +kernel) ?_
  refine sim_icmp_le (tgt := 18) dX12_all_13 (by decide) ?_ ?_
  · refine sim_aload_n 1 rfl dX12_all_18 ?_
    refine sim_iconst dX12_all_19 (by decide) ?_
    refine sim_putI g_RX12_331 sh_179 dX12_all_20 (fun s5 => ?_)
    refine sim_iconst dX12_all_23 (by decide) ?_
    refine sim_istore_n (fun v6 => [(2, vI v6), (1, vI v4), (0, vR 179)]) (fun _ => rfl) (by decide) dX12_all_24 (fun v6 => ?_)
    refine sim_sub [2, 1, 0] (L' := [(0, vR 179), (1, vI v4), (2, vI v6)]) rfl ?_
    refine sim_wh2 (fun (x8 : Int) (s9 : JSg) => [(0, vR 179), (1, vI v4), (2, vI x8)]) (fun (x8 : Int) (s9 : JSg) => s9) ?_ n v6 s5
    intro rc7 hrc7 x8 s9
    refine sim_iload_n 2 rfl dX12_all_25 ?_
    refine sim_iload_n 1 rfl dX12_all_26 ?_
    refine sim_icmp_ge (tgt := 61) dX12_all_27 (by decide) ?_ ?_
    · refine sim_iconst dX12_all_61 (by decide) ?_
      refine sim_istore_n (fun v10 => [(2, vI v10), (0, vR 179), (1, vI v4)]) (fun _ => rfl) (by decide) dX12_all_62 (fun v10 => ?_)
      refine sim_sub [1, 2, 0] (L' := [(0, vR 179), (1, vI v4), (2, vI v10)]) rfl ?_
      refine sim_wh2 (fun (x12 : Int) (s13 : JSg) => [(0, vR 179), (1, vI v4), (2, vI x12)]) (fun (x12 : Int) (s13 : JSg) => s13) ?_ n v10 s9
      intro rc11 hrc11 x12 s13
      refine sim_iload_n 2 rfl dX12_all_63 ?_
      refine sim_sipush dX12_all_64 (by decide +kernel) ?_
      refine sim_iload_n 1 rfl dX12_all_67 ?_
      refine sim_ishl dX12_all_68 ?_
      refine sim_icmp_ge (tgt := 86) dX12_all_69 (by decide) ?_ ?_
      · refine sim_iconst dX12_all_86 (by decide) ?_
        refine sim_bipush dX12_all_87 (by decide +kernel) ?_
        refine sim_bipush dX12_all_89 (by decide +kernel) ?_
        refine sim_callSIp s_RX12_337 dX12_all_91 (k_M_stateOf SH RHO 0 20 20 s13) rfl ⟨by decide, by decide⟩ (S := []) rfl (Nat.le_of_ble_eq_true rfl) (fun r14 => ?_)
        refine sim_istore_n (fun v15 => [(2, vI v15), (0, vR 179), (1, vI v4)]) (fun _ => rfl) (by decide) dX12_all_94 (fun v15 => ?_)
        refine sim_aload_n 1 rfl dX12_all_95 ?_
        refine sim_iload_n 0 rfl dX12_all_96 ?_
        refine sim_iload_n 2 rfl dX12_all_97 ?_
        refine sim_callVIm v_RX12_346 sh_179 dX12_all_98 (k_M_fewestFrom n v15 v4 s13) rfl ⟨by decide, by decide⟩ (S := []) rfl (Nat.le_of_ble_eq_true rfl) (fun r16 s17 => ?_)
        refine sim_istore_n (fun v18 => [(3, vI v18), (2, vI v15), (0, vR 179), (1, vI v4)]) (fun _ => rfl) (by decide) dX12_all_101 (fun v18 => ?_)
        refine sim_iload_n 0 rfl dX12_all_102 ?_
        refine sim_bipush dX12_all_103 (by decide +kernel) ?_
        refine sim_icmp_lt (tgt := 110) dX12_all_105 (by decide) ?_ ?_
        · refine sim_aload_n 2 rfl dX12_all_110 ?_
          refine sim_iconst dX12_all_111 (by decide) ?_
          refine sim_putI g_RX12_349 sh_179 dX12_all_112 (fun s19 => ?_)
          refine sim_iload_n 0 rfl dX12_all_115 ?_
          refine sim_istore (fun v20 => [(4, vI v20), (3, vI v18), (2, vI v15), (0, vR 179), (1, vI v4)]) (fun _ => rfl) (by decide) dX12_all_116 (fun v20 => ?_)
          refine sim_sub [3, 4, 2, 1, 0] (L' := [(0, vR 179), (1, vI v4), (2, vI v15), (3, vI v18), (4, vI v20)]) rfl ?_
          refine sim_wh3 (fun (x22 : Int) (x23 : Int) (s24 : JSg) => [(0, vR 179), (1, vI v4), (2, vI x22), (3, vI v18), (4, vI x23)]) (fun (x22 : Int) (x23 : Int) (s24 : JSg) => s24) ?_ n v15 v20 s19
          intro rc21 hrc21 x22 x23 s24
          refine sim_iload 4 rfl dX12_all_118 ?_
          refine sim_if_le (tgt := 229) dX12_all_120 (by decide) ?_ ?_
          · refine sim_iload_n 3 rfl dX12_all_229 ?_
            exact sim_iret rfl rfl dX12_all_230
          · refine sim_iconst dX12_all_123 (by decide) ?_
            refine sim_istore (fun v25 => [(5, vI v25), (0, vR 179), (1, vI v4), (2, vI x22), (3, vI v18), (4, vI x23)]) (fun _ => rfl) (by decide) dX12_all_124 (fun v25 => ?_)
            refine sim_sub [1, 2, 3, 4, 5, 0] (L' := [(0, vR 179), (1, vI v4), (2, vI x22), (3, vI v18), (4, vI x23), (5, vI v25)]) rfl ?_
            refine sim_wh2 (fun (x27 : Int) (s28 : JSg) => [(0, vR 179), (1, vI v4), (2, vI x22), (3, vI v18), (4, vI x23), (5, vI x27)]) (fun (x27 : Int) (s28 : JSg) => s28) ?_ n v25 s24
            intro rc26 hrc26 x27 s28
            refine sim_aload_n 0 rfl dX12_all_126 ?_
            refine sim_iload_n 2 rfl dX12_all_127 ?_
            refine sim_iload 5 rfl dX12_all_128 ?_
            refine sim_iconst dX12_all_130 (by decide) ?_
            refine sim_idivK (by decide) dX12_all_131 ?_
            refine sim_iload 5 rfl dX12_all_132 ?_
            refine sim_iconst dX12_all_134 (by decide) ?_
            refine sim_iremK (by decide) dX12_all_135 ?_
            refine sim_callVIp v_RX12_343 sh_179 dX12_all_136 (k_M_moved x22 (dv32 x27 2) (rm32 x27 2) s28) rfl ⟨by decide, by decide⟩ (S := []) rfl (Nat.le_of_ble_eq_true rfl) (fun r29 => ?_)
            refine sim_iconst dX12_all_139 (by decide) ?_
            refine sim_jn1 (pc' := 168) (fun  (s31 : JSg) => [(0, vR 179), (1, vI v4), (2, vI x22), (3, vI v18), (4, vI x23), (5, vI x27)]) (fun  (s31 : JSg) => []) (fun  (s31 : JSg) => s31) ?_ (fun j30 hj30 => ?_)
            · intro s31
              refine sim_iinc 5 rfl (fun v32 => [(5, vI v32), (0, vR 179), (1, vI v4), (2, vI x22), (3, vI v18), (4, vI x23)]) (fun _ => rfl) (by decide) dX12_all_168 (fun v32 => ?_)
              refine sim_goto (tgt := 126) dX12_all_171 (by decide) ?_
              exact sim_sub [1, 2, 3, 4, 5, 0] rfl (hrc26 v32 s31)
            refine sim_icmp_eq (tgt := 168) dX12_all_140 (by decide) ?_ ?_
            · exact sim_sub [0, 1, 2, 3, 4, 5] rfl (hj30 s28)
            · refine sim_aload_n 0 rfl dX12_all_143 ?_
              refine sim_aload_n 0 rfl dX12_all_144 ?_
              refine sim_iload_n 2 rfl dX12_all_145 ?_
              refine sim_iload 5 rfl dX12_all_146 ?_
              refine sim_iconst dX12_all_148 (by decide) ?_
              refine sim_idivK (by decide) dX12_all_149 ?_
              refine sim_iload 5 rfl dX12_all_150 ?_
              refine sim_iconst dX12_all_152 (by decide) ?_
              refine sim_iremK (by decide) dX12_all_153 ?_
              refine sim_callVIp v_RX12_343 sh_179 dX12_all_154 (k_M_moved x22 (dv32 x27 2) (rm32 x27 2) s28) rfl ⟨by decide, by decide⟩ (S := [vR 179]) rfl (Nat.le_of_ble_eq_true rfl) (fun r33 => ?_)
              refine sim_iload_n 1 rfl dX12_all_157 ?_
              refine sim_callVIm v_RX12_346 sh_179 dX12_all_158 (k_M_fewestFrom n r33 v4 s28) rfl ⟨by decide, by decide⟩ (S := []) rfl (Nat.le_of_ble_eq_true rfl) (fun r34 s35 => ?_)
              refine sim_iload 4 rfl dX12_all_161 ?_
              refine sim_iconst dX12_all_163 (by decide) ?_
              refine sim_isub dX12_all_164 ?_
              refine sim_icmp_eq (tgt := 174) dX12_all_165 (by decide) ?_ ?_
              · refine sim_aload_n 0 rfl dX12_all_174 ?_
                refine sim_iload_n 2 rfl dX12_all_175 ?_
                refine sim_iload 5 rfl dX12_all_176 ?_
                refine sim_iconst dX12_all_178 (by decide) ?_
                refine sim_idivK (by decide) dX12_all_179 ?_
                refine sim_iload 5 rfl dX12_all_180 ?_
                refine sim_iconst dX12_all_182 (by decide) ?_
                refine sim_iremK (by decide) dX12_all_183 ?_
                refine sim_callVIp v_RX12_343 sh_179 dX12_all_184 (k_M_moved x22 (dv32 x27 2) (rm32 x27 2) s35) rfl ⟨by decide, by decide⟩ (S := []) rfl (Nat.le_of_ble_eq_true rfl) (fun r36 => ?_)
                refine sim_istore_n (fun v37 => [(2, vI v37), (0, vR 179), (1, vI v4), (3, vI v18), (4, vI x23), (5, vI x27)]) (fun _ => rfl) (by decide) dX12_all_187 (fun v37 => ?_)
                refine sim_aload_n 1 rfl dX12_all_188 ?_
                refine sim_getR g_RX12_55 sh_179 rh_179_31 dX12_all_189 ?_
                refine sim_aload_n 1 rfl dX12_all_192 ?_
                refine sim_getI g_RX12_349 sh_179 dX12_all_193 ?_
                refine sim_iconst dX12_all_196 (by decide) ?_
                refine sim_aload_n 1 rfl dX12_all_197 ?_
                refine sim_getR g_RX12_39 sh_179 rh_179_25 dX12_all_198 ?_
                refine sim_iload 5 rfl dX12_all_201 ?_
                refine sim_iconst dX12_all_203 (by decide) ?_
                refine sim_idivK (by decide) dX12_all_204 ?_
                refine sim_iaload sh_189 rfl dX12_all_205 ?_
                refine sim_imul dX12_all_206 ?_
                refine sim_iload 5 rfl dX12_all_207 ?_
                refine sim_iconst dX12_all_209 (by decide) ?_
                refine sim_iremK (by decide) dX12_all_210 ?_
                refine sim_iadd dX12_all_211 ?_
                refine sim_iastore sh_194 rfl dX12_all_212 (fun s38 => ?_)
                refine sim_aload_n 1 rfl dX12_all_213 ?_
                refine sim_dup rfl dX12_all_214 ?_
                refine sim_getI g_RX12_349 sh_179 dX12_all_215 ?_
                refine sim_iconst dX12_all_218 (by decide) ?_
                refine sim_iadd dX12_all_219 ?_
                refine sim_putI g_RX12_349 sh_179 dX12_all_220 (fun s39 => ?_)
                refine sim_iinc 4 rfl (fun v40 => [(4, vI v40), (2, vI v37), (0, vR 179), (1, vI v4), (3, vI v18), (5, vI x27)]) (fun _ => rfl) (by decide) dX12_all_223 (fun v40 => ?_)
                refine sim_goto (tgt := 118) dX12_all_226 (by decide) ?_
                exact sim_sub [2, 3, 1, 4, 0] rfl (hrc21 v37 v40 s39)
              · exact sim_sub [0, 1, 2, 3, 4, 5] rfl (hj30 s35)
        · refine sim_iconst dX12_all_108 (by decide) ?_
          exact sim_iret rfl rfl dX12_all_109
      · refine sim_aload_n 0 rfl dX12_all_72 ?_
        refine sim_getR g_RX12_52 sh_179 rh_179_30 dX12_all_73 ?_
        refine sim_iload_n 2 rfl dX12_all_76 ?_
        refine sim_bipush dX12_all_77 (by decide +kernel) ?_
        refine sim_iastore sh_193 rfl dX12_all_79 (fun s41 => ?_)
        refine sim_iinc 2 rfl (fun v42 => [(2, vI v42), (0, vR 179), (1, vI v4)]) (fun _ => rfl) (by decide) dX12_all_80 (fun v42 => ?_)
        refine sim_goto (tgt := 63) dX12_all_83 (by decide) ?_
        exact sim_sub [1, 2, 0] rfl (hrc11 v42 s41)
    · refine sim_aload_n 0 rfl dX12_all_30 ?_
      refine sim_dup rfl dX12_all_31 ?_
      refine sim_getI g_RX12_331 sh_179 dX12_all_32 ?_
      refine sim_iconst dX12_all_35 (by decide) ?_
      refine sim_aload_n 0 rfl dX12_all_36 ?_
      refine sim_getR g_RX12_13 sh_179 rh_179_14 dX12_all_37 ?_
      refine sim_bipush dX12_all_40 (by decide +kernel) ?_
      refine sim_aload_n 0 rfl dX12_all_42 ?_
      refine sim_getR g_RX12_39 sh_179 rh_179_25 dX12_all_43 ?_
      refine sim_iload_n 2 rfl dX12_all_46 ?_
      refine sim_iaload sh_189 rfl dX12_all_47 ?_
      refine sim_iadd dX12_all_48 ?_
      refine sim_iaload sh_181 rfl dX12_all_49 ?_
      refine sim_ishl dX12_all_50 ?_
      refine sim_ior dX12_all_51 ?_
      refine sim_name (fun t43 => ?_)
      refine sim_putI g_RX12_331 sh_179 dX12_all_52 (fun s44 => ?_)
      refine sim_iinc 2 rfl (fun v45 => [(2, vI v45), (0, vR 179), (1, vI v4)]) (fun _ => rfl) (by decide) dX12_all_55 (fun v45 => ?_)
      refine sim_goto (tgt := 25) dX12_all_58 (by decide) ?_
      exact sim_sub [1, 2, 0] rfl (hrc7 v45 s44)
  · refine sim_iconst dX12_all_16 (by decide) ?_
    exact sim_iret rfl rfl dX12_all_17
theorem dX12_leads_0 : decode cX12_leads 0 = .ok (.aload_n 0, 1) := by decide +kernel
theorem dX12_leads_1 : decode cX12_leads 1 = .ok (.iconst 0, 1) := by decide +kernel
theorem dX12_leads_2 : decode cX12_leads 2 = .ok (.putfield 87, 3) := by decide +kernel
theorem dX12_leads_5 : decode cX12_leads 5 = .ok (.iload_n 1, 1) := by decide +kernel
theorem dX12_leads_6 : decode cX12_leads 6 = .ok (.iconst 0, 1) := by decide +kernel
theorem dX12_leads_7 : decode cX12_leads 7 = .ok (.bipush 6, 2) := by decide +kernel
theorem dX12_leads_9 : decode cX12_leads 9 = .ok (.invokestatic 158, 3) := by decide +kernel
theorem dX12_leads_12 : decode cX12_leads 12 = .ok (.ifCond .eq 13, 3) := by decide +kernel
theorem dX12_leads_15 : decode cX12_leads 15 = .ok (.iload_n 2, 1) := by decide +kernel
theorem dX12_leads_16 : decode cX12_leads 16 = .ok (.iconst 0, 1) := by decide +kernel
theorem dX12_leads_17 : decode cX12_leads 17 = .ok (.bipush 6, 2) := by decide +kernel
theorem dX12_leads_19 : decode cX12_leads 19 = .ok (.invokestatic 158, 3) := by decide +kernel
theorem dX12_leads_22 : decode cX12_leads 22 = .ok (.ifCond .ne 5, 3) := by decide +kernel
theorem dX12_leads_25 : decode cX12_leads 25 = .ok (.iconst (-1), 1) := by decide +kernel
theorem dX12_leads_26 : decode cX12_leads 26 = .ok (.ireturn, 1) := by decide +kernel
theorem dX12_leads_27 : decode cX12_leads 27 = .ok (.aload_n 0, 1) := by decide +kernel
theorem dX12_leads_28 : decode cX12_leads 28 = .ok (.invokevirtual 312, 3) := by decide +kernel
theorem dX12_leads_31 : decode cX12_leads 31 = .ok (.istore_n 3, 1) := by decide +kernel
theorem dX12_leads_32 : decode cX12_leads 32 = .ok (.iload_n 3, 1) := by decide +kernel
theorem dX12_leads_33 : decode cX12_leads 33 = .ok (.bipush 12, 2) := by decide +kernel
theorem dX12_leads_35 : decode cX12_leads 35 = .ok (.if_icmp .le 5, 3) := by decide +kernel
theorem dX12_leads_38 : decode cX12_leads 38 = .ok (.iconst (-1), 1) := by decide +kernel
theorem dX12_leads_39 : decode cX12_leads 39 = .ok (.ireturn, 1) := by decide +kernel
theorem dX12_leads_40 : decode cX12_leads 40 = .ok (.iconst 0, 1) := by decide +kernel
theorem dX12_leads_41 : decode cX12_leads 41 = .ok (.istore 4, 2) := by decide +kernel
theorem dX12_leads_43 : decode cX12_leads 43 = .ok (.iload 4, 2) := by decide +kernel
theorem dX12_leads_45 : decode cX12_leads 45 = .ok (.bipush 7, 2) := by decide +kernel
theorem dX12_leads_47 : decode cX12_leads 47 = .ok (.iload_n 3, 1) := by decide +kernel
theorem dX12_leads_48 : decode cX12_leads 48 = .ok (.ishl, 1) := by decide +kernel
theorem dX12_leads_49 : decode cX12_leads 49 = .ok (.if_icmp .ge 17, 3) := by decide +kernel
theorem dX12_leads_52 : decode cX12_leads 52 = .ok (.aload_n 0, 1) := by decide +kernel
theorem dX12_leads_53 : decode cX12_leads 53 = .ok (.getfield 42, 3) := by decide +kernel
theorem dX12_leads_56 : decode cX12_leads 56 = .ok (.iload 4, 2) := by decide +kernel
theorem dX12_leads_58 : decode cX12_leads 58 = .ok (.iconst (-1), 1) := by decide +kernel
theorem dX12_leads_59 : decode cX12_leads 59 = .ok (.iastore, 1) := by decide +kernel
theorem dX12_leads_60 : decode cX12_leads 60 = .ok (.iinc 4 1, 3) := by decide +kernel
theorem dX12_leads_63 : decode cX12_leads 63 = .ok (.goto (-20), 3) := by decide +kernel
theorem dX12_leads_66 : decode cX12_leads 66 = .ok (.aload_n 0, 1) := by decide +kernel
theorem dX12_leads_67 : decode cX12_leads 67 = .ok (.getfield 42, 3) := by decide +kernel
theorem dX12_leads_70 : decode cX12_leads 70 = .ok (.iload_n 1, 1) := by decide +kernel
theorem dX12_leads_71 : decode cX12_leads 71 = .ok (.iconst 0, 1) := by decide +kernel
theorem dX12_leads_72 : decode cX12_leads 72 = .ok (.iastore, 1) := by decide +kernel
theorem dX12_leads_73 : decode cX12_leads 73 = .ok (.aload_n 0, 1) := by decide +kernel
theorem dX12_leads_74 : decode cX12_leads 74 = .ok (.getfield 48, 3) := by decide +kernel
theorem dX12_leads_77 : decode cX12_leads 77 = .ok (.iconst 0, 1) := by decide +kernel
theorem dX12_leads_78 : decode cX12_leads 78 = .ok (.iload_n 1, 1) := by decide +kernel
theorem dX12_leads_79 : decode cX12_leads 79 = .ok (.iastore, 1) := by decide +kernel
theorem dX12_leads_80 : decode cX12_leads 80 = .ok (.iconst 1, 1) := by decide +kernel
theorem dX12_leads_81 : decode cX12_leads 81 = .ok (.istore 4, 2) := by decide +kernel
theorem dX12_leads_83 : decode cX12_leads 83 = .ok (.iconst 0, 1) := by decide +kernel
theorem dX12_leads_84 : decode cX12_leads 84 = .ok (.istore 5, 2) := by decide +kernel
theorem dX12_leads_86 : decode cX12_leads 86 = .ok (.iload 5, 2) := by decide +kernel
theorem dX12_leads_88 : decode cX12_leads 88 = .ok (.iload 4, 2) := by decide +kernel
theorem dX12_leads_90 : decode cX12_leads 90 = .ok (.if_icmp .ge 193, 3) := by decide +kernel
theorem dX12_leads_93 : decode cX12_leads 93 = .ok (.aload_n 0, 1) := by decide +kernel
theorem dX12_leads_94 : decode cX12_leads 94 = .ok (.getfield 48, 3) := by decide +kernel
theorem dX12_leads_97 : decode cX12_leads 97 = .ok (.iload 5, 2) := by decide +kernel
theorem dX12_leads_99 : decode cX12_leads 99 = .ok (.iaload, 1) := by decide +kernel
theorem dX12_leads_100 : decode cX12_leads 100 = .ok (.bipush 7, 2) := by decide +kernel
theorem dX12_leads_102 : decode cX12_leads 102 = .ok (.idiv, 1) := by decide +kernel
theorem dX12_leads_103 : decode cX12_leads 103 = .ok (.istore 6, 2) := by decide +kernel
theorem dX12_leads_105 : decode cX12_leads 105 = .ok (.aload_n 0, 1) := by decide +kernel
theorem dX12_leads_106 : decode cX12_leads 106 = .ok (.getfield 48, 3) := by decide +kernel
theorem dX12_leads_109 : decode cX12_leads 109 = .ok (.iload 5, 2) := by decide +kernel
theorem dX12_leads_111 : decode cX12_leads 111 = .ok (.iaload, 1) := by decide +kernel
theorem dX12_leads_112 : decode cX12_leads 112 = .ok (.bipush 7, 2) := by decide +kernel
theorem dX12_leads_114 : decode cX12_leads 114 = .ok (.irem, 1) := by decide +kernel
theorem dX12_leads_115 : decode cX12_leads 115 = .ok (.istore 7, 2) := by decide +kernel
theorem dX12_leads_117 : decode cX12_leads 117 = .ok (.aload_n 0, 1) := by decide +kernel
theorem dX12_leads_118 : decode cX12_leads 118 = .ok (.iload 7, 2) := by decide +kernel
theorem dX12_leads_120 : decode cX12_leads 120 = .ok (.iload_n 2, 1) := by decide +kernel
theorem dX12_leads_121 : decode cX12_leads 121 = .ok (.invokevirtual 271, 3) := by decide +kernel
theorem dX12_leads_124 : decode cX12_leads 124 = .ok (.ifCond .eq 16, 3) := by decide +kernel
theorem dX12_leads_127 : decode cX12_leads 127 = .ok (.aload_n 0, 1) := by decide +kernel
theorem dX12_leads_128 : decode cX12_leads 128 = .ok (.getfield 42, 3) := by decide +kernel
theorem dX12_leads_131 : decode cX12_leads 131 = .ok (.aload_n 0, 1) := by decide +kernel
theorem dX12_leads_132 : decode cX12_leads 132 = .ok (.getfield 48, 3) := by decide +kernel
theorem dX12_leads_135 : decode cX12_leads 135 = .ok (.iload 5, 2) := by decide +kernel
theorem dX12_leads_137 : decode cX12_leads 137 = .ok (.iaload, 1) := by decide +kernel
theorem dX12_leads_138 : decode cX12_leads 138 = .ok (.iaload, 1) := by decide +kernel
theorem dX12_leads_139 : decode cX12_leads 139 = .ok (.ireturn, 1) := by decide +kernel
theorem dX12_leads_140 : decode cX12_leads 140 = .ok (.iconst 0, 1) := by decide +kernel
theorem dX12_leads_141 : decode cX12_leads 141 = .ok (.istore 8, 2) := by decide +kernel
theorem dX12_leads_143 : decode cX12_leads 143 = .ok (.iload 8, 2) := by decide +kernel
theorem dX12_leads_145 : decode cX12_leads 145 = .ok (.iload_n 3, 1) := by decide +kernel
theorem dX12_leads_146 : decode cX12_leads 146 = .ok (.if_icmp .ge 131, 3) := by decide +kernel
theorem dX12_leads_149 : decode cX12_leads 149 = .ok (.iconst 0, 1) := by decide +kernel
theorem dX12_leads_150 : decode cX12_leads 150 = .ok (.istore 9, 2) := by decide +kernel
theorem dX12_leads_152 : decode cX12_leads 152 = .ok (.iload 9, 2) := by decide +kernel
theorem dX12_leads_154 : decode cX12_leads 154 = .ok (.iconst 2, 1) := by decide +kernel
theorem dX12_leads_155 : decode cX12_leads 155 = .ok (.if_icmp .ge 116, 3) := by decide +kernel
theorem dX12_leads_158 : decode cX12_leads 158 = .ok (.bipush 7, 2) := by decide +kernel
theorem dX12_leads_160 : decode cX12_leads 160 = .ok (.iload 6, 2) := by decide +kernel
theorem dX12_leads_162 : decode cX12_leads 162 = .ok (.iconst 1, 1) := by decide +kernel
theorem dX12_leads_163 : decode cX12_leads 163 = .ok (.iload 8, 2) := by decide +kernel
theorem dX12_leads_165 : decode cX12_leads 165 = .ok (.ishl, 1) := by decide +kernel
theorem dX12_leads_166 : decode cX12_leads 166 = .ok (.ior, 1) := by decide +kernel
theorem dX12_leads_167 : decode cX12_leads 167 = .ok (.imul, 1) := by decide +kernel
theorem dX12_leads_168 : decode cX12_leads 168 = .ok (.aload_n 0, 1) := by decide +kernel
theorem dX12_leads_169 : decode cX12_leads 169 = .ok (.aload_n 0, 1) := by decide +kernel
theorem dX12_leads_170 : decode cX12_leads 170 = .ok (.getfield 39, 3) := by decide +kernel
theorem dX12_leads_173 : decode cX12_leads 173 = .ok (.iload 8, 2) := by decide +kernel
theorem dX12_leads_175 : decode cX12_leads 175 = .ok (.iaload, 1) := by decide +kernel
theorem dX12_leads_176 : decode cX12_leads 176 = .ok (.iconst 1, 1) := by decide +kernel
theorem dX12_leads_177 : decode cX12_leads 177 = .ok (.iload 9, 2) := by decide +kernel
theorem dX12_leads_179 : decode cX12_leads 179 = .ok (.isub, 1) := by decide +kernel
theorem dX12_leads_180 : decode cX12_leads 180 = .ok (.invokevirtual 243, 3) := by decide +kernel
theorem dX12_leads_183 : decode cX12_leads 183 = .ok (.iadd, 1) := by decide +kernel
theorem dX12_leads_184 : decode cX12_leads 184 = .ok (.istore 10, 2) := by decide +kernel
theorem dX12_leads_186 : decode cX12_leads 186 = .ok (.iload 6, 2) := by decide +kernel
theorem dX12_leads_188 : decode cX12_leads 188 = .ok (.iload 8, 2) := by decide +kernel
theorem dX12_leads_190 : decode cX12_leads 190 = .ok (.invokestatic 201, 3) := by decide +kernel
theorem dX12_leads_193 : decode cX12_leads 193 = .ok (.ifCond .ne 72, 3) := by decide +kernel
theorem dX12_leads_196 : decode cX12_leads 196 = .ok (.aload_n 0, 1) := by decide +kernel
theorem dX12_leads_197 : decode cX12_leads 197 = .ok (.aload_n 0, 1) := by decide +kernel
theorem dX12_leads_198 : decode cX12_leads 198 = .ok (.aload_n 0, 1) := by decide +kernel
theorem dX12_leads_199 : decode cX12_leads 199 = .ok (.getfield 39, 3) := by decide +kernel
theorem dX12_leads_202 : decode cX12_leads 202 = .ok (.iload 8, 2) := by decide +kernel
theorem dX12_leads_204 : decode cX12_leads 204 = .ok (.iaload, 1) := by decide +kernel
theorem dX12_leads_205 : decode cX12_leads 205 = .ok (.iload 9, 2) := by decide +kernel
theorem dX12_leads_207 : decode cX12_leads 207 = .ok (.invokevirtual 243, 3) := by decide +kernel
theorem dX12_leads_210 : decode cX12_leads 210 = .ok (.iload 7, 2) := by decide +kernel
theorem dX12_leads_212 : decode cX12_leads 212 = .ok (.invokevirtual 271, 3) := by decide +kernel
theorem dX12_leads_215 : decode cX12_leads 215 = .ok (.ifCond .eq 50, 3) := by decide +kernel
theorem dX12_leads_218 : decode cX12_leads 218 = .ok (.aload_n 0, 1) := by decide +kernel
theorem dX12_leads_219 : decode cX12_leads 219 = .ok (.getfield 42, 3) := by decide +kernel
theorem dX12_leads_222 : decode cX12_leads 222 = .ok (.iload 10, 2) := by decide +kernel
theorem dX12_leads_224 : decode cX12_leads 224 = .ok (.iaload, 1) := by decide +kernel
theorem dX12_leads_225 : decode cX12_leads 225 = .ok (.iconst (-1), 1) := by decide +kernel
theorem dX12_leads_226 : decode cX12_leads 226 = .ok (.if_icmp .eq 6, 3) := by decide +kernel
theorem dX12_leads_229 : decode cX12_leads 229 = .ok (.goto 36, 3) := by decide +kernel
theorem dX12_leads_232 : decode cX12_leads 232 = .ok (.aload_n 0, 1) := by decide +kernel
theorem dX12_leads_233 : decode cX12_leads 233 = .ok (.getfield 42, 3) := by decide +kernel
theorem dX12_leads_236 : decode cX12_leads 236 = .ok (.iload 10, 2) := by decide +kernel
theorem dX12_leads_238 : decode cX12_leads 238 = .ok (.aload_n 0, 1) := by decide +kernel
theorem dX12_leads_239 : decode cX12_leads 239 = .ok (.getfield 42, 3) := by decide +kernel
theorem dX12_leads_242 : decode cX12_leads 242 = .ok (.aload_n 0, 1) := by decide +kernel
theorem dX12_leads_243 : decode cX12_leads 243 = .ok (.getfield 48, 3) := by decide +kernel
theorem dX12_leads_246 : decode cX12_leads 246 = .ok (.iload 5, 2) := by decide +kernel
theorem dX12_leads_248 : decode cX12_leads 248 = .ok (.iaload, 1) := by decide +kernel
theorem dX12_leads_249 : decode cX12_leads 249 = .ok (.iaload, 1) := by decide +kernel
theorem dX12_leads_250 : decode cX12_leads 250 = .ok (.iconst 1, 1) := by decide +kernel
theorem dX12_leads_251 : decode cX12_leads 251 = .ok (.iadd, 1) := by decide +kernel
theorem dX12_leads_252 : decode cX12_leads 252 = .ok (.iastore, 1) := by decide +kernel
theorem dX12_leads_253 : decode cX12_leads 253 = .ok (.aload_n 0, 1) := by decide +kernel
theorem dX12_leads_254 : decode cX12_leads 254 = .ok (.getfield 48, 3) := by decide +kernel
theorem dX12_leads_257 : decode cX12_leads 257 = .ok (.iload 4, 2) := by decide +kernel
theorem dX12_leads_259 : decode cX12_leads 259 = .ok (.iload 10, 2) := by decide +kernel
theorem dX12_leads_261 : decode cX12_leads 261 = .ok (.iastore, 1) := by decide +kernel
theorem dX12_leads_262 : decode cX12_leads 262 = .ok (.iinc 4 1, 3) := by decide +kernel
theorem dX12_leads_265 : decode cX12_leads 265 = .ok (.iinc 9 1, 3) := by decide +kernel
theorem dX12_leads_268 : decode cX12_leads 268 = .ok (.goto (-116), 3) := by decide +kernel
theorem dX12_leads_271 : decode cX12_leads 271 = .ok (.iinc 8 1, 3) := by decide +kernel
theorem dX12_leads_274 : decode cX12_leads 274 = .ok (.goto (-131), 3) := by decide +kernel
theorem dX12_leads_277 : decode cX12_leads 277 = .ok (.iinc 5 1, 3) := by decide +kernel
theorem dX12_leads_280 : decode cX12_leads 280 = .ok (.goto (-194), 3) := by decide +kernel
theorem dX12_leads_283 : decode cX12_leads 283 = .ok (.iconst (-1), 1) := by decide +kernel
theorem dX12_leads_284 : decode cX12_leads 284 = .ok (.ireturn, 1) := by decide +kernel
def f_M_leads (n : Nat)  (a1 : Int) (a2 : Int) (σ : JSg) : Option (Int × JSg) :=
  lt_ (sp σ 179 0 0) fun s1 => bd1 (f_M_isIn a1 0 6 s1) fun r2 => if r2 = 0 then (some ((-1), s1)) else (bd1 (f_M_isIn a2 0 6 s1) fun r3 => if r3 = 0 then (some ((-1), s1)) else (bd2 (f_M_layHand n s1) fun r4 s5 => lt_ r4 fun v6 => if 12 < v6 then (some ((-1), s5)) else (lt_ 0 fun v7 => wh2 n (fun rc8 (x9 : Int) (s10 : JSg) => if x9 < (sl32 7 v6) then (chk (0 ≤ x9 ∧ x9 < 28672) <| lt_ (sp s10 190 x9.toNat (-1)) fun s46 => lt_ (w32 (x9 + 1)) fun v47 => rc8 v47 s46) else (chk (0 ≤ a1 ∧ a1 < 28672) <| lt_ (sp s10 190 a1.toNat 0) fun s11 => lt_ (sp s11 192 0 a1) fun s12 => lt_ 1 fun v13 => lt_ 0 fun v14 => wh3 n (fun rc15 (x16 : Int) (x17 : Int) (s18 : JSg) => if x17 < x16 then (chk (0 ≤ x17 ∧ x17 < 28672) <| lt_ (dv32 (s18 192 x17.toNat) 7) fun v19 => chk (0 ≤ x17 ∧ x17 < 28672) <| lt_ (rm32 (s18 192 x17.toNat) 7) fun v20 => bd1 (f_M_fit v20 a2 s18) fun r21 => if r21 = 0 then (lt_ 0 fun v22 => wh3 n (fun rc23 (x24 : Int) (x25 : Int) (s26 : JSg) => if x25 < v6 then (lt_ 0 fun v28 => wh3 n (fun rc29 (x30 : Int) (x31 : Int) (s32 : JSg) => if x31 < 2 then (chk (0 ≤ x25 ∧ x25 < 28) <| bd1 (f_M_pip (s32 189 x25.toNat) (w32 (1 - x31)) s32) fun r34 => lt_ (w32 ((w32 (7 * (or32 v19 (sl32 1 x25)))) + r34)) fun v35 => bd1 (f_M_has v19 x25 s32) fun r36 => jn2 (fun (y38 : Int) (s39 : JSg) => lt_ (w32 (x31 + 1)) fun v40 => rc29 y38 v40 s39) fun j37 => if r36 = 0 then (chk (0 ≤ x25 ∧ x25 < 28) <| bd1 (f_M_pip (s32 189 x25.toNat) x31 s32) fun r41 => bd1 (f_M_fit r41 v20 s32) fun r42 => if r42 = 0 then (j37 x30 s32) else (chk (0 ≤ v35 ∧ v35 < 28672) <| if (s32 190 v35.toNat) = (-1) then (chk (0 ≤ x17 ∧ x17 < 28672) <| chk (0 ≤ (s32 192 x17.toNat) ∧ (s32 192 x17.toNat) < 28672) <| chk (0 ≤ v35 ∧ v35 < 28672) <| lt_ (sp s32 190 v35.toNat (w32 ((s32 190 (s32 192 x17.toNat).toNat) + 1))) fun s43 => chk (0 ≤ x30 ∧ x30 < 28672) <| lt_ (sp s43 192 x30.toNat v35) fun s44 => lt_ (w32 (x30 + 1)) fun v45 => j37 v45 s44) else (j37 x30 s32))) else (j37 x30 s32)) else (lt_ (w32 (x25 + 1)) fun v33 => rc23 x30 v33 s32)) x24 v28 s26) else (lt_ (w32 (x17 + 1)) fun v27 => rc15 x24 v27 s26)) x16 v22 s18) else (chk (0 ≤ x17 ∧ x17 < 28672) <| chk (0 ≤ (s18 192 x17.toNat) ∧ (s18 192 x17.toNat) < 28672) <| some (s18 190 (s18 192 x17.toNat).toNat, s18))) else (some ((-1), s18))) v13 v14 s12)) v7 s5)))
set_option maxRecDepth 20000 in
set_option maxHeartbeats 4000000 in
theorem k_M_leads  (n : Nat)   (a1 : Int) (a2 : Int) (σ : JSg) : Call yX12_leads cX12_leads 11 (some .int) 2 SH RHO [vR 179, vI a1, vI a2] σ dIm (f_M_leads n a1 a2 σ) := by
  refine call_of_sim (by decide +kernel) (Nat.le_of_ble_eq_true rfl) ?_
  show Sim RX12 cX12_leads 11 (some .int) 2 SH RHO 0 [(0, vR 179), (1, vI a1), (2, vI a2)] [] σ dIm (f_M_leads n a1 a2 σ)
  unfold f_M_leads
  refine sim_aload_n 0 rfl dX12_leads_0 ?_
  refine sim_iconst dX12_leads_1 (by decide) ?_
  refine sim_putI g_RX12_87 sh_179 dX12_leads_2 (fun s1 => ?_)
  refine sim_iload_n 1 rfl dX12_leads_5 ?_
  refine sim_iconst dX12_leads_6 (by decide) ?_
  refine sim_bipush dX12_leads_7 (by decide +kernel) ?_
  refine sim_callSIp s_RX12_158 dX12_leads_9 (k_M_isIn SH RHO a1 0 6 s1) rfl ⟨by decide, by decide⟩ (S := []) rfl (Nat.le_of_ble_eq_true rfl) (fun r2 => ?_)
  refine sim_if_eq (tgt := 25) dX12_leads_12 (by decide) ?_ ?_
  · refine sim_iconst dX12_leads_25 (by decide) ?_
    exact sim_iret rfl rfl dX12_leads_26
  · refine sim_iload_n 2 rfl dX12_leads_15 ?_
    refine sim_iconst dX12_leads_16 (by decide) ?_
    refine sim_bipush dX12_leads_17 (by decide +kernel) ?_
    refine sim_callSIp s_RX12_158 dX12_leads_19 (k_M_isIn SH RHO a2 0 6 s1) rfl ⟨by decide, by decide⟩ (S := []) rfl (Nat.le_of_ble_eq_true rfl) (fun r3 => ?_)
    refine sim_if_ne (tgt := 27) dX12_leads_22 (by decide) ?_ ?_
    · refine sim_aload_n 0 rfl dX12_leads_27 ?_
      refine sim_callVIm v_RX12_312 sh_179 dX12_leads_28 (k_M_layHand n s1) rfl ⟨by decide, by decide⟩ (S := []) rfl (Nat.le_of_ble_eq_true rfl) (fun r4 s5 => ?_)
      refine sim_istore_n (fun v6 => [(3, vI v6), (0, vR 179), (1, vI a1), (2, vI a2)]) (fun _ => rfl) (by decide) dX12_leads_31 (fun v6 => ?_)
      refine sim_iload_n 0 rfl dX12_leads_32 ?_
      refine sim_bipush dX12_leads_33 (by decide +kernel) ?_
      refine sim_icmp_le (tgt := 40) dX12_leads_35 (by decide) ?_ ?_
      · refine sim_iconst dX12_leads_40 (by decide) ?_
        refine sim_istore (fun v7 => [(4, vI v7), (3, vI v6), (0, vR 179), (1, vI a1), (2, vI a2)]) (fun _ => rfl) (by decide) dX12_leads_41 (fun v7 => ?_)
        refine sim_sub [2, 3, 4, 1, 0] (L' := [(0, vR 179), (1, vI a1), (2, vI a2), (3, vI v6), (4, vI v7)]) rfl ?_
        refine sim_wh2 (fun (x9 : Int) (s10 : JSg) => [(0, vR 179), (1, vI a1), (2, vI a2), (3, vI v6), (4, vI x9)]) (fun (x9 : Int) (s10 : JSg) => s10) ?_ n v7 s5
        intro rc8 hrc8 x9 s10
        refine sim_iload 4 rfl dX12_leads_43 ?_
        refine sim_bipush dX12_leads_45 (by decide +kernel) ?_
        refine sim_iload_n 3 rfl dX12_leads_47 ?_
        refine sim_ishl dX12_leads_48 ?_
        refine sim_icmp_ge (tgt := 66) dX12_leads_49 (by decide) ?_ ?_
        · refine sim_aload_n 0 rfl dX12_leads_66 ?_
          refine sim_getR g_RX12_42 sh_179 rh_179_26 dX12_leads_67 ?_
          refine sim_iload_n 1 rfl dX12_leads_70 ?_
          refine sim_iconst dX12_leads_71 (by decide) ?_
          refine sim_iastore sh_190 rfl dX12_leads_72 (fun s11 => ?_)
          refine sim_aload_n 0 rfl dX12_leads_73 ?_
          refine sim_getR g_RX12_48 sh_179 rh_179_29 dX12_leads_74 ?_
          refine sim_iconst dX12_leads_77 (by decide) ?_
          refine sim_iload_n 1 rfl dX12_leads_78 ?_
          refine sim_iastoreK (j := 0) sh_192 rfl (by decide) dX12_leads_79 (fun s12 => ?_)
          refine sim_iconst dX12_leads_80 (by decide) ?_
          refine sim_istore (fun v13 => [(4, vI v13), (0, vR 179), (1, vI a1), (2, vI a2), (3, vI v6)]) (fun _ => rfl) (by decide) dX12_leads_81 (fun v13 => ?_)
          refine sim_iconst dX12_leads_83 (by decide) ?_
          refine sim_istore (fun v14 => [(5, vI v14), (4, vI v13), (0, vR 179), (1, vI a1), (2, vI a2), (3, vI v6)]) (fun _ => rfl) (by decide) dX12_leads_84 (fun v14 => ?_)
          refine sim_sub [2, 4, 5, 1, 0] (L' := [(0, vR 179), (2, vI a2), (3, vI v6), (4, vI v13), (5, vI v14)]) rfl ?_
          refine sim_wh3 (fun (x16 : Int) (x17 : Int) (s18 : JSg) => [(0, vR 179), (2, vI a2), (3, vI v6), (4, vI x16), (5, vI x17)]) (fun (x16 : Int) (x17 : Int) (s18 : JSg) => s18) ?_ n v13 v14 s12
          intro rc15 hrc15 x16 x17 s18
          refine sim_iload 4 rfl dX12_leads_86 ?_
          refine sim_iload 3 rfl dX12_leads_88 ?_
          refine sim_icmp_ge (tgt := 283) dX12_leads_90 (by decide) ?_ ?_
          · refine sim_iconst dX12_leads_283 (by decide) ?_
            exact sim_iret rfl rfl dX12_leads_284
          · refine sim_aload_n 0 rfl dX12_leads_93 ?_
            refine sim_getR g_RX12_48 sh_179 rh_179_29 dX12_leads_94 ?_
            refine sim_iload 4 rfl dX12_leads_97 ?_
            refine sim_iaload sh_192 rfl dX12_leads_99 ?_
            refine sim_bipush dX12_leads_100 (by decide +kernel) ?_
            refine sim_idivK (by decide) dX12_leads_102 ?_
            refine sim_istore (fun v19 => [(6, vI v19), (0, vR 179), (2, vI a2), (3, vI v6), (4, vI x16), (5, vI x17)]) (fun _ => rfl) (by decide) dX12_leads_103 (fun v19 => ?_)
            refine sim_aload_n 1 rfl dX12_leads_105 ?_
            refine sim_getR g_RX12_48 sh_179 rh_179_29 dX12_leads_106 ?_
            refine sim_iload 5 rfl dX12_leads_109 ?_
            refine sim_iaload sh_192 rfl dX12_leads_111 ?_
            refine sim_bipush dX12_leads_112 (by decide +kernel) ?_
            refine sim_iremK (by decide) dX12_leads_114 ?_
            refine sim_istore (fun v20 => [(7, vI v20), (6, vI v19), (0, vR 179), (2, vI a2), (3, vI v6), (4, vI x16), (5, vI x17)]) (fun _ => rfl) (by decide) dX12_leads_115 (fun v20 => ?_)
            refine sim_aload_n 2 rfl dX12_leads_117 ?_
            refine sim_iload 0 rfl dX12_leads_118 ?_
            refine sim_iload_n 3 rfl dX12_leads_120 ?_
            refine sim_callVIp v_RX12_271 sh_179 dX12_leads_121 (k_M_fit v20 a2 s18) rfl ⟨by decide, by decide⟩ (S := []) rfl (Nat.le_of_ble_eq_true rfl) (fun r21 => ?_)
            refine sim_if_eq (tgt := 140) dX12_leads_124 (by decide) ?_ ?_
            · refine sim_iconst dX12_leads_140 (by decide) ?_
              refine sim_istore (fun v22 => [(8, vI v22), (7, vI v20), (6, vI v19), (0, vR 179), (2, vI a2), (3, vI v6), (4, vI x16), (5, vI x17)]) (fun _ => rfl) (by decide) dX12_leads_141 (fun v22 => ?_)
              refine sim_sub [3, 4, 5, 6, 7, 2, 1, 0] (L' := [(0, vR 179), (2, vI a2), (3, vI v6), (4, vI x16), (5, vI x17), (6, vI v19), (7, vI v20), (8, vI v22)]) rfl ?_
              refine sim_wh3 (fun (x24 : Int) (x25 : Int) (s26 : JSg) => [(0, vR 179), (2, vI a2), (3, vI v6), (4, vI x24), (5, vI x17), (6, vI v19), (7, vI v20), (8, vI x25)]) (fun (x24 : Int) (x25 : Int) (s26 : JSg) => s26) ?_ n x16 v22 s18
              intro rc23 hrc23 x24 x25 s26
              refine sim_iload 7 rfl dX12_leads_143 ?_
              refine sim_iload_n 2 rfl dX12_leads_145 ?_
              refine sim_icmp_ge (tgt := 277) dX12_leads_146 (by decide) ?_ ?_
              · refine sim_iinc 4 rfl (fun v27 => [(5, vI v27), (0, vR 179), (2, vI a2), (3, vI v6), (4, vI x24), (6, vI v19), (7, vI v20), (8, vI x25)]) (fun _ => rfl) (by decide) dX12_leads_277 (fun v27 => ?_)
                refine sim_goto (tgt := 86) dX12_leads_280 (by decide) ?_
                exact sim_sub [1, 2, 3, 4, 0] rfl (hrc15 x24 v27 s26)
              · refine sim_iconst dX12_leads_149 (by decide) ?_
                refine sim_istore (fun v28 => [(9, vI v28), (0, vR 179), (2, vI a2), (3, vI v6), (4, vI x24), (5, vI x17), (6, vI v19), (7, vI v20), (8, vI x25)]) (fun _ => rfl) (by decide) dX12_leads_150 (fun v28 => ?_)
                refine sim_sub [1, 2, 3, 4, 5, 6, 7, 8, 0] (L' := [(0, vR 179), (2, vI a2), (3, vI v6), (4, vI x24), (5, vI x17), (6, vI v19), (7, vI v20), (8, vI x25), (9, vI v28)]) rfl ?_
                refine sim_wh3 (fun (x30 : Int) (x31 : Int) (s32 : JSg) => [(0, vR 179), (2, vI a2), (3, vI v6), (4, vI x30), (5, vI x17), (6, vI v19), (7, vI v20), (8, vI x25), (9, vI x31)]) (fun (x30 : Int) (x31 : Int) (s32 : JSg) => s32) ?_ n x24 v28 s26
                intro rc29 hrc29 x30 x31 s32
                refine sim_iload 8 rfl dX12_leads_152 ?_
                refine sim_iconst dX12_leads_154 (by decide) ?_
                refine sim_icmp_ge (tgt := 271) dX12_leads_155 (by decide) ?_ ?_
                · refine sim_iinc 7 rfl (fun v33 => [(8, vI v33), (0, vR 179), (2, vI a2), (3, vI v6), (4, vI x30), (5, vI x17), (6, vI v19), (7, vI v20), (9, vI x31)]) (fun _ => rfl) (by decide) dX12_leads_271 (fun v33 => ?_)
                  refine sim_goto (tgt := 143) dX12_leads_274 (by decide) ?_
                  exact sim_sub [1, 2, 3, 4, 5, 6, 7, 0] rfl (hrc23 x30 v33 s32)
                · refine sim_bipush dX12_leads_158 (by decide +kernel) ?_
                  refine sim_iload 5 rfl dX12_leads_160 ?_
                  refine sim_iconst dX12_leads_162 (by decide) ?_
                  refine sim_iload 7 rfl dX12_leads_163 ?_
                  refine sim_ishl dX12_leads_165 ?_
                  refine sim_ior dX12_leads_166 ?_
                  refine sim_imul dX12_leads_167 ?_
                  refine sim_aload_n 0 rfl dX12_leads_168 ?_
                  refine sim_aload_n 0 rfl dX12_leads_169 ?_
                  refine sim_getR g_RX12_39 sh_179 rh_179_25 dX12_leads_170 ?_
                  refine sim_iload 7 rfl dX12_leads_173 ?_
                  refine sim_iaload sh_189 rfl dX12_leads_175 ?_
                  refine sim_iconst dX12_leads_176 (by decide) ?_
                  refine sim_iload 8 rfl dX12_leads_177 ?_
                  refine sim_isub dX12_leads_179 ?_
                  refine sim_callVIp v_RX12_243 sh_179 dX12_leads_180 (k_M_pip (s32 189 x25.toNat) (w32 (1 - x31)) s32) rfl ⟨by decide, by decide⟩ (S := [vI (w32 (7 * (or32 v19 (sl32 1 x25))))]) rfl (Nat.le_of_ble_eq_true rfl) (fun r34 => ?_)
                  refine sim_iadd dX12_leads_183 ?_
                  refine sim_istore (fun v35 => [(10, vI v35), (0, vR 179), (2, vI a2), (3, vI v6), (4, vI x30), (5, vI x17), (6, vI v19), (7, vI v20), (8, vI x25), (9, vI x31)]) (fun _ => rfl) (by decide) dX12_leads_184 (fun v35 => ?_)
                  refine sim_iload 6 rfl dX12_leads_186 ?_
                  refine sim_iload 8 rfl dX12_leads_188 ?_
                  refine sim_callSIp s_RX12_201 dX12_leads_190 (k_M_has SH RHO v19 x25 s32) rfl ⟨by decide, by decide⟩ (S := []) rfl (Nat.le_of_ble_eq_true rfl) (fun r36 => ?_)
                  refine sim_jn2 (pc' := 265) (fun (y38 : Int) (s39 : JSg) => [(0, vR 179), (2, vI a2), (3, vI v6), (4, vI y38), (5, vI x17), (6, vI v19), (7, vI v20), (8, vI x25), (9, vI x31)]) (fun (y38 : Int) (s39 : JSg) => []) (fun (y38 : Int) (s39 : JSg) => s39) ?_ (fun j37 hj37 => ?_)
                  · intro y38 s39
                    refine sim_iinc 8 rfl (fun v40 => [(9, vI v40), (0, vR 179), (2, vI a2), (3, vI v6), (4, vI y38), (5, vI x17), (6, vI v19), (7, vI v20), (8, vI x25)]) (fun _ => rfl) (by decide) dX12_leads_265 (fun v40 => ?_)
                    refine sim_goto (tgt := 152) dX12_leads_268 (by decide) ?_
                    exact sim_sub [1, 2, 3, 4, 5, 6, 7, 8, 0] rfl (hrc29 y38 v40 s39)
                  refine sim_if_ne (tgt := 265) dX12_leads_193 (by decide) ?_ ?_
                  · exact sim_sub [1, 2, 3, 4, 5, 6, 7, 8, 9] rfl (hj37 x30 s32)
                  · refine sim_aload_n 1 rfl dX12_leads_196 ?_
                    refine sim_aload_n 1 rfl dX12_leads_197 ?_
                    refine sim_aload_n 1 rfl dX12_leads_198 ?_
                    refine sim_getR g_RX12_39 sh_179 rh_179_25 dX12_leads_199 ?_
                    refine sim_iload 8 rfl dX12_leads_202 ?_
                    refine sim_iaload sh_189 rfl dX12_leads_204 ?_
                    refine sim_iload 9 rfl dX12_leads_205 ?_
                    refine sim_callVIp v_RX12_243 sh_179 dX12_leads_207 (k_M_pip (s32 189 x25.toNat) x31 s32) rfl ⟨by decide, by decide⟩ (S := [vR 179]) rfl (Nat.le_of_ble_eq_true rfl) (fun r41 => ?_)
                    refine sim_iload 7 rfl dX12_leads_210 ?_
                    refine sim_callVIp v_RX12_271 sh_179 dX12_leads_212 (k_M_fit r41 v20 s32) rfl ⟨by decide, by decide⟩ (S := []) rfl (Nat.le_of_ble_eq_true rfl) (fun r42 => ?_)
                    refine sim_if_eq (tgt := 265) dX12_leads_215 (by decide) ?_ ?_
                    · exact sim_sub [1, 2, 3, 4, 5, 6, 7, 8, 9] rfl (hj37 x30 s32)
                    · refine sim_aload_n 1 rfl dX12_leads_218 ?_
                      refine sim_getR g_RX12_42 sh_179 rh_179_26 dX12_leads_219 ?_
                      refine sim_iload 0 rfl dX12_leads_222 ?_
                      refine sim_iaload sh_190 rfl dX12_leads_224 ?_
                      refine sim_iconst dX12_leads_225 (by decide) ?_
                      refine sim_icmp_eq (tgt := 232) dX12_leads_226 (by decide) ?_ ?_
                      · refine sim_aload_n 1 rfl dX12_leads_232 ?_
                        refine sim_getR g_RX12_42 sh_179 rh_179_26 dX12_leads_233 ?_
                        refine sim_iload 0 rfl dX12_leads_236 ?_
                        refine sim_aload_n 1 rfl dX12_leads_238 ?_
                        refine sim_getR g_RX12_42 sh_179 rh_179_26 dX12_leads_239 ?_
                        refine sim_aload_n 1 rfl dX12_leads_242 ?_
                        refine sim_getR g_RX12_48 sh_179 rh_179_29 dX12_leads_243 ?_
                        refine sim_iload 5 rfl dX12_leads_246 ?_
                        refine sim_iaload sh_192 rfl dX12_leads_248 ?_
                        refine sim_iaload sh_190 rfl dX12_leads_249 ?_
                        refine sim_iconst dX12_leads_250 (by decide) ?_
                        refine sim_iadd dX12_leads_251 ?_
                        refine sim_iastore sh_190 rfl dX12_leads_252 (fun s43 => ?_)
                        refine sim_aload_n 1 rfl dX12_leads_253 ?_
                        refine sim_getR g_RX12_48 sh_179 rh_179_29 dX12_leads_254 ?_
                        refine sim_iload 4 rfl dX12_leads_257 ?_
                        refine sim_iload 0 rfl dX12_leads_259 ?_
                        refine sim_iastore sh_192 rfl dX12_leads_261 (fun s44 => ?_)
                        refine sim_iinc 4 rfl (fun v45 => [(4, vI v45), (10, vI v35), (0, vR 179), (2, vI a2), (3, vI v6), (5, vI x17), (6, vI v19), (7, vI v20), (8, vI x25), (9, vI x31)]) (fun _ => rfl) (by decide) dX12_leads_262 (fun v45 => ?_)
                        exact sim_sub [2, 3, 4, 0, 5, 6, 7, 8, 9] rfl (hj37 v45 s44)
                      · refine sim_goto (tgt := 265) dX12_leads_229 (by decide) ?_
                        exact sim_sub [1, 2, 3, 4, 5, 6, 7, 8, 9] rfl (hj37 x30 s32)
            · refine sim_aload_n 2 rfl dX12_leads_127 ?_
              refine sim_getR g_RX12_42 sh_179 rh_179_26 dX12_leads_128 ?_
              refine sim_aload_n 2 rfl dX12_leads_131 ?_
              refine sim_getR g_RX12_48 sh_179 rh_179_29 dX12_leads_132 ?_
              refine sim_iload 6 rfl dX12_leads_135 ?_
              refine sim_iaload sh_192 rfl dX12_leads_137 ?_
              refine sim_iaload sh_190 rfl dX12_leads_138 ?_
              exact sim_iret rfl rfl dX12_leads_139
        · refine sim_aload_n 0 rfl dX12_leads_52 ?_
          refine sim_getR g_RX12_42 sh_179 rh_179_26 dX12_leads_53 ?_
          refine sim_iload 4 rfl dX12_leads_56 ?_
          refine sim_iconst dX12_leads_58 (by decide) ?_
          refine sim_iastore sh_190 rfl dX12_leads_59 (fun s46 => ?_)
          refine sim_iinc 4 rfl (fun v47 => [(4, vI v47), (0, vR 179), (1, vI a1), (2, vI a2), (3, vI v6)]) (fun _ => rfl) (by decide) dX12_leads_60 (fun v47 => ?_)
          refine sim_goto (tgt := 43) dX12_leads_63 (by decide) ?_
          exact sim_sub [1, 2, 3, 4, 0] rfl (hrc8 v47 s46)
      · refine sim_iconst dX12_leads_38 (by decide) ?_
        exact sim_iret rfl rfl dX12_leads_39
    · refine sim_iconst dX12_leads_25 (by decide) ?_
      exact sim_iret rfl rfl dX12_leads_26
theorem dX12_longAt_0 : decode cX12_longAt 0 = .ok (.aload_n 0, 1) := by decide +kernel
theorem dX12_longAt_1 : decode cX12_longAt 1 = .ok (.iconst 0, 1) := by decide +kernel
theorem dX12_longAt_2 : decode cX12_longAt 2 = .ok (.putfield 87, 3) := by decide +kernel
theorem dX12_longAt_5 : decode cX12_longAt 5 = .ok (.iload_n 1, 1) := by decide +kernel
theorem dX12_longAt_6 : decode cX12_longAt 6 = .ok (.ifCond .lt 20, 3) := by decide +kernel
theorem dX12_longAt_9 : decode cX12_longAt 9 = .ok (.iload_n 1, 1) := by decide +kernel
theorem dX12_longAt_10 : decode cX12_longAt 10 = .ok (.aload_n 0, 1) := by decide +kernel
theorem dX12_longAt_11 : decode cX12_longAt 11 = .ok (.getfield 318, 3) := by decide +kernel
theorem dX12_longAt_14 : decode cX12_longAt 14 = .ok (.if_icmp .ge 12, 3) := by decide +kernel
theorem dX12_longAt_17 : decode cX12_longAt 17 = .ok (.aload_n 0, 1) := by decide +kernel
theorem dX12_longAt_18 : decode cX12_longAt 18 = .ok (.getfield 45, 3) := by decide +kernel
theorem dX12_longAt_21 : decode cX12_longAt 21 = .ok (.iload_n 1, 1) := by decide +kernel
theorem dX12_longAt_22 : decode cX12_longAt 22 = .ok (.iaload, 1) := by decide +kernel
theorem dX12_longAt_23 : decode cX12_longAt 23 = .ok (.goto 4, 3) := by decide +kernel
theorem dX12_longAt_26 : decode cX12_longAt 26 = .ok (.iconst (-1), 1) := by decide +kernel
theorem dX12_longAt_27 : decode cX12_longAt 27 = .ok (.ireturn, 1) := by decide +kernel
def f_M_longAt   (a1 : Int) (σ : JSg) : Option (Int × JSg) :=
  lt_ (sp σ 179 0 0) fun s1 => if a1 < 0 then (some ((-1), s1)) else (if a1 < (s1 179 28) then (chk (0 ≤ a1 ∧ a1 < 12) <| some (s1 191 a1.toNat, s1)) else (some ((-1), s1)))
set_option maxRecDepth 20000 in
set_option maxHeartbeats 4000000 in
theorem k_M_longAt     (a1 : Int) (σ : JSg) : Call yX12_longAt cX12_longAt 2 (some .int) 0 SH RHO [vR 179, vI a1] σ dIm (f_M_longAt a1 σ) := by
  refine call_of_sim (by decide +kernel) (Nat.le_of_ble_eq_true rfl) ?_
  show Sim RX12 cX12_longAt 2 (some .int) 0 SH RHO 0 [(0, vR 179), (1, vI a1)] [] σ dIm (f_M_longAt a1 σ)
  unfold f_M_longAt
  refine sim_aload_n 0 rfl dX12_longAt_0 ?_
  refine sim_iconst dX12_longAt_1 (by decide) ?_
  refine sim_putI g_RX12_87 sh_179 dX12_longAt_2 (fun s1 => ?_)
  refine sim_iload_n 1 rfl dX12_longAt_5 ?_
  refine sim_if_lt (tgt := 26) dX12_longAt_6 (by decide) ?_ ?_
  · refine sim_iconst dX12_longAt_26 (by decide) ?_
    exact sim_iret rfl rfl dX12_longAt_27
  · refine sim_iload_n 1 rfl dX12_longAt_9 ?_
    refine sim_aload_n 0 rfl dX12_longAt_10 ?_
    refine sim_getI g_RX12_318 sh_179 dX12_longAt_11 ?_
    refine sim_icmp_ge (tgt := 26) dX12_longAt_14 (by decide) ?_ ?_
    · refine sim_iconst dX12_longAt_26 (by decide) ?_
      exact sim_iret rfl rfl dX12_longAt_27
    · refine sim_aload_n 0 rfl dX12_longAt_17 ?_
      refine sim_getR g_RX12_45 sh_179 rh_179_27 dX12_longAt_18 ?_
      refine sim_iload_n 1 rfl dX12_longAt_21 ?_
      refine sim_iaload sh_191 rfl dX12_longAt_22 ?_
      refine sim_goto (tgt := 27) dX12_longAt_23 (by decide) ?_
      exact sim_iret rfl rfl dX12_longAt_27
theorem dX12_isNext_0 : decode cX12_isNext 0 = .ok (.iload_n 1, 1) := by decide +kernel
theorem dX12_isNext_1 : decode cX12_isNext 1 = .ok (.iconst 2, 1) := by decide +kernel
theorem dX12_isNext_2 : decode cX12_isNext 2 = .ok (.idiv, 1) := by decide +kernel
theorem dX12_isNext_3 : decode cX12_isNext 3 = .ok (.istore 5, 2) := by decide +kernel
theorem dX12_isNext_5 : decode cX12_isNext 5 = .ok (.iload_n 2, 1) := by decide +kernel
theorem dX12_isNext_6 : decode cX12_isNext 6 = .ok (.iload 5, 2) := by decide +kernel
theorem dX12_isNext_8 : decode cX12_isNext 8 = .ok (.invokestatic 201, 3) := by decide +kernel
theorem dX12_isNext_11 : decode cX12_isNext 11 = .ok (.ifCond .ne 30, 3) := by decide +kernel
theorem dX12_isNext_14 : decode cX12_isNext 14 = .ok (.iload_n 3, 1) := by decide +kernel
theorem dX12_isNext_15 : decode cX12_isNext 15 = .ok (.iconst (-1), 1) := by decide +kernel
theorem dX12_isNext_16 : decode cX12_isNext 16 = .ok (.if_icmp .eq 27, 3) := by decide +kernel
theorem dX12_isNext_19 : decode cX12_isNext 19 = .ok (.aload_n 0, 1) := by decide +kernel
theorem dX12_isNext_20 : decode cX12_isNext 20 = .ok (.aload_n 0, 1) := by decide +kernel
theorem dX12_isNext_21 : decode cX12_isNext 21 = .ok (.aload_n 0, 1) := by decide +kernel
theorem dX12_isNext_22 : decode cX12_isNext 22 = .ok (.getfield 39, 3) := by decide +kernel
theorem dX12_isNext_25 : decode cX12_isNext 25 = .ok (.iload 5, 2) := by decide +kernel
theorem dX12_isNext_27 : decode cX12_isNext 27 = .ok (.iaload, 1) := by decide +kernel
theorem dX12_isNext_28 : decode cX12_isNext 28 = .ok (.iload_n 1, 1) := by decide +kernel
theorem dX12_isNext_29 : decode cX12_isNext 29 = .ok (.iconst 2, 1) := by decide +kernel
theorem dX12_isNext_30 : decode cX12_isNext 30 = .ok (.irem, 1) := by decide +kernel
theorem dX12_isNext_31 : decode cX12_isNext 31 = .ok (.invokevirtual 243, 3) := by decide +kernel
theorem dX12_isNext_34 : decode cX12_isNext 34 = .ok (.iload_n 3, 1) := by decide +kernel
theorem dX12_isNext_35 : decode cX12_isNext 35 = .ok (.invokevirtual 271, 3) := by decide +kernel
theorem dX12_isNext_38 : decode cX12_isNext 38 = .ok (.ifCond .ne 5, 3) := by decide +kernel
theorem dX12_isNext_41 : decode cX12_isNext 41 = .ok (.iconst 0, 1) := by decide +kernel
theorem dX12_isNext_42 : decode cX12_isNext 42 = .ok (.ireturn, 1) := by decide +kernel
theorem dX12_isNext_43 : decode cX12_isNext 43 = .ok (.aload_n 0, 1) := by decide +kernel
theorem dX12_isNext_44 : decode cX12_isNext 44 = .ok (.getfield 42, 3) := by decide +kernel
theorem dX12_isNext_47 : decode cX12_isNext 47 = .ok (.bipush 7, 2) := by decide +kernel
theorem dX12_isNext_49 : decode cX12_isNext 49 = .ok (.iload_n 2, 1) := by decide +kernel
theorem dX12_isNext_50 : decode cX12_isNext 50 = .ok (.iconst 1, 1) := by decide +kernel
theorem dX12_isNext_51 : decode cX12_isNext 51 = .ok (.iload 5, 2) := by decide +kernel
theorem dX12_isNext_53 : decode cX12_isNext 53 = .ok (.ishl, 1) := by decide +kernel
theorem dX12_isNext_54 : decode cX12_isNext 54 = .ok (.ior, 1) := by decide +kernel
theorem dX12_isNext_55 : decode cX12_isNext 55 = .ok (.imul, 1) := by decide +kernel
theorem dX12_isNext_56 : decode cX12_isNext 56 = .ok (.aload_n 0, 1) := by decide +kernel
theorem dX12_isNext_57 : decode cX12_isNext 57 = .ok (.aload_n 0, 1) := by decide +kernel
theorem dX12_isNext_58 : decode cX12_isNext 58 = .ok (.getfield 39, 3) := by decide +kernel
theorem dX12_isNext_61 : decode cX12_isNext 61 = .ok (.iload 5, 2) := by decide +kernel
theorem dX12_isNext_63 : decode cX12_isNext 63 = .ok (.iaload, 1) := by decide +kernel
theorem dX12_isNext_64 : decode cX12_isNext 64 = .ok (.iconst 1, 1) := by decide +kernel
theorem dX12_isNext_65 : decode cX12_isNext 65 = .ok (.iload_n 1, 1) := by decide +kernel
theorem dX12_isNext_66 : decode cX12_isNext 66 = .ok (.iconst 2, 1) := by decide +kernel
theorem dX12_isNext_67 : decode cX12_isNext 67 = .ok (.irem, 1) := by decide +kernel
theorem dX12_isNext_68 : decode cX12_isNext 68 = .ok (.isub, 1) := by decide +kernel
theorem dX12_isNext_69 : decode cX12_isNext 69 = .ok (.invokevirtual 243, 3) := by decide +kernel
theorem dX12_isNext_72 : decode cX12_isNext 72 = .ok (.iadd, 1) := by decide +kernel
theorem dX12_isNext_73 : decode cX12_isNext 73 = .ok (.iaload, 1) := by decide +kernel
theorem dX12_isNext_74 : decode cX12_isNext 74 = .ok (.iload 4, 2) := by decide +kernel
theorem dX12_isNext_76 : decode cX12_isNext 76 = .ok (.iconst 1, 1) := by decide +kernel
theorem dX12_isNext_77 : decode cX12_isNext 77 = .ok (.isub, 1) := by decide +kernel
theorem dX12_isNext_78 : decode cX12_isNext 78 = .ok (.if_icmp .ne 7, 3) := by decide +kernel
theorem dX12_isNext_81 : decode cX12_isNext 81 = .ok (.iconst 1, 1) := by decide +kernel
theorem dX12_isNext_82 : decode cX12_isNext 82 = .ok (.goto 4, 3) := by decide +kernel
theorem dX12_isNext_85 : decode cX12_isNext 85 = .ok (.iconst 0, 1) := by decide +kernel
theorem dX12_isNext_86 : decode cX12_isNext 86 = .ok (.ireturn, 1) := by decide +kernel
def f_M_isNext   (a1 : Int) (a2 : Int) (a3 : Int) (a4 : Int) (σ : JSg) : Option (Int) :=
  lt_ (dv32 a1 2) fun v1 => bd1 (f_M_has a2 v1 σ) fun r2 => if r2 = 0 then (jn0 (chk (0 ≤ v1 ∧ v1 < 28) <| bd1 (f_M_pip (σ 189 v1.toNat) (w32 (1 - (rm32 a1 2))) σ) fun r4 => chk (0 ≤ (w32 ((w32 (7 * (or32 a2 (sl32 1 v1)))) + r4)) ∧ (w32 ((w32 (7 * (or32 a2 (sl32 1 v1)))) + r4)) < 28672) <| if (σ 190 (w32 ((w32 (7 * (or32 a2 (sl32 1 v1)))) + r4)).toNat) = (w32 (a4 - 1)) then (some 1) else (some 0)) fun j3 => if a3 = (-1) then (j3) else (chk (0 ≤ v1 ∧ v1 < 28) <| bd1 (f_M_pip (σ 189 v1.toNat) (rm32 a1 2) σ) fun r5 => bd1 (f_M_fit r5 a3 σ) fun r6 => if r6 = 0 then (some 0) else (j3))) else (some 0)
set_option maxRecDepth 20000 in
set_option maxHeartbeats 4000000 in
theorem k_M_isNext     (a1 : Int) (a2 : Int) (a3 : Int) (a4 : Int) (σ : JSg) : Call yX12_isNext cX12_isNext 6 (some .boolean) 2 SH RHO [vR 179, vI a1, vI a2, vI a3, vI a4] σ (dIp σ) (f_M_isNext a1 a2 a3 a4 σ) := by
  refine call_of_sim (by decide +kernel) (Nat.le_of_ble_eq_true rfl) ?_
  show Sim RX12 cX12_isNext 6 (some .boolean) 2 SH RHO 0 [(0, vR 179), (1, vI a1), (2, vI a2), (3, vI a3), (4, vI a4)] [] σ (dIp σ) (f_M_isNext a1 a2 a3 a4 σ)
  unfold f_M_isNext
  refine sim_iload_n 1 rfl dX12_isNext_0 ?_
  refine sim_iconst dX12_isNext_1 (by decide) ?_
  refine sim_idivK (by decide) dX12_isNext_2 ?_
  refine sim_istore (fun v1 => [(5, vI v1), (0, vR 179), (1, vI a1), (2, vI a2), (3, vI a3), (4, vI a4)]) (fun _ => rfl) (by decide) dX12_isNext_3 (fun v1 => ?_)
  refine sim_iload_n 3 rfl dX12_isNext_5 ?_
  refine sim_iload 0 rfl dX12_isNext_6 ?_
  refine sim_callSIp s_RX12_201 dX12_isNext_8 (k_M_has SH RHO a2 v1 σ) rfl ⟨by decide, by decide⟩ (S := []) rfl (Nat.le_of_ble_eq_true rfl) (fun r2 => ?_)
  refine sim_if_ne (tgt := 41) dX12_isNext_11 (by decide) ?_ ?_
  · refine sim_iconst dX12_isNext_41 (by decide) ?_
    exact sim_zret (Or.inl rfl) rfl rfl dX12_isNext_42
  · refine sim_iload_n 4 rfl dX12_isNext_14 ?_
    refine sim_iconst dX12_isNext_15 (by decide) ?_
    refine sim_jn0 (pc' := 43) ([(0, vR 179), (1, vI a1), (2, vI a2), (4, vI a4), (5, vI v1)]) ([]) (σ) ?_ (fun j3 hj3 => ?_)
    · refine sim_aload_n 0 rfl dX12_isNext_43 ?_
      refine sim_getR g_RX12_42 sh_179 rh_179_26 dX12_isNext_44 ?_
      refine sim_bipush dX12_isNext_47 (by decide +kernel) ?_
      refine sim_iload_n 2 rfl dX12_isNext_49 ?_
      refine sim_iconst dX12_isNext_50 (by decide) ?_
      refine sim_iload 4 rfl dX12_isNext_51 ?_
      refine sim_ishl dX12_isNext_53 ?_
      refine sim_ior dX12_isNext_54 ?_
      refine sim_imul dX12_isNext_55 ?_
      refine sim_aload_n 0 rfl dX12_isNext_56 ?_
      refine sim_aload_n 0 rfl dX12_isNext_57 ?_
      refine sim_getR g_RX12_39 sh_179 rh_179_25 dX12_isNext_58 ?_
      refine sim_iload 4 rfl dX12_isNext_61 ?_
      refine sim_iaload sh_189 rfl dX12_isNext_63 ?_
      refine sim_iconst dX12_isNext_64 (by decide) ?_
      refine sim_iload_n 1 rfl dX12_isNext_65 ?_
      refine sim_iconst dX12_isNext_66 (by decide) ?_
      refine sim_iremK (by decide) dX12_isNext_67 ?_
      refine sim_isub dX12_isNext_68 ?_
      refine sim_callVIp v_RX12_243 sh_179 dX12_isNext_69 (k_M_pip (σ 189 v1.toNat) (w32 (1 - (rm32 a1 2))) σ) rfl ⟨by decide, by decide⟩ (S := [vI (w32 (7 * (or32 a2 (sl32 1 v1)))), vR 190]) rfl (Nat.le_of_ble_eq_true rfl) (fun r4 => ?_)
      refine sim_iadd dX12_isNext_72 ?_
      refine sim_iaload sh_190 rfl dX12_isNext_73 ?_
      refine sim_iload 3 rfl dX12_isNext_74 ?_
      refine sim_iconst dX12_isNext_76 (by decide) ?_
      refine sim_isub dX12_isNext_77 ?_
      refine sim_icmp_ne (tgt := 85) dX12_isNext_78 (by decide) ?_ ?_
      · refine sim_iconst dX12_isNext_85 (by decide) ?_
        exact sim_zret (Or.inl rfl) rfl rfl dX12_isNext_86
      · refine sim_iconst dX12_isNext_81 (by decide) ?_
        refine sim_goto (tgt := 86) dX12_isNext_82 (by decide) ?_
        exact sim_zret (Or.inr rfl) rfl rfl dX12_isNext_86
    refine sim_icmp_eq (tgt := 43) dX12_isNext_16 (by decide) ?_ ?_
    · exact sim_sub [1, 2, 3, 5, 0] rfl (hj3 )
    · refine sim_aload_n 1 rfl dX12_isNext_19 ?_
      refine sim_aload_n 1 rfl dX12_isNext_20 ?_
      refine sim_aload_n 1 rfl dX12_isNext_21 ?_
      refine sim_getR g_RX12_39 sh_179 rh_179_25 dX12_isNext_22 ?_
      refine sim_iload 0 rfl dX12_isNext_25 ?_
      refine sim_iaload sh_189 rfl dX12_isNext_27 ?_
      refine sim_iload_n 2 rfl dX12_isNext_28 ?_
      refine sim_iconst dX12_isNext_29 (by decide) ?_
      refine sim_iremK (by decide) dX12_isNext_30 ?_
      refine sim_callVIp v_RX12_243 sh_179 dX12_isNext_31 (k_M_pip (σ 189 v1.toNat) (rm32 a1 2) σ) rfl ⟨by decide, by decide⟩ (S := [vR 179]) rfl (Nat.le_of_ble_eq_true rfl) (fun r5 => ?_)
      refine sim_iload_n 4 rfl dX12_isNext_34 ?_
      refine sim_callVIp v_RX12_271 sh_179 dX12_isNext_35 (k_M_fit r5 a3 σ) rfl ⟨by decide, by decide⟩ (S := []) rfl (Nat.le_of_ble_eq_true rfl) (fun r6 => ?_)
      refine sim_if_ne (tgt := 43) dX12_isNext_38 (by decide) ?_ ?_
      · exact sim_sub [1, 2, 3, 5, 0] rfl (hj3 )
      · refine sim_iconst dX12_isNext_41 (by decide) ?_
        exact sim_zret (Or.inl rfl) rfl rfl dX12_isNext_42
