theorem dX8_readEither_0 : decode cX8_readEither 0 = .ok (.aload_n 0, 1) := by decide +kernel
theorem dX8_readEither_1 : decode cX8_readEither 1 = .ok (.aload_n 1, 1) := by decide +kernel
theorem dX8_readEither_2 : decode cX8_readEither 2 = .ok (.aload_n 2, 1) := by decide +kernel
theorem dX8_readEither_3 : decode cX8_readEither 3 = .ok (.iload_n 3, 1) := by decide +kernel
theorem dX8_readEither_4 : decode cX8_readEither 4 = .ok (.invokevirtual 53, 3) := by decide +kernel
theorem dX8_readEither_7 : decode cX8_readEither 7 = .ok (.ifCond .ne 5, 3) := by decide +kernel
theorem dX8_readEither_10 : decode cX8_readEither 10 = .ok (.iconst 0, 1) := by decide +kernel
theorem dX8_readEither_11 : decode cX8_readEither 11 = .ok (.ireturn, 1) := by decide +kernel
theorem dX8_readEither_12 : decode cX8_readEither 12 = .ok (.iconst 0, 1) := by decide +kernel
theorem dX8_readEither_13 : decode cX8_readEither 13 = .ok (.istore 4, 2) := by decide +kernel
theorem dX8_readEither_15 : decode cX8_readEither 15 = .ok (.iload 4, 2) := by decide +kernel
theorem dX8_readEither_17 : decode cX8_readEither 17 = .ok (.bipush 20, 2) := by decide +kernel
theorem dX8_readEither_19 : decode cX8_readEither 19 = .ok (.if_icmp .ge 43, 3) := by decide +kernel
theorem dX8_readEither_22 : decode cX8_readEither 22 = .ok (.aload_n 1, 1) := by decide +kernel
theorem dX8_readEither_23 : decode cX8_readEither 23 = .ok (.getfield 56, 3) := by decide +kernel
theorem dX8_readEither_26 : decode cX8_readEither 26 = .ok (.bipush 9, 2) := by decide +kernel
theorem dX8_readEither_28 : decode cX8_readEither 28 = .ok (.if_icmp .ne 34, 3) := by decide +kernel
theorem dX8_readEither_31 : decode cX8_readEither 31 = .ok (.aload_n 1, 1) := by decide +kernel
theorem dX8_readEither_32 : decode cX8_readEither 32 = .ok (.invokevirtual 59, 3) := by decide +kernel
theorem dX8_readEither_35 : decode cX8_readEither 35 = .ok (.aload_n 0, 1) := by decide +kernel
theorem dX8_readEither_36 : decode cX8_readEither 36 = .ok (.aload_n 1, 1) := by decide +kernel
theorem dX8_readEither_37 : decode cX8_readEither 37 = .ok (.aload_n 2, 1) := by decide +kernel
theorem dX8_readEither_38 : decode cX8_readEither 38 = .ok (.iload_n 3, 1) := by decide +kernel
theorem dX8_readEither_39 : decode cX8_readEither 39 = .ok (.invokevirtual 53, 3) := by decide +kernel
theorem dX8_readEither_42 : decode cX8_readEither 42 = .ok (.ifCond .ne 5, 3) := by decide +kernel
theorem dX8_readEither_45 : decode cX8_readEither 45 = .ok (.iconst 0, 1) := by decide +kernel
theorem dX8_readEither_46 : decode cX8_readEither 46 = .ok (.ireturn, 1) := by decide +kernel
theorem dX8_readEither_47 : decode cX8_readEither 47 = .ok (.aload_n 0, 1) := by decide +kernel
theorem dX8_readEither_48 : decode cX8_readEither 48 = .ok (.bipush 9, 2) := by decide +kernel
theorem dX8_readEither_50 : decode cX8_readEither 50 = .ok (.iconst 0, 1) := by decide +kernel
theorem dX8_readEither_51 : decode cX8_readEither 51 = .ok (.iconst 0, 1) := by decide +kernel
theorem dX8_readEither_52 : decode cX8_readEither 52 = .ok (.invokevirtual 62, 3) := by decide +kernel
theorem dX8_readEither_55 : decode cX8_readEither 55 = .ok (.pop, 1) := by decide +kernel
theorem dX8_readEither_56 : decode cX8_readEither 56 = .ok (.iinc 4 1, 3) := by decide +kernel
theorem dX8_readEither_59 : decode cX8_readEither 59 = .ok (.goto (-44), 3) := by decide +kernel
theorem dX8_readEither_62 : decode cX8_readEither 62 = .ok (.iconst 1, 1) := by decide +kernel
theorem dX8_readEither_63 : decode cX8_readEither 63 = .ok (.ireturn, 1) := by decide +kernel
theorem dX8_readBoth_0 : decode cX8_readBoth 0 = .ok (.aload_n 0, 1) := by decide +kernel
theorem dX8_readBoth_1 : decode cX8_readBoth 1 = .ok (.aload_n 1, 1) := by decide +kernel
theorem dX8_readBoth_2 : decode cX8_readBoth 2 = .ok (.aload_n 2, 1) := by decide +kernel
theorem dX8_readBoth_3 : decode cX8_readBoth 3 = .ok (.iload_n 3, 1) := by decide +kernel
theorem dX8_readBoth_4 : decode cX8_readBoth 4 = .ok (.invokevirtual 66, 3) := by decide +kernel
theorem dX8_readBoth_7 : decode cX8_readBoth 7 = .ok (.ifCond .ne 5, 3) := by decide +kernel
theorem dX8_readBoth_10 : decode cX8_readBoth 10 = .ok (.iconst 0, 1) := by decide +kernel
theorem dX8_readBoth_11 : decode cX8_readBoth 11 = .ok (.ireturn, 1) := by decide +kernel
theorem dX8_readBoth_12 : decode cX8_readBoth 12 = .ok (.iconst 0, 1) := by decide +kernel
theorem dX8_readBoth_13 : decode cX8_readBoth 13 = .ok (.istore 4, 2) := by decide +kernel
theorem dX8_readBoth_15 : decode cX8_readBoth 15 = .ok (.iload 4, 2) := by decide +kernel
theorem dX8_readBoth_17 : decode cX8_readBoth 17 = .ok (.bipush 20, 2) := by decide +kernel
theorem dX8_readBoth_19 : decode cX8_readBoth 19 = .ok (.if_icmp .ge 43, 3) := by decide +kernel
theorem dX8_readBoth_22 : decode cX8_readBoth 22 = .ok (.aload_n 1, 1) := by decide +kernel
theorem dX8_readBoth_23 : decode cX8_readBoth 23 = .ok (.getfield 56, 3) := by decide +kernel
theorem dX8_readBoth_26 : decode cX8_readBoth 26 = .ok (.bipush 10, 2) := by decide +kernel
theorem dX8_readBoth_28 : decode cX8_readBoth 28 = .ok (.if_icmp .ne 34, 3) := by decide +kernel
theorem dX8_readBoth_31 : decode cX8_readBoth 31 = .ok (.aload_n 1, 1) := by decide +kernel
theorem dX8_readBoth_32 : decode cX8_readBoth 32 = .ok (.invokevirtual 59, 3) := by decide +kernel
theorem dX8_readBoth_35 : decode cX8_readBoth 35 = .ok (.aload_n 0, 1) := by decide +kernel
theorem dX8_readBoth_36 : decode cX8_readBoth 36 = .ok (.aload_n 1, 1) := by decide +kernel
theorem dX8_readBoth_37 : decode cX8_readBoth 37 = .ok (.aload_n 2, 1) := by decide +kernel
theorem dX8_readBoth_38 : decode cX8_readBoth 38 = .ok (.iload_n 3, 1) := by decide +kernel
theorem dX8_readBoth_39 : decode cX8_readBoth 39 = .ok (.invokevirtual 66, 3) := by decide +kernel
theorem dX8_readBoth_42 : decode cX8_readBoth 42 = .ok (.ifCond .ne 5, 3) := by decide +kernel
theorem dX8_readBoth_45 : decode cX8_readBoth 45 = .ok (.iconst 0, 1) := by decide +kernel
theorem dX8_readBoth_46 : decode cX8_readBoth 46 = .ok (.ireturn, 1) := by decide +kernel
theorem dX8_readBoth_47 : decode cX8_readBoth 47 = .ok (.aload_n 0, 1) := by decide +kernel
theorem dX8_readBoth_48 : decode cX8_readBoth 48 = .ok (.bipush 10, 2) := by decide +kernel
theorem dX8_readBoth_50 : decode cX8_readBoth 50 = .ok (.iconst 0, 1) := by decide +kernel
theorem dX8_readBoth_51 : decode cX8_readBoth 51 = .ok (.iconst 0, 1) := by decide +kernel
theorem dX8_readBoth_52 : decode cX8_readBoth 52 = .ok (.invokevirtual 62, 3) := by decide +kernel
theorem dX8_readBoth_55 : decode cX8_readBoth 55 = .ok (.pop, 1) := by decide +kernel
theorem dX8_readBoth_56 : decode cX8_readBoth 56 = .ok (.iinc 4 1, 3) := by decide +kernel
theorem dX8_readBoth_59 : decode cX8_readBoth 59 = .ok (.goto (-44), 3) := by decide +kernel
theorem dX8_readBoth_62 : decode cX8_readBoth 62 = .ok (.iconst 1, 1) := by decide +kernel
theorem dX8_readBoth_63 : decode cX8_readBoth 63 = .ok (.ireturn, 1) := by decide +kernel
theorem dX8_readOne_0 : decode cX8_readOne 0 = .ok (.aload_n 1, 1) := by decide +kernel
theorem dX8_readOne_1 : decode cX8_readOne 1 = .ok (.bipush 40, 2) := by decide +kernel
theorem dX8_readOne_3 : decode cX8_readOne 3 = .ok (.invokevirtual 69, 3) := by decide +kernel
theorem dX8_readOne_6 : decode cX8_readOne 6 = .ok (.ifCond .ne 18, 3) := by decide +kernel
theorem dX8_readOne_9 : decode cX8_readOne 9 = .ok (.aload_n 1, 1) := by decide +kernel
theorem dX8_readOne_10 : decode cX8_readOne 10 = .ok (.getfield 56, 3) := by decide +kernel
theorem dX8_readOne_13 : decode cX8_readOne 13 = .ok (.bipush 11, 2) := by decide +kernel
theorem dX8_readOne_15 : decode cX8_readOne 15 = .ok (.if_icmp .ge 9, 3) := by decide +kernel
theorem dX8_readOne_18 : decode cX8_readOne 18 = .ok (.aload_n 1, 1) := by decide +kernel
theorem dX8_readOne_19 : decode cX8_readOne 19 = .ok (.iconst 1, 1) := by decide +kernel
theorem dX8_readOne_20 : decode cX8_readOne 20 = .ok (.invokevirtual 49, 3) := by decide +kernel
theorem dX8_readOne_23 : decode cX8_readOne 23 = .ok (.ireturn, 1) := by decide +kernel
theorem dX8_readOne_24 : decode cX8_readOne 24 = .ok (.aload_n 0, 1) := by decide +kernel
theorem dX8_readOne_25 : decode cX8_readOne 25 = .ok (.getfield 11, 3) := by decide +kernel
theorem dX8_readOne_28 : decode cX8_readOne 28 = .ok (.bipush 20, 2) := by decide +kernel
theorem dX8_readOne_30 : decode cX8_readOne 30 = .ok (.if_icmp .ge 9, 3) := by decide +kernel
theorem dX8_readOne_33 : decode cX8_readOne 33 = .ok (.iload_n 3, 1) := by decide +kernel
theorem dX8_readOne_34 : decode cX8_readOne 34 = .ok (.bipush 8, 2) := by decide +kernel
theorem dX8_readOne_36 : decode cX8_readOne 36 = .ok (.if_icmp .lt 9, 3) := by decide +kernel
theorem dX8_readOne_39 : decode cX8_readOne 39 = .ok (.aload_n 1, 1) := by decide +kernel
theorem dX8_readOne_40 : decode cX8_readOne 40 = .ok (.iconst 4, 1) := by decide +kernel
theorem dX8_readOne_41 : decode cX8_readOne 41 = .ok (.invokevirtual 49, 3) := by decide +kernel
theorem dX8_readOne_44 : decode cX8_readOne 44 = .ok (.ireturn, 1) := by decide +kernel
theorem dX8_readOne_45 : decode cX8_readOne 45 = .ok (.aload_n 0, 1) := by decide +kernel
theorem dX8_readOne_46 : decode cX8_readOne 46 = .ok (.dup, 1) := by decide +kernel
theorem dX8_readOne_47 : decode cX8_readOne 47 = .ok (.getfield 11, 3) := by decide +kernel
theorem dX8_readOne_50 : decode cX8_readOne 50 = .ok (.iconst 1, 1) := by decide +kernel
theorem dX8_readOne_51 : decode cX8_readOne 51 = .ok (.iadd, 1) := by decide +kernel
theorem dX8_readOne_52 : decode cX8_readOne 52 = .ok (.putfield 11, 3) := by decide +kernel
theorem dX8_readOne_55 : decode cX8_readOne 55 = .ok (.aload_n 1, 1) := by decide +kernel
theorem dX8_readOne_56 : decode cX8_readOne 56 = .ok (.getfield 56, 3) := by decide +kernel
theorem dX8_readOne_59 : decode cX8_readOne 59 = .ok (.istore 4, 2) := by decide +kernel
theorem dX8_readOne_61 : decode cX8_readOne 61 = .ok (.aload_n 1, 1) := by decide +kernel
theorem dX8_readOne_62 : decode cX8_readOne 62 = .ok (.invokevirtual 59, 3) := by decide +kernel
theorem dX8_readOne_65 : decode cX8_readOne 65 = .ok (.iload 4, 2) := by decide +kernel
theorem dX8_readOne_67 : decode cX8_readOne 67 = .ok (.tableswitch 168 0 20 #[97, 168, 168, 168, 168, 168, 168, 168, 168, 168, 168, 124, 168, 168, 168, 153, 168, 160, 160, 160, 160], 97) := by decide +kernel
theorem dX8_readOne_164 : decode cX8_readOne 164 = .ok (.aload_n 0, 1) := by decide +kernel
theorem dX8_readOne_165 : decode cX8_readOne 165 = .ok (.aload_n 1, 1) := by decide +kernel
theorem dX8_readOne_166 : decode cX8_readOne 166 = .ok (.aload_n 2, 1) := by decide +kernel
theorem dX8_readOne_167 : decode cX8_readOne 167 = .ok (.iload_n 3, 1) := by decide +kernel
theorem dX8_readOne_168 : decode cX8_readOne 168 = .ok (.iconst 1, 1) := by decide +kernel
theorem dX8_readOne_169 : decode cX8_readOne 169 = .ok (.iadd, 1) := by decide +kernel
theorem dX8_readOne_170 : decode cX8_readOne 170 = .ok (.invokevirtual 40, 3) := by decide +kernel
theorem dX8_readOne_173 : decode cX8_readOne 173 = .ok (.ifCond .eq 16, 3) := by decide +kernel
theorem dX8_readOne_176 : decode cX8_readOne 176 = .ok (.aload_n 1, 1) := by decide +kernel
theorem dX8_readOne_177 : decode cX8_readOne 177 = .ok (.bipush 41, 2) := by decide +kernel
theorem dX8_readOne_179 : decode cX8_readOne 179 = .ok (.invokevirtual 73, 3) := by decide +kernel
theorem dX8_readOne_182 : decode cX8_readOne 182 = .ok (.ifCond .eq 7, 3) := by decide +kernel
theorem dX8_readOne_185 : decode cX8_readOne 185 = .ok (.iconst 1, 1) := by decide +kernel
theorem dX8_readOne_186 : decode cX8_readOne 186 = .ok (.goto 4, 3) := by decide +kernel
theorem dX8_readOne_189 : decode cX8_readOne 189 = .ok (.iconst 0, 1) := by decide +kernel
theorem dX8_readOne_190 : decode cX8_readOne 190 = .ok (.ireturn, 1) := by decide +kernel
theorem dX8_readOne_191 : decode cX8_readOne 191 = .ok (.aload_n 0, 1) := by decide +kernel
theorem dX8_readOne_192 : decode cX8_readOne 192 = .ok (.aload_n 1, 1) := by decide +kernel
theorem dX8_readOne_193 : decode cX8_readOne 193 = .ok (.aload_n 2, 1) := by decide +kernel
theorem dX8_readOne_194 : decode cX8_readOne 194 = .ok (.iload_n 3, 1) := by decide +kernel
theorem dX8_readOne_195 : decode cX8_readOne 195 = .ok (.iconst 1, 1) := by decide +kernel
theorem dX8_readOne_196 : decode cX8_readOne 196 = .ok (.iadd, 1) := by decide +kernel
theorem dX8_readOne_197 : decode cX8_readOne 197 = .ok (.invokevirtual 66, 3) := by decide +kernel
theorem dX8_readOne_200 : decode cX8_readOne 200 = .ok (.ifCond .eq 18, 3) := by decide +kernel
theorem dX8_readOne_203 : decode cX8_readOne 203 = .ok (.aload_n 0, 1) := by decide +kernel
theorem dX8_readOne_204 : decode cX8_readOne 204 = .ok (.bipush 11, 2) := by decide +kernel
theorem dX8_readOne_206 : decode cX8_readOne 206 = .ok (.iconst 0, 1) := by decide +kernel
theorem dX8_readOne_207 : decode cX8_readOne 207 = .ok (.iconst 0, 1) := by decide +kernel
theorem dX8_readOne_208 : decode cX8_readOne 208 = .ok (.invokevirtual 62, 3) := by decide +kernel
theorem dX8_readOne_211 : decode cX8_readOne 211 = .ok (.ifCond .eq 7, 3) := by decide +kernel
theorem dX8_readOne_214 : decode cX8_readOne 214 = .ok (.iconst 1, 1) := by decide +kernel
theorem dX8_readOne_215 : decode cX8_readOne 215 = .ok (.goto 4, 3) := by decide +kernel
theorem dX8_readOne_218 : decode cX8_readOne 218 = .ok (.iconst 0, 1) := by decide +kernel
theorem dX8_readOne_219 : decode cX8_readOne 219 = .ok (.ireturn, 1) := by decide +kernel
theorem dX8_readOne_220 : decode cX8_readOne 220 = .ok (.aload_n 0, 1) := by decide +kernel
theorem dX8_readOne_221 : decode cX8_readOne 221 = .ok (.aload_n 1, 1) := by decide +kernel
theorem dX8_readOne_222 : decode cX8_readOne 222 = .ok (.aload_n 2, 1) := by decide +kernel
theorem dX8_readOne_223 : decode cX8_readOne 223 = .ok (.invokevirtual 76, 3) := by decide +kernel
theorem dX8_readOne_226 : decode cX8_readOne 226 = .ok (.ireturn, 1) := by decide +kernel
theorem dX8_readOne_227 : decode cX8_readOne 227 = .ok (.aload_n 0, 1) := by decide +kernel
theorem dX8_readOne_228 : decode cX8_readOne 228 = .ok (.aload_n 1, 1) := by decide +kernel
theorem dX8_readOne_229 : decode cX8_readOne 229 = .ok (.iload 4, 2) := by decide +kernel
theorem dX8_readOne_231 : decode cX8_readOne 231 = .ok (.invokevirtual 80, 3) := by decide +kernel
theorem dX8_readOne_234 : decode cX8_readOne 234 = .ok (.ireturn, 1) := by decide +kernel
theorem dX8_readOne_235 : decode cX8_readOne 235 = .ok (.aload_n 0, 1) := by decide +kernel
theorem dX8_readOne_236 : decode cX8_readOne 236 = .ok (.iload 4, 2) := by decide +kernel
theorem dX8_readOne_238 : decode cX8_readOne 238 = .ok (.iconst 0, 1) := by decide +kernel
theorem dX8_readOne_239 : decode cX8_readOne 239 = .ok (.iconst 0, 1) := by decide +kernel
theorem dX8_readOne_240 : decode cX8_readOne 240 = .ok (.invokevirtual 62, 3) := by decide +kernel
theorem dX8_readOne_243 : decode cX8_readOne 243 = .ok (.ireturn, 1) := by decide +kernel
def f_Sen_readEither_s (n : Nat) (p : Nat) (q : Nat) (greadEither : Int → JSg → Option (Int × JSg)) (greadBoth : Int → JSg → Option (Int × JSg)) (greadOne : Int → JSg → Option (Int × JSg)) (a3 : Int) (σ : JSg) : Option (Int × JSg) :=
  bd2 (greadBoth a3 σ) fun r1 s2 => if r1 = 0 then (some (0, s2)) else (lt_ 0 fun v3 => wh2 n (fun rc4 (x5 : Int) (s6 : JSg) => if x5 < 20 then (if (s6 2 6) = 9 then (bd1 (f_Tok_step n s6) fun s7 => bd2 (greadBoth a3 s7) fun r8 s9 => if r8 = 0 then (some (0, s9)) else (bd2 (f_Sen_add p 9 0 0 s9) fun r10 s11 => lt_ (w32 (x5 + 1)) fun v12 => rc4 v12 s11)) else (some (1, s6))) else (some (1, s6))) v3 s2)
set_option maxRecDepth 20000 in
set_option maxHeartbeats 4000000 in
theorem k_Sen_readEither_s  (n : Nat) (p : Nat) (q : Nat) (hp : LSen SH RHO p) (hq : LIsl SH RHO q) (greadEither : Int → JSg → Option (Int × JSg)) (greadBoth : Int → JSg → Option (Int × JSg)) (greadOne : Int → JSg → Option (Int × JSg)) (d : Nat) (hd9 : 9 ≤ d) (hgreadEither : ∀ (a3 : Int) (σ : JSg), Call yX8_readEither cX8_readEither 5 (some .boolean) d SH RHO [vR p, vR 2, vR q, vI a3] σ dIm (greadEither a3 σ)) (hgreadBoth : ∀ (a3 : Int) (σ : JSg), Call yX8_readBoth cX8_readBoth 5 (some .boolean) d SH RHO [vR p, vR 2, vR q, vI a3] σ dIm (greadBoth a3 σ)) (hgreadOne : ∀ (a3 : Int) (σ : JSg), Call yX8_readOne cX8_readOne 5 (some .boolean) d SH RHO [vR p, vR 2, vR q, vI a3] σ dIm (greadOne a3 σ)) (a3 : Int) (σ : JSg) : Call yX8_readEither cX8_readEither 5 (some .boolean) (d + 1) SH RHO [vR p, vR 2, vR q, vI a3] σ dIm (f_Sen_readEither_s n p q greadEither greadBoth greadOne a3 σ) := by
  refine call_of_sim (by decide +kernel) (Nat.le_of_ble_eq_true rfl) ?_
  show Sim RX8 cX8_readEither 5 (some .boolean) (d + 1) SH RHO 0 [(0, vR p), (1, vR 2), (2, vR q), (3, vI a3)] [] σ dIm (f_Sen_readEither_s n p q greadEither greadBoth greadOne a3 σ)
  unfold f_Sen_readEither_s
  refine sim_aload_n 0 rfl dX8_readEither_0 ?_
  refine sim_aload_n 1 rfl dX8_readEither_1 ?_
  refine sim_aload_n 2 rfl dX8_readEither_2 ?_
  refine sim_iload_n 3 rfl dX8_readEither_3 ?_
  refine sim_callVIm v_RX8_53 (LSen_o hp) dX8_readEither_4 (hgreadBoth a3 σ) rfl ⟨by omega, by decide⟩ (S := []) rfl (Nat.le_of_ble_eq_true rfl) (fun r1 s2 => ?_)
  refine sim_if_ne (tgt := 12) dX8_readEither_7 (by decide) ?_ ?_
  · refine sim_iconst dX8_readEither_12 (by decide) ?_
    refine sim_istore (fun v3 => [(4, vI v3), (0, vR p), (1, vR 2), (2, vR q), (3, vI a3)]) (fun _ => rfl) (by decide) dX8_readEither_13 (fun v3 => ?_)
    refine sim_sub [1, 2, 3, 4, 0] (L' := [(0, vR p), (1, vR 2), (2, vR q), (3, vI a3), (4, vI v3)]) rfl ?_
    refine sim_wh2 (fun (x5 : Int) (s6 : JSg) => [(0, vR p), (1, vR 2), (2, vR q), (3, vI a3), (4, vI x5)]) (fun (x5 : Int) (s6 : JSg) => s6) ?_ n v3 s2
    intro rc4 hrc4 x5 s6
    refine sim_iload 4 rfl dX8_readEither_15 ?_
    refine sim_bipush dX8_readEither_17 (by decide +kernel) ?_
    refine sim_icmp_ge (tgt := 62) dX8_readEither_19 (by decide) ?_ ?_
    · refine sim_iconst dX8_readEither_62 (by decide) ?_
      exact sim_zret (Or.inr rfl) rfl rfl dX8_readEither_63
    · refine sim_aload_n 1 rfl dX8_readEither_22 ?_
      refine sim_getI g_RX8_56 sh_2 dX8_readEither_23 ?_
      refine sim_bipush dX8_readEither_26 (by decide +kernel) ?_
      refine sim_icmp_ne (tgt := 62) dX8_readEither_28 (by decide) ?_ ?_
      · refine sim_iconst dX8_readEither_62 (by decide) ?_
        exact sim_zret (Or.inr rfl) rfl rfl dX8_readEither_63
      · refine sim_aload_n 1 rfl dX8_readEither_31 ?_
        refine sim_callVVm v_RX8_59 sh_2 dX8_readEither_32 (k_Tok_step n s6) rfl ⟨by omega, by decide⟩ (S := []) rfl (Nat.le_of_ble_eq_true rfl) (fun s7 => ?_)
        refine sim_aload_n 0 rfl dX8_readEither_35 ?_
        refine sim_aload_n 1 rfl dX8_readEither_36 ?_
        refine sim_aload_n 2 rfl dX8_readEither_37 ?_
        refine sim_iload_n 3 rfl dX8_readEither_38 ?_
        refine sim_callVIm v_RX8_53 (LSen_o hp) dX8_readEither_39 (hgreadBoth a3 s7) rfl ⟨by omega, by decide⟩ (S := []) rfl (Nat.le_of_ble_eq_true rfl) (fun r8 s9 => ?_)
        refine sim_if_ne (tgt := 47) dX8_readEither_42 (by decide) ?_ ?_
        · refine sim_aload_n 0 rfl dX8_readEither_47 ?_
          refine sim_bipush dX8_readEither_48 (by decide +kernel) ?_
          refine sim_iconst dX8_readEither_50 (by decide) ?_
          refine sim_iconst dX8_readEither_51 (by decide) ?_
          refine sim_callVIm v_RX8_62 (LSen_o hp) dX8_readEither_52 (k_Sen_add SH RHO p hp 9 0 0 s9) rfl ⟨by omega, by decide⟩ (S := []) rfl (Nat.le_of_ble_eq_true rfl) (fun r10 s11 => ?_)
          refine sim_pop rfl dX8_readEither_55 ?_
          refine sim_iinc 4 rfl (fun v12 => [(4, vI v12), (0, vR p), (1, vR 2), (2, vR q), (3, vI a3)]) (fun _ => rfl) (by decide) dX8_readEither_56 (fun v12 => ?_)
          refine sim_goto (tgt := 15) dX8_readEither_59 (by decide) ?_
          exact sim_sub [1, 2, 3, 4, 0] rfl (hrc4 v12 s11)
        · refine sim_iconst dX8_readEither_45 (by decide) ?_
          exact sim_zret (Or.inl rfl) rfl rfl dX8_readEither_46
  · refine sim_iconst dX8_readEither_10 (by decide) ?_
    exact sim_zret (Or.inl rfl) rfl rfl dX8_readEither_11
def f_Sen_readBoth_s (n : Nat) (p : Nat) (q : Nat) (greadEither : Int → JSg → Option (Int × JSg)) (greadBoth : Int → JSg → Option (Int × JSg)) (greadOne : Int → JSg → Option (Int × JSg)) (a3 : Int) (σ : JSg) : Option (Int × JSg) :=
  bd2 (greadOne a3 σ) fun r1 s2 => if r1 = 0 then (some (0, s2)) else (lt_ 0 fun v3 => wh2 n (fun rc4 (x5 : Int) (s6 : JSg) => if x5 < 20 then (if (s6 2 6) = 10 then (bd1 (f_Tok_step n s6) fun s7 => bd2 (greadOne a3 s7) fun r8 s9 => if r8 = 0 then (some (0, s9)) else (bd2 (f_Sen_add p 10 0 0 s9) fun r10 s11 => lt_ (w32 (x5 + 1)) fun v12 => rc4 v12 s11)) else (some (1, s6))) else (some (1, s6))) v3 s2)
set_option maxRecDepth 20000 in
set_option maxHeartbeats 4000000 in
theorem k_Sen_readBoth_s  (n : Nat) (p : Nat) (q : Nat) (hp : LSen SH RHO p) (hq : LIsl SH RHO q) (greadEither : Int → JSg → Option (Int × JSg)) (greadBoth : Int → JSg → Option (Int × JSg)) (greadOne : Int → JSg → Option (Int × JSg)) (d : Nat) (hd9 : 9 ≤ d) (hgreadEither : ∀ (a3 : Int) (σ : JSg), Call yX8_readEither cX8_readEither 5 (some .boolean) d SH RHO [vR p, vR 2, vR q, vI a3] σ dIm (greadEither a3 σ)) (hgreadBoth : ∀ (a3 : Int) (σ : JSg), Call yX8_readBoth cX8_readBoth 5 (some .boolean) d SH RHO [vR p, vR 2, vR q, vI a3] σ dIm (greadBoth a3 σ)) (hgreadOne : ∀ (a3 : Int) (σ : JSg), Call yX8_readOne cX8_readOne 5 (some .boolean) d SH RHO [vR p, vR 2, vR q, vI a3] σ dIm (greadOne a3 σ)) (a3 : Int) (σ : JSg) : Call yX8_readBoth cX8_readBoth 5 (some .boolean) (d + 1) SH RHO [vR p, vR 2, vR q, vI a3] σ dIm (f_Sen_readBoth_s n p q greadEither greadBoth greadOne a3 σ) := by
  refine call_of_sim (by decide +kernel) (Nat.le_of_ble_eq_true rfl) ?_
  show Sim RX8 cX8_readBoth 5 (some .boolean) (d + 1) SH RHO 0 [(0, vR p), (1, vR 2), (2, vR q), (3, vI a3)] [] σ dIm (f_Sen_readBoth_s n p q greadEither greadBoth greadOne a3 σ)
  unfold f_Sen_readBoth_s
  refine sim_aload_n 0 rfl dX8_readBoth_0 ?_
  refine sim_aload_n 1 rfl dX8_readBoth_1 ?_
  refine sim_aload_n 2 rfl dX8_readBoth_2 ?_
  refine sim_iload_n 3 rfl dX8_readBoth_3 ?_
  refine sim_callVIm v_RX8_66 (LSen_o hp) dX8_readBoth_4 (hgreadOne a3 σ) rfl ⟨by omega, by decide⟩ (S := []) rfl (Nat.le_of_ble_eq_true rfl) (fun r1 s2 => ?_)
  refine sim_if_ne (tgt := 12) dX8_readBoth_7 (by decide) ?_ ?_
  · refine sim_iconst dX8_readBoth_12 (by decide) ?_
    refine sim_istore (fun v3 => [(4, vI v3), (0, vR p), (1, vR 2), (2, vR q), (3, vI a3)]) (fun _ => rfl) (by decide) dX8_readBoth_13 (fun v3 => ?_)
    refine sim_sub [1, 2, 3, 4, 0] (L' := [(0, vR p), (1, vR 2), (2, vR q), (3, vI a3), (4, vI v3)]) rfl ?_
    refine sim_wh2 (fun (x5 : Int) (s6 : JSg) => [(0, vR p), (1, vR 2), (2, vR q), (3, vI a3), (4, vI x5)]) (fun (x5 : Int) (s6 : JSg) => s6) ?_ n v3 s2
    intro rc4 hrc4 x5 s6
    refine sim_iload 4 rfl dX8_readBoth_15 ?_
    refine sim_bipush dX8_readBoth_17 (by decide +kernel) ?_
    refine sim_icmp_ge (tgt := 62) dX8_readBoth_19 (by decide) ?_ ?_
    · refine sim_iconst dX8_readBoth_62 (by decide) ?_
      exact sim_zret (Or.inr rfl) rfl rfl dX8_readBoth_63
    · refine sim_aload_n 1 rfl dX8_readBoth_22 ?_
      refine sim_getI g_RX8_56 sh_2 dX8_readBoth_23 ?_
      refine sim_bipush dX8_readBoth_26 (by decide +kernel) ?_
      refine sim_icmp_ne (tgt := 62) dX8_readBoth_28 (by decide) ?_ ?_
      · refine sim_iconst dX8_readBoth_62 (by decide) ?_
        exact sim_zret (Or.inr rfl) rfl rfl dX8_readBoth_63
      · refine sim_aload_n 1 rfl dX8_readBoth_31 ?_
        refine sim_callVVm v_RX8_59 sh_2 dX8_readBoth_32 (k_Tok_step n s6) rfl ⟨by omega, by decide⟩ (S := []) rfl (Nat.le_of_ble_eq_true rfl) (fun s7 => ?_)
        refine sim_aload_n 0 rfl dX8_readBoth_35 ?_
        refine sim_aload_n 1 rfl dX8_readBoth_36 ?_
        refine sim_aload_n 2 rfl dX8_readBoth_37 ?_
        refine sim_iload_n 3 rfl dX8_readBoth_38 ?_
        refine sim_callVIm v_RX8_66 (LSen_o hp) dX8_readBoth_39 (hgreadOne a3 s7) rfl ⟨by omega, by decide⟩ (S := []) rfl (Nat.le_of_ble_eq_true rfl) (fun r8 s9 => ?_)
        refine sim_if_ne (tgt := 47) dX8_readBoth_42 (by decide) ?_ ?_
        · refine sim_aload_n 0 rfl dX8_readBoth_47 ?_
          refine sim_bipush dX8_readBoth_48 (by decide +kernel) ?_
          refine sim_iconst dX8_readBoth_50 (by decide) ?_
          refine sim_iconst dX8_readBoth_51 (by decide) ?_
          refine sim_callVIm v_RX8_62 (LSen_o hp) dX8_readBoth_52 (k_Sen_add SH RHO p hp 10 0 0 s9) rfl ⟨by omega, by decide⟩ (S := []) rfl (Nat.le_of_ble_eq_true rfl) (fun r10 s11 => ?_)
          refine sim_pop rfl dX8_readBoth_55 ?_
          refine sim_iinc 4 rfl (fun v12 => [(4, vI v12), (0, vR p), (1, vR 2), (2, vR q), (3, vI a3)]) (fun _ => rfl) (by decide) dX8_readBoth_56 (fun v12 => ?_)
          refine sim_goto (tgt := 15) dX8_readBoth_59 (by decide) ?_
          exact sim_sub [1, 2, 3, 4, 0] rfl (hrc4 v12 s11)
        · refine sim_iconst dX8_readBoth_45 (by decide) ?_
          exact sim_zret (Or.inl rfl) rfl rfl dX8_readBoth_46
  · refine sim_iconst dX8_readBoth_10 (by decide) ?_
    exact sim_zret (Or.inl rfl) rfl rfl dX8_readBoth_11
def f_Sen_readOne_s (n : Nat) (p : Nat) (q : Nat) (greadEither : Int → JSg → Option (Int × JSg)) (greadBoth : Int → JSg → Option (Int × JSg)) (greadOne : Int → JSg → Option (Int × JSg)) (a3 : Int) (σ : JSg) : Option (Int × JSg) :=
  bd1 (f_Tok_isSign 40 σ) fun r1 => jn0 (jn0 (bd2 (f_Tok_fail 4 σ) fun r4 s5 => chk (r4 = 0 ∨ r4 = 1) <| some (r4, s5)) fun j3 => if (σ p 0) < 20 then (if a3 < 8 then (lt_ (sp σ p 0 (w32 ((σ p 0) + 1))) fun s6 => lt_ (s6 2 6) fun v7 => bd1 (f_Tok_step n s6) fun s8 => jn0 (bd2 (f_Sen_add p v7 0 0 s8) fun r10 s11 => chk (r10 = 0 ∨ r10 = 1) <| some (r10, s11)) fun j9 => jn0 (bd2 (f_Sen_readMeasure n p v7 s8) fun r13 s14 => chk (r13 = 0 ∨ r13 = 1) <| some (r13, s14)) fun j12 => sw_ v7 0 [bd2 (greadEither (w32 (a3 + 1)) s8) fun r15 s16 => if r15 = 0 then (some (0, s16)) else (bd2 (f_Tok_passes n 41 s16) fun r17 s18 => if r17 = 0 then (some (0, s18)) else (some (1, s18))), j9, j9, j9, j9, j9, j9, j9, j9, j9, j9, bd2 (greadOne (w32 (a3 + 1)) s8) fun r19 s20 => if r19 = 0 then (some (0, s20)) else (bd2 (f_Sen_add p 11 0 0 s20) fun r21 s22 => if r21 = 0 then (some (0, s22)) else (some (1, s22))), j9, j9, j9, bd2 (f_Sen_readOf n p q s8) fun r23 s24 => chk (r23 = 0 ∨ r23 = 1) <| some (r23, s24), j9, j12, j12, j12, j12] (j9)) else (j3)) else (j3)) fun j2 => if r1 = 0 then (if (σ 2 6) < 11 then (bd2 (f_Tok_fail 1 σ) fun r25 s26 => chk (r25 = 0 ∨ r25 = 1) <| some (r25, s26)) else (j2)) else (j2)
set_option maxRecDepth 20000 in
set_option maxHeartbeats 4000000 in
theorem k_Sen_readOne_s  (n : Nat) (p : Nat) (q : Nat) (hp : LSen SH RHO p) (hq : LIsl SH RHO q) (greadEither : Int → JSg → Option (Int × JSg)) (greadBoth : Int → JSg → Option (Int × JSg)) (greadOne : Int → JSg → Option (Int × JSg)) (d : Nat) (hd9 : 9 ≤ d) (hgreadEither : ∀ (a3 : Int) (σ : JSg), Call yX8_readEither cX8_readEither 5 (some .boolean) d SH RHO [vR p, vR 2, vR q, vI a3] σ dIm (greadEither a3 σ)) (hgreadBoth : ∀ (a3 : Int) (σ : JSg), Call yX8_readBoth cX8_readBoth 5 (some .boolean) d SH RHO [vR p, vR 2, vR q, vI a3] σ dIm (greadBoth a3 σ)) (hgreadOne : ∀ (a3 : Int) (σ : JSg), Call yX8_readOne cX8_readOne 5 (some .boolean) d SH RHO [vR p, vR 2, vR q, vI a3] σ dIm (greadOne a3 σ)) (a3 : Int) (σ : JSg) : Call yX8_readOne cX8_readOne 5 (some .boolean) (d + 1) SH RHO [vR p, vR 2, vR q, vI a3] σ dIm (f_Sen_readOne_s n p q greadEither greadBoth greadOne a3 σ) := by
  refine call_of_sim (by decide +kernel) (Nat.le_of_ble_eq_true rfl) ?_
  show Sim RX8 cX8_readOne 5 (some .boolean) (d + 1) SH RHO 0 [(0, vR p), (1, vR 2), (2, vR q), (3, vI a3)] [] σ dIm (f_Sen_readOne_s n p q greadEither greadBoth greadOne a3 σ)
  unfold f_Sen_readOne_s
  refine sim_aload_n 1 rfl dX8_readOne_0 ?_
  refine sim_bipush dX8_readOne_1 (by decide +kernel) ?_
  refine sim_callVIp v_RX8_69 sh_2 dX8_readOne_3 (k_Tok_isSign 40 σ) rfl ⟨by omega, by decide⟩ (S := []) rfl (Nat.le_of_ble_eq_true rfl) (fun r1 => ?_)
  refine sim_jn0 (pc' := 24) ([(0, vR p), (1, vR 2), (2, vR q), (3, vI a3)]) ([]) (σ) ?_ (fun j2 hj2 => ?_)
  · refine sim_aload_n 0 rfl dX8_readOne_24 ?_
    refine sim_getI g_RX8_11 (LSen_o hp) dX8_readOne_25 ?_
    refine sim_bipush dX8_readOne_28 (by decide +kernel) ?_
    refine sim_jn0 (pc' := 39) ([(1, vR 2)]) ([]) (σ) ?_ (fun j3 hj3 => ?_)
    · refine sim_aload_n 0 rfl dX8_readOne_39 ?_
      refine sim_iconst dX8_readOne_40 (by decide) ?_
      refine sim_callVIm v_RX8_49 sh_2 dX8_readOne_41 (k_Tok_fail 4 σ) rfl ⟨by omega, by decide⟩ (S := []) rfl (Nat.le_of_ble_eq_true rfl) (fun r4 s5 => ?_)
      exact sim_zretc rfl rfl dX8_readOne_44
    refine sim_icmp_ge (tgt := 39) dX8_readOne_30 (by decide) ?_ ?_
    · exact sim_sub [1] rfl (hj3 )
    · refine sim_iload_n 3 rfl dX8_readOne_33 ?_
      refine sim_bipush dX8_readOne_34 (by decide +kernel) ?_
      refine sim_icmp_lt (tgt := 45) dX8_readOne_36 (by decide) ?_ ?_
      · refine sim_aload_n 0 rfl dX8_readOne_45 ?_
        refine sim_dup rfl dX8_readOne_46 ?_
        refine sim_getI g_RX8_11 (LSen_o hp) dX8_readOne_47 ?_
        refine sim_iconst dX8_readOne_50 (by decide) ?_
        refine sim_iadd dX8_readOne_51 ?_
        refine sim_putI g_RX8_11 (LSen_o hp) dX8_readOne_52 (fun s6 => ?_)
        refine sim_aload_n 1 rfl dX8_readOne_55 ?_
        refine sim_getI g_RX8_56 sh_2 dX8_readOne_56 ?_
        refine sim_istore (fun v7 => [(4, vI v7), (0, vR p), (1, vR 2), (2, vR q), (3, vI a3)]) (fun _ => rfl) (by decide) dX8_readOne_59 (fun v7 => ?_)
        refine sim_aload_n 2 rfl dX8_readOne_61 ?_
        refine sim_callVVm v_RX8_59 sh_2 dX8_readOne_62 (k_Tok_step n s6) rfl ⟨by omega, by decide⟩ (S := []) rfl (Nat.le_of_ble_eq_true rfl) (fun s8 => ?_)
        refine sim_iload 0 rfl dX8_readOne_65 ?_
        refine sim_jn0 (pc' := 235) ([(0, vR p), (4, vI v7)]) ([]) (s8) ?_ (fun j9 hj9 => ?_)
        · refine sim_aload_n 0 rfl dX8_readOne_235 ?_
          refine sim_iload 1 rfl dX8_readOne_236 ?_
          refine sim_iconst dX8_readOne_238 (by decide) ?_
          refine sim_iconst dX8_readOne_239 (by decide) ?_
          refine sim_callVIm v_RX8_62 (LSen_o hp) dX8_readOne_240 (k_Sen_add SH RHO p hp v7 0 0 s8) rfl ⟨by omega, by decide⟩ (S := []) rfl (Nat.le_of_ble_eq_true rfl) (fun r10 s11 => ?_)
          exact sim_zretc rfl rfl dX8_readOne_243
        refine sim_jn0 (pc' := 227) ([(0, vR p), (1, vR 2), (4, vI v7)]) ([]) (s8) ?_ (fun j12 hj12 => ?_)
        · refine sim_aload_n 0 rfl dX8_readOne_227 ?_
          refine sim_aload_n 1 rfl dX8_readOne_228 ?_
          refine sim_iload 2 rfl dX8_readOne_229 ?_
          refine sim_callVIm v_RX8_80 (LSen_o hp) dX8_readOne_231 (k_Sen_readMeasure n p hp v7 s8) rfl ⟨by omega, by decide⟩ (S := []) rfl (Nat.le_of_ble_eq_true rfl) (fun r13 s14 => ?_)
          exact sim_zretc rfl rfl dX8_readOne_234
        refine sim_tsw2 (td := 235) [164, 235, 235, 235, 235, 235, 235, 235, 235, 235, 235, 191, 235, 235, 235, 220, 235, 227, 227, 227, 227] dX8_readOne_67 (by decide) (by decide) (tsw_of (by decide +kernel)) ⟨?_, ?_, ?_, ?_, ?_, ?_, ?_, ?_, ?_, ?_, ?_, ?_, ?_, ?_, ?_, ?_, ?_, ?_, ?_, ?_, ?_, trivial⟩ ?_
        · refine sim_aload_n 1 rfl dX8_readOne_164 ?_
          refine sim_aload_n 2 rfl dX8_readOne_165 ?_
          refine sim_aload_n 3 rfl dX8_readOne_166 ?_
          refine sim_iload_n 4 rfl dX8_readOne_167 ?_
          refine sim_iconst dX8_readOne_168 (by decide) ?_
          refine sim_iadd dX8_readOne_169 ?_
          refine sim_callVIm v_RX8_40 (LSen_o hp) dX8_readOne_170 (hgreadEither (w32 (a3 + 1)) s8) rfl ⟨by omega, by decide⟩ (S := []) rfl (Nat.le_of_ble_eq_true rfl) (fun r15 s16 => ?_)
          refine sim_if_eq (tgt := 189) dX8_readOne_173 (by decide) ?_ ?_
          · refine sim_iconst dX8_readOne_189 (by decide) ?_
            exact sim_zret (Or.inl rfl) rfl rfl dX8_readOne_190
          · refine sim_aload_n 2 rfl dX8_readOne_176 ?_
            refine sim_bipush dX8_readOne_177 (by decide +kernel) ?_
            refine sim_callVIm v_RX8_73 sh_2 dX8_readOne_179 (k_Tok_passes n 41 s16) rfl ⟨by omega, by decide⟩ (S := []) rfl (Nat.le_of_ble_eq_true rfl) (fun r17 s18 => ?_)
            refine sim_if_eq (tgt := 189) dX8_readOne_182 (by decide) ?_ ?_
            · refine sim_iconst dX8_readOne_189 (by decide) ?_
              exact sim_zret (Or.inl rfl) rfl rfl dX8_readOne_190
            · refine sim_iconst dX8_readOne_185 (by decide) ?_
              refine sim_goto (tgt := 190) dX8_readOne_186 (by decide) ?_
              exact sim_zret (Or.inr rfl) rfl rfl dX8_readOne_190
        · exact sim_sub [1, 0] rfl (hj9 )
        · exact sim_sub [1, 0] rfl (hj9 )
        · exact sim_sub [1, 0] rfl (hj9 )
        · exact sim_sub [1, 0] rfl (hj9 )
        · exact sim_sub [1, 0] rfl (hj9 )
        · exact sim_sub [1, 0] rfl (hj9 )
        · exact sim_sub [1, 0] rfl (hj9 )
        · exact sim_sub [1, 0] rfl (hj9 )
        · exact sim_sub [1, 0] rfl (hj9 )
        · exact sim_sub [1, 0] rfl (hj9 )
        · refine sim_aload_n 1 rfl dX8_readOne_191 ?_
          refine sim_aload_n 2 rfl dX8_readOne_192 ?_
          refine sim_aload_n 3 rfl dX8_readOne_193 ?_
          refine sim_iload_n 4 rfl dX8_readOne_194 ?_
          refine sim_iconst dX8_readOne_195 (by decide) ?_
          refine sim_iadd dX8_readOne_196 ?_
          refine sim_callVIm v_RX8_66 (LSen_o hp) dX8_readOne_197 (hgreadOne (w32 (a3 + 1)) s8) rfl ⟨by omega, by decide⟩ (S := []) rfl (Nat.le_of_ble_eq_true rfl) (fun r19 s20 => ?_)
          refine sim_if_eq (tgt := 218) dX8_readOne_200 (by decide) ?_ ?_
          · refine sim_iconst dX8_readOne_218 (by decide) ?_
            exact sim_zret (Or.inl rfl) rfl rfl dX8_readOne_219
          · refine sim_aload_n 1 rfl dX8_readOne_203 ?_
            refine sim_bipush dX8_readOne_204 (by decide +kernel) ?_
            refine sim_iconst dX8_readOne_206 (by decide) ?_
            refine sim_iconst dX8_readOne_207 (by decide) ?_
            refine sim_callVIm v_RX8_62 (LSen_o hp) dX8_readOne_208 (k_Sen_add SH RHO p hp 11 0 0 s20) rfl ⟨by omega, by decide⟩ (S := []) rfl (Nat.le_of_ble_eq_true rfl) (fun r21 s22 => ?_)
            refine sim_if_eq (tgt := 218) dX8_readOne_211 (by decide) ?_ ?_
            · refine sim_iconst dX8_readOne_218 (by decide) ?_
              exact sim_zret (Or.inl rfl) rfl rfl dX8_readOne_219
            · refine sim_iconst dX8_readOne_214 (by decide) ?_
              refine sim_goto (tgt := 219) dX8_readOne_215 (by decide) ?_
              exact sim_zret (Or.inr rfl) rfl rfl dX8_readOne_219
        · exact sim_sub [1, 0] rfl (hj9 )
        · exact sim_sub [1, 0] rfl (hj9 )
        · exact sim_sub [1, 0] rfl (hj9 )
        · refine sim_aload_n 1 rfl dX8_readOne_220 ?_
          refine sim_aload_n 2 rfl dX8_readOne_221 ?_
          refine sim_aload_n 3 rfl dX8_readOne_222 ?_
          refine sim_callVIm v_RX8_76 (LSen_o hp) dX8_readOne_223 (k_Sen_readOf n p q hp hq s8) rfl ⟨by omega, by decide⟩ (S := []) rfl (Nat.le_of_ble_eq_true rfl) (fun r23 s24 => ?_)
          exact sim_zretc rfl rfl dX8_readOne_226
        · exact sim_sub [1, 0] rfl (hj9 )
        · exact sim_sub [1, 2, 0] rfl (hj12 )
        · exact sim_sub [1, 2, 0] rfl (hj12 )
        · exact sim_sub [1, 2, 0] rfl (hj12 )
        · exact sim_sub [1, 2, 0] rfl (hj12 )
        · exact sim_sub [1, 0] rfl (hj9 )
      · exact sim_sub [1] rfl (hj3 )
  refine sim_if_ne (tgt := 24) dX8_readOne_6 (by decide) ?_ ?_
  · exact sim_sub [0, 1, 2, 3] rfl (hj2 )
  · refine sim_aload_n 1 rfl dX8_readOne_9 ?_
    refine sim_getI g_RX8_56 sh_2 dX8_readOne_10 ?_
    refine sim_bipush dX8_readOne_13 (by decide +kernel) ?_
    refine sim_icmp_ge (tgt := 24) dX8_readOne_15 (by decide) ?_ ?_
    · exact sim_sub [0, 1, 2, 3] rfl (hj2 )
    · refine sim_aload_n 1 rfl dX8_readOne_18 ?_
      refine sim_iconst dX8_readOne_19 (by decide) ?_
      refine sim_callVIm v_RX8_49 sh_2 dX8_readOne_20 (k_Tok_fail 1 σ) rfl ⟨by omega, by decide⟩ (S := []) rfl (Nat.le_of_ble_eq_true rfl) (fun r25 s26 => ?_)
      exact sim_zretc rfl rfl dX8_readOne_23
def fg_Sen_readEither (n : Nat) (p : Nat) (q : Nat) : Nat → (Int → JSg → Option (Int × JSg)) × (Int → JSg → Option (Int × JSg)) × (Int → JSg → Option (Int × JSg))
  | 0 => (fun _ _ => none, fun _ _ => none, fun _ _ => none)
  | r + 1 => (f_Sen_readEither_s n p q (fg_Sen_readEither n p q r).1 (fg_Sen_readEither n p q r).2.1 (fg_Sen_readEither n p q r).2.2, f_Sen_readBoth_s n p q (fg_Sen_readEither n p q r).1 (fg_Sen_readEither n p q r).2.1 (fg_Sen_readEither n p q r).2.2, f_Sen_readOne_s n p q (fg_Sen_readEither n p q r).1 (fg_Sen_readEither n p q r).2.1 (fg_Sen_readEither n p q r).2.2)
def f_Sen_readEither (n : Nat) (p : Nat) (q : Nat) (a3 : Int) (σ : JSg) : Option (Int × JSg) := (fg_Sen_readEither n p q 64).1 a3 σ
def f_Sen_readBoth (n : Nat) (p : Nat) (q : Nat) (a3 : Int) (σ : JSg) : Option (Int × JSg) := (fg_Sen_readEither n p q 64).2.1 a3 σ
def f_Sen_readOne (n : Nat) (p : Nat) (q : Nat) (a3 : Int) (σ : JSg) : Option (Int × JSg) := (fg_Sen_readEither n p q 64).2.2 a3 σ
theorem kg_Sen_readEither  (n : Nat) (p : Nat) (q : Nat) (hp : LSen SH RHO p) (hq : LIsl SH RHO q) : ∀ r : Nat, (∀ (a3 : Int) (σ : JSg), Call yX8_readEither cX8_readEither 5 (some .boolean) (9 + r) SH RHO [vR p, vR 2, vR q, vI a3] σ dIm ((fg_Sen_readEither n p q r).1 a3 σ)) ∧ (∀ (a3 : Int) (σ : JSg), Call yX8_readBoth cX8_readBoth 5 (some .boolean) (9 + r) SH RHO [vR p, vR 2, vR q, vI a3] σ dIm ((fg_Sen_readEither n p q r).2.1 a3 σ)) ∧ (∀ (a3 : Int) (σ : JSg), Call yX8_readOne cX8_readOne 5 (some .boolean) (9 + r) SH RHO [vR p, vR 2, vR q, vI a3] σ dIm ((fg_Sen_readEither n p q r).2.2 a3 σ)) := by
  intro r
  induction r with
  | zero => exact ⟨fun _ _ _ _ _ h => (by cases h), fun _ _ _ _ _ h => (by cases h), fun _ _ _ _ _ h => (by cases h)⟩
  | succ r ih =>
    obtain ⟨h0, h1, h2⟩ := ih
    exact ⟨fun a3 σ => k_Sen_readEither_s n p q hp hq _ _ _ (9 + r) (by omega) h0 h1 h2 a3 σ, fun a3 σ => k_Sen_readBoth_s n p q hp hq _ _ _ (9 + r) (by omega) h0 h1 h2 a3 σ, fun a3 σ => k_Sen_readOne_s n p q hp hq _ _ _ (9 + r) (by omega) h0 h1 h2 a3 σ⟩
theorem k_Sen_readEither  (n : Nat) (p : Nat) (q : Nat) (hp : LSen SH RHO p) (hq : LIsl SH RHO q) (a3 : Int) (σ : JSg) : Call yX8_readEither cX8_readEither 5 (some .boolean) 73 SH RHO [vR p, vR 2, vR q, vI a3] σ dIm (f_Sen_readEither n p q a3 σ) := (kg_Sen_readEither n p q hp hq 64).1 a3 σ
theorem k_Sen_readBoth  (n : Nat) (p : Nat) (q : Nat) (hp : LSen SH RHO p) (hq : LIsl SH RHO q) (a3 : Int) (σ : JSg) : Call yX8_readBoth cX8_readBoth 5 (some .boolean) 73 SH RHO [vR p, vR 2, vR q, vI a3] σ dIm (f_Sen_readBoth n p q a3 σ) := (kg_Sen_readEither n p q hp hq 64).2.1 a3 σ
theorem k_Sen_readOne  (n : Nat) (p : Nat) (q : Nat) (hp : LSen SH RHO p) (hq : LIsl SH RHO q) (a3 : Int) (σ : JSg) : Call yX8_readOne cX8_readOne 5 (some .boolean) 73 SH RHO [vR p, vR 2, vR q, vI a3] σ dIm (f_Sen_readOne n p q a3 σ) := (kg_Sen_readEither n p q hp hq 64).2.2 a3 σ
theorem dX8_readAll_0 : decode cX8_readAll 0 = .ok (.aload_n 0, 1) := by decide +kernel
theorem dX8_readAll_1 : decode cX8_readAll 1 = .ok (.invokevirtual 37, 3) := by decide +kernel
theorem dX8_readAll_4 : decode cX8_readAll 4 = .ok (.aload_n 0, 1) := by decide +kernel
theorem dX8_readAll_5 : decode cX8_readAll 5 = .ok (.aload_n 1, 1) := by decide +kernel
theorem dX8_readAll_6 : decode cX8_readAll 6 = .ok (.aload_n 2, 1) := by decide +kernel
theorem dX8_readAll_7 : decode cX8_readAll 7 = .ok (.iconst 0, 1) := by decide +kernel
theorem dX8_readAll_8 : decode cX8_readAll 8 = .ok (.invokevirtual 40, 3) := by decide +kernel
theorem dX8_readAll_11 : decode cX8_readAll 11 = .ok (.ifCond .ne 5, 3) := by decide +kernel
theorem dX8_readAll_14 : decode cX8_readAll 14 = .ok (.iconst 0, 1) := by decide +kernel
theorem dX8_readAll_15 : decode cX8_readAll 15 = .ok (.ireturn, 1) := by decide +kernel
theorem dX8_readAll_16 : decode cX8_readAll 16 = .ok (.aload_n 1, 1) := by decide +kernel
theorem dX8_readAll_17 : decode cX8_readAll 17 = .ok (.getfield 44, 3) := by decide +kernel
theorem dX8_readAll_20 : decode cX8_readAll 20 = .ok (.ifCond .eq 11, 3) := by decide +kernel
theorem dX8_readAll_23 : decode cX8_readAll 23 = .ok (.aload_n 1, 1) := by decide +kernel
theorem dX8_readAll_24 : decode cX8_readAll 24 = .ok (.iconst 1, 1) := by decide +kernel
theorem dX8_readAll_25 : decode cX8_readAll 25 = .ok (.invokevirtual 49, 3) := by decide +kernel
theorem dX8_readAll_28 : decode cX8_readAll 28 = .ok (.ifCond .eq 7, 3) := by decide +kernel
theorem dX8_readAll_31 : decode cX8_readAll 31 = .ok (.iconst 1, 1) := by decide +kernel
theorem dX8_readAll_32 : decode cX8_readAll 32 = .ok (.goto 4, 3) := by decide +kernel
theorem dX8_readAll_35 : decode cX8_readAll 35 = .ok (.iconst 0, 1) := by decide +kernel
theorem dX8_readAll_36 : decode cX8_readAll 36 = .ok (.ireturn, 1) := by decide +kernel
def f_Sen_readAll (n : Nat) (p : Nat) (q : Nat)  (σ : JSg) : Option (Int × JSg) :=
  bd1 (f_Sen_clear p σ) fun s1 => bd2 (f_Sen_readEither n p q 0 s1) fun r2 s3 => if r2 = 0 then (some (0, s3)) else (jn1 (fun  (s5 : JSg) => some (1, s5)) fun j4 => if (s3 2 4) = 0 then (j4 s3) else (bd2 (f_Tok_fail 1 s3) fun r6 s7 => if r6 = 0 then (some (0, s7)) else (j4 s7)))
set_option maxRecDepth 20000 in
set_option maxHeartbeats 4000000 in
theorem k_Sen_readAll  (n : Nat) (p : Nat) (q : Nat) (hp : LSen SH RHO p) (hq : LIsl SH RHO q)  (σ : JSg) : Call yX8_readAll cX8_readAll 3 (some .boolean) 74 SH RHO [vR p, vR 2, vR q] σ dIm (f_Sen_readAll n p q σ) := by
  refine call_of_sim (by decide +kernel) (Nat.le_of_ble_eq_true rfl) ?_
  show Sim RX8 cX8_readAll 3 (some .boolean) 74 SH RHO 0 [(0, vR p), (1, vR 2), (2, vR q)] [] σ dIm (f_Sen_readAll n p q σ)
  unfold f_Sen_readAll
  refine sim_aload_n 0 rfl dX8_readAll_0 ?_
  refine sim_callVVm v_RX8_37 (LSen_o hp) dX8_readAll_1 (k_Sen_clear SH RHO p hp σ) rfl ⟨by decide, by decide⟩ (S := []) rfl (Nat.le_of_ble_eq_true rfl) (fun s1 => ?_)
  refine sim_aload_n 0 rfl dX8_readAll_4 ?_
  refine sim_aload_n 1 rfl dX8_readAll_5 ?_
  refine sim_aload_n 2 rfl dX8_readAll_6 ?_
  refine sim_iconst dX8_readAll_7 (by decide) ?_
  refine sim_callVIm v_RX8_40 (LSen_o hp) dX8_readAll_8 (k_Sen_readEither n p q hp hq 0 s1) rfl ⟨by decide, by decide⟩ (S := []) rfl (Nat.le_of_ble_eq_true rfl) (fun r2 s3 => ?_)
  refine sim_if_ne (tgt := 16) dX8_readAll_11 (by decide) ?_ ?_
  · refine sim_aload_n 1 rfl dX8_readAll_16 ?_
    refine sim_getI g_RX8_44 sh_2 dX8_readAll_17 ?_
    refine sim_jn1 (pc' := 31) (fun  (s5 : JSg) => []) (fun  (s5 : JSg) => []) (fun  (s5 : JSg) => s5) ?_ (fun j4 hj4 => ?_)
    · intro s5
      refine sim_iconst dX8_readAll_31 (by decide) ?_
      refine sim_goto (tgt := 36) dX8_readAll_32 (by decide) ?_
      exact sim_zret (Or.inr rfl) rfl rfl dX8_readAll_36
    refine sim_if_eq (tgt := 31) dX8_readAll_20 (by decide) ?_ ?_
    · exact sim_sub [] rfl (hj4 s3)
    · refine sim_aload_n 1 rfl dX8_readAll_23 ?_
      refine sim_iconst dX8_readAll_24 (by decide) ?_
      refine sim_callVIm v_RX8_49 sh_2 dX8_readAll_25 (k_Tok_fail 1 s3) rfl ⟨by decide, by decide⟩ (S := []) rfl (Nat.le_of_ble_eq_true rfl) (fun r6 s7 => ?_)
      refine sim_if_eq (tgt := 35) dX8_readAll_28 (by decide) ?_ ?_
      · refine sim_iconst dX8_readAll_35 (by decide) ?_
        exact sim_zret (Or.inl rfl) rfl rfl dX8_readAll_36
      · exact sim_sub [] rfl (hj4 s7)
  · refine sim_iconst dX8_readAll_14 (by decide) ?_
    exact sim_zret (Or.inl rfl) rfl rfl dX8_readAll_15
theorem dX11_sentence_0 : decode cX11_sentence 0 = .ok (.aload_n 0, 1) := by decide +kernel
theorem dX11_sentence_1 : decode cX11_sentence 1 = .ok (.sipush 200, 3) := by decide +kernel
theorem dX11_sentence_4 : decode cX11_sentence 4 = .ok (.invokevirtual 130, 3) := by decide +kernel
theorem dX11_sentence_7 : decode cX11_sentence 7 = .ok (.aload_n 0, 1) := by decide +kernel
theorem dX11_sentence_8 : decode cX11_sentence 8 = .ok (.getfield 33, 3) := by decide +kernel
theorem dX11_sentence_11 : decode cX11_sentence 11 = .ok (.getfield 346, 3) := by decide +kernel
theorem dX11_sentence_14 : decode cX11_sentence 14 = .ok (.aload_n 0, 1) := by decide +kernel
theorem dX11_sentence_15 : decode cX11_sentence 15 = .ok (.getfield 22, 3) := by decide +kernel
theorem dX11_sentence_18 : decode cX11_sentence 18 = .ok (.aload_n 0, 1) := by decide +kernel
theorem dX11_sentence_19 : decode cX11_sentence 19 = .ok (.getfield 29, 3) := by decide +kernel
theorem dX11_sentence_22 : decode cX11_sentence 22 = .ok (.getfield 54, 3) := by decide +kernel
theorem dX11_sentence_25 : decode cX11_sentence 25 = .ok (.invokevirtual 350, 3) := by decide +kernel
theorem dX11_sentence_28 : decode cX11_sentence 28 = .ok (.ifCond .ne 13, 3) := by decide +kernel
theorem dX11_sentence_31 : decode cX11_sentence 31 = .ok (.iconst (-1), 1) := by decide +kernel
theorem dX11_sentence_32 : decode cX11_sentence 32 = .ok (.aload_n 0, 1) := by decide +kernel
theorem dX11_sentence_33 : decode cX11_sentence 33 = .ok (.getfield 22, 3) := by decide +kernel
theorem dX11_sentence_36 : decode cX11_sentence 36 = .ok (.getfield 137, 3) := by decide +kernel
theorem dX11_sentence_39 : decode cX11_sentence 39 = .ok (.isub, 1) := by decide +kernel
theorem dX11_sentence_40 : decode cX11_sentence 40 = .ok (.ireturn, 1) := by decide +kernel
theorem dX11_sentence_41 : decode cX11_sentence 41 = .ok (.aload_n 0, 1) := by decide +kernel
theorem dX11_sentence_42 : decode cX11_sentence 42 = .ok (.getfield 29, 3) := by decide +kernel
theorem dX11_sentence_45 : decode cX11_sentence 45 = .ok (.getfield 346, 3) := by decide +kernel
theorem dX11_sentence_48 : decode cX11_sentence 48 = .ok (.aload_n 0, 1) := by decide +kernel
theorem dX11_sentence_49 : decode cX11_sentence 49 = .ok (.getfield 33, 3) := by decide +kernel
theorem dX11_sentence_52 : decode cX11_sentence 52 = .ok (.getfield 346, 3) := by decide +kernel
theorem dX11_sentence_55 : decode cX11_sentence 55 = .ok (.invokevirtual 351, 3) := by decide +kernel
theorem dX11_sentence_58 : decode cX11_sentence 58 = .ok (.aload_n 0, 1) := by decide +kernel
theorem dX11_sentence_59 : decode cX11_sentence 59 = .ok (.getfield 29, 3) := by decide +kernel
theorem dX11_sentence_62 : decode cX11_sentence 62 = .ok (.getfield 346, 3) := by decide +kernel
theorem dX11_sentence_65 : decode cX11_sentence 65 = .ok (.getfield 354, 3) := by decide +kernel
theorem dX11_sentence_68 : decode cX11_sentence 68 = .ok (.ireturn, 1) := by decide +kernel
def f_W_sentence (n : Nat)   (σ : JSg) : Option (Int × JSg) :=
  bd1 (f_W_takeTape n 200 σ) fun s1 => bd2 (f_Sen_readAll n 44 4 s1) fun r2 s3 => if r2 = 0 then (some (w32 ((-1) - (s3 2 13)), s3)) else (bd1 (f_Sen_copyFrom 21 44 s3) fun s4 => some (s4 21 0, s4))
set_option maxRecDepth 20000 in
set_option maxHeartbeats 4000000 in
theorem k_W_sentence  (n : Nat)    (σ : JSg) : Call yX11_sentence cX11_sentence 1 (some .int) 75 SH RHO [vR 0] σ dIm (f_W_sentence n σ) := by
  refine call_of_sim (by decide +kernel) (Nat.le_of_ble_eq_true rfl) ?_
  show Sim RX11 cX11_sentence 1 (some .int) 75 SH RHO 0 [(0, vR 0)] [] σ dIm (f_W_sentence n σ)
  unfold f_W_sentence
  refine sim_aload_n 0 rfl dX11_sentence_0 ?_
  refine sim_sipush dX11_sentence_1 (by decide +kernel) ?_
  refine sim_callVVm v_RX11_130 sh_0 dX11_sentence_4 (k_W_takeTape n 200 σ) rfl ⟨by decide, by decide⟩ (S := []) rfl (Nat.le_of_ble_eq_true rfl) (fun s1 => ?_)
  refine sim_aload_n 0 rfl dX11_sentence_7 ?_
  refine sim_getR g_RX11_33 sh_0 rh_0_4 dX11_sentence_8 ?_
  refine sim_getR g_RX11_346 (LWld_o lay_26) rh_26_3 dX11_sentence_11 ?_
  refine sim_aload_n 0 rfl dX11_sentence_14 ?_
  refine sim_getR g_RX11_22 sh_0 rh_0_2 dX11_sentence_15 ?_
  refine sim_aload_n 0 rfl dX11_sentence_18 ?_
  refine sim_getR g_RX11_29 sh_0 rh_0_3 dX11_sentence_19 ?_
  refine sim_getR g_RX11_54 (LWld_o lay_3) rh_3_0 dX11_sentence_22 ?_
  refine sim_callVIm v_RX11_350 (LSen_o lay_44) dX11_sentence_25 (k_Sen_readAll n 44 4 lay_44 lay_4 s1) rfl ⟨by decide, by decide⟩ (S := []) rfl (Nat.le_of_ble_eq_true rfl) (fun r2 s3 => ?_)
  refine sim_if_ne (tgt := 41) dX11_sentence_28 (by decide) ?_ ?_
  · refine sim_aload_n 0 rfl dX11_sentence_41 ?_
    refine sim_getR g_RX11_29 sh_0 rh_0_3 dX11_sentence_42 ?_
    refine sim_getR g_RX11_346 (LWld_o lay_3) rh_3_3 dX11_sentence_45 ?_
    refine sim_aload_n 0 rfl dX11_sentence_48 ?_
    refine sim_getR g_RX11_33 sh_0 rh_0_4 dX11_sentence_49 ?_
    refine sim_getR g_RX11_346 (LWld_o lay_26) rh_26_3 dX11_sentence_52 ?_
    refine sim_callVVm v_RX11_351 (LSen_o lay_21) dX11_sentence_55 (k_Sen_copyFrom SH RHO 21 44 lay_21 lay_44 s3) rfl ⟨by decide, by decide⟩ (S := []) rfl (Nat.le_of_ble_eq_true rfl) (fun s4 => ?_)
    refine sim_aload_n 0 rfl dX11_sentence_58 ?_
    refine sim_getR g_RX11_29 sh_0 rh_0_3 dX11_sentence_59 ?_
    refine sim_getR g_RX11_346 (LWld_o lay_3) rh_3_3 dX11_sentence_62 ?_
    refine sim_getI g_RX11_354 (LSen_o lay_21) dX11_sentence_65 ?_
    exact sim_iret rfl rfl dX11_sentence_68
  · refine sim_iconst dX11_sentence_31 (by decide) ?_
    refine sim_aload_n 0 rfl dX11_sentence_32 ?_
    refine sim_getR g_RX11_22 sh_0 rh_0_2 dX11_sentence_33 ?_
    refine sim_getI g_RX11_137 sh_2 dX11_sentence_36 ?_
    refine sim_isub dX11_sentence_39 ?_
    exact sim_iret rfl rfl dX11_sentence_40
theorem dX7_joined_0 : decode cX7_joined 0 = .ok (.iload_n 1, 1) := by decide +kernel
theorem dX7_joined_1 : decode cX7_joined 1 = .ok (.ifCond .le 49, 3) := by decide +kernel
theorem dX7_joined_4 : decode cX7_joined 4 = .ok (.iload_n 1, 1) := by decide +kernel
theorem dX7_joined_5 : decode cX7_joined 5 = .ok (.aload_n 0, 1) := by decide +kernel
theorem dX7_joined_6 : decode cX7_joined 6 = .ok (.getfield 21, 3) := by decide +kernel
theorem dX7_joined_9 : decode cX7_joined 9 = .ok (.if_icmp .ge 41, 3) := by decide +kernel
theorem dX7_joined_12 : decode cX7_joined 12 = .ok (.aload_n 0, 1) := by decide +kernel
theorem dX7_joined_13 : decode cX7_joined 13 = .ok (.getfield 34, 3) := by decide +kernel
theorem dX7_joined_16 : decode cX7_joined 16 = .ok (.aload_n 0, 1) := by decide +kernel
theorem dX7_joined_17 : decode cX7_joined 17 = .ok (.aload_n 0, 1) := by decide +kernel
theorem dX7_joined_18 : decode cX7_joined 18 = .ok (.getfield 18, 3) := by decide +kernel
theorem dX7_joined_21 : decode cX7_joined 21 = .ok (.iload_n 1, 1) := by decide +kernel
theorem dX7_joined_22 : decode cX7_joined 22 = .ok (.iconst 1, 1) := by decide +kernel
theorem dX7_joined_23 : decode cX7_joined 23 = .ok (.isub, 1) := by decide +kernel
theorem dX7_joined_24 : decode cX7_joined 24 = .ok (.iaload, 1) := by decide +kernel
theorem dX7_joined_25 : decode cX7_joined 25 = .ok (.iconst 1, 1) := by decide +kernel
theorem dX7_joined_26 : decode cX7_joined 26 = .ok (.invokevirtual 75, 3) := by decide +kernel
theorem dX7_joined_29 : decode cX7_joined 29 = .ok (.aload_n 0, 1) := by decide +kernel
theorem dX7_joined_30 : decode cX7_joined 30 = .ok (.aload_n 0, 1) := by decide +kernel
theorem dX7_joined_31 : decode cX7_joined 31 = .ok (.getfield 18, 3) := by decide +kernel
theorem dX7_joined_34 : decode cX7_joined 34 = .ok (.iload_n 1, 1) := by decide +kernel
theorem dX7_joined_35 : decode cX7_joined 35 = .ok (.iaload, 1) := by decide +kernel
theorem dX7_joined_36 : decode cX7_joined 36 = .ok (.iconst 0, 1) := by decide +kernel
theorem dX7_joined_37 : decode cX7_joined 37 = .ok (.invokevirtual 75, 3) := by decide +kernel
theorem dX7_joined_40 : decode cX7_joined 40 = .ok (.invokevirtual 79, 3) := by decide +kernel
theorem dX7_joined_43 : decode cX7_joined 43 = .ok (.ifCond .eq 7, 3) := by decide +kernel
theorem dX7_joined_46 : decode cX7_joined 46 = .ok (.iconst 1, 1) := by decide +kernel
theorem dX7_joined_47 : decode cX7_joined 47 = .ok (.goto 4, 3) := by decide +kernel
theorem dX7_joined_50 : decode cX7_joined 50 = .ok (.iconst 0, 1) := by decide +kernel
theorem dX7_joined_51 : decode cX7_joined 51 = .ok (.ireturn, 1) := by decide +kernel
def f_Row_joined  (p : Nat) (ip : Nat) (a1 : Int) (σ : JSg) : Option (Int) :=
  if 0 < a1 then (if a1 < (σ p 4) then (chk (0 ≤ (w32 (a1 - 1)) ∧ (w32 (a1 - 1)) < 28) <| bd1 (f_Row_sideOf p ip (σ (p + 3) (w32 (a1 - 1)).toNat) 1 σ) fun r1 => chk (0 ≤ a1 ∧ a1 < 28) <| bd1 (f_Row_sideOf p ip (σ (p + 3) a1.toNat) 0 σ) fun r2 => bd1 (f_Isl_fit ip r1 r2 σ) fun r3 => if r3 = 0 then (some 0) else (some 1)) else (some 0)) else (some 0)
set_option maxRecDepth 20000 in
set_option maxHeartbeats 4000000 in
theorem k_Row_joined (Sh : JSh) (ρ : JRo)  (p : Nat) (ip : Nat) (hp : LRow Sh ρ p ip) (hip : LIsl Sh ρ ip) (a1 : Int) (σ : JSg) : Call yX7_joined cX7_joined 2 (some .boolean) 1 Sh ρ [vR p, vI a1] σ (dIp σ) (f_Row_joined p ip a1 σ) := by
  refine call_of_sim (by decide +kernel) (Nat.le_of_ble_eq_true rfl) ?_
  show Sim RX7 cX7_joined 2 (some .boolean) 1 Sh ρ 0 [(0, vR p), (1, vI a1)] [] σ (dIp σ) (f_Row_joined p ip a1 σ)
  unfold f_Row_joined
  refine sim_iload_n 1 rfl dX7_joined_0 ?_
  refine sim_if_le (tgt := 50) dX7_joined_1 (by decide) ?_ ?_
  · refine sim_iconst dX7_joined_50 (by decide) ?_
    exact sim_zret (Or.inl rfl) rfl rfl dX7_joined_51
  · refine sim_iload_n 1 rfl dX7_joined_4 ?_
    refine sim_aload_n 0 rfl dX7_joined_5 ?_
    refine sim_getI g_RX7_21 (LRow_o hp) dX7_joined_6 ?_
    refine sim_icmp_ge (tgt := 50) dX7_joined_9 (by decide) ?_ ?_
    · refine sim_iconst dX7_joined_50 (by decide) ?_
      exact sim_zret (Or.inl rfl) rfl rfl dX7_joined_51
    · refine sim_aload_n 0 rfl dX7_joined_12 ?_
      refine sim_getR g_RX7_34 (LRow_o hp) (LRow_r0 hp) dX7_joined_13 ?_
      refine sim_aload_n 0 rfl dX7_joined_16 ?_
      refine sim_aload_n 0 rfl dX7_joined_17 ?_
      refine sim_getR g_RX7_18 (LRow_o hp) (LRow_r3 hp) dX7_joined_18 ?_
      refine sim_iload_n 1 rfl dX7_joined_21 ?_
      refine sim_iconst dX7_joined_22 (by decide) ?_
      refine sim_isub dX7_joined_23 ?_
      refine sim_iaload (LRow_a3 hp) rfl dX7_joined_24 ?_
      refine sim_iconst dX7_joined_25 (by decide) ?_
      refine sim_callVIp v_RX7_75 (LRow_o hp) dX7_joined_26 (k_Row_sideOf Sh ρ p ip hp hip (σ (p + 3) (w32 (a1 - 1)).toNat) 1 σ) rfl ⟨by decide, by decide⟩ (S := [vR ip]) rfl (Nat.le_of_ble_eq_true rfl) (fun r1 => ?_)
      refine sim_aload_n 0 rfl dX7_joined_29 ?_
      refine sim_aload_n 0 rfl dX7_joined_30 ?_
      refine sim_getR g_RX7_18 (LRow_o hp) (LRow_r3 hp) dX7_joined_31 ?_
      refine sim_iload_n 1 rfl dX7_joined_34 ?_
      refine sim_iaload (LRow_a3 hp) rfl dX7_joined_35 ?_
      refine sim_iconst dX7_joined_36 (by decide) ?_
      refine sim_callVIp v_RX7_75 (LRow_o hp) dX7_joined_37 (k_Row_sideOf Sh ρ p ip hp hip (σ (p + 3) a1.toNat) 0 σ) rfl ⟨by decide, by decide⟩ (S := [vI r1, vR ip]) rfl (Nat.le_of_ble_eq_true rfl) (fun r2 => ?_)
      refine sim_callVIp v_RX7_79 (LIsl_o hip) dX7_joined_40 (k_Isl_fit Sh ρ ip hip r1 r2 σ) rfl ⟨by decide, by decide⟩ (S := []) rfl (Nat.le_of_ble_eq_true rfl) (fun r3 => ?_)
      refine sim_if_eq (tgt := 50) dX7_joined_43 (by decide) ?_ ?_
      · refine sim_iconst dX7_joined_50 (by decide) ?_
        exact sim_zret (Or.inl rfl) rfl rfl dX7_joined_51
      · refine sim_iconst dX7_joined_46 (by decide) ?_
        refine sim_goto (tgt := 51) dX7_joined_47 (by decide) ?_
        exact sim_zret (Or.inr rfl) rfl rfl dX7_joined_51
theorem dX11_gaps_0 : decode cX11_gaps 0 = .ok (.iconst 0, 1) := by decide +kernel
theorem dX11_gaps_1 : decode cX11_gaps 1 = .ok (.istore_n 2, 1) := by decide +kernel
theorem dX11_gaps_2 : decode cX11_gaps 2 = .ok (.iconst 1, 1) := by decide +kernel
theorem dX11_gaps_3 : decode cX11_gaps 3 = .ok (.istore_n 3, 1) := by decide +kernel
theorem dX11_gaps_4 : decode cX11_gaps 4 = .ok (.iload_n 3, 1) := by decide +kernel
theorem dX11_gaps_5 : decode cX11_gaps 5 = .ok (.aload_n 0, 1) := by decide +kernel
theorem dX11_gaps_6 : decode cX11_gaps 6 = .ok (.getfield 29, 3) := by decide +kernel
theorem dX11_gaps_9 : decode cX11_gaps 9 = .ok (.getfield 72, 3) := by decide +kernel
theorem dX11_gaps_12 : decode cX11_gaps 12 = .ok (.getfield 205, 3) := by decide +kernel
theorem dX11_gaps_15 : decode cX11_gaps 15 = .ok (.if_icmp .ge 33, 3) := by decide +kernel
theorem dX11_gaps_18 : decode cX11_gaps 18 = .ok (.aload_n 0, 1) := by decide +kernel
theorem dX11_gaps_19 : decode cX11_gaps 19 = .ok (.getfield 29, 3) := by decide +kernel
theorem dX11_gaps_22 : decode cX11_gaps 22 = .ok (.getfield 72, 3) := by decide +kernel
theorem dX11_gaps_25 : decode cX11_gaps 25 = .ok (.iload_n 3, 1) := by decide +kernel
theorem dX11_gaps_26 : decode cX11_gaps 26 = .ok (.invokevirtual 285, 3) := by decide +kernel
theorem dX11_gaps_29 : decode cX11_gaps 29 = .ok (.ifCond .ne 13, 3) := by decide +kernel
theorem dX11_gaps_32 : decode cX11_gaps 32 = .ok (.iload_n 2, 1) := by decide +kernel
theorem dX11_gaps_33 : decode cX11_gaps 33 = .ok (.iload_n 1, 1) := by decide +kernel
theorem dX11_gaps_34 : decode cX11_gaps 34 = .ok (.if_icmp .ne 5, 3) := by decide +kernel
theorem dX11_gaps_37 : decode cX11_gaps 37 = .ok (.iload_n 3, 1) := by decide +kernel
theorem dX11_gaps_38 : decode cX11_gaps 38 = .ok (.ireturn, 1) := by decide +kernel
theorem dX11_gaps_39 : decode cX11_gaps 39 = .ok (.iinc 2 1, 3) := by decide +kernel
theorem dX11_gaps_42 : decode cX11_gaps 42 = .ok (.iinc 3 1, 3) := by decide +kernel
theorem dX11_gaps_45 : decode cX11_gaps 45 = .ok (.goto (-41), 3) := by decide +kernel
theorem dX11_gaps_48 : decode cX11_gaps 48 = .ok (.iload_n 1, 1) := by decide +kernel
theorem dX11_gaps_49 : decode cX11_gaps 49 = .ok (.iconst (-1), 1) := by decide +kernel
theorem dX11_gaps_50 : decode cX11_gaps 50 = .ok (.if_icmp .ne 7, 3) := by decide +kernel
theorem dX11_gaps_53 : decode cX11_gaps 53 = .ok (.iload_n 2, 1) := by decide +kernel
theorem dX11_gaps_54 : decode cX11_gaps 54 = .ok (.goto 4, 3) := by decide +kernel
theorem dX11_gaps_57 : decode cX11_gaps 57 = .ok (.iconst (-1), 1) := by decide +kernel
theorem dX11_gaps_58 : decode cX11_gaps 58 = .ok (.ireturn, 1) := by decide +kernel
def f_W_gaps (n : Nat)  (a1 : Int) (σ : JSg) : Option (Int) :=
  lt_ 0 fun v1 => lt_ 1 fun v2 => wh2 n (fun rc3 (x4 : Int) (x5 : Int) => if x5 < (σ 11 4) then (bd1 (f_Row_joined 11 4 x5 σ) fun r6 => jn1 (fun (y8 : Int) => lt_ (w32 (x5 + 1)) fun v9 => rc3 y8 v9) fun j7 => if r6 = 0 then (if x4 = a1 then (some x5) else (lt_ (w32 (x4 + 1)) fun v10 => j7 v10)) else (j7 x4)) else (if a1 = (-1) then (some x4) else (some (-1)))) v1 v2
set_option maxRecDepth 20000 in
set_option maxHeartbeats 4000000 in
theorem k_W_gaps  (n : Nat)   (a1 : Int) (σ : JSg) : Call yX11_gaps cX11_gaps 4 (some .int) 2 SH RHO [vR 0, vI a1] σ (dIp σ) (f_W_gaps n a1 σ) := by
  refine call_of_sim (by decide +kernel) (Nat.le_of_ble_eq_true rfl) ?_
  show Sim RX11 cX11_gaps 4 (some .int) 2 SH RHO 0 [(0, vR 0), (1, vI a1)] [] σ (dIp σ) (f_W_gaps n a1 σ)
  unfold f_W_gaps
  refine sim_iconst dX11_gaps_0 (by decide) ?_
  refine sim_istore_n (fun v1 => [(2, vI v1), (0, vR 0), (1, vI a1)]) (fun _ => rfl) (by decide) dX11_gaps_1 (fun v1 => ?_)
  refine sim_iconst dX11_gaps_2 (by decide) ?_
  refine sim_istore_n (fun v2 => [(3, vI v2), (2, vI v1), (0, vR 0), (1, vI a1)]) (fun _ => rfl) (by decide) dX11_gaps_3 (fun v2 => ?_)
  refine sim_sub [2, 3, 1, 0] (L' := [(0, vR 0), (1, vI a1), (2, vI v1), (3, vI v2)]) rfl ?_
  refine sim_wh2 (fun (x4 : Int) (x5 : Int) => [(0, vR 0), (1, vI a1), (2, vI x4), (3, vI x5)]) (fun (x4 : Int) (x5 : Int) => σ) ?_ n v1 v2
  intro rc3 hrc3 x4 x5
  refine sim_iload_n 3 rfl dX11_gaps_4 ?_
  refine sim_aload_n 0 rfl dX11_gaps_5 ?_
  refine sim_getR g_RX11_29 sh_0 rh_0_3 dX11_gaps_6 ?_
  refine sim_getR g_RX11_72 (LWld_o lay_3) rh_3_1 dX11_gaps_9 ?_
  refine sim_getI g_RX11_205 (LRow_o lay_11) dX11_gaps_12 ?_
  refine sim_icmp_ge (tgt := 48) dX11_gaps_15 (by decide) ?_ ?_
  · refine sim_iload_n 1 rfl dX11_gaps_48 ?_
    refine sim_iconst dX11_gaps_49 (by decide) ?_
    refine sim_icmp_ne (tgt := 57) dX11_gaps_50 (by decide) ?_ ?_
    · refine sim_iconst dX11_gaps_57 (by decide) ?_
      exact sim_iret rfl rfl dX11_gaps_58
    · refine sim_iload_n 2 rfl dX11_gaps_53 ?_
      refine sim_goto (tgt := 58) dX11_gaps_54 (by decide) ?_
      exact sim_iret rfl rfl dX11_gaps_58
  · refine sim_aload_n 0 rfl dX11_gaps_18 ?_
    refine sim_getR g_RX11_29 sh_0 rh_0_3 dX11_gaps_19 ?_
    refine sim_getR g_RX11_72 (LWld_o lay_3) rh_3_1 dX11_gaps_22 ?_
    refine sim_iload_n 3 rfl dX11_gaps_25 ?_
    refine sim_callVIp v_RX11_285 (LRow_o lay_11) dX11_gaps_26 (k_Row_joined SH RHO 11 4 lay_11 lay_4 x5 σ) rfl ⟨by decide, by decide⟩ (S := []) rfl (Nat.le_of_ble_eq_true rfl) (fun r6 => ?_)
    refine sim_jn1 (pc' := 42) (fun (y8 : Int) => [(0, vR 0), (1, vI a1), (2, vI y8), (3, vI x5)]) (fun (y8 : Int) => []) (fun (y8 : Int) => σ) ?_ (fun j7 hj7 => ?_)
    · intro y8
      refine sim_iinc 3 rfl (fun v9 => [(3, vI v9), (0, vR 0), (1, vI a1), (2, vI y8)]) (fun _ => rfl) (by decide) dX11_gaps_42 (fun v9 => ?_)
      refine sim_goto (tgt := 4) dX11_gaps_45 (by decide) ?_
      exact sim_sub [1, 2, 3, 0] rfl (hrc3 y8 v9)
    refine sim_if_ne (tgt := 42) dX11_gaps_29 (by decide) ?_ ?_
    · exact sim_sub [0, 1, 2, 3] rfl (hj7 x4)
    · refine sim_iload_n 2 rfl dX11_gaps_32 ?_
      refine sim_iload_n 1 rfl dX11_gaps_33 ?_
      refine sim_icmp_ne (tgt := 39) dX11_gaps_34 (by decide) ?_ ?_
      · refine sim_iinc 2 rfl (fun v10 => [(2, vI v10), (0, vR 0), (1, vI a1), (3, vI x5)]) (fun _ => rfl) (by decide) dX11_gaps_39 (fun v10 => ?_)
        exact sim_sub [1, 2, 0, 3] rfl (hj7 v10)
      · refine sim_iload_n 3 rfl dX11_gaps_37 ?_
        exact sim_iret rfl rfl dX11_gaps_38
theorem dX11_byteAt_0 : decode cX11_byteAt 0 = .ok (.iload_n 1, 1) := by decide +kernel
theorem dX11_byteAt_1 : decode cX11_byteAt 1 = .ok (.ifCond .lt 24, 3) := by decide +kernel
theorem dX11_byteAt_4 : decode cX11_byteAt 4 = .ok (.iload_n 1, 1) := by decide +kernel
theorem dX11_byteAt_5 : decode cX11_byteAt 5 = .ok (.aload_n 0, 1) := by decide +kernel
theorem dX11_byteAt_6 : decode cX11_byteAt 6 = .ok (.getfield 121, 3) := by decide +kernel
theorem dX11_byteAt_9 : decode cX11_byteAt 9 = .ok (.if_icmp .ge 16, 3) := by decide +kernel
theorem dX11_byteAt_12 : decode cX11_byteAt 12 = .ok (.aload_n 0, 1) := by decide +kernel
theorem dX11_byteAt_13 : decode cX11_byteAt 13 = .ok (.getfield 118, 3) := by decide +kernel
theorem dX11_byteAt_16 : decode cX11_byteAt 16 = .ok (.iload_n 1, 1) := by decide +kernel
theorem dX11_byteAt_17 : decode cX11_byteAt 17 = .ok (.baload, 1) := by decide +kernel
theorem dX11_byteAt_18 : decode cX11_byteAt 18 = .ok (.sipush 255, 3) := by decide +kernel
theorem dX11_byteAt_21 : decode cX11_byteAt 21 = .ok (.iand, 1) := by decide +kernel
theorem dX11_byteAt_22 : decode cX11_byteAt 22 = .ok (.goto 4, 3) := by decide +kernel
theorem dX11_byteAt_25 : decode cX11_byteAt 25 = .ok (.iconst (-1), 1) := by decide +kernel
theorem dX11_byteAt_26 : decode cX11_byteAt 26 = .ok (.ireturn, 1) := by decide +kernel
def f_W_byteAt   (a1 : Int) (σ : JSg) : Option (Int) :=
  if a1 < 0 then (some (-1)) else (if a1 < (σ 0 18) then (chk (0 ≤ a1 ∧ a1 < 112) <| some (an32 (σ 122 a1.toNat) 255)) else (some (-1)))
set_option maxRecDepth 20000 in
set_option maxHeartbeats 4000000 in
theorem k_W_byteAt     (a1 : Int) (σ : JSg) : Call yX11_byteAt cX11_byteAt 2 (some .int) 0 SH RHO [vR 0, vI a1] σ (dIp σ) (f_W_byteAt a1 σ) := by
  refine call_of_sim (by decide +kernel) (Nat.le_of_ble_eq_true rfl) ?_
  show Sim RX11 cX11_byteAt 2 (some .int) 0 SH RHO 0 [(0, vR 0), (1, vI a1)] [] σ (dIp σ) (f_W_byteAt a1 σ)
  unfold f_W_byteAt
  refine sim_iload_n 1 rfl dX11_byteAt_0 ?_
  refine sim_if_lt (tgt := 25) dX11_byteAt_1 (by decide) ?_ ?_
  · refine sim_iconst dX11_byteAt_25 (by decide) ?_
    exact sim_iret rfl rfl dX11_byteAt_26
  · refine sim_iload_n 1 rfl dX11_byteAt_4 ?_
    refine sim_aload_n 0 rfl dX11_byteAt_5 ?_
    refine sim_getI g_RX11_121 sh_0 dX11_byteAt_6 ?_
    refine sim_icmp_ge (tgt := 25) dX11_byteAt_9 (by decide) ?_ ?_
    · refine sim_iconst dX11_byteAt_25 (by decide) ?_
      exact sim_iret rfl rfl dX11_byteAt_26
    · refine sim_aload_n 0 rfl dX11_byteAt_12 ?_
      refine sim_getR g_RX11_118 sh_0 rh_0_17 dX11_byteAt_13 ?_
      refine sim_iload_n 1 rfl dX11_byteAt_16 ?_
      refine sim_baload sh_122 rfl dX11_byteAt_17 ?_
      refine sim_sipush dX11_byteAt_18 (by decide +kernel) ?_
      refine sim_iand dX11_byteAt_21 ?_
      refine sim_goto (tgt := 26) dX11_byteAt_22 (by decide) ?_
      exact sim_iret rfl rfl dX11_byteAt_26
theorem dX11_writeByte_0 : decode cX11_writeByte 0 = .ok (.aload_n 0, 1) := by decide +kernel
theorem dX11_writeByte_1 : decode cX11_writeByte 1 = .ok (.getfield 121, 3) := by decide +kernel
theorem dX11_writeByte_4 : decode cX11_writeByte 4 = .ok (.aload_n 0, 1) := by decide +kernel
theorem dX11_writeByte_5 : decode cX11_writeByte 5 = .ok (.getfield 118, 3) := by decide +kernel
theorem dX11_writeByte_8 : decode cX11_writeByte 8 = .ok (.arraylength, 1) := by decide +kernel
theorem dX11_writeByte_9 : decode cX11_writeByte 9 = .ok (.if_icmp .ge 24, 3) := by decide +kernel
theorem dX11_writeByte_12 : decode cX11_writeByte 12 = .ok (.aload_n 0, 1) := by decide +kernel
theorem dX11_writeByte_13 : decode cX11_writeByte 13 = .ok (.getfield 118, 3) := by decide +kernel
theorem dX11_writeByte_16 : decode cX11_writeByte 16 = .ok (.aload_n 0, 1) := by decide +kernel
theorem dX11_writeByte_17 : decode cX11_writeByte 17 = .ok (.getfield 121, 3) := by decide +kernel
theorem dX11_writeByte_20 : decode cX11_writeByte 20 = .ok (.iload_n 1, 1) := by decide +kernel
theorem dX11_writeByte_21 : decode cX11_writeByte 21 = .ok (.i2b, 1) := by decide +kernel
theorem dX11_writeByte_22 : decode cX11_writeByte 22 = .ok (.bastore, 1) := by decide +kernel
theorem dX11_writeByte_23 : decode cX11_writeByte 23 = .ok (.aload_n 0, 1) := by decide +kernel
theorem dX11_writeByte_24 : decode cX11_writeByte 24 = .ok (.dup, 1) := by decide +kernel
theorem dX11_writeByte_25 : decode cX11_writeByte 25 = .ok (.getfield 121, 3) := by decide +kernel
theorem dX11_writeByte_28 : decode cX11_writeByte 28 = .ok (.iconst 1, 1) := by decide +kernel
theorem dX11_writeByte_29 : decode cX11_writeByte 29 = .ok (.iadd, 1) := by decide +kernel
theorem dX11_writeByte_30 : decode cX11_writeByte 30 = .ok (.putfield 121, 3) := by decide +kernel
theorem dX11_writeByte_33 : decode cX11_writeByte 33 = .ok (.return_, 1) := by decide +kernel
def f_W_writeByte   (a1 : Int) (σ : JSg) : Option (JSg) :=
  if (σ 0 18) < 112 then (chk (0 ≤ (σ 0 18) ∧ (σ 0 18) < 112) <| lt_ (sp σ 122 (σ 0 18).toNat (b8 (b8 a1))) fun s1 => lt_ (sp s1 0 18 (w32 ((s1 0 18) + 1))) fun s2 => some s2) else (some (σ))
set_option maxRecDepth 20000 in
set_option maxHeartbeats 4000000 in
theorem k_W_writeByte     (a1 : Int) (σ : JSg) : Call yX11_writeByte cX11_writeByte 2 none 0 SH RHO [vR 0, vI a1] σ dVm (f_W_writeByte a1 σ) := by
  refine call_of_sim (by decide +kernel) (Nat.le_of_ble_eq_true rfl) ?_
  show Sim RX11 cX11_writeByte 2 none 0 SH RHO 0 [(0, vR 0), (1, vI a1)] [] σ dVm (f_W_writeByte a1 σ)
  unfold f_W_writeByte
  refine sim_aload_n 0 rfl dX11_writeByte_0 ?_
  refine sim_getI g_RX11_121 sh_0 dX11_writeByte_1 ?_
  refine sim_aload_n 0 rfl dX11_writeByte_4 ?_
  refine sim_getR g_RX11_118 sh_0 rh_0_17 dX11_writeByte_5 ?_
  refine sim_alen sh_122 (by decide) ⟨rfl, okI_lit (by decide)⟩ dX11_writeByte_8 ?_
  refine sim_icmp_ge (tgt := 33) dX11_writeByte_9 (by decide) ?_ ?_
  · exact sim_vret rfl rfl dX11_writeByte_33
  · refine sim_aload_n 0 rfl dX11_writeByte_12 ?_
    refine sim_getR g_RX11_118 sh_0 rh_0_17 dX11_writeByte_13 ?_
    refine sim_aload_n 0 rfl dX11_writeByte_16 ?_
    refine sim_getI g_RX11_121 sh_0 dX11_writeByte_17 ?_
    refine sim_iload_n 1 rfl dX11_writeByte_20 ?_
    refine sim_i2b dX11_writeByte_21 ?_
    refine sim_bastore sh_122 rfl dX11_writeByte_22 (fun s1 => ?_)
    refine sim_aload_n 0 rfl dX11_writeByte_23 ?_
    refine sim_dup rfl dX11_writeByte_24 ?_
    refine sim_getI g_RX11_121 sh_0 dX11_writeByte_25 ?_
    refine sim_iconst dX11_writeByte_28 (by decide) ?_
    refine sim_iadd dX11_writeByte_29 ?_
    refine sim_putI g_RX11_121 sh_0 dX11_writeByte_30 (fun s2 => ?_)
    exact sim_vret rfl rfl dX11_writeByte_33
theorem dX11_writePips_0 : decode cX11_writePips 0 = .ok (.aload_n 0, 1) := by decide +kernel
theorem dX11_writePips_1 : decode cX11_writePips 1 = .ok (.getfield 121, 3) := by decide +kernel
theorem dX11_writePips_4 : decode cX11_writePips 4 = .ok (.ifCond .le 9, 3) := by decide +kernel
theorem dX11_writePips_7 : decode cX11_writePips 7 = .ok (.aload_n 0, 1) := by decide +kernel
theorem dX11_writePips_8 : decode cX11_writePips 8 = .ok (.bipush 32, 2) := by decide +kernel
theorem dX11_writePips_10 : decode cX11_writePips 10 = .ok (.invokevirtual 341, 3) := by decide +kernel
theorem dX11_writePips_13 : decode cX11_writePips 13 = .ok (.aload_n 0, 1) := by decide +kernel
theorem dX11_writePips_14 : decode cX11_writePips 14 = .ok (.bipush 48, 2) := by decide +kernel
theorem dX11_writePips_16 : decode cX11_writePips 16 = .ok (.iload_n 1, 1) := by decide +kernel
theorem dX11_writePips_17 : decode cX11_writePips 17 = .ok (.iadd, 1) := by decide +kernel
theorem dX11_writePips_18 : decode cX11_writePips 18 = .ok (.invokevirtual 341, 3) := by decide +kernel
theorem dX11_writePips_21 : decode cX11_writePips 21 = .ok (.return_, 1) := by decide +kernel
def f_W_writePips   (a1 : Int) (σ : JSg) : Option (JSg) :=
  jn1 (fun  (s2 : JSg) => bd1 (f_W_writeByte (w32 (48 + a1)) s2) fun s3 => some s3) fun j1 => if 0 < (σ 0 18) then (bd1 (f_W_writeByte 32 σ) fun s4 => j1 s4) else (j1 (σ))
set_option maxRecDepth 20000 in
set_option maxHeartbeats 4000000 in
theorem k_W_writePips     (a1 : Int) (σ : JSg) : Call yX11_writePips cX11_writePips 2 none 1 SH RHO [vR 0, vI a1] σ dVm (f_W_writePips a1 σ) := by
  refine call_of_sim (by decide +kernel) (Nat.le_of_ble_eq_true rfl) ?_
  show Sim RX11 cX11_writePips 2 none 1 SH RHO 0 [(0, vR 0), (1, vI a1)] [] σ dVm (f_W_writePips a1 σ)
  unfold f_W_writePips
  refine sim_aload_n 0 rfl dX11_writePips_0 ?_
  refine sim_getI g_RX11_121 sh_0 dX11_writePips_1 ?_
  refine sim_jn1 (pc' := 13) (fun  (s2 : JSg) => [(0, vR 0), (1, vI a1)]) (fun  (s2 : JSg) => []) (fun  (s2 : JSg) => s2) ?_ (fun j1 hj1 => ?_)
  · intro s2
    refine sim_aload_n 0 rfl dX11_writePips_13 ?_
    refine sim_bipush dX11_writePips_14 (by decide +kernel) ?_
    refine sim_iload_n 1 rfl dX11_writePips_16 ?_
    refine sim_iadd dX11_writePips_17 ?_
    refine sim_callVVm v_RX11_341 sh_0 dX11_writePips_18 (k_W_writeByte (w32 (48 + a1)) s2) rfl ⟨by decide, by decide⟩ (S := []) rfl (Nat.le_of_ble_eq_true rfl) (fun s3 => ?_)
    exact sim_vret rfl rfl dX11_writePips_21
  refine sim_if_le (tgt := 13) dX11_writePips_4 (by decide) ?_ ?_
  · exact sim_sub [0, 1] rfl (hj1 (σ))
  · refine sim_aload_n 0 rfl dX11_writePips_7 ?_
    refine sim_bipush dX11_writePips_8 (by decide +kernel) ?_
    refine sim_callVVm v_RX11_341 sh_0 dX11_writePips_10 (k_W_writeByte 32 σ) rfl ⟨by decide, by decide⟩ (S := []) rfl (Nat.le_of_ble_eq_true rfl) (fun s4 => ?_)
    exact sim_sub [0, 1] rfl (hj1 s4)
theorem dX11_write_0 : decode cX11_write 0 = .ok (.aload_n 0, 1) := by decide +kernel
theorem dX11_write_1 : decode cX11_write 1 = .ok (.iconst 0, 1) := by decide +kernel
theorem dX11_write_2 : decode cX11_write 2 = .ok (.putfield 121, 3) := by decide +kernel
theorem dX11_write_5 : decode cX11_write 5 = .ok (.iconst 0, 1) := by decide +kernel
theorem dX11_write_6 : decode cX11_write 6 = .ok (.istore_n 1, 1) := by decide +kernel
theorem dX11_write_7 : decode cX11_write 7 = .ok (.iload_n 1, 1) := by decide +kernel
theorem dX11_write_8 : decode cX11_write 8 = .ok (.aload_n 0, 1) := by decide +kernel
theorem dX11_write_9 : decode cX11_write 9 = .ok (.getfield 29, 3) := by decide +kernel
theorem dX11_write_12 : decode cX11_write 12 = .ok (.getfield 72, 3) := by decide +kernel
theorem dX11_write_15 : decode cX11_write 15 = .ok (.getfield 205, 3) := by decide +kernel
theorem dX11_write_18 : decode cX11_write 18 = .ok (.if_icmp .ge 63, 3) := by decide +kernel
theorem dX11_write_21 : decode cX11_write 21 = .ok (.aload_n 0, 1) := by decide +kernel
theorem dX11_write_22 : decode cX11_write 22 = .ok (.aload_n 0, 1) := by decide +kernel
theorem dX11_write_23 : decode cX11_write 23 = .ok (.getfield 29, 3) := by decide +kernel
theorem dX11_write_26 : decode cX11_write 26 = .ok (.getfield 72, 3) := by decide +kernel
theorem dX11_write_29 : decode cX11_write 29 = .ok (.aload_n 0, 1) := by decide +kernel
theorem dX11_write_30 : decode cX11_write 30 = .ok (.getfield 29, 3) := by decide +kernel
theorem dX11_write_33 : decode cX11_write 33 = .ok (.getfield 72, 3) := by decide +kernel
theorem dX11_write_36 : decode cX11_write 36 = .ok (.getfield 208, 3) := by decide +kernel
theorem dX11_write_39 : decode cX11_write 39 = .ok (.iload_n 1, 1) := by decide +kernel
theorem dX11_write_40 : decode cX11_write 40 = .ok (.iaload, 1) := by decide +kernel
theorem dX11_write_41 : decode cX11_write 41 = .ok (.iconst 0, 1) := by decide +kernel
theorem dX11_write_42 : decode cX11_write 42 = .ok (.invokevirtual 335, 3) := by decide +kernel
theorem dX11_write_45 : decode cX11_write 45 = .ok (.invokevirtual 338, 3) := by decide +kernel
theorem dX11_write_48 : decode cX11_write 48 = .ok (.aload_n 0, 1) := by decide +kernel
theorem dX11_write_49 : decode cX11_write 49 = .ok (.aload_n 0, 1) := by decide +kernel
theorem dX11_write_50 : decode cX11_write 50 = .ok (.getfield 29, 3) := by decide +kernel
theorem dX11_write_53 : decode cX11_write 53 = .ok (.getfield 72, 3) := by decide +kernel
theorem dX11_write_56 : decode cX11_write 56 = .ok (.aload_n 0, 1) := by decide +kernel
theorem dX11_write_57 : decode cX11_write 57 = .ok (.getfield 29, 3) := by decide +kernel
theorem dX11_write_60 : decode cX11_write 60 = .ok (.getfield 72, 3) := by decide +kernel
theorem dX11_write_63 : decode cX11_write 63 = .ok (.getfield 208, 3) := by decide +kernel
theorem dX11_write_66 : decode cX11_write 66 = .ok (.iload_n 1, 1) := by decide +kernel
theorem dX11_write_67 : decode cX11_write 67 = .ok (.iaload, 1) := by decide +kernel
theorem dX11_write_68 : decode cX11_write 68 = .ok (.iconst 1, 1) := by decide +kernel
theorem dX11_write_69 : decode cX11_write 69 = .ok (.invokevirtual 335, 3) := by decide +kernel
theorem dX11_write_72 : decode cX11_write 72 = .ok (.invokevirtual 338, 3) := by decide +kernel
theorem dX11_write_75 : decode cX11_write 75 = .ok (.iinc 1 1, 3) := by decide +kernel
theorem dX11_write_78 : decode cX11_write 78 = .ok (.goto (-71), 3) := by decide +kernel
theorem dX11_write_81 : decode cX11_write 81 = .ok (.aload_n 0, 1) := by decide +kernel
theorem dX11_write_82 : decode cX11_write 82 = .ok (.getfield 121, 3) := by decide +kernel
theorem dX11_write_85 : decode cX11_write 85 = .ok (.ireturn, 1) := by decide +kernel
def f_W_write (n : Nat)   (σ : JSg) : Option (Int × JSg) :=
  lt_ (sp σ 0 18 0) fun s1 => lt_ 0 fun v2 => wh2 n (fun rc3 (x4 : Int) (s5 : JSg) => if x4 < (s5 11 4) then (chk (0 ≤ x4 ∧ x4 < 28) <| bd1 (f_Row_sideOf 11 4 (s5 14 x4.toNat) 0 s5) fun r6 => bd1 (f_W_writePips r6 s5) fun s7 => chk (0 ≤ x4 ∧ x4 < 28) <| bd1 (f_Row_sideOf 11 4 (s7 14 x4.toNat) 1 s7) fun r8 => bd1 (f_W_writePips r8 s7) fun s9 => lt_ (w32 (x4 + 1)) fun v10 => rc3 v10 s9) else (some (s5 0 18, s5))) v2 s1
set_option maxRecDepth 20000 in
set_option maxHeartbeats 4000000 in
theorem k_W_write  (n : Nat)    (σ : JSg) : Call yX11_write cX11_write 2 (some .int) 2 SH RHO [vR 0] σ dIm (f_W_write n σ) := by
  refine call_of_sim (by decide +kernel) (Nat.le_of_ble_eq_true rfl) ?_
  show Sim RX11 cX11_write 2 (some .int) 2 SH RHO 0 [(0, vR 0)] [] σ dIm (f_W_write n σ)
  unfold f_W_write
  refine sim_aload_n 0 rfl dX11_write_0 ?_
  refine sim_iconst dX11_write_1 (by decide) ?_
  refine sim_putI g_RX11_121 sh_0 dX11_write_2 (fun s1 => ?_)
  refine sim_iconst dX11_write_5 (by decide) ?_
  refine sim_istore_n (fun v2 => [(1, vI v2), (0, vR 0)]) (fun _ => rfl) (by decide) dX11_write_6 (fun v2 => ?_)
  refine sim_sub [1, 0] (L' := [(0, vR 0), (1, vI v2)]) rfl ?_
  refine sim_wh2 (fun (x4 : Int) (s5 : JSg) => [(0, vR 0), (1, vI x4)]) (fun (x4 : Int) (s5 : JSg) => s5) ?_ n v2 s1
  intro rc3 hrc3 x4 s5
  refine sim_iload_n 1 rfl dX11_write_7 ?_
  refine sim_aload_n 0 rfl dX11_write_8 ?_
  refine sim_getR g_RX11_29 sh_0 rh_0_3 dX11_write_9 ?_
  refine sim_getR g_RX11_72 (LWld_o lay_3) rh_3_1 dX11_write_12 ?_
  refine sim_getI g_RX11_205 (LRow_o lay_11) dX11_write_15 ?_
  refine sim_icmp_ge (tgt := 81) dX11_write_18 (by decide) ?_ ?_
  · refine sim_aload_n 0 rfl dX11_write_81 ?_
    refine sim_getI g_RX11_121 sh_0 dX11_write_82 ?_
    exact sim_iret rfl rfl dX11_write_85
  · refine sim_aload_n 0 rfl dX11_write_21 ?_
    refine sim_aload_n 0 rfl dX11_write_22 ?_
    refine sim_getR g_RX11_29 sh_0 rh_0_3 dX11_write_23 ?_
    refine sim_getR g_RX11_72 (LWld_o lay_3) rh_3_1 dX11_write_26 ?_
    refine sim_aload_n 0 rfl dX11_write_29 ?_
    refine sim_getR g_RX11_29 sh_0 rh_0_3 dX11_write_30 ?_
    refine sim_getR g_RX11_72 (LWld_o lay_3) rh_3_1 dX11_write_33 ?_
    refine sim_getR g_RX11_208 (LRow_o lay_11) rh_11_3 dX11_write_36 ?_
    refine sim_iload_n 1 rfl dX11_write_39 ?_
    refine sim_iaload sh_14 rfl dX11_write_40 ?_
    refine sim_iconst dX11_write_41 (by decide) ?_
    refine sim_callVIp v_RX11_335 (LRow_o lay_11) dX11_write_42 (k_Row_sideOf SH RHO 11 4 lay_11 lay_4 (s5 14 x4.toNat) 0 s5) rfl ⟨by decide, by decide⟩ (S := [vR 0]) rfl (Nat.le_of_ble_eq_true rfl) (fun r6 => ?_)
    refine sim_callVVm v_RX11_338 sh_0 dX11_write_45 (k_W_writePips r6 s5) rfl ⟨by decide, by decide⟩ (S := []) rfl (Nat.le_of_ble_eq_true rfl) (fun s7 => ?_)
    refine sim_aload_n 0 rfl dX11_write_48 ?_
    refine sim_aload_n 0 rfl dX11_write_49 ?_
    refine sim_getR g_RX11_29 sh_0 rh_0_3 dX11_write_50 ?_
    refine sim_getR g_RX11_72 (LWld_o lay_3) rh_3_1 dX11_write_53 ?_
    refine sim_aload_n 0 rfl dX11_write_56 ?_
    refine sim_getR g_RX11_29 sh_0 rh_0_3 dX11_write_57 ?_
    refine sim_getR g_RX11_72 (LWld_o lay_3) rh_3_1 dX11_write_60 ?_
    refine sim_getR g_RX11_208 (LRow_o lay_11) rh_11_3 dX11_write_63 ?_
    refine sim_iload_n 1 rfl dX11_write_66 ?_
    refine sim_iaload sh_14 rfl dX11_write_67 ?_
    refine sim_iconst dX11_write_68 (by decide) ?_
    refine sim_callVIp v_RX11_335 (LRow_o lay_11) dX11_write_69 (k_Row_sideOf SH RHO 11 4 lay_11 lay_4 (s7 14 x4.toNat) 1 s7) rfl ⟨by decide, by decide⟩ (S := [vR 0]) rfl (Nat.le_of_ble_eq_true rfl) (fun r8 => ?_)
    refine sim_callVVm v_RX11_338 sh_0 dX11_write_72 (k_W_writePips r8 s7) rfl ⟨by decide, by decide⟩ (S := []) rfl (Nat.le_of_ble_eq_true rfl) (fun s9 => ?_)
    refine sim_iinc 1 rfl (fun v10 => [(1, vI v10), (0, vR 0)]) (fun _ => rfl) (by decide) dX11_write_75 (fun v10 => ?_)
    refine sim_goto (tgt := 7) dX11_write_78 (by decide) ?_
    exact sim_sub [1, 0] rfl (hrc3 v10 s9)
theorem dX11_drawn_0 : decode cX11_drawn 0 = .ok (.aload_n 0, 1) := by decide +kernel
theorem dX11_drawn_1 : decode cX11_drawn 1 = .ok (.getfield 114, 3) := by decide +kernel
theorem dX11_drawn_4 : decode cX11_drawn 4 = .ok (.getfield 322, 3) := by decide +kernel
theorem dX11_drawn_7 : decode cX11_drawn 7 = .ok (.ifCond .ne 5, 3) := by decide +kernel
theorem dX11_drawn_10 : decode cX11_drawn 10 = .ok (.iconst (-1), 1) := by decide +kernel
theorem dX11_drawn_11 : decode cX11_drawn 11 = .ok (.ireturn, 1) := by decide +kernel
theorem dX11_drawn_12 : decode cX11_drawn 12 = .ok (.iload_n 1, 1) := by decide +kernel
theorem dX11_drawn_13 : decode cX11_drawn 13 = .ok (.tableswitch 51 0 2 #[27, 35, 43], 27) := by decide +kernel
theorem dX11_drawn_40 : decode cX11_drawn 40 = .ok (.aload_n 0, 1) := by decide +kernel
theorem dX11_drawn_41 : decode cX11_drawn 41 = .ok (.getfield 114, 3) := by decide +kernel
theorem dX11_drawn_44 : decode cX11_drawn 44 = .ok (.getfield 326, 3) := by decide +kernel
theorem dX11_drawn_47 : decode cX11_drawn 47 = .ok (.ireturn, 1) := by decide +kernel
theorem dX11_drawn_48 : decode cX11_drawn 48 = .ok (.aload_n 0, 1) := by decide +kernel
theorem dX11_drawn_49 : decode cX11_drawn 49 = .ok (.getfield 114, 3) := by decide +kernel
theorem dX11_drawn_52 : decode cX11_drawn 52 = .ok (.getfield 329, 3) := by decide +kernel
theorem dX11_drawn_55 : decode cX11_drawn 55 = .ok (.ireturn, 1) := by decide +kernel
theorem dX11_drawn_56 : decode cX11_drawn 56 = .ok (.aload_n 0, 1) := by decide +kernel
theorem dX11_drawn_57 : decode cX11_drawn 57 = .ok (.getfield 114, 3) := by decide +kernel
theorem dX11_drawn_60 : decode cX11_drawn 60 = .ok (.getfield 332, 3) := by decide +kernel
theorem dX11_drawn_63 : decode cX11_drawn 63 = .ok (.ireturn, 1) := by decide +kernel
theorem dX11_drawn_64 : decode cX11_drawn 64 = .ok (.iconst (-1), 1) := by decide +kernel
theorem dX11_drawn_65 : decode cX11_drawn 65 = .ok (.ireturn, 1) := by decide +kernel
def f_W_drawn   (a1 : Int) (σ : JSg) : Option (Int) :=
  if (σ 121 2) = 0 then (some (-1)) else (sw_ a1 0 [some (σ 121 4), some (σ 121 5), some (σ 121 6)] (some (-1)))
set_option maxRecDepth 20000 in
set_option maxHeartbeats 4000000 in
theorem k_W_drawn     (a1 : Int) (σ : JSg) : Call yX11_drawn cX11_drawn 2 (some .int) 0 SH RHO [vR 0, vI a1] σ (dIp σ) (f_W_drawn a1 σ) := by
  refine call_of_sim (by decide +kernel) (Nat.le_of_ble_eq_true rfl) ?_
  show Sim RX11 cX11_drawn 2 (some .int) 0 SH RHO 0 [(0, vR 0), (1, vI a1)] [] σ (dIp σ) (f_W_drawn a1 σ)
  unfold f_W_drawn
  refine sim_aload_n 0 rfl dX11_drawn_0 ?_
  refine sim_getR g_RX11_114 sh_0 rh_0_16 dX11_drawn_1 ?_
  refine sim_getZ g_RX11_322 sh_121 dX11_drawn_4 ?_
  refine sim_if_ne (tgt := 12) dX11_drawn_7 (by decide) ?_ ?_
  · refine sim_iload_n 1 rfl dX11_drawn_12 ?_
    refine sim_tsw2 (td := 64) [40, 48, 56] dX11_drawn_13 (by decide) (by decide) (tsw_of (by decide +kernel)) ⟨?_, ?_, ?_, trivial⟩ ?_
    · refine sim_aload_n 0 rfl dX11_drawn_40 ?_
      refine sim_getR g_RX11_114 sh_0 rh_0_16 dX11_drawn_41 ?_
      refine sim_getI g_RX11_326 sh_121 dX11_drawn_44 ?_
      exact sim_iret rfl rfl dX11_drawn_47
    · refine sim_aload_n 0 rfl dX11_drawn_48 ?_
      refine sim_getR g_RX11_114 sh_0 rh_0_16 dX11_drawn_49 ?_
      refine sim_getI g_RX11_329 sh_121 dX11_drawn_52 ?_
      exact sim_iret rfl rfl dX11_drawn_55
    · refine sim_aload_n 0 rfl dX11_drawn_56 ?_
      refine sim_getR g_RX11_114 sh_0 rh_0_16 dX11_drawn_57 ?_
      refine sim_getI g_RX11_332 sh_121 dX11_drawn_60 ?_
      exact sim_iret rfl rfl dX11_drawn_63
    · refine sim_iconst dX11_drawn_64 (by decide) ?_
      exact sim_iret rfl rfl dX11_drawn_65
  · refine sim_iconst dX11_drawn_10 (by decide) ?_
    exact sim_iret rfl rfl dX11_drawn_11
theorem dX11_keepPast_0 : decode cX11_keepPast 0 = .ok (.aload_n 0, 1) := by decide +kernel
theorem dX11_keepPast_1 : decode cX11_keepPast 1 = .ok (.getfield 44, 3) := by decide +kernel
theorem dX11_keepPast_4 : decode cX11_keepPast 4 = .ok (.aload_n 0, 1) := by decide +kernel
theorem dX11_keepPast_5 : decode cX11_keepPast 5 = .ok (.getfield 51, 3) := by decide +kernel
theorem dX11_keepPast_8 : decode cX11_keepPast 8 = .ok (.aaload, 1) := by decide +kernel
theorem dX11_keepPast_9 : decode cX11_keepPast 9 = .ok (.astore_n 1, 1) := by decide +kernel
theorem dX11_keepPast_10 : decode cX11_keepPast 10 = .ok (.aload_n 1, 1) := by decide +kernel
theorem dX11_keepPast_11 : decode cX11_keepPast 11 = .ok (.ifnull 14, 3) := by decide +kernel
theorem dX11_keepPast_14 : decode cX11_keepPast 14 = .ok (.aload_n 1, 1) := by decide +kernel
theorem dX11_keepPast_15 : decode cX11_keepPast 15 = .ok (.aload_n 0, 1) := by decide +kernel
theorem dX11_keepPast_16 : decode cX11_keepPast 16 = .ok (.getfield 29, 3) := by decide +kernel
theorem dX11_keepPast_19 : decode cX11_keepPast 19 = .ok (.getfield 72, 3) := by decide +kernel
theorem dX11_keepPast_22 : decode cX11_keepPast 22 = .ok (.invokevirtual 243, 3) := by decide +kernel
theorem dX11_keepPast_25 : decode cX11_keepPast 25 = .ok (.aload_n 0, 1) := by decide +kernel
theorem dX11_keepPast_26 : decode cX11_keepPast 26 = .ok (.aload_n 0, 1) := by decide +kernel
theorem dX11_keepPast_27 : decode cX11_keepPast 27 = .ok (.getfield 51, 3) := by decide +kernel
theorem dX11_keepPast_30 : decode cX11_keepPast 30 = .ok (.iconst 1, 1) := by decide +kernel
theorem dX11_keepPast_31 : decode cX11_keepPast 31 = .ok (.iadd, 1) := by decide +kernel
theorem dX11_keepPast_32 : decode cX11_keepPast 32 = .ok (.bipush 8, 2) := by decide +kernel
theorem dX11_keepPast_34 : decode cX11_keepPast 34 = .ok (.irem, 1) := by decide +kernel
theorem dX11_keepPast_35 : decode cX11_keepPast 35 = .ok (.putfield 51, 3) := by decide +kernel
theorem dX11_keepPast_38 : decode cX11_keepPast 38 = .ok (.aload_n 0, 1) := by decide +kernel
theorem dX11_keepPast_39 : decode cX11_keepPast 39 = .ok (.aload_n 0, 1) := by decide +kernel
theorem dX11_keepPast_40 : decode cX11_keepPast 40 = .ok (.getfield 48, 3) := by decide +kernel
theorem dX11_keepPast_43 : decode cX11_keepPast 43 = .ok (.iconst 1, 1) := by decide +kernel
theorem dX11_keepPast_44 : decode cX11_keepPast 44 = .ok (.iadd, 1) := by decide +kernel
theorem dX11_keepPast_45 : decode cX11_keepPast 45 = .ok (.bipush 8, 2) := by decide +kernel
theorem dX11_keepPast_47 : decode cX11_keepPast 47 = .ok (.invokestatic 246, 3) := by decide +kernel
theorem dX11_keepPast_50 : decode cX11_keepPast 50 = .ok (.putfield 48, 3) := by decide +kernel
theorem dX11_keepPast_53 : decode cX11_keepPast 53 = .ok (.return_, 1) := by decide +kernel
def f_W_keepPast    (σ : JSg) : Option (JSg) :=
  chk (0 ≤ (σ 0 9) ∧ (σ 0 9) < 8) <| bd1 (f_Row_copyFrom (123 + 7 * (σ 0 9).toNat) 4 11 4 σ) fun s2 => lt_ (sp s2 0 9 (rm32 (w32 ((s2 0 9) + 1)) 8)) fun s3 => lt_ (sp s3 0 8 (min (w32 ((s3 0 8) + 1)) 8)) fun s4 => some s4
set_option maxRecDepth 20000 in
set_option maxHeartbeats 4000000 in
theorem k_W_keepPast      (σ : JSg) : Call yX11_keepPast cX11_keepPast 2 none 2 SH RHO [vR 0] σ dVm (f_W_keepPast  σ) := by
  refine call_of_sim (by decide +kernel) (Nat.le_of_ble_eq_true rfl) ?_
  show Sim RX11 cX11_keepPast 2 none 2 SH RHO 0 [(0, vR 0)] [] σ dVm (f_W_keepPast  σ)
  unfold f_W_keepPast
  refine sim_aload_n 0 rfl dX11_keepPast_0 ?_
  refine sim_getR g_RX11_44 sh_0 rh_0_7 dX11_keepPast_1 ?_
  refine sim_aload_n 0 rfl dX11_keepPast_4 ?_
  refine sim_getI g_RX11_51 sh_0 dX11_keepPast_5 ?_
  refine sim_aaload (q := (123 + 7 * (σ 0 9).toNat)) sh_95 rfl dX11_keepPast_8 rh_past (fun hpast => ?_)
  refine sim_astore_n [(1, vR (123 + 7 * (σ 0 9).toNat)), (0, vR 0)] rfl (by decide) dX11_keepPast_9 ?_
  refine sim_aload_n 0 rfl dX11_keepPast_10 ?_
  refine sim_ifnull dX11_keepPast_11 ?_
  refine sim_aload_n 0 rfl dX11_keepPast_14 ?_
  refine sim_aload_n 1 rfl dX11_keepPast_15 ?_
  refine sim_getR g_RX11_29 sh_0 rh_0_3 dX11_keepPast_16 ?_
  refine sim_getR g_RX11_72 (LWld_o lay_3) rh_3_1 dX11_keepPast_19 ?_
  refine sim_callVVm v_RX11_243 (LRow_o (lay_past hpast)) dX11_keepPast_22 (k_Row_copyFrom SH RHO (123 + 7 * (σ 0 9).toNat) 4 11 4 (lay_past hpast) lay_4 lay_11 lay_4 σ) rfl ⟨by decide, by decide⟩ (S := []) rfl (Nat.le_of_ble_eq_true rfl) (fun s2 => ?_)
  refine sim_aload_n 1 rfl dX11_keepPast_25 ?_
  refine sim_aload_n 1 rfl dX11_keepPast_26 ?_
  refine sim_getI g_RX11_51 sh_0 dX11_keepPast_27 ?_
  refine sim_iconst dX11_keepPast_30 (by decide) ?_
  refine sim_iadd dX11_keepPast_31 ?_
  refine sim_bipush dX11_keepPast_32 (by decide +kernel) ?_
  refine sim_iremK (by decide) dX11_keepPast_34 ?_
  refine sim_putI g_RX11_51 sh_0 dX11_keepPast_35 (fun s3 => ?_)
  refine sim_aload_n 1 rfl dX11_keepPast_38 ?_
  refine sim_aload_n 1 rfl dX11_keepPast_39 ?_
  refine sim_getI g_RX11_48 sh_0 dX11_keepPast_40 ?_
  refine sim_iconst dX11_keepPast_43 (by decide) ?_
  refine sim_iadd dX11_keepPast_44 ?_
  refine sim_bipush dX11_keepPast_45 (by decide +kernel) ?_
  refine sim_mmin w_900 w_574 w_14 w_575 (by decide) (Nat.le_of_ble_eq_true rfl) dX11_keepPast_47 ?_
  refine sim_putI g_RX11_48 sh_0 dX11_keepPast_50 (fun s4 => ?_)
  exact sim_vret rfl rfl dX11_keepPast_53
theorem dX1_draw_0 : decode cX1_draw 0 = .ok (.aload_n 0, 1) := by decide +kernel
theorem dX1_draw_1 : decode cX1_draw 1 = .ok (.aload_n 0, 1) := by decide +kernel
theorem dX1_draw_2 : decode cX1_draw 2 = .ok (.getfield 9, 3) := by decide +kernel
theorem dX1_draw_5 : decode cX1_draw 5 = .ok (.ldc 44, 2) := by decide +kernel
theorem dX1_draw_7 : decode cX1_draw 7 = .ok (.imul, 1) := by decide +kernel
theorem dX1_draw_8 : decode cX1_draw 8 = .ok (.sipush 12345, 3) := by decide +kernel
theorem dX1_draw_11 : decode cX1_draw 11 = .ok (.iadd, 1) := by decide +kernel
theorem dX1_draw_12 : decode cX1_draw 12 = .ok (.putfield 9, 3) := by decide +kernel
theorem dX1_draw_15 : decode cX1_draw 15 = .ok (.iload_n 1, 1) := by decide +kernel
theorem dX1_draw_16 : decode cX1_draw 16 = .ok (.ifCond .le 15, 3) := by decide +kernel
theorem dX1_draw_19 : decode cX1_draw 19 = .ok (.aload_n 0, 1) := by decide +kernel
theorem dX1_draw_20 : decode cX1_draw 20 = .ok (.getfield 9, 3) := by decide +kernel
theorem dX1_draw_23 : decode cX1_draw 23 = .ok (.bipush 8, 2) := by decide +kernel
theorem dX1_draw_25 : decode cX1_draw 25 = .ok (.iushr, 1) := by decide +kernel
theorem dX1_draw_26 : decode cX1_draw 26 = .ok (.iload_n 1, 1) := by decide +kernel
theorem dX1_draw_27 : decode cX1_draw 27 = .ok (.irem, 1) := by decide +kernel
theorem dX1_draw_28 : decode cX1_draw 28 = .ok (.goto 4, 3) := by decide +kernel
theorem dX1_draw_31 : decode cX1_draw 31 = .ok (.iconst 0, 1) := by decide +kernel
theorem dX1_draw_32 : decode cX1_draw 32 = .ok (.ireturn, 1) := by decide +kernel
def f_Day_draw   (a1 : Int) (σ : JSg) : Option (Int × JSg) :=
  lt_ (sp σ 121 1 (w32 ((w32 ((σ 121 1) * 1103515245)) + 12345))) fun s1 => if 0 < a1 then (chk (a1 ≠ 0) <| some (rm32 (ur32 (s1 121 1) 8) a1, s1)) else (some (0, s1))
set_option maxRecDepth 20000 in
set_option maxHeartbeats 4000000 in
theorem k_Day_draw     (a1 : Int) (σ : JSg) : Call yX1_draw cX1_draw 2 (some .int) 0 SH RHO [vR 121, vI a1] σ dIm (f_Day_draw a1 σ) := by
  refine call_of_sim (by decide +kernel) (Nat.le_of_ble_eq_true rfl) ?_
  show Sim RX1 cX1_draw 2 (some .int) 0 SH RHO 0 [(0, vR 121), (1, vI a1)] [] σ dIm (f_Day_draw a1 σ)
  unfold f_Day_draw
  refine sim_aload_n 0 rfl dX1_draw_0 ?_
  refine sim_aload_n 0 rfl dX1_draw_1 ?_
  refine sim_getI g_RX1_9 sh_121 dX1_draw_2 ?_
  refine sim_ldc (v := 1103515245) w_1264 (by decide +kernel) dX1_draw_5 ?_
  refine sim_imul dX1_draw_7 ?_
  refine sim_sipush dX1_draw_8 (by decide +kernel) ?_
  refine sim_iadd dX1_draw_11 ?_
  refine sim_putI g_RX1_9 sh_121 dX1_draw_12 (fun s1 => ?_)
  refine sim_iload_n 1 rfl dX1_draw_15 ?_
  refine sim_if_le (tgt := 31) dX1_draw_16 (by decide) ?_ ?_
  · refine sim_iconst dX1_draw_31 (by decide) ?_
    exact sim_iret rfl rfl dX1_draw_32
  · refine sim_aload_n 0 rfl dX1_draw_19 ?_
    refine sim_getI g_RX1_9 sh_121 dX1_draw_20 ?_
    refine sim_bipush dX1_draw_23 (by decide +kernel) ?_
    refine sim_iushr dX1_draw_25 ?_
    refine sim_iload_n 1 rfl dX1_draw_26 ?_
    refine sim_irem dX1_draw_27 ?_
    refine sim_goto (tgt := 32) dX1_draw_28 (by decide) ?_
    exact sim_iret rfl rfl dX1_draw_32
theorem dX7_owned_0 : decode cX7_owned 0 = .ok (.iconst 0, 1) := by decide +kernel
theorem dX7_owned_1 : decode cX7_owned 1 = .ok (.istore_n 3, 1) := by decide +kernel
theorem dX7_owned_2 : decode cX7_owned 2 = .ok (.iconst 0, 1) := by decide +kernel
theorem dX7_owned_3 : decode cX7_owned 3 = .ok (.istore 4, 2) := by decide +kernel
theorem dX7_owned_5 : decode cX7_owned 5 = .ok (.iload 4, 2) := by decide +kernel
theorem dX7_owned_7 : decode cX7_owned 7 = .ok (.aload_n 0, 1) := by decide +kernel
theorem dX7_owned_8 : decode cX7_owned 8 = .ok (.getfield 34, 3) := by decide +kernel
theorem dX7_owned_11 : decode cX7_owned 11 = .ok (.getfield 55, 3) := by decide +kernel
theorem dX7_owned_14 : decode cX7_owned 14 = .ok (.if_icmp .ge 34, 3) := by decide +kernel
theorem dX7_owned_17 : decode cX7_owned 17 = .ok (.aload_n 0, 1) := by decide +kernel
theorem dX7_owned_18 : decode cX7_owned 18 = .ok (.getfield 9, 3) := by decide +kernel
theorem dX7_owned_21 : decode cX7_owned 21 = .ok (.iload 4, 2) := by decide +kernel
theorem dX7_owned_23 : decode cX7_owned 23 = .ok (.iaload, 1) := by decide +kernel
theorem dX7_owned_24 : decode cX7_owned 24 = .ok (.iload_n 1, 1) := by decide +kernel
theorem dX7_owned_25 : decode cX7_owned 25 = .ok (.if_icmp .ne 17, 3) := by decide +kernel
theorem dX7_owned_28 : decode cX7_owned 28 = .ok (.aload_n 0, 1) := by decide +kernel
theorem dX7_owned_29 : decode cX7_owned 29 = .ok (.getfield 15, 3) := by decide +kernel
theorem dX7_owned_32 : decode cX7_owned 32 = .ok (.iload 4, 2) := by decide +kernel
theorem dX7_owned_34 : decode cX7_owned 34 = .ok (.iaload, 1) := by decide +kernel
theorem dX7_owned_35 : decode cX7_owned 35 = .ok (.iload_n 2, 1) := by decide +kernel
theorem dX7_owned_36 : decode cX7_owned 36 = .ok (.if_icmp .ne 6, 3) := by decide +kernel
theorem dX7_owned_39 : decode cX7_owned 39 = .ok (.iinc 3 1, 3) := by decide +kernel
theorem dX7_owned_42 : decode cX7_owned 42 = .ok (.iinc 4 1, 3) := by decide +kernel
theorem dX7_owned_45 : decode cX7_owned 45 = .ok (.goto (-40), 3) := by decide +kernel
theorem dX7_owned_48 : decode cX7_owned 48 = .ok (.iload_n 3, 1) := by decide +kernel
theorem dX7_owned_49 : decode cX7_owned 49 = .ok (.ireturn, 1) := by decide +kernel
def f_Row_owned (n : Nat) (p : Nat) (ip : Nat) (a1 : Int) (a2 : Int) (σ : JSg) : Option (Int) :=
  lt_ 0 fun v1 => lt_ 0 fun v2 => wh2 n (fun rc3 (x4 : Int) (x5 : Int) => if x5 < (σ ip 2) then (chk (0 ≤ x5 ∧ x5 < 28) <| jn1 (fun (y7 : Int) => lt_ (w32 (x5 + 1)) fun v8 => rc3 y7 v8) fun j6 => if (σ (p + 1) x5.toNat) = a1 then (chk (0 ≤ x5 ∧ x5 < 28) <| if (σ (p + 2) x5.toNat) = a2 then (lt_ (w32 (x4 + 1)) fun v9 => j6 v9) else (j6 x4)) else (j6 x4)) else (some x4)) v1 v2
set_option maxRecDepth 20000 in
set_option maxHeartbeats 4000000 in
theorem k_Row_owned (Sh : JSh) (ρ : JRo) (n : Nat) (p : Nat) (ip : Nat) (hp : LRow Sh ρ p ip) (hip : LIsl Sh ρ ip) (a1 : Int) (a2 : Int) (σ : JSg) : Call yX7_owned cX7_owned 5 (some .int) 0 Sh ρ [vR p, vI a1, vI a2] σ (dIp σ) (f_Row_owned n p ip a1 a2 σ) := by
  refine call_of_sim (by decide +kernel) (Nat.le_of_ble_eq_true rfl) ?_
  show Sim RX7 cX7_owned 5 (some .int) 0 Sh ρ 0 [(0, vR p), (1, vI a1), (2, vI a2)] [] σ (dIp σ) (f_Row_owned n p ip a1 a2 σ)
  unfold f_Row_owned
  refine sim_iconst dX7_owned_0 (by decide) ?_
  refine sim_istore_n (fun v1 => [(3, vI v1), (0, vR p), (1, vI a1), (2, vI a2)]) (fun _ => rfl) (by decide) dX7_owned_1 (fun v1 => ?_)
  refine sim_iconst dX7_owned_2 (by decide) ?_
  refine sim_istore (fun v2 => [(4, vI v2), (3, vI v1), (0, vR p), (1, vI a1), (2, vI a2)]) (fun _ => rfl) (by decide) dX7_owned_3 (fun v2 => ?_)
  refine sim_sub [2, 3, 4, 1, 0] (L' := [(0, vR p), (1, vI a1), (2, vI a2), (3, vI v1), (4, vI v2)]) rfl ?_
  refine sim_wh2 (fun (x4 : Int) (x5 : Int) => [(0, vR p), (1, vI a1), (2, vI a2), (3, vI x4), (4, vI x5)]) (fun (x4 : Int) (x5 : Int) => σ) ?_ n v1 v2
  intro rc3 hrc3 x4 x5
  refine sim_iload 4 rfl dX7_owned_5 ?_
  refine sim_aload_n 0 rfl dX7_owned_7 ?_
  refine sim_getR g_RX7_34 (LRow_o hp) (LRow_r0 hp) dX7_owned_8 ?_
  refine sim_getI g_RX7_55 (LIsl_o hip) dX7_owned_11 ?_
  refine sim_icmp_ge (tgt := 48) dX7_owned_14 (by decide) ?_ ?_
  · refine sim_iload_n 3 rfl dX7_owned_48 ?_
    exact sim_iret rfl rfl dX7_owned_49
  · refine sim_aload_n 0 rfl dX7_owned_17 ?_
    refine sim_getR g_RX7_9 (LRow_o hp) (LRow_r1 hp) dX7_owned_18 ?_
    refine sim_iload 4 rfl dX7_owned_21 ?_
    refine sim_iaload (LRow_a1 hp) rfl dX7_owned_23 ?_
    refine sim_iload_n 1 rfl dX7_owned_24 ?_
    refine sim_jn1 (pc' := 42) (fun (y7 : Int) => [(0, vR p), (1, vI a1), (2, vI a2), (3, vI y7), (4, vI x5)]) (fun (y7 : Int) => []) (fun (y7 : Int) => σ) ?_ (fun j6 hj6 => ?_)
    · intro y7
      refine sim_iinc 4 rfl (fun v8 => [(4, vI v8), (0, vR p), (1, vI a1), (2, vI a2), (3, vI y7)]) (fun _ => rfl) (by decide) dX7_owned_42 (fun v8 => ?_)
      refine sim_goto (tgt := 5) dX7_owned_45 (by decide) ?_
      exact sim_sub [1, 2, 3, 4, 0] rfl (hrc3 y7 v8)
    refine sim_icmp_ne (tgt := 42) dX7_owned_25 (by decide) ?_ ?_
    · exact sim_sub [0, 1, 2, 3, 4] rfl (hj6 x4)
    · refine sim_aload_n 0 rfl dX7_owned_28 ?_
      refine sim_getR g_RX7_15 (LRow_o hp) (LRow_r2 hp) dX7_owned_29 ?_
      refine sim_iload 4 rfl dX7_owned_32 ?_
      refine sim_iaload (LRow_a2 hp) rfl dX7_owned_34 ?_
      refine sim_iload_n 2 rfl dX7_owned_35 ?_
      refine sim_icmp_ne (tgt := 42) dX7_owned_36 (by decide) ?_ ?_
      · exact sim_sub [0, 1, 2, 3, 4] rfl (hj6 x4)
      · refine sim_iinc 3 rfl (fun v9 => [(3, vI v9), (0, vR p), (1, vI a1), (2, vI a2), (4, vI x5)]) (fun _ => rfl) (by decide) dX7_owned_39 (fun v9 => ?_)
        exact sim_sub [1, 2, 3, 0, 4] rfl (hj6 v9)
theorem dX7_isHeldBy_0 : decode cX7_isHeldBy 0 = .ok (.aload_n 0, 1) := by decide +kernel
theorem dX7_isHeldBy_1 : decode cX7_isHeldBy 1 = .ok (.getfield 9, 3) := by decide +kernel
theorem dX7_isHeldBy_4 : decode cX7_isHeldBy 4 = .ok (.iload_n 2, 1) := by decide +kernel
theorem dX7_isHeldBy_5 : decode cX7_isHeldBy 5 = .ok (.iaload, 1) := by decide +kernel
theorem dX7_isHeldBy_6 : decode cX7_isHeldBy 6 = .ok (.iload_n 1, 1) := by decide +kernel
theorem dX7_isHeldBy_7 : decode cX7_isHeldBy 7 = .ok (.if_icmp .ne 16, 3) := by decide +kernel
theorem dX7_isHeldBy_10 : decode cX7_isHeldBy 10 = .ok (.aload_n 0, 1) := by decide +kernel
theorem dX7_isHeldBy_11 : decode cX7_isHeldBy 11 = .ok (.getfield 15, 3) := by decide +kernel
theorem dX7_isHeldBy_14 : decode cX7_isHeldBy 14 = .ok (.iload_n 2, 1) := by decide +kernel
theorem dX7_isHeldBy_15 : decode cX7_isHeldBy 15 = .ok (.iaload, 1) := by decide +kernel
theorem dX7_isHeldBy_16 : decode cX7_isHeldBy 16 = .ok (.ifCond .ne 7, 3) := by decide +kernel
theorem dX7_isHeldBy_19 : decode cX7_isHeldBy 19 = .ok (.iconst 1, 1) := by decide +kernel
theorem dX7_isHeldBy_20 : decode cX7_isHeldBy 20 = .ok (.goto 4, 3) := by decide +kernel
theorem dX7_isHeldBy_23 : decode cX7_isHeldBy 23 = .ok (.iconst 0, 1) := by decide +kernel
theorem dX7_isHeldBy_24 : decode cX7_isHeldBy 24 = .ok (.ireturn, 1) := by decide +kernel
def f_Row_isHeldBy  (p : Nat) (ip : Nat) (a1 : Int) (a2 : Int) (σ : JSg) : Option (Int) :=
  chk (0 ≤ a2 ∧ a2 < 28) <| if (σ (p + 1) a2.toNat) = a1 then (chk (0 ≤ a2 ∧ a2 < 28) <| if (σ (p + 2) a2.toNat) = 0 then (some 1) else (some 0)) else (some 0)
set_option maxRecDepth 20000 in
set_option maxHeartbeats 4000000 in
theorem k_Row_isHeldBy (Sh : JSh) (ρ : JRo)  (p : Nat) (ip : Nat) (hp : LRow Sh ρ p ip) (hip : LIsl Sh ρ ip) (a1 : Int) (a2 : Int) (σ : JSg) : Call yX7_isHeldBy cX7_isHeldBy 3 (some .boolean) 0 Sh ρ [vR p, vI a1, vI a2] σ (dIp σ) (f_Row_isHeldBy p ip a1 a2 σ) := by
  refine call_of_sim (by decide +kernel) (Nat.le_of_ble_eq_true rfl) ?_
  show Sim RX7 cX7_isHeldBy 3 (some .boolean) 0 Sh ρ 0 [(0, vR p), (1, vI a1), (2, vI a2)] [] σ (dIp σ) (f_Row_isHeldBy p ip a1 a2 σ)
  unfold f_Row_isHeldBy
  refine sim_aload_n 0 rfl dX7_isHeldBy_0 ?_
  refine sim_getR g_RX7_9 (LRow_o hp) (LRow_r1 hp) dX7_isHeldBy_1 ?_
  refine sim_iload_n 2 rfl dX7_isHeldBy_4 ?_
  refine sim_iaload (LRow_a1 hp) rfl dX7_isHeldBy_5 ?_
  refine sim_iload_n 1 rfl dX7_isHeldBy_6 ?_
  refine sim_icmp_ne (tgt := 23) dX7_isHeldBy_7 (by decide) ?_ ?_
  · refine sim_iconst dX7_isHeldBy_23 (by decide) ?_
    exact sim_zret (Or.inl rfl) rfl rfl dX7_isHeldBy_24
  · refine sim_aload_n 0 rfl dX7_isHeldBy_10 ?_
    refine sim_getR g_RX7_15 (LRow_o hp) (LRow_r2 hp) dX7_isHeldBy_11 ?_
    refine sim_iload_n 2 rfl dX7_isHeldBy_14 ?_
    refine sim_iaload (LRow_a2 hp) rfl dX7_isHeldBy_15 ?_
    refine sim_if_ne (tgt := 23) dX7_isHeldBy_16 (by decide) ?_ ?_
    · refine sim_iconst dX7_isHeldBy_23 (by decide) ?_
      exact sim_zret (Or.inl rfl) rfl rfl dX7_isHeldBy_24
    · refine sim_iconst dX7_isHeldBy_19 (by decide) ?_
      refine sim_goto (tgt := 24) dX7_isHeldBy_20 (by decide) ?_
      exact sim_zret (Or.inr rfl) rfl rfl dX7_isHeldBy_24
theorem dX7_heldAt_0 : decode cX7_heldAt 0 = .ok (.iconst 0, 1) := by decide +kernel
theorem dX7_heldAt_1 : decode cX7_heldAt 1 = .ok (.istore_n 3, 1) := by decide +kernel
theorem dX7_heldAt_2 : decode cX7_heldAt 2 = .ok (.iconst 0, 1) := by decide +kernel
theorem dX7_heldAt_3 : decode cX7_heldAt 3 = .ok (.istore 4, 2) := by decide +kernel
theorem dX7_heldAt_5 : decode cX7_heldAt 5 = .ok (.iload 4, 2) := by decide +kernel
theorem dX7_heldAt_7 : decode cX7_heldAt 7 = .ok (.aload_n 0, 1) := by decide +kernel
theorem dX7_heldAt_8 : decode cX7_heldAt 8 = .ok (.getfield 34, 3) := by decide +kernel
theorem dX7_heldAt_11 : decode cX7_heldAt 11 = .ok (.getfield 55, 3) := by decide +kernel
theorem dX7_heldAt_14 : decode cX7_heldAt 14 = .ok (.if_icmp .ge 30, 3) := by decide +kernel
theorem dX7_heldAt_17 : decode cX7_heldAt 17 = .ok (.aload_n 0, 1) := by decide +kernel
theorem dX7_heldAt_18 : decode cX7_heldAt 18 = .ok (.iload_n 1, 1) := by decide +kernel
theorem dX7_heldAt_19 : decode cX7_heldAt 19 = .ok (.iload 4, 2) := by decide +kernel
theorem dX7_heldAt_21 : decode cX7_heldAt 21 = .ok (.invokevirtual 58, 3) := by decide +kernel
theorem dX7_heldAt_24 : decode cX7_heldAt 24 = .ok (.ifCond .eq 14, 3) := by decide +kernel
theorem dX7_heldAt_27 : decode cX7_heldAt 27 = .ok (.iload_n 3, 1) := by decide +kernel
theorem dX7_heldAt_28 : decode cX7_heldAt 28 = .ok (.iload_n 2, 1) := by decide +kernel
theorem dX7_heldAt_29 : decode cX7_heldAt 29 = .ok (.if_icmp .ne 6, 3) := by decide +kernel
theorem dX7_heldAt_32 : decode cX7_heldAt 32 = .ok (.iload 4, 2) := by decide +kernel
theorem dX7_heldAt_34 : decode cX7_heldAt 34 = .ok (.ireturn, 1) := by decide +kernel
theorem dX7_heldAt_35 : decode cX7_heldAt 35 = .ok (.iinc 3 1, 3) := by decide +kernel
theorem dX7_heldAt_38 : decode cX7_heldAt 38 = .ok (.iinc 4 1, 3) := by decide +kernel
theorem dX7_heldAt_41 : decode cX7_heldAt 41 = .ok (.goto (-36), 3) := by decide +kernel
theorem dX7_heldAt_44 : decode cX7_heldAt 44 = .ok (.iconst (-1), 1) := by decide +kernel
theorem dX7_heldAt_45 : decode cX7_heldAt 45 = .ok (.ireturn, 1) := by decide +kernel
def f_Row_heldAt (n : Nat) (p : Nat) (ip : Nat) (a1 : Int) (a2 : Int) (σ : JSg) : Option (Int) :=
  lt_ 0 fun v1 => lt_ 0 fun v2 => wh2 n (fun rc3 (x4 : Int) (x5 : Int) => if x5 < (σ ip 2) then (bd1 (f_Row_isHeldBy p ip a1 x5 σ) fun r6 => jn1 (fun (y8 : Int) => lt_ (w32 (x5 + 1)) fun v9 => rc3 y8 v9) fun j7 => if r6 = 0 then (j7 x4) else (if x4 = a2 then (some x5) else (lt_ (w32 (x4 + 1)) fun v10 => j7 v10))) else (some (-1))) v1 v2
set_option maxRecDepth 20000 in
set_option maxHeartbeats 4000000 in
theorem k_Row_heldAt (Sh : JSh) (ρ : JRo) (n : Nat) (p : Nat) (ip : Nat) (hp : LRow Sh ρ p ip) (hip : LIsl Sh ρ ip) (a1 : Int) (a2 : Int) (σ : JSg) : Call yX7_heldAt cX7_heldAt 5 (some .int) 1 Sh ρ [vR p, vI a1, vI a2] σ (dIp σ) (f_Row_heldAt n p ip a1 a2 σ) := by
  refine call_of_sim (by decide +kernel) (Nat.le_of_ble_eq_true rfl) ?_
  show Sim RX7 cX7_heldAt 5 (some .int) 1 Sh ρ 0 [(0, vR p), (1, vI a1), (2, vI a2)] [] σ (dIp σ) (f_Row_heldAt n p ip a1 a2 σ)
  unfold f_Row_heldAt
  refine sim_iconst dX7_heldAt_0 (by decide) ?_
  refine sim_istore_n (fun v1 => [(3, vI v1), (0, vR p), (1, vI a1), (2, vI a2)]) (fun _ => rfl) (by decide) dX7_heldAt_1 (fun v1 => ?_)
  refine sim_iconst dX7_heldAt_2 (by decide) ?_
  refine sim_istore (fun v2 => [(4, vI v2), (3, vI v1), (0, vR p), (1, vI a1), (2, vI a2)]) (fun _ => rfl) (by decide) dX7_heldAt_3 (fun v2 => ?_)
  refine sim_sub [2, 3, 4, 1, 0] (L' := [(0, vR p), (1, vI a1), (2, vI a2), (3, vI v1), (4, vI v2)]) rfl ?_
  refine sim_wh2 (fun (x4 : Int) (x5 : Int) => [(0, vR p), (1, vI a1), (2, vI a2), (3, vI x4), (4, vI x5)]) (fun (x4 : Int) (x5 : Int) => σ) ?_ n v1 v2
  intro rc3 hrc3 x4 x5
  refine sim_iload 4 rfl dX7_heldAt_5 ?_
  refine sim_aload_n 0 rfl dX7_heldAt_7 ?_
  refine sim_getR g_RX7_34 (LRow_o hp) (LRow_r0 hp) dX7_heldAt_8 ?_
  refine sim_getI g_RX7_55 (LIsl_o hip) dX7_heldAt_11 ?_
  refine sim_icmp_ge (tgt := 44) dX7_heldAt_14 (by decide) ?_ ?_
  · refine sim_iconst dX7_heldAt_44 (by decide) ?_
    exact sim_iret rfl rfl dX7_heldAt_45
  · refine sim_aload_n 0 rfl dX7_heldAt_17 ?_
    refine sim_iload_n 1 rfl dX7_heldAt_18 ?_
    refine sim_iload 4 rfl dX7_heldAt_19 ?_
    refine sim_callVIp v_RX7_58 (LRow_o hp) dX7_heldAt_21 (k_Row_isHeldBy Sh ρ p ip hp hip a1 x5 σ) rfl ⟨by decide, by decide⟩ (S := []) rfl (Nat.le_of_ble_eq_true rfl) (fun r6 => ?_)
    refine sim_jn1 (pc' := 38) (fun (y8 : Int) => [(0, vR p), (1, vI a1), (2, vI a2), (3, vI y8), (4, vI x5)]) (fun (y8 : Int) => []) (fun (y8 : Int) => σ) ?_ (fun j7 hj7 => ?_)
    · intro y8
      refine sim_iinc 4 rfl (fun v9 => [(4, vI v9), (0, vR p), (1, vI a1), (2, vI a2), (3, vI y8)]) (fun _ => rfl) (by decide) dX7_heldAt_38 (fun v9 => ?_)
      refine sim_goto (tgt := 5) dX7_heldAt_41 (by decide) ?_
      exact sim_sub [1, 2, 3, 4, 0] rfl (hrc3 y8 v9)
    refine sim_if_eq (tgt := 38) dX7_heldAt_24 (by decide) ?_ ?_
    · exact sim_sub [0, 1, 2, 3, 4] rfl (hj7 x4)
    · refine sim_iload_n 3 rfl dX7_heldAt_27 ?_
      refine sim_iload_n 2 rfl dX7_heldAt_28 ?_
      refine sim_icmp_ne (tgt := 35) dX7_heldAt_29 (by decide) ?_ ?_
      · refine sim_iinc 3 rfl (fun v10 => [(3, vI v10), (0, vR p), (1, vI a1), (2, vI a2), (4, vI x5)]) (fun _ => rfl) (by decide) dX7_heldAt_35 (fun v10 => ?_)
        exact sim_sub [1, 2, 3, 0, 4] rfl (hj7 v10)
      · refine sim_iload 4 rfl dX7_heldAt_32 ?_
        exact sim_iret rfl rfl dX7_heldAt_34
theorem dX7_layerAt_0 : decode cX7_layerAt 0 = .ok (.aload_n 0, 1) := by decide +kernel
theorem dX7_layerAt_1 : decode cX7_layerAt 1 = .ok (.getfield 9, 3) := by decide +kernel
theorem dX7_layerAt_4 : decode cX7_layerAt 4 = .ok (.aload_n 0, 1) := by decide +kernel
theorem dX7_layerAt_5 : decode cX7_layerAt 5 = .ok (.iload_n 1, 1) := by decide +kernel
theorem dX7_layerAt_6 : decode cX7_layerAt 6 = .ok (.invokevirtual 66, 3) := by decide +kernel
theorem dX7_layerAt_9 : decode cX7_layerAt 9 = .ok (.iaload, 1) := by decide +kernel
theorem dX7_layerAt_10 : decode cX7_layerAt 10 = .ok (.ireturn, 1) := by decide +kernel
def f_Row_layerAt  (p : Nat) (ip : Nat) (a1 : Int) (σ : JSg) : Option (Int) :=
  bd1 (f_Row_lastAt p ip a1 σ) fun r1 => chk (0 ≤ r1 ∧ r1 < 28) <| some (σ (p + 1) r1.toNat)
set_option maxRecDepth 20000 in
set_option maxHeartbeats 4000000 in
theorem k_Row_layerAt (Sh : JSh) (ρ : JRo)  (p : Nat) (ip : Nat) (hp : LRow Sh ρ p ip) (hip : LIsl Sh ρ ip) (a1 : Int) (σ : JSg) : Call yX7_layerAt cX7_layerAt 2 (some .int) 1 Sh ρ [vR p, vI a1] σ (dIp σ) (f_Row_layerAt p ip a1 σ) := by
  refine call_of_sim (by decide +kernel) (Nat.le_of_ble_eq_true rfl) ?_
  show Sim RX7 cX7_layerAt 2 (some .int) 1 Sh ρ 0 [(0, vR p), (1, vI a1)] [] σ (dIp σ) (f_Row_layerAt p ip a1 σ)
  unfold f_Row_layerAt
  refine sim_aload_n 0 rfl dX7_layerAt_0 ?_
  refine sim_getR g_RX7_9 (LRow_o hp) (LRow_r1 hp) dX7_layerAt_1 ?_
  refine sim_aload_n 0 rfl dX7_layerAt_4 ?_
  refine sim_iload_n 1 rfl dX7_layerAt_5 ?_
  refine sim_callVIp v_RX7_66 (LRow_o hp) dX7_layerAt_6 (k_Row_lastAt Sh ρ p ip hp hip a1 σ) rfl ⟨by decide, by decide⟩ (S := [vR (p + 1)]) rfl (Nat.le_of_ble_eq_true rfl) (fun r1 => ?_)
  refine sim_iaload (LRow_a1 hp) rfl dX7_layerAt_9 ?_
  exact sim_iret rfl rfl dX7_layerAt_10
theorem dX7_refusal_0 : decode cX7_refusal 0 = .ok (.aload_n 0, 1) := by decide +kernel
theorem dX7_refusal_1 : decode cX7_refusal 1 = .ok (.iload_n 1, 1) := by decide +kernel
theorem dX7_refusal_2 : decode cX7_refusal 2 = .ok (.iload_n 2, 1) := by decide +kernel
theorem dX7_refusal_3 : decode cX7_refusal 3 = .ok (.invokevirtual 58, 3) := by decide +kernel
theorem dX7_refusal_6 : decode cX7_refusal 6 = .ok (.ifCond .ne 5, 3) := by decide +kernel
theorem dX7_refusal_9 : decode cX7_refusal 9 = .ok (.iconst 1, 1) := by decide +kernel
theorem dX7_refusal_10 : decode cX7_refusal 10 = .ok (.ireturn, 1) := by decide +kernel
theorem dX7_refusal_11 : decode cX7_refusal 11 = .ok (.aload_n 0, 1) := by decide +kernel
theorem dX7_refusal_12 : decode cX7_refusal 12 = .ok (.getfield 21, 3) := by decide +kernel
theorem dX7_refusal_15 : decode cX7_refusal 15 = .ok (.ifCond .le 14, 3) := by decide +kernel
theorem dX7_refusal_18 : decode cX7_refusal 18 = .ok (.aload_n 0, 1) := by decide +kernel
theorem dX7_refusal_19 : decode cX7_refusal 19 = .ok (.iload_n 3, 1) := by decide +kernel
theorem dX7_refusal_20 : decode cX7_refusal 20 = .ok (.invokevirtual 85, 3) := by decide +kernel
theorem dX7_refusal_23 : decode cX7_refusal 23 = .ok (.iload_n 1, 1) := by decide +kernel
theorem dX7_refusal_24 : decode cX7_refusal 24 = .ok (.if_icmp .ne 5, 3) := by decide +kernel
theorem dX7_refusal_27 : decode cX7_refusal 27 = .ok (.iconst 2, 1) := by decide +kernel
theorem dX7_refusal_28 : decode cX7_refusal 28 = .ok (.ireturn, 1) := by decide +kernel
theorem dX7_refusal_29 : decode cX7_refusal 29 = .ok (.aload_n 0, 1) := by decide +kernel
theorem dX7_refusal_30 : decode cX7_refusal 30 = .ok (.iload_n 2, 1) := by decide +kernel
theorem dX7_refusal_31 : decode cX7_refusal 31 = .ok (.iload_n 3, 1) := by decide +kernel
theorem dX7_refusal_32 : decode cX7_refusal 32 = .ok (.invokevirtual 88, 3) := by decide +kernel
theorem dX7_refusal_35 : decode cX7_refusal 35 = .ok (.ifCond .eq 7, 3) := by decide +kernel
theorem dX7_refusal_38 : decode cX7_refusal 38 = .ok (.iconst 0, 1) := by decide +kernel
theorem dX7_refusal_39 : decode cX7_refusal 39 = .ok (.goto 4, 3) := by decide +kernel
theorem dX7_refusal_42 : decode cX7_refusal 42 = .ok (.iconst 3, 1) := by decide +kernel
theorem dX7_refusal_43 : decode cX7_refusal 43 = .ok (.ireturn, 1) := by decide +kernel
def f_Row_refusal  (p : Nat) (ip : Nat) (a1 : Int) (a2 : Int) (a3 : Int) (σ : JSg) : Option (Int) :=
  bd1 (f_Row_isHeldBy p ip a1 a2 σ) fun r1 => if r1 = 0 then (some 1) else (jn0 (bd1 (f_Row_goesTo p ip a2 a3 σ) fun r3 => if r3 = 0 then (some 3) else (some 0)) fun j2 => if 0 < (σ p 4) then (bd1 (f_Row_layerAt p ip a3 σ) fun r4 => if r4 = a1 then (some 2) else (j2)) else (j2))
set_option maxRecDepth 20000 in
set_option maxHeartbeats 4000000 in
theorem k_Row_refusal (Sh : JSh) (ρ : JRo)  (p : Nat) (ip : Nat) (hp : LRow Sh ρ p ip) (hip : LIsl Sh ρ ip) (a1 : Int) (a2 : Int) (a3 : Int) (σ : JSg) : Call yX7_refusal cX7_refusal 4 (some .int) 3 Sh ρ [vR p, vI a1, vI a2, vI a3] σ (dIp σ) (f_Row_refusal p ip a1 a2 a3 σ) := by
  refine call_of_sim (by decide +kernel) (Nat.le_of_ble_eq_true rfl) ?_
  show Sim RX7 cX7_refusal 4 (some .int) 3 Sh ρ 0 [(0, vR p), (1, vI a1), (2, vI a2), (3, vI a3)] [] σ (dIp σ) (f_Row_refusal p ip a1 a2 a3 σ)
  unfold f_Row_refusal
  refine sim_aload_n 0 rfl dX7_refusal_0 ?_
  refine sim_iload_n 1 rfl dX7_refusal_1 ?_
  refine sim_iload_n 2 rfl dX7_refusal_2 ?_
  refine sim_callVIp v_RX7_58 (LRow_o hp) dX7_refusal_3 (k_Row_isHeldBy Sh ρ p ip hp hip a1 a2 σ) rfl ⟨by decide, by decide⟩ (S := []) rfl (Nat.le_of_ble_eq_true rfl) (fun r1 => ?_)
  refine sim_if_ne (tgt := 11) dX7_refusal_6 (by decide) ?_ ?_
  · refine sim_aload_n 0 rfl dX7_refusal_11 ?_
    refine sim_getI g_RX7_21 (LRow_o hp) dX7_refusal_12 ?_
    refine sim_jn0 (pc' := 29) ([(0, vR p), (2, vI a2), (3, vI a3)]) ([]) (σ) ?_ (fun j2 hj2 => ?_)
    · refine sim_aload_n 0 rfl dX7_refusal_29 ?_
      refine sim_iload_n 1 rfl dX7_refusal_30 ?_
      refine sim_iload_n 2 rfl dX7_refusal_31 ?_
      refine sim_callVIp v_RX7_88 (LRow_o hp) dX7_refusal_32 (k_Row_goesTo Sh ρ p ip hp hip a2 a3 σ) rfl ⟨by decide, by decide⟩ (S := []) rfl (Nat.le_of_ble_eq_true rfl) (fun r3 => ?_)
      refine sim_if_eq (tgt := 42) dX7_refusal_35 (by decide) ?_ ?_
      · refine sim_iconst dX7_refusal_42 (by decide) ?_
        exact sim_iret rfl rfl dX7_refusal_43
      · refine sim_iconst dX7_refusal_38 (by decide) ?_
        refine sim_goto (tgt := 43) dX7_refusal_39 (by decide) ?_
        exact sim_iret rfl rfl dX7_refusal_43
    refine sim_if_le (tgt := 29) dX7_refusal_15 (by decide) ?_ ?_
    · exact sim_sub [0, 2, 3] rfl (hj2 )
    · refine sim_aload_n 0 rfl dX7_refusal_18 ?_
      refine sim_iload_n 3 rfl dX7_refusal_19 ?_
      refine sim_callVIp v_RX7_85 (LRow_o hp) dX7_refusal_20 (k_Row_layerAt Sh ρ p ip hp hip a3 σ) rfl ⟨by decide, by decide⟩ (S := []) rfl (Nat.le_of_ble_eq_true rfl) (fun r4 => ?_)
      refine sim_iload_n 1 rfl dX7_refusal_23 ?_
      refine sim_icmp_ne (tgt := 29) dX7_refusal_24 (by decide) ?_ ?_
      · exact sim_sub [0, 2, 3] rfl (hj2 )
      · refine sim_iconst dX7_refusal_27 (by decide) ?_
        exact sim_iret rfl rfl dX7_refusal_28
  · refine sim_iconst dX7_refusal_9 (by decide) ?_
    exact sim_iret rfl rfl dX7_refusal_10
theorem dX7_shiftRight_0 : decode cX7_shiftRight 0 = .ok (.aload_n 0, 1) := by decide +kernel
theorem dX7_shiftRight_1 : decode cX7_shiftRight 1 = .ok (.getfield 21, 3) := by decide +kernel
theorem dX7_shiftRight_4 : decode cX7_shiftRight 4 = .ok (.bipush 27, 2) := by decide +kernel
theorem dX7_shiftRight_6 : decode cX7_shiftRight 6 = .ok (.invokestatic 98, 3) := by decide +kernel
theorem dX7_shiftRight_9 : decode cX7_shiftRight 9 = .ok (.istore_n 1, 1) := by decide +kernel
theorem dX7_shiftRight_10 : decode cX7_shiftRight 10 = .ok (.iload_n 1, 1) := by decide +kernel
theorem dX7_shiftRight_11 : decode cX7_shiftRight 11 = .ok (.ifCond .le 23, 3) := by decide +kernel
theorem dX7_shiftRight_14 : decode cX7_shiftRight 14 = .ok (.aload_n 0, 1) := by decide +kernel
theorem dX7_shiftRight_15 : decode cX7_shiftRight 15 = .ok (.getfield 18, 3) := by decide +kernel
theorem dX7_shiftRight_18 : decode cX7_shiftRight 18 = .ok (.iload_n 1, 1) := by decide +kernel
theorem dX7_shiftRight_19 : decode cX7_shiftRight 19 = .ok (.aload_n 0, 1) := by decide +kernel
theorem dX7_shiftRight_20 : decode cX7_shiftRight 20 = .ok (.getfield 18, 3) := by decide +kernel
theorem dX7_shiftRight_23 : decode cX7_shiftRight 23 = .ok (.iload_n 1, 1) := by decide +kernel
theorem dX7_shiftRight_24 : decode cX7_shiftRight 24 = .ok (.iconst 1, 1) := by decide +kernel
theorem dX7_shiftRight_25 : decode cX7_shiftRight 25 = .ok (.isub, 1) := by decide +kernel
theorem dX7_shiftRight_26 : decode cX7_shiftRight 26 = .ok (.iaload, 1) := by decide +kernel
theorem dX7_shiftRight_27 : decode cX7_shiftRight 27 = .ok (.iastore, 1) := by decide +kernel
theorem dX7_shiftRight_28 : decode cX7_shiftRight 28 = .ok (.iinc 1 (-1), 3) := by decide +kernel
theorem dX7_shiftRight_31 : decode cX7_shiftRight 31 = .ok (.goto (-21), 3) := by decide +kernel
theorem dX7_shiftRight_34 : decode cX7_shiftRight 34 = .ok (.return_, 1) := by decide +kernel
def f_Row_shiftRight (n : Nat) (p : Nat) (ip : Nat)  (σ : JSg) : Option (JSg) :=
  lt_ (min (σ p 4) 27) fun v1 => wh2 n (fun rc2 (x3 : Int) (s4 : JSg) => if 0 < x3 then (chk (0 ≤ (w32 (x3 - 1)) ∧ (w32 (x3 - 1)) < 28) <| chk (0 ≤ x3 ∧ x3 < 28) <| lt_ (sp s4 (p + 3) x3.toNat (s4 (p + 3) (w32 (x3 - 1)).toNat)) fun s5 => lt_ (w32 (x3 + (-1))) fun v6 => rc2 v6 s5) else (some s4)) v1 (σ)
set_option maxRecDepth 20000 in
set_option maxHeartbeats 4000000 in
theorem k_Row_shiftRight (Sh : JSh) (ρ : JRo) (n : Nat) (p : Nat) (ip : Nat) (hp : LRow Sh ρ p ip) (hip : LIsl Sh ρ ip)  (σ : JSg) : Call yX7_shiftRight cX7_shiftRight 2 none 1 Sh ρ [vR p] σ dVm (f_Row_shiftRight n p ip σ) := by
  refine call_of_sim (by decide +kernel) (Nat.le_of_ble_eq_true rfl) ?_
  show Sim RX7 cX7_shiftRight 2 none 1 Sh ρ 0 [(0, vR p)] [] σ dVm (f_Row_shiftRight n p ip σ)
  unfold f_Row_shiftRight
  refine sim_aload_n 0 rfl dX7_shiftRight_0 ?_
  refine sim_getI g_RX7_21 (LRow_o hp) dX7_shiftRight_1 ?_
  refine sim_bipush dX7_shiftRight_4 (by decide +kernel) ?_
  refine sim_mmin w_909 w_574 w_14 w_575 (by decide) (Nat.le_of_ble_eq_true rfl) dX7_shiftRight_6 ?_
  refine sim_istore_n (fun v1 => [(1, vI v1), (0, vR p)]) (fun _ => rfl) (by decide) dX7_shiftRight_9 (fun v1 => ?_)
  refine sim_sub [1, 0] (L' := [(0, vR p), (1, vI v1)]) rfl ?_
  refine sim_wh2 (fun (x3 : Int) (s4 : JSg) => [(0, vR p), (1, vI x3)]) (fun (x3 : Int) (s4 : JSg) => s4) ?_ n v1 (σ)
  intro rc2 hrc2 x3 s4
  refine sim_iload_n 1 rfl dX7_shiftRight_10 ?_
  refine sim_if_le (tgt := 34) dX7_shiftRight_11 (by decide) ?_ ?_
  · exact sim_vret rfl rfl dX7_shiftRight_34
  · refine sim_aload_n 0 rfl dX7_shiftRight_14 ?_
    refine sim_getR g_RX7_18 (LRow_o hp) (LRow_r3 hp) dX7_shiftRight_15 ?_
    refine sim_iload_n 1 rfl dX7_shiftRight_18 ?_
    refine sim_aload_n 0 rfl dX7_shiftRight_19 ?_
    refine sim_getR g_RX7_18 (LRow_o hp) (LRow_r3 hp) dX7_shiftRight_20 ?_
    refine sim_iload_n 1 rfl dX7_shiftRight_23 ?_
    refine sim_iconst dX7_shiftRight_24 (by decide) ?_
    refine sim_isub dX7_shiftRight_25 ?_
    refine sim_iaload (LRow_a3 hp) rfl dX7_shiftRight_26 ?_
    refine sim_iastore (LRow_a3 hp) rfl dX7_shiftRight_27 (fun s5 => ?_)
    refine sim_iinc 1 rfl (fun v6 => [(1, vI v6), (0, vR p)]) (fun _ => rfl) (by decide) dX7_shiftRight_28 (fun v6 => ?_)
    refine sim_goto (tgt := 10) dX7_shiftRight_31 (by decide) ?_
    exact sim_sub [1, 0] rfl (hrc2 v6 s5)
theorem dX7_put_0 : decode cX7_put 0 = .ok (.aload_n 0, 1) := by decide +kernel
theorem dX7_put_1 : decode cX7_put 1 = .ok (.getfield 25, 3) := by decide +kernel
theorem dX7_put_4 : decode cX7_put 4 = .ok (.iload_n 1, 1) := by decide +kernel
theorem dX7_put_5 : decode cX7_put 5 = .ok (.iconst 0, 1) := by decide +kernel
theorem dX7_put_6 : decode cX7_put 6 = .ok (.iastore, 1) := by decide +kernel
theorem dX7_put_7 : decode cX7_put 7 = .ok (.aload_n 0, 1) := by decide +kernel
theorem dX7_put_8 : decode cX7_put 8 = .ok (.getfield 21, 3) := by decide +kernel
theorem dX7_put_11 : decode cX7_put 11 = .ok (.ifCond .le 79, 3) := by decide +kernel
theorem dX7_put_14 : decode cX7_put 14 = .ok (.aload_n 0, 1) := by decide +kernel
theorem dX7_put_15 : decode cX7_put 15 = .ok (.getfield 34, 3) := by decide +kernel
theorem dX7_put_18 : decode cX7_put 18 = .ok (.aload_n 0, 1) := by decide +kernel
theorem dX7_put_19 : decode cX7_put 19 = .ok (.getfield 34, 3) := by decide +kernel
theorem dX7_put_22 : decode cX7_put 22 = .ok (.getfield 69, 3) := by decide +kernel
theorem dX7_put_25 : decode cX7_put 25 = .ok (.iload_n 1, 1) := by decide +kernel
theorem dX7_put_26 : decode cX7_put 26 = .ok (.iaload, 1) := by decide +kernel
theorem dX7_put_27 : decode cX7_put 27 = .ok (.aload_n 0, 1) := by decide +kernel
theorem dX7_put_28 : decode cX7_put 28 = .ok (.iload_n 2, 1) := by decide +kernel
theorem dX7_put_29 : decode cX7_put 29 = .ok (.invokevirtual 82, 3) := by decide +kernel
theorem dX7_put_32 : decode cX7_put 32 = .ok (.invokevirtual 79, 3) := by decide +kernel
theorem dX7_put_35 : decode cX7_put 35 = .ok (.istore_n 3, 1) := by decide +kernel
theorem dX7_put_36 : decode cX7_put 36 = .ok (.aload_n 0, 1) := by decide +kernel
theorem dX7_put_37 : decode cX7_put 37 = .ok (.getfield 25, 3) := by decide +kernel
theorem dX7_put_40 : decode cX7_put 40 = .ok (.iload_n 1, 1) := by decide +kernel
theorem dX7_put_41 : decode cX7_put 41 = .ok (.iload_n 3, 1) := by decide +kernel
theorem dX7_put_42 : decode cX7_put 42 = .ok (.iload_n 2, 1) := by decide +kernel
theorem dX7_put_43 : decode cX7_put 43 = .ok (.iconst 1, 1) := by decide +kernel
theorem dX7_put_44 : decode cX7_put 44 = .ok (.if_icmp .ne 7, 3) := by decide +kernel
theorem dX7_put_47 : decode cX7_put 47 = .ok (.iconst 1, 1) := by decide +kernel
theorem dX7_put_48 : decode cX7_put 48 = .ok (.goto 4, 3) := by decide +kernel
theorem dX7_put_51 : decode cX7_put 51 = .ok (.iconst 0, 1) := by decide +kernel
theorem dX7_put_52 : decode cX7_put 52 = .ok (.if_icmp .ne 7, 3) := by decide +kernel
theorem dX7_put_55 : decode cX7_put 55 = .ok (.iconst 0, 1) := by decide +kernel
theorem dX7_put_56 : decode cX7_put 56 = .ok (.goto 4, 3) := by decide +kernel
theorem dX7_put_59 : decode cX7_put 59 = .ok (.iconst 1, 1) := by decide +kernel
theorem dX7_put_60 : decode cX7_put 60 = .ok (.iastore, 1) := by decide +kernel
theorem dX7_put_61 : decode cX7_put 61 = .ok (.aload_n 0, 1) := by decide +kernel
theorem dX7_put_62 : decode cX7_put 62 = .ok (.getfield 28, 3) := by decide +kernel
theorem dX7_put_65 : decode cX7_put 65 = .ok (.aload_n 0, 1) := by decide +kernel
theorem dX7_put_66 : decode cX7_put 66 = .ok (.getfield 9, 3) := by decide +kernel
theorem dX7_put_69 : decode cX7_put 69 = .ok (.iload_n 1, 1) := by decide +kernel
theorem dX7_put_70 : decode cX7_put 70 = .ok (.iaload, 1) := by decide +kernel
theorem dX7_put_71 : decode cX7_put 71 = .ok (.dup2, 1) := by decide +kernel
theorem dX7_put_72 : decode cX7_put 72 = .ok (.iaload, 1) := by decide +kernel
theorem dX7_put_73 : decode cX7_put 73 = .ok (.iconst 1, 1) := by decide +kernel
theorem dX7_put_74 : decode cX7_put 74 = .ok (.iadd, 1) := by decide +kernel
theorem dX7_put_75 : decode cX7_put 75 = .ok (.iastore, 1) := by decide +kernel
theorem dX7_put_76 : decode cX7_put 76 = .ok (.aload_n 0, 1) := by decide +kernel
theorem dX7_put_77 : decode cX7_put 77 = .ok (.getfield 31, 3) := by decide +kernel
theorem dX7_put_80 : decode cX7_put 80 = .ok (.aload_n 0, 1) := by decide +kernel
theorem dX7_put_81 : decode cX7_put 81 = .ok (.iload_n 2, 1) := by decide +kernel
theorem dX7_put_82 : decode cX7_put 82 = .ok (.invokevirtual 85, 3) := by decide +kernel
theorem dX7_put_85 : decode cX7_put 85 = .ok (.dup2, 1) := by decide +kernel
theorem dX7_put_86 : decode cX7_put 86 = .ok (.iaload, 1) := by decide +kernel
theorem dX7_put_87 : decode cX7_put 87 = .ok (.iconst 1, 1) := by decide +kernel
theorem dX7_put_88 : decode cX7_put 88 = .ok (.iadd, 1) := by decide +kernel
theorem dX7_put_89 : decode cX7_put 89 = .ok (.iastore, 1) := by decide +kernel
theorem dX7_put_90 : decode cX7_put 90 = .ok (.iload_n 2, 1) := by decide +kernel
theorem dX7_put_91 : decode cX7_put 91 = .ok (.ifCond .ne 7, 3) := by decide +kernel
theorem dX7_put_94 : decode cX7_put 94 = .ok (.aload_n 0, 1) := by decide +kernel
theorem dX7_put_95 : decode cX7_put 95 = .ok (.invokevirtual 95, 3) := by decide +kernel
theorem dX7_put_98 : decode cX7_put 98 = .ok (.iload_n 2, 1) := by decide +kernel
theorem dX7_put_99 : decode cX7_put 99 = .ok (.ifCond .ne 7, 3) := by decide +kernel
theorem dX7_put_102 : decode cX7_put 102 = .ok (.iconst 0, 1) := by decide +kernel
theorem dX7_put_103 : decode cX7_put 103 = .ok (.goto 7, 3) := by decide +kernel
theorem dX7_put_106 : decode cX7_put 106 = .ok (.aload_n 0, 1) := by decide +kernel
theorem dX7_put_107 : decode cX7_put 107 = .ok (.getfield 21, 3) := by decide +kernel
theorem dX7_put_110 : decode cX7_put 110 = .ok (.istore_n 3, 1) := by decide +kernel
theorem dX7_put_111 : decode cX7_put 111 = .ok (.iload_n 3, 1) := by decide +kernel
theorem dX7_put_112 : decode cX7_put 112 = .ok (.bipush 28, 2) := by decide +kernel
theorem dX7_put_114 : decode cX7_put 114 = .ok (.if_icmp .ge 10, 3) := by decide +kernel
theorem dX7_put_117 : decode cX7_put 117 = .ok (.aload_n 0, 1) := by decide +kernel
theorem dX7_put_118 : decode cX7_put 118 = .ok (.getfield 18, 3) := by decide +kernel
theorem dX7_put_121 : decode cX7_put 121 = .ok (.iload_n 3, 1) := by decide +kernel
theorem dX7_put_122 : decode cX7_put 122 = .ok (.iload_n 1, 1) := by decide +kernel
theorem dX7_put_123 : decode cX7_put 123 = .ok (.iastore, 1) := by decide +kernel
theorem dX7_put_124 : decode cX7_put 124 = .ok (.aload_n 0, 1) := by decide +kernel
theorem dX7_put_125 : decode cX7_put 125 = .ok (.aload_n 0, 1) := by decide +kernel
theorem dX7_put_126 : decode cX7_put 126 = .ok (.getfield 21, 3) := by decide +kernel
theorem dX7_put_129 : decode cX7_put 129 = .ok (.iconst 1, 1) := by decide +kernel
theorem dX7_put_130 : decode cX7_put 130 = .ok (.iadd, 1) := by decide +kernel
theorem dX7_put_131 : decode cX7_put 131 = .ok (.bipush 28, 2) := by decide +kernel
theorem dX7_put_133 : decode cX7_put 133 = .ok (.invokestatic 98, 3) := by decide +kernel
theorem dX7_put_136 : decode cX7_put 136 = .ok (.putfield 21, 3) := by decide +kernel
theorem dX7_put_139 : decode cX7_put 139 = .ok (.aload_n 0, 1) := by decide +kernel
theorem dX7_put_140 : decode cX7_put 140 = .ok (.getfield 15, 3) := by decide +kernel
theorem dX7_put_143 : decode cX7_put 143 = .ok (.iload_n 1, 1) := by decide +kernel
theorem dX7_put_144 : decode cX7_put 144 = .ok (.iconst 2, 1) := by decide +kernel
theorem dX7_put_145 : decode cX7_put 145 = .ok (.iastore, 1) := by decide +kernel
theorem dX7_put_146 : decode cX7_put 146 = .ok (.return_, 1) := by decide +kernel
def f_Row_put (n : Nat) (p : Nat) (ip : Nat) (a1 : Int) (a2 : Int) (σ : JSg) : Option (JSg) :=
  chk (0 ≤ a1 ∧ a1 < 28) <| lt_ (sp σ (p + 4) a1.toNat 0) fun s1 => jn1 (fun  (s3 : JSg) => jn1 (fun  (s5 : JSg) => jn1 (fun (u7 : Int) => lt_ u7 fun v8 => jn1 (fun  (s10 : JSg) => lt_ (sp s10 p 4 (min (w32 ((s10 p 4) + 1)) 28)) fun s11 => chk (0 ≤ a1 ∧ a1 < 28) <| lt_ (sp s11 (p + 2) a1.toNat 2) fun s12 => some s12) fun j9 => if v8 < 28 then (chk (0 ≤ v8 ∧ v8 < 28) <| lt_ (sp s5 (p + 3) v8.toNat a1) fun s13 => j9 s13) else (j9 s5)) fun j6 => if a2 = 0 then (j6 0) else (j6 (s5 p 4))) fun j4 => if a2 = 0 then (bd1 (f_Row_shiftRight n p ip s3) fun s14 => j4 s14) else (j4 s3)) fun j2 => if 0 < (s1 p 4) then (chk (0 ≤ a1 ∧ a1 < 28) <| bd1 (f_Row_outer p ip a2 s1) fun r15 => bd1 (f_Isl_fit ip (s1 (ip + 2) a1.toNat) r15 s1) fun r16 => lt_ r16 fun v17 => jn1 (fun (u19 : Int) => jn1 (fun (u21 : Int) => chk (0 ≤ a1 ∧ a1 < 28) <| lt_ (sp s1 (p + 4) a1.toNat u21) fun s22 => chk (0 ≤ a1 ∧ a1 < 28) <| chk (0 ≤ (s22 (p + 1) a1.toNat) ∧ (s22 (p + 1) a1.toNat) < 6) <| chk (0 ≤ (s22 (p + 1) a1.toNat) ∧ (s22 (p + 1) a1.toNat) < 6) <| lt_ (sp s22 (p + 5) (s22 (p + 1) a1.toNat).toNat (w32 ((s22 (p + 5) (s22 (p + 1) a1.toNat).toNat) + 1))) fun s23 => bd1 (f_Row_layerAt p ip a2 s23) fun r24 => chk (0 ≤ r24 ∧ r24 < 6) <| chk (0 ≤ r24 ∧ r24 < 6) <| lt_ (sp s23 (p + 6) r24.toNat (w32 ((s23 (p + 6) r24.toNat) + 1))) fun s25 => j2 s25) fun j20 => if v17 = u19 then (j20 0) else (j20 1)) fun j18 => if a2 = 1 then (j18 1) else (j18 0)) else (j2 s1)
set_option maxRecDepth 20000 in
set_option maxHeartbeats 4000000 in
theorem k_Row_put (Sh : JSh) (ρ : JRo) (n : Nat) (p : Nat) (ip : Nat) (hp : LRow Sh ρ p ip) (hip : LIsl Sh ρ ip) (a1 : Int) (a2 : Int) (σ : JSg) : Call yX7_put cX7_put 4 none 2 Sh ρ [vR p, vI a1, vI a2] σ dVm (f_Row_put n p ip a1 a2 σ) := by
  refine call_of_sim (by decide +kernel) (Nat.le_of_ble_eq_true rfl) ?_
  show Sim RX7 cX7_put 4 none 2 Sh ρ 0 [(0, vR p), (1, vI a1), (2, vI a2)] [] σ dVm (f_Row_put n p ip a1 a2 σ)
  unfold f_Row_put
  refine sim_aload_n 0 rfl dX7_put_0 ?_
  refine sim_getR g_RX7_25 (LRow_o hp) (LRow_r5 hp) dX7_put_1 ?_
  refine sim_iload_n 1 rfl dX7_put_4 ?_
  refine sim_iconst dX7_put_5 (by decide) ?_
  refine sim_iastore (LRow_a5 hp) rfl dX7_put_6 (fun s1 => ?_)
  refine sim_aload_n 0 rfl dX7_put_7 ?_
  refine sim_getI g_RX7_21 (LRow_o hp) dX7_put_8 ?_
  refine sim_jn1 (pc' := 90) (fun  (s3 : JSg) => [(0, vR p), (1, vI a1), (2, vI a2)]) (fun  (s3 : JSg) => []) (fun  (s3 : JSg) => s3) ?_ (fun j2 hj2 => ?_)
  · intro s3
    refine sim_iload_n 2 rfl dX7_put_90 ?_
    refine sim_jn1 (pc' := 98) (fun  (s5 : JSg) => [(0, vR p), (1, vI a1), (2, vI a2)]) (fun  (s5 : JSg) => []) (fun  (s5 : JSg) => s5) ?_ (fun j4 hj4 => ?_)
    · intro s5
      refine sim_iload_n 2 rfl dX7_put_98 ?_
      refine sim_jn1 (pc' := 110) (fun (u7 : Int) => [(0, vR p), (1, vI a1)]) (fun (u7 : Int) => [vI u7]) (fun (u7 : Int) => s5) ?_ (fun j6 hj6 => ?_)
      · intro u7
        refine sim_istore_n (fun v8 => [(3, vI v8), (0, vR p), (1, vI a1)]) (fun _ => rfl) (by decide) dX7_put_110 (fun v8 => ?_)
        refine sim_iload_n 0 rfl dX7_put_111 ?_
        refine sim_bipush dX7_put_112 (by decide +kernel) ?_
        refine sim_jn1 (pc' := 124) (fun  (s10 : JSg) => [(0, vR p), (1, vI a1)]) (fun  (s10 : JSg) => []) (fun  (s10 : JSg) => s10) ?_ (fun j9 hj9 => ?_)
        · intro s10
          refine sim_aload_n 0 rfl dX7_put_124 ?_
          refine sim_aload_n 0 rfl dX7_put_125 ?_
          refine sim_getI g_RX7_21 (LRow_o hp) dX7_put_126 ?_
          refine sim_iconst dX7_put_129 (by decide) ?_
          refine sim_iadd dX7_put_130 ?_
          refine sim_bipush dX7_put_131 (by decide +kernel) ?_
          refine sim_mmin w_909 w_574 w_14 w_575 (by decide) (Nat.le_of_ble_eq_true rfl) dX7_put_133 ?_
          refine sim_putI g_RX7_21 (LRow_o hp) dX7_put_136 (fun s11 => ?_)
          refine sim_aload_n 0 rfl dX7_put_139 ?_
          refine sim_getR g_RX7_15 (LRow_o hp) (LRow_r2 hp) dX7_put_140 ?_
          refine sim_iload_n 1 rfl dX7_put_143 ?_
          refine sim_iconst dX7_put_144 (by decide) ?_
          refine sim_iastore (LRow_a2 hp) rfl dX7_put_145 (fun s12 => ?_)
          exact sim_vret rfl rfl dX7_put_146
        refine sim_icmp_ge (tgt := 124) dX7_put_114 (by decide) ?_ ?_
        · exact sim_sub [1, 2] rfl (hj9 s5)
        · refine sim_aload_n 1 rfl dX7_put_117 ?_
          refine sim_getR g_RX7_18 (LRow_o hp) (LRow_r3 hp) dX7_put_118 ?_
          refine sim_iload_n 0 rfl dX7_put_121 ?_
          refine sim_iload_n 2 rfl dX7_put_122 ?_
          refine sim_iastore (LRow_a3 hp) rfl dX7_put_123 (fun s13 => ?_)
          exact sim_sub [1, 2] rfl (hj9 s13)
      refine sim_if_ne (tgt := 106) dX7_put_99 (by decide) ?_ ?_
      · refine sim_aload_n 0 rfl dX7_put_106 ?_
        refine sim_getI g_RX7_21 (LRow_o hp) dX7_put_107 ?_
        exact sim_sub [0, 1] rfl (hj6 (s5 p 4))
      · refine sim_iconst dX7_put_102 (by decide) ?_
        refine sim_goto (tgt := 110) dX7_put_103 (by decide) ?_
        exact sim_sub [0, 1] rfl (hj6 0)
    refine sim_if_ne (tgt := 98) dX7_put_91 (by decide) ?_ ?_
    · exact sim_sub [0, 1, 2] rfl (hj4 s3)
    · refine sim_aload_n 0 rfl dX7_put_94 ?_
      refine sim_callVVm v_RX7_95 (LRow_o hp) dX7_put_95 (k_Row_shiftRight Sh ρ n p ip hp hip s3) rfl ⟨by decide, by decide⟩ (S := []) rfl (Nat.le_of_ble_eq_true rfl) (fun s14 => ?_)
      exact sim_sub [0, 1, 2] rfl (hj4 s14)
  refine sim_if_le (tgt := 90) dX7_put_11 (by decide) ?_ ?_
  · exact sim_sub [0, 1, 2] rfl (hj2 s1)
  · refine sim_aload_n 0 rfl dX7_put_14 ?_
    refine sim_getR g_RX7_34 (LRow_o hp) (LRow_r0 hp) dX7_put_15 ?_
    refine sim_aload_n 0 rfl dX7_put_18 ?_
    refine sim_getR g_RX7_34 (LRow_o hp) (LRow_r0 hp) dX7_put_19 ?_
    refine sim_getR g_RX7_69 (LIsl_o hip) (LIsl_r8 hip) dX7_put_22 ?_
    refine sim_iload_n 1 rfl dX7_put_25 ?_
    refine sim_iaload (LIsl_a8 hip) rfl dX7_put_26 ?_
    refine sim_aload_n 0 rfl dX7_put_27 ?_
    refine sim_iload_n 2 rfl dX7_put_28 ?_
    refine sim_callVIp v_RX7_82 (LRow_o hp) dX7_put_29 (k_Row_outer Sh ρ p ip hp hip a2 s1) rfl ⟨by decide, by decide⟩ (S := [vI (s1 (ip + 2) a1.toNat), vR ip]) rfl (Nat.le_of_ble_eq_true rfl) (fun r15 => ?_)
    refine sim_callVIp v_RX7_79 (LIsl_o hip) dX7_put_32 (k_Isl_fit Sh ρ ip hip (s1 (ip + 2) a1.toNat) r15 s1) rfl ⟨by decide, by decide⟩ (S := []) rfl (Nat.le_of_ble_eq_true rfl) (fun r16 => ?_)
    refine sim_istore_n (fun v17 => [(3, vI v17), (0, vR p), (1, vI a1), (2, vI a2)]) (fun _ => rfl) (by decide) dX7_put_35 (fun v17 => ?_)
    refine sim_aload_n 1 rfl dX7_put_36 ?_
    refine sim_getR g_RX7_25 (LRow_o hp) (LRow_r5 hp) dX7_put_37 ?_
    refine sim_iload_n 2 rfl dX7_put_40 ?_
    refine sim_iload_n 0 rfl dX7_put_41 ?_
    refine sim_iload_n 3 rfl dX7_put_42 ?_
    refine sim_iconst dX7_put_43 (by decide) ?_
    refine sim_jn1 (pc' := 52) (fun (u19 : Int) => [(0, vR p), (1, vI a1), (2, vI a2)]) (fun (u19 : Int) => [vI u19, vI v17, vI a1, vR (p + 4)]) (fun (u19 : Int) => s1) ?_ (fun j18 hj18 => ?_)
    · intro u19
      refine sim_jn1 (pc' := 60) (fun (u21 : Int) => [(0, vR p), (1, vI a1), (2, vI a2)]) (fun (u21 : Int) => [vI u21, vI a1, vR (p + 4)]) (fun (u21 : Int) => s1) ?_ (fun j20 hj20 => ?_)
      · intro u21
        refine sim_iastore (LRow_a5 hp) rfl dX7_put_60 (fun s22 => ?_)
        refine sim_aload_n 0 rfl dX7_put_61 ?_
        refine sim_getR g_RX7_28 (LRow_o hp) (LRow_r6 hp) dX7_put_62 ?_
        refine sim_aload_n 0 rfl dX7_put_65 ?_
        refine sim_getR g_RX7_9 (LRow_o hp) (LRow_r1 hp) dX7_put_66 ?_
        refine sim_iload_n 1 rfl dX7_put_69 ?_
        refine sim_iaload (LRow_a1 hp) rfl dX7_put_70 ?_
        refine sim_dup2 rfl rfl dX7_put_71 ?_
        refine sim_iaload (LRow_a6 hp) rfl dX7_put_72 ?_
        refine sim_iconst dX7_put_73 (by decide) ?_
        refine sim_iadd dX7_put_74 ?_
        refine sim_iastore (LRow_a6 hp) rfl dX7_put_75 (fun s23 => ?_)
        refine sim_aload_n 0 rfl dX7_put_76 ?_
        refine sim_getR g_RX7_31 (LRow_o hp) (LRow_r7 hp) dX7_put_77 ?_
        refine sim_aload_n 0 rfl dX7_put_80 ?_
        refine sim_iload_n 2 rfl dX7_put_81 ?_
        refine sim_callVIp v_RX7_85 (LRow_o hp) dX7_put_82 (k_Row_layerAt Sh ρ p ip hp hip a2 s23) rfl ⟨by decide, by decide⟩ (S := [vR (p + 6)]) rfl (Nat.le_of_ble_eq_true rfl) (fun r24 => ?_)
        refine sim_dup2 rfl rfl dX7_put_85 ?_
        refine sim_iaload (LRow_a7 hp) rfl dX7_put_86 ?_
        refine sim_iconst dX7_put_87 (by decide) ?_
        refine sim_iadd dX7_put_88 ?_
        refine sim_iastore (LRow_a7 hp) rfl dX7_put_89 (fun s25 => ?_)
        exact sim_sub [0, 1, 2] rfl (hj2 s25)
      refine sim_icmp_ne (tgt := 59) dX7_put_52 (by decide) ?_ ?_
      · refine sim_iconst dX7_put_59 (by decide) ?_
        exact sim_sub [0, 1, 2] rfl (hj20 1)
      · refine sim_iconst dX7_put_55 (by decide) ?_
        refine sim_goto (tgt := 60) dX7_put_56 (by decide) ?_
        exact sim_sub [0, 1, 2] rfl (hj20 0)
    refine sim_icmp_ne (tgt := 51) dX7_put_44 (by decide) ?_ ?_
    · refine sim_iconst dX7_put_51 (by decide) ?_
      exact sim_sub [1, 2, 3] rfl (hj18 0)
    · refine sim_iconst dX7_put_47 (by decide) ?_
      refine sim_goto (tgt := 52) dX7_put_48 (by decide) ?_
      exact sim_sub [1, 2, 3] rfl (hj18 1)
theorem dX1_tryVisit_0 : decode cX1_tryVisit 0 = .ok (.aload_n 0, 1) := by decide +kernel
theorem dX1_tryVisit_1 : decode cX1_tryVisit 1 = .ok (.aload_n 0, 1) := by decide +kernel
theorem dX1_tryVisit_2 : decode cX1_tryVisit 2 = .ok (.getfield 31, 3) := by decide +kernel
theorem dX1_tryVisit_5 : decode cX1_tryVisit 5 = .ok (.getfield 45, 3) := by decide +kernel
theorem dX1_tryVisit_8 : decode cX1_tryVisit 8 = .ok (.getfield 51, 3) := by decide +kernel
theorem dX1_tryVisit_11 : decode cX1_tryVisit 11 = .ok (.invokevirtual 56, 3) := by decide +kernel
theorem dX1_tryVisit_14 : decode cX1_tryVisit 14 = .ok (.istore_n 1, 1) := by decide +kernel
theorem dX1_tryVisit_15 : decode cX1_tryVisit 15 = .ok (.aload_n 0, 1) := by decide +kernel
theorem dX1_tryVisit_16 : decode cX1_tryVisit 16 = .ok (.getfield 31, 3) := by decide +kernel
theorem dX1_tryVisit_19 : decode cX1_tryVisit 19 = .ok (.iload_n 1, 1) := by decide +kernel
theorem dX1_tryVisit_20 : decode cX1_tryVisit 20 = .ok (.iconst 0, 1) := by decide +kernel
theorem dX1_tryVisit_21 : decode cX1_tryVisit 21 = .ok (.invokevirtual 60, 3) := by decide +kernel
theorem dX1_tryVisit_24 : decode cX1_tryVisit 24 = .ok (.istore_n 2, 1) := by decide +kernel
theorem dX1_tryVisit_25 : decode cX1_tryVisit 25 = .ok (.iload_n 2, 1) := by decide +kernel
theorem dX1_tryVisit_26 : decode cX1_tryVisit 26 = .ok (.ifCond .ne 4, 3) := by decide +kernel
theorem dX1_tryVisit_29 : decode cX1_tryVisit 29 = .ok (.return_, 1) := by decide +kernel
theorem dX1_tryVisit_30 : decode cX1_tryVisit 30 = .ok (.aload_n 0, 1) := by decide +kernel
theorem dX1_tryVisit_31 : decode cX1_tryVisit 31 = .ok (.getfield 31, 3) := by decide +kernel
theorem dX1_tryVisit_34 : decode cX1_tryVisit 34 = .ok (.iload_n 1, 1) := by decide +kernel
theorem dX1_tryVisit_35 : decode cX1_tryVisit 35 = .ok (.aload_n 0, 1) := by decide +kernel
theorem dX1_tryVisit_36 : decode cX1_tryVisit 36 = .ok (.iload_n 2, 1) := by decide +kernel
theorem dX1_tryVisit_37 : decode cX1_tryVisit 37 = .ok (.invokevirtual 56, 3) := by decide +kernel
theorem dX1_tryVisit_40 : decode cX1_tryVisit 40 = .ok (.invokevirtual 64, 3) := by decide +kernel
theorem dX1_tryVisit_43 : decode cX1_tryVisit 43 = .ok (.istore_n 3, 1) := by decide +kernel
theorem dX1_tryVisit_44 : decode cX1_tryVisit 44 = .ok (.aload_n 0, 1) := by decide +kernel
theorem dX1_tryVisit_45 : decode cX1_tryVisit 45 = .ok (.iconst 2, 1) := by decide +kernel
theorem dX1_tryVisit_46 : decode cX1_tryVisit 46 = .ok (.invokevirtual 56, 3) := by decide +kernel
theorem dX1_tryVisit_49 : decode cX1_tryVisit 49 = .ok (.istore 4, 2) := by decide +kernel
theorem dX1_tryVisit_51 : decode cX1_tryVisit 51 = .ok (.iload_n 3, 1) := by decide +kernel
theorem dX1_tryVisit_52 : decode cX1_tryVisit 52 = .ok (.iconst (-1), 1) := by decide +kernel
theorem dX1_tryVisit_53 : decode cX1_tryVisit 53 = .ok (.if_icmp .eq 40, 3) := by decide +kernel
theorem dX1_tryVisit_56 : decode cX1_tryVisit 56 = .ok (.aload_n 0, 1) := by decide +kernel
theorem dX1_tryVisit_57 : decode cX1_tryVisit 57 = .ok (.getfield 31, 3) := by decide +kernel
theorem dX1_tryVisit_60 : decode cX1_tryVisit 60 = .ok (.iload_n 1, 1) := by decide +kernel
theorem dX1_tryVisit_61 : decode cX1_tryVisit 61 = .ok (.iload_n 3, 1) := by decide +kernel
theorem dX1_tryVisit_62 : decode cX1_tryVisit 62 = .ok (.iload 4, 2) := by decide +kernel
theorem dX1_tryVisit_64 : decode cX1_tryVisit 64 = .ok (.invokevirtual 67, 3) := by decide +kernel
theorem dX1_tryVisit_67 : decode cX1_tryVisit 67 = .ok (.ifCond .ne 26, 3) := by decide +kernel
theorem dX1_tryVisit_70 : decode cX1_tryVisit 70 = .ok (.aload_n 0, 1) := by decide +kernel
theorem dX1_tryVisit_71 : decode cX1_tryVisit 71 = .ok (.getfield 31, 3) := by decide +kernel
theorem dX1_tryVisit_74 : decode cX1_tryVisit 74 = .ok (.iload_n 3, 1) := by decide +kernel
theorem dX1_tryVisit_75 : decode cX1_tryVisit 75 = .ok (.iload 4, 2) := by decide +kernel
theorem dX1_tryVisit_77 : decode cX1_tryVisit 77 = .ok (.invokevirtual 71, 3) := by decide +kernel
theorem dX1_tryVisit_80 : decode cX1_tryVisit 80 = .ok (.aload_n 0, 1) := by decide +kernel
theorem dX1_tryVisit_81 : decode cX1_tryVisit 81 = .ok (.dup, 1) := by decide +kernel
theorem dX1_tryVisit_82 : decode cX1_tryVisit 82 = .ok (.getfield 19, 3) := by decide +kernel
theorem dX1_tryVisit_85 : decode cX1_tryVisit 85 = .ok (.iconst 1, 1) := by decide +kernel
theorem dX1_tryVisit_86 : decode cX1_tryVisit 86 = .ok (.iadd, 1) := by decide +kernel
theorem dX1_tryVisit_87 : decode cX1_tryVisit 87 = .ok (.putfield 19, 3) := by decide +kernel
theorem dX1_tryVisit_90 : decode cX1_tryVisit 90 = .ok (.goto 13, 3) := by decide +kernel
theorem dX1_tryVisit_93 : decode cX1_tryVisit 93 = .ok (.aload_n 0, 1) := by decide +kernel
theorem dX1_tryVisit_94 : decode cX1_tryVisit 94 = .ok (.dup, 1) := by decide +kernel
theorem dX1_tryVisit_95 : decode cX1_tryVisit 95 = .ok (.getfield 28, 3) := by decide +kernel
theorem dX1_tryVisit_98 : decode cX1_tryVisit 98 = .ok (.iconst 1, 1) := by decide +kernel
theorem dX1_tryVisit_99 : decode cX1_tryVisit 99 = .ok (.iadd, 1) := by decide +kernel
theorem dX1_tryVisit_100 : decode cX1_tryVisit 100 = .ok (.putfield 28, 3) := by decide +kernel
theorem dX1_tryVisit_103 : decode cX1_tryVisit 103 = .ok (.return_, 1) := by decide +kernel
def f_Day_tryVisit (n : Nat)   (σ : JSg) : Option (JSg) :=
  bd2 (f_Day_draw (σ 4 1) σ) fun r1 s2 => lt_ r1 fun v3 => bd1 (f_Row_owned n 11 4 v3 0 s2) fun r4 => lt_ r4 fun v5 => if v5 = 0 then (some s2) else (bd2 (f_Day_draw v5 s2) fun r6 s7 => bd1 (f_Row_heldAt n 11 4 v3 r6 s7) fun r8 => lt_ r8 fun v9 => bd2 (f_Day_draw 2 s7) fun r10 s11 => lt_ r10 fun v12 => jn0 (lt_ (sp s11 121 6 (w32 ((s11 121 6) + 1))) fun s14 => some s14) fun j13 => if v9 = (-1) then (j13) else (bd1 (f_Row_refusal 11 4 v3 v9 v12 s11) fun r15 => if r15 = 0 then (bd1 (f_Row_put n 11 4 v9 v12 s11) fun s16 => lt_ (sp s16 121 3 (w32 ((s16 121 3) + 1))) fun s17 => some s17) else (j13)))
set_option maxRecDepth 20000 in
set_option maxHeartbeats 4000000 in
theorem k_Day_tryVisit  (n : Nat)    (σ : JSg) : Call yX1_tryVisit cX1_tryVisit 5 none 4 SH RHO [vR 121] σ dVm (f_Day_tryVisit n σ) := by
  refine call_of_sim (by decide +kernel) (Nat.le_of_ble_eq_true rfl) ?_
  show Sim RX1 cX1_tryVisit 5 none 4 SH RHO 0 [(0, vR 121)] [] σ dVm (f_Day_tryVisit n σ)
  unfold f_Day_tryVisit
  refine sim_aload_n 0 rfl dX1_tryVisit_0 ?_
  refine sim_aload_n 0 rfl dX1_tryVisit_1 ?_
  refine sim_getR g_RX1_31 sh_121 rh_121_0 dX1_tryVisit_2 ?_
  refine sim_getR g_RX1_45 (LRow_o lay_11) rh_11_0 dX1_tryVisit_5 ?_
  refine sim_getI g_RX1_51 (LIsl_o lay_4) dX1_tryVisit_8 ?_
  refine sim_callVIm v_RX1_56 sh_121 dX1_tryVisit_11 (k_Day_draw (σ 4 1) σ) rfl ⟨by decide, by decide⟩ (S := []) rfl (Nat.le_of_ble_eq_true rfl) (fun r1 s2 => ?_)
  refine sim_istore_n (fun v3 => [(1, vI v3), (0, vR 121)]) (fun _ => rfl) (by decide) dX1_tryVisit_14 (fun v3 => ?_)
  refine sim_aload_n 1 rfl dX1_tryVisit_15 ?_
  refine sim_getR g_RX1_31 sh_121 rh_121_0 dX1_tryVisit_16 ?_
  refine sim_iload_n 0 rfl dX1_tryVisit_19 ?_
  refine sim_iconst dX1_tryVisit_20 (by decide) ?_
  refine sim_callVIp v_RX1_60 (LRow_o lay_11) dX1_tryVisit_21 (k_Row_owned SH RHO n 11 4 lay_11 lay_4 v3 0 s2) rfl ⟨by decide, by decide⟩ (S := []) rfl (Nat.le_of_ble_eq_true rfl) (fun r4 => ?_)
  refine sim_istore_n (fun v5 => [(2, vI v5), (1, vI v3), (0, vR 121)]) (fun _ => rfl) (by decide) dX1_tryVisit_24 (fun v5 => ?_)
  refine sim_iload_n 0 rfl dX1_tryVisit_25 ?_
  refine sim_if_ne (tgt := 30) dX1_tryVisit_26 (by decide) ?_ ?_
  · refine sim_aload_n 2 rfl dX1_tryVisit_30 ?_
    refine sim_getR g_RX1_31 sh_121 rh_121_0 dX1_tryVisit_31 ?_
    refine sim_iload_n 1 rfl dX1_tryVisit_34 ?_
    refine sim_aload_n 2 rfl dX1_tryVisit_35 ?_
    refine sim_iload_n 0 rfl dX1_tryVisit_36 ?_
    refine sim_callVIm v_RX1_56 sh_121 dX1_tryVisit_37 (k_Day_draw v5 s2) rfl ⟨by decide, by decide⟩ (S := [vI v3, vR 11]) rfl (Nat.le_of_ble_eq_true rfl) (fun r6 s7 => ?_)
    refine sim_callVIp v_RX1_64 (LRow_o lay_11) dX1_tryVisit_40 (k_Row_heldAt SH RHO n 11 4 lay_11 lay_4 v3 r6 s7) rfl ⟨by decide, by decide⟩ (S := []) rfl (Nat.le_of_ble_eq_true rfl) (fun r8 => ?_)
    refine sim_istore_n (fun v9 => [(3, vI v9), (2, vI v5), (1, vI v3), (0, vR 121)]) (fun _ => rfl) (by decide) dX1_tryVisit_43 (fun v9 => ?_)
    refine sim_aload_n 3 rfl dX1_tryVisit_44 ?_
    refine sim_iconst dX1_tryVisit_45 (by decide) ?_
    refine sim_callVIm v_RX1_56 sh_121 dX1_tryVisit_46 (k_Day_draw 2 s7) rfl ⟨by decide, by decide⟩ (S := []) rfl (Nat.le_of_ble_eq_true rfl) (fun r10 s11 => ?_)
    refine sim_istore (fun v12 => [(4, vI v12), (3, vI v9), (2, vI v5), (1, vI v3), (0, vR 121)]) (fun _ => rfl) (by decide) dX1_tryVisit_49 (fun v12 => ?_)
    refine sim_iload_n 1 rfl dX1_tryVisit_51 ?_
    refine sim_iconst dX1_tryVisit_52 (by decide) ?_
    refine sim_jn0 (pc' := 93) ([(0, vR 121)]) ([]) (s11) ?_ (fun j13 hj13 => ?_)
    · refine sim_aload_n 0 rfl dX1_tryVisit_93 ?_
      refine sim_dup rfl dX1_tryVisit_94 ?_
      refine sim_getI g_RX1_28 sh_121 dX1_tryVisit_95 ?_
      refine sim_iconst dX1_tryVisit_98 (by decide) ?_
      refine sim_iadd dX1_tryVisit_99 ?_
      refine sim_putI g_RX1_28 sh_121 dX1_tryVisit_100 (fun s14 => ?_)
      exact sim_vret rfl rfl dX1_tryVisit_103
    refine sim_icmp_eq (tgt := 93) dX1_tryVisit_53 (by decide) ?_ ?_
    · exact sim_sub [4] rfl (hj13 )
    · refine sim_aload_n 4 rfl dX1_tryVisit_56 ?_
      refine sim_getR g_RX1_31 sh_121 rh_121_0 dX1_tryVisit_57 ?_
      refine sim_iload_n 3 rfl dX1_tryVisit_60 ?_
      refine sim_iload_n 1 rfl dX1_tryVisit_61 ?_
      refine sim_iload 0 rfl dX1_tryVisit_62 ?_
      refine sim_callVIp v_RX1_67 (LRow_o lay_11) dX1_tryVisit_64 (k_Row_refusal SH RHO 11 4 lay_11 lay_4 v3 v9 v12 s11) rfl ⟨by decide, by decide⟩ (S := []) rfl (Nat.le_of_ble_eq_true rfl) (fun r15 => ?_)
      refine sim_if_ne (tgt := 93) dX1_tryVisit_67 (by decide) ?_ ?_
      · exact sim_sub [4] rfl (hj13 )
      · refine sim_aload_n 4 rfl dX1_tryVisit_70 ?_
        refine sim_getR g_RX1_31 sh_121 rh_121_0 dX1_tryVisit_71 ?_
        refine sim_iload_n 1 rfl dX1_tryVisit_74 ?_
        refine sim_iload 0 rfl dX1_tryVisit_75 ?_
        refine sim_callVVm v_RX1_71 (LRow_o lay_11) dX1_tryVisit_77 (k_Row_put SH RHO n 11 4 lay_11 lay_4 v9 v12 s11) rfl ⟨by decide, by decide⟩ (S := []) rfl (Nat.le_of_ble_eq_true rfl) (fun s16 => ?_)
        refine sim_aload_n 4 rfl dX1_tryVisit_80 ?_
        refine sim_dup rfl dX1_tryVisit_81 ?_
        refine sim_getI g_RX1_19 sh_121 dX1_tryVisit_82 ?_
        refine sim_iconst dX1_tryVisit_85 (by decide) ?_
        refine sim_iadd dX1_tryVisit_86 ?_
        refine sim_putI g_RX1_19 sh_121 dX1_tryVisit_87 (fun s17 => ?_)
        refine sim_goto (tgt := 103) dX1_tryVisit_90 (by decide) ?_
        exact sim_vret rfl rfl dX1_tryVisit_103
  · exact sim_vret rfl rfl dX1_tryVisit_29
theorem dX7_takeOff_0 : decode cX7_takeOff 0 = .ok (.aload_n 0, 1) := by decide +kernel
theorem dX7_takeOff_1 : decode cX7_takeOff 1 = .ok (.iload_n 1, 1) := by decide +kernel
theorem dX7_takeOff_2 : decode cX7_takeOff 2 = .ok (.invokevirtual 66, 3) := by decide +kernel
theorem dX7_takeOff_5 : decode cX7_takeOff 5 = .ok (.istore_n 2, 1) := by decide +kernel
theorem dX7_takeOff_6 : decode cX7_takeOff 6 = .ok (.iload_n 1, 1) := by decide +kernel
theorem dX7_takeOff_7 : decode cX7_takeOff 7 = .ok (.ifCond .ne 33, 3) := by decide +kernel
theorem dX7_takeOff_10 : decode cX7_takeOff 10 = .ok (.iconst 1, 1) := by decide +kernel
theorem dX7_takeOff_11 : decode cX7_takeOff 11 = .ok (.istore_n 3, 1) := by decide +kernel
theorem dX7_takeOff_12 : decode cX7_takeOff 12 = .ok (.iload_n 3, 1) := by decide +kernel
theorem dX7_takeOff_13 : decode cX7_takeOff 13 = .ok (.aload_n 0, 1) := by decide +kernel
theorem dX7_takeOff_14 : decode cX7_takeOff 14 = .ok (.getfield 21, 3) := by decide +kernel
theorem dX7_takeOff_17 : decode cX7_takeOff 17 = .ok (.if_icmp .ge 23, 3) := by decide +kernel
theorem dX7_takeOff_20 : decode cX7_takeOff 20 = .ok (.aload_n 0, 1) := by decide +kernel
theorem dX7_takeOff_21 : decode cX7_takeOff 21 = .ok (.getfield 18, 3) := by decide +kernel
theorem dX7_takeOff_24 : decode cX7_takeOff 24 = .ok (.iload_n 3, 1) := by decide +kernel
theorem dX7_takeOff_25 : decode cX7_takeOff 25 = .ok (.iconst 1, 1) := by decide +kernel
theorem dX7_takeOff_26 : decode cX7_takeOff 26 = .ok (.isub, 1) := by decide +kernel
theorem dX7_takeOff_27 : decode cX7_takeOff 27 = .ok (.aload_n 0, 1) := by decide +kernel
theorem dX7_takeOff_28 : decode cX7_takeOff 28 = .ok (.getfield 18, 3) := by decide +kernel
theorem dX7_takeOff_31 : decode cX7_takeOff 31 = .ok (.iload_n 3, 1) := by decide +kernel
theorem dX7_takeOff_32 : decode cX7_takeOff 32 = .ok (.iaload, 1) := by decide +kernel
theorem dX7_takeOff_33 : decode cX7_takeOff 33 = .ok (.iastore, 1) := by decide +kernel
theorem dX7_takeOff_34 : decode cX7_takeOff 34 = .ok (.iinc 3 1, 3) := by decide +kernel
theorem dX7_takeOff_37 : decode cX7_takeOff 37 = .ok (.goto (-25), 3) := by decide +kernel
theorem dX7_takeOff_40 : decode cX7_takeOff 40 = .ok (.aload_n 0, 1) := by decide +kernel
theorem dX7_takeOff_41 : decode cX7_takeOff 41 = .ok (.aload_n 0, 1) := by decide +kernel
theorem dX7_takeOff_42 : decode cX7_takeOff 42 = .ok (.getfield 21, 3) := by decide +kernel
theorem dX7_takeOff_45 : decode cX7_takeOff 45 = .ok (.iconst 1, 1) := by decide +kernel
theorem dX7_takeOff_46 : decode cX7_takeOff 46 = .ok (.isub, 1) := by decide +kernel
theorem dX7_takeOff_47 : decode cX7_takeOff 47 = .ok (.iconst 0, 1) := by decide +kernel
theorem dX7_takeOff_48 : decode cX7_takeOff 48 = .ok (.invokestatic 103, 3) := by decide +kernel
theorem dX7_takeOff_51 : decode cX7_takeOff 51 = .ok (.putfield 21, 3) := by decide +kernel
theorem dX7_takeOff_54 : decode cX7_takeOff 54 = .ok (.aload_n 0, 1) := by decide +kernel
theorem dX7_takeOff_55 : decode cX7_takeOff 55 = .ok (.getfield 15, 3) := by decide +kernel
theorem dX7_takeOff_58 : decode cX7_takeOff 58 = .ok (.iload_n 2, 1) := by decide +kernel
theorem dX7_takeOff_59 : decode cX7_takeOff 59 = .ok (.iconst 0, 1) := by decide +kernel
theorem dX7_takeOff_60 : decode cX7_takeOff 60 = .ok (.iastore, 1) := by decide +kernel
theorem dX7_takeOff_61 : decode cX7_takeOff 61 = .ok (.iload_n 2, 1) := by decide +kernel
theorem dX7_takeOff_62 : decode cX7_takeOff 62 = .ok (.ireturn, 1) := by decide +kernel
def f_Row_takeOff (n : Nat) (p : Nat) (ip : Nat) (a1 : Int) (σ : JSg) : Option (Int × JSg) :=
  bd1 (f_Row_lastAt p ip a1 σ) fun r1 => lt_ r1 fun v2 => jn1 (fun  (s4 : JSg) => lt_ (sp s4 p 4 (max (w32 ((s4 p 4) - 1)) 0)) fun s5 => chk (0 ≤ v2 ∧ v2 < 28) <| lt_ (sp s5 (p + 2) v2.toNat 0) fun s6 => some (v2, s6)) fun j3 => if a1 = 0 then (lt_ 1 fun v7 => wh2 n (fun rc8 (x9 : Int) (s10 : JSg) => if x9 < (s10 p 4) then (chk (0 ≤ x9 ∧ x9 < 28) <| chk (0 ≤ (w32 (x9 - 1)) ∧ (w32 (x9 - 1)) < 28) <| lt_ (sp s10 (p + 3) (w32 (x9 - 1)).toNat (s10 (p + 3) x9.toNat)) fun s11 => lt_ (w32 (x9 + 1)) fun v12 => rc8 v12 s11) else (j3 s10)) v7 (σ)) else (j3 (σ))
set_option maxRecDepth 20000 in
set_option maxHeartbeats 4000000 in
theorem k_Row_takeOff (Sh : JSh) (ρ : JRo) (n : Nat) (p : Nat) (ip : Nat) (hp : LRow Sh ρ p ip) (hip : LIsl Sh ρ ip) (a1 : Int) (σ : JSg) : Call yX7_takeOff cX7_takeOff 4 (some .int) 1 Sh ρ [vR p, vI a1] σ dIm (f_Row_takeOff n p ip a1 σ) := by
  refine call_of_sim (by decide +kernel) (Nat.le_of_ble_eq_true rfl) ?_
  show Sim RX7 cX7_takeOff 4 (some .int) 1 Sh ρ 0 [(0, vR p), (1, vI a1)] [] σ dIm (f_Row_takeOff n p ip a1 σ)
  unfold f_Row_takeOff
  refine sim_aload_n 0 rfl dX7_takeOff_0 ?_
  refine sim_iload_n 1 rfl dX7_takeOff_1 ?_
  refine sim_callVIp v_RX7_66 (LRow_o hp) dX7_takeOff_2 (k_Row_lastAt Sh ρ p ip hp hip a1 σ) rfl ⟨by decide, by decide⟩ (S := []) rfl (Nat.le_of_ble_eq_true rfl) (fun r1 => ?_)
  refine sim_istore_n (fun v2 => [(2, vI v2), (0, vR p), (1, vI a1)]) (fun _ => rfl) (by decide) dX7_takeOff_5 (fun v2 => ?_)
  refine sim_iload_n 2 rfl dX7_takeOff_6 ?_
  refine sim_jn1 (pc' := 40) (fun  (s4 : JSg) => [(0, vR p), (2, vI v2)]) (fun  (s4 : JSg) => []) (fun  (s4 : JSg) => s4) ?_ (fun j3 hj3 => ?_)
  · intro s4
    refine sim_aload_n 0 rfl dX7_takeOff_40 ?_
    refine sim_aload_n 0 rfl dX7_takeOff_41 ?_
    refine sim_getI g_RX7_21 (LRow_o hp) dX7_takeOff_42 ?_
    refine sim_iconst dX7_takeOff_45 (by decide) ?_
    refine sim_isub dX7_takeOff_46 ?_
    refine sim_iconst dX7_takeOff_47 (by decide) ?_
    refine sim_mmax w_918 w_618 w_14 w_619 (by decide) (Nat.le_of_ble_eq_true rfl) dX7_takeOff_48 ?_
    refine sim_putI g_RX7_21 (LRow_o hp) dX7_takeOff_51 (fun s5 => ?_)
    refine sim_aload_n 0 rfl dX7_takeOff_54 ?_
    refine sim_getR g_RX7_15 (LRow_o hp) (LRow_r2 hp) dX7_takeOff_55 ?_
    refine sim_iload_n 1 rfl dX7_takeOff_58 ?_
    refine sim_iconst dX7_takeOff_59 (by decide) ?_
    refine sim_iastore (LRow_a2 hp) rfl dX7_takeOff_60 (fun s6 => ?_)
    refine sim_iload_n 1 rfl dX7_takeOff_61 ?_
    exact sim_iret rfl rfl dX7_takeOff_62
  refine sim_if_ne (tgt := 40) dX7_takeOff_7 (by decide) ?_ ?_
  · exact sim_sub [1, 0] rfl (hj3 (σ))
  · refine sim_iconst dX7_takeOff_10 (by decide) ?_
    refine sim_istore_n (fun v7 => [(3, vI v7), (2, vI v2), (0, vR p), (1, vI a1)]) (fun _ => rfl) (by decide) dX7_takeOff_11 (fun v7 => ?_)
    refine sim_sub [2, 1, 0] (L' := [(0, vR p), (2, vI v2), (3, vI v7)]) rfl ?_
    refine sim_wh2 (fun (x9 : Int) (s10 : JSg) => [(0, vR p), (2, vI v2), (3, vI x9)]) (fun (x9 : Int) (s10 : JSg) => s10) ?_ n v7 (σ)
    intro rc8 hrc8 x9 s10
    refine sim_iload_n 2 rfl dX7_takeOff_12 ?_
    refine sim_aload_n 0 rfl dX7_takeOff_13 ?_
    refine sim_getI g_RX7_21 (LRow_o hp) dX7_takeOff_14 ?_
    refine sim_icmp_ge (tgt := 40) dX7_takeOff_17 (by decide) ?_ ?_
    · exact sim_sub [0, 1] rfl (hj3 s10)
    · refine sim_aload_n 0 rfl dX7_takeOff_20 ?_
      refine sim_getR g_RX7_18 (LRow_o hp) (LRow_r3 hp) dX7_takeOff_21 ?_
      refine sim_iload_n 2 rfl dX7_takeOff_24 ?_
      refine sim_iconst dX7_takeOff_25 (by decide) ?_
      refine sim_isub dX7_takeOff_26 ?_
      refine sim_aload_n 0 rfl dX7_takeOff_27 ?_
      refine sim_getR g_RX7_18 (LRow_o hp) (LRow_r3 hp) dX7_takeOff_28 ?_
      refine sim_iload_n 2 rfl dX7_takeOff_31 ?_
      refine sim_iaload (LRow_a3 hp) rfl dX7_takeOff_32 ?_
      refine sim_iastore (LRow_a3 hp) rfl dX7_takeOff_33 (fun s11 => ?_)
      refine sim_iinc 2 rfl (fun v12 => [(3, vI v12), (0, vR p), (2, vI v2)]) (fun _ => rfl) (by decide) dX7_takeOff_34 (fun v12 => ?_)
      refine sim_goto (tgt := 12) dX7_takeOff_37 (by decide) ?_
      exact sim_sub [1, 2, 0] rfl (hrc8 v12 s11)
theorem dX1_tryCat_0 : decode cX1_tryCat 0 = .ok (.aload_n 0, 1) := by decide +kernel
theorem dX1_tryCat_1 : decode cX1_tryCat 1 = .ok (.bipush 8, 2) := by decide +kernel
theorem dX1_tryCat_3 : decode cX1_tryCat 3 = .ok (.invokevirtual 56, 3) := by decide +kernel
theorem dX1_tryCat_6 : decode cX1_tryCat 6 = .ok (.ifCond .eq 4, 3) := by decide +kernel
theorem dX1_tryCat_9 : decode cX1_tryCat 9 = .ok (.return_, 1) := by decide +kernel
theorem dX1_tryCat_10 : decode cX1_tryCat 10 = .ok (.aload_n 0, 1) := by decide +kernel
theorem dX1_tryCat_11 : decode cX1_tryCat 11 = .ok (.iconst 2, 1) := by decide +kernel
theorem dX1_tryCat_12 : decode cX1_tryCat 12 = .ok (.invokevirtual 56, 3) := by decide +kernel
theorem dX1_tryCat_15 : decode cX1_tryCat 15 = .ok (.istore_n 1, 1) := by decide +kernel
theorem dX1_tryCat_16 : decode cX1_tryCat 16 = .ok (.aload_n 0, 1) := by decide +kernel
theorem dX1_tryCat_17 : decode cX1_tryCat 17 = .ok (.getfield 31, 3) := by decide +kernel
theorem dX1_tryCat_20 : decode cX1_tryCat 20 = .ok (.getfield 75, 3) := by decide +kernel
theorem dX1_tryCat_23 : decode cX1_tryCat 23 = .ok (.ifCond .le 22, 3) := by decide +kernel
theorem dX1_tryCat_26 : decode cX1_tryCat 26 = .ok (.aload_n 0, 1) := by decide +kernel
theorem dX1_tryCat_27 : decode cX1_tryCat 27 = .ok (.getfield 31, 3) := by decide +kernel
theorem dX1_tryCat_30 : decode cX1_tryCat 30 = .ok (.iload_n 1, 1) := by decide +kernel
theorem dX1_tryCat_31 : decode cX1_tryCat 31 = .ok (.invokevirtual 78, 3) := by decide +kernel
theorem dX1_tryCat_34 : decode cX1_tryCat 34 = .ok (.pop, 1) := by decide +kernel
theorem dX1_tryCat_35 : decode cX1_tryCat 35 = .ok (.aload_n 0, 1) := by decide +kernel
theorem dX1_tryCat_36 : decode cX1_tryCat 36 = .ok (.dup, 1) := by decide +kernel
theorem dX1_tryCat_37 : decode cX1_tryCat 37 = .ok (.getfield 22, 3) := by decide +kernel
theorem dX1_tryCat_40 : decode cX1_tryCat 40 = .ok (.iconst 1, 1) := by decide +kernel
theorem dX1_tryCat_41 : decode cX1_tryCat 41 = .ok (.iadd, 1) := by decide +kernel
theorem dX1_tryCat_42 : decode cX1_tryCat 42 = .ok (.putfield 22, 3) := by decide +kernel
theorem dX1_tryCat_45 : decode cX1_tryCat 45 = .ok (.return_, 1) := by decide +kernel
def f_Day_tryCat (n : Nat)   (σ : JSg) : Option (JSg) :=
  bd2 (f_Day_draw 8 σ) fun r1 s2 => if r1 = 0 then (bd2 (f_Day_draw 2 s2) fun r3 s4 => lt_ r3 fun v5 => if 0 < (s4 11 4) then (bd2 (f_Row_takeOff n 11 4 v5 s4) fun r6 s7 => lt_ (sp s7 121 4 (w32 ((s7 121 4) + 1))) fun s8 => some s8) else (some s4)) else (some s2)
set_option maxRecDepth 20000 in
set_option maxHeartbeats 4000000 in
theorem k_Day_tryCat  (n : Nat)    (σ : JSg) : Call yX1_tryCat cX1_tryCat 2 none 2 SH RHO [vR 121] σ dVm (f_Day_tryCat n σ) := by
  refine call_of_sim (by decide +kernel) (Nat.le_of_ble_eq_true rfl) ?_
  show Sim RX1 cX1_tryCat 2 none 2 SH RHO 0 [(0, vR 121)] [] σ dVm (f_Day_tryCat n σ)
  unfold f_Day_tryCat
  refine sim_aload_n 0 rfl dX1_tryCat_0 ?_
  refine sim_bipush dX1_tryCat_1 (by decide +kernel) ?_
  refine sim_callVIm v_RX1_56 sh_121 dX1_tryCat_3 (k_Day_draw 8 σ) rfl ⟨by decide, by decide⟩ (S := []) rfl (Nat.le_of_ble_eq_true rfl) (fun r1 s2 => ?_)
  refine sim_if_eq (tgt := 10) dX1_tryCat_6 (by decide) ?_ ?_
  · refine sim_aload_n 0 rfl dX1_tryCat_10 ?_
    refine sim_iconst dX1_tryCat_11 (by decide) ?_
    refine sim_callVIm v_RX1_56 sh_121 dX1_tryCat_12 (k_Day_draw 2 s2) rfl ⟨by decide, by decide⟩ (S := []) rfl (Nat.le_of_ble_eq_true rfl) (fun r3 s4 => ?_)
    refine sim_istore_n (fun v5 => [(1, vI v5), (0, vR 121)]) (fun _ => rfl) (by decide) dX1_tryCat_15 (fun v5 => ?_)
    refine sim_aload_n 1 rfl dX1_tryCat_16 ?_
    refine sim_getR g_RX1_31 sh_121 rh_121_0 dX1_tryCat_17 ?_
    refine sim_getI g_RX1_75 (LRow_o lay_11) dX1_tryCat_20 ?_
    refine sim_if_le (tgt := 45) dX1_tryCat_23 (by decide) ?_ ?_
    · exact sim_vret rfl rfl dX1_tryCat_45
    · refine sim_aload_n 1 rfl dX1_tryCat_26 ?_
      refine sim_getR g_RX1_31 sh_121 rh_121_0 dX1_tryCat_27 ?_
      refine sim_iload_n 0 rfl dX1_tryCat_30 ?_
      refine sim_callVIm v_RX1_78 (LRow_o lay_11) dX1_tryCat_31 (k_Row_takeOff SH RHO n 11 4 lay_11 lay_4 v5 s4) rfl ⟨by decide, by decide⟩ (S := []) rfl (Nat.le_of_ble_eq_true rfl) (fun r6 s7 => ?_)
      refine sim_pop rfl dX1_tryCat_34 ?_
      refine sim_aload_n 1 rfl dX1_tryCat_35 ?_
      refine sim_dup rfl dX1_tryCat_36 ?_
      refine sim_getI g_RX1_22 sh_121 dX1_tryCat_37 ?_
      refine sim_iconst dX1_tryCat_40 (by decide) ?_
      refine sim_iadd dX1_tryCat_41 ?_
      refine sim_putI g_RX1_22 sh_121 dX1_tryCat_42 (fun s8 => ?_)
      exact sim_vret rfl rfl dX1_tryCat_45
  · exact sim_vret rfl rfl dX1_tryCat_9
theorem dX7_turnLast_0 : decode cX7_turnLast 0 = .ok (.aload_n 0, 1) := by decide +kernel
theorem dX7_turnLast_1 : decode cX7_turnLast 1 = .ok (.iconst 1, 1) := by decide +kernel
theorem dX7_turnLast_2 : decode cX7_turnLast 2 = .ok (.invokevirtual 66, 3) := by decide +kernel
theorem dX7_turnLast_5 : decode cX7_turnLast 5 = .ok (.istore_n 1, 1) := by decide +kernel
theorem dX7_turnLast_6 : decode cX7_turnLast 6 = .ok (.aload_n 0, 1) := by decide +kernel
theorem dX7_turnLast_7 : decode cX7_turnLast 7 = .ok (.getfield 25, 3) := by decide +kernel
theorem dX7_turnLast_10 : decode cX7_turnLast 10 = .ok (.iload_n 1, 1) := by decide +kernel
theorem dX7_turnLast_11 : decode cX7_turnLast 11 = .ok (.iconst 1, 1) := by decide +kernel
theorem dX7_turnLast_12 : decode cX7_turnLast 12 = .ok (.aload_n 0, 1) := by decide +kernel
theorem dX7_turnLast_13 : decode cX7_turnLast 13 = .ok (.getfield 25, 3) := by decide +kernel
theorem dX7_turnLast_16 : decode cX7_turnLast 16 = .ok (.iload_n 1, 1) := by decide +kernel
theorem dX7_turnLast_17 : decode cX7_turnLast 17 = .ok (.iaload, 1) := by decide +kernel
theorem dX7_turnLast_18 : decode cX7_turnLast 18 = .ok (.isub, 1) := by decide +kernel
theorem dX7_turnLast_19 : decode cX7_turnLast 19 = .ok (.iastore, 1) := by decide +kernel
theorem dX7_turnLast_20 : decode cX7_turnLast 20 = .ok (.return_, 1) := by decide +kernel
def f_Row_turnLast  (p : Nat) (ip : Nat)  (σ : JSg) : Option (JSg) :=
  bd1 (f_Row_lastAt p ip 1 σ) fun r1 => lt_ r1 fun v2 => chk (0 ≤ v2 ∧ v2 < 28) <| chk (0 ≤ v2 ∧ v2 < 28) <| lt_ (sp σ (p + 4) v2.toNat (w32 (1 - (σ (p + 4) v2.toNat)))) fun s3 => some s3
set_option maxRecDepth 20000 in
set_option maxHeartbeats 4000000 in
theorem k_Row_turnLast (Sh : JSh) (ρ : JRo)  (p : Nat) (ip : Nat) (hp : LRow Sh ρ p ip) (hip : LIsl Sh ρ ip)  (σ : JSg) : Call yX7_turnLast cX7_turnLast 2 none 1 Sh ρ [vR p] σ dVm (f_Row_turnLast p ip σ) := by
  refine call_of_sim (by decide +kernel) (Nat.le_of_ble_eq_true rfl) ?_
  show Sim RX7 cX7_turnLast 2 none 1 Sh ρ 0 [(0, vR p)] [] σ dVm (f_Row_turnLast p ip σ)
  unfold f_Row_turnLast
  refine sim_aload_n 0 rfl dX7_turnLast_0 ?_
  refine sim_iconst dX7_turnLast_1 (by decide) ?_
  refine sim_callVIp v_RX7_66 (LRow_o hp) dX7_turnLast_2 (k_Row_lastAt Sh ρ p ip hp hip 1 σ) rfl ⟨by decide, by decide⟩ (S := []) rfl (Nat.le_of_ble_eq_true rfl) (fun r1 => ?_)
  refine sim_istore_n (fun v2 => [(1, vI v2), (0, vR p)]) (fun _ => rfl) (by decide) dX7_turnLast_5 (fun v2 => ?_)
  refine sim_aload_n 1 rfl dX7_turnLast_6 ?_
  refine sim_getR g_RX7_25 (LRow_o hp) (LRow_r5 hp) dX7_turnLast_7 ?_
  refine sim_iload_n 0 rfl dX7_turnLast_10 ?_
  refine sim_iconst dX7_turnLast_11 (by decide) ?_
  refine sim_aload_n 1 rfl dX7_turnLast_12 ?_
  refine sim_getR g_RX7_25 (LRow_o hp) (LRow_r5 hp) dX7_turnLast_13 ?_
  refine sim_iload_n 0 rfl dX7_turnLast_16 ?_
  refine sim_iaload (LRow_a5 hp) rfl dX7_turnLast_17 ?_
  refine sim_isub dX7_turnLast_18 ?_
  refine sim_iastore (LRow_a5 hp) rfl dX7_turnLast_19 (fun s3 => ?_)
  exact sim_vret rfl rfl dX7_turnLast_20
theorem dX1_tryTide_0 : decode cX1_tryTide 0 = .ok (.aload_n 0, 1) := by decide +kernel
theorem dX1_tryTide_1 : decode cX1_tryTide 1 = .ok (.iconst 4, 1) := by decide +kernel
theorem dX1_tryTide_2 : decode cX1_tryTide 2 = .ok (.invokevirtual 56, 3) := by decide +kernel
theorem dX1_tryTide_5 : decode cX1_tryTide 5 = .ok (.ifCond .ne 30, 3) := by decide +kernel
theorem dX1_tryTide_8 : decode cX1_tryTide 8 = .ok (.aload_n 0, 1) := by decide +kernel
theorem dX1_tryTide_9 : decode cX1_tryTide 9 = .ok (.getfield 31, 3) := by decide +kernel
theorem dX1_tryTide_12 : decode cX1_tryTide 12 = .ok (.getfield 75, 3) := by decide +kernel
theorem dX1_tryTide_15 : decode cX1_tryTide 15 = .ok (.ifCond .le 20, 3) := by decide +kernel
theorem dX1_tryTide_18 : decode cX1_tryTide 18 = .ok (.aload_n 0, 1) := by decide +kernel
theorem dX1_tryTide_19 : decode cX1_tryTide 19 = .ok (.getfield 31, 3) := by decide +kernel
theorem dX1_tryTide_22 : decode cX1_tryTide 22 = .ok (.invokevirtual 81, 3) := by decide +kernel
theorem dX1_tryTide_25 : decode cX1_tryTide 25 = .ok (.aload_n 0, 1) := by decide +kernel
theorem dX1_tryTide_26 : decode cX1_tryTide 26 = .ok (.dup, 1) := by decide +kernel
theorem dX1_tryTide_27 : decode cX1_tryTide 27 = .ok (.getfield 25, 3) := by decide +kernel
theorem dX1_tryTide_30 : decode cX1_tryTide 30 = .ok (.iconst 1, 1) := by decide +kernel
theorem dX1_tryTide_31 : decode cX1_tryTide 31 = .ok (.iadd, 1) := by decide +kernel
theorem dX1_tryTide_32 : decode cX1_tryTide 32 = .ok (.putfield 25, 3) := by decide +kernel
theorem dX1_tryTide_35 : decode cX1_tryTide 35 = .ok (.return_, 1) := by decide +kernel
def f_Day_tryTide    (σ : JSg) : Option (JSg) :=
  bd2 (f_Day_draw 4 σ) fun r1 s2 => if r1 = 0 then (if 0 < (s2 11 4) then (bd1 (f_Row_turnLast 11 4 s2) fun s3 => lt_ (sp s3 121 5 (w32 ((s3 121 5) + 1))) fun s4 => some s4) else (some s2)) else (some s2)
set_option maxRecDepth 20000 in
set_option maxHeartbeats 4000000 in
theorem k_Day_tryTide      (σ : JSg) : Call yX1_tryTide cX1_tryTide 1 none 2 SH RHO [vR 121] σ dVm (f_Day_tryTide  σ) := by
  refine call_of_sim (by decide +kernel) (Nat.le_of_ble_eq_true rfl) ?_
  show Sim RX1 cX1_tryTide 1 none 2 SH RHO 0 [(0, vR 121)] [] σ dVm (f_Day_tryTide  σ)
  unfold f_Day_tryTide
  refine sim_aload_n 0 rfl dX1_tryTide_0 ?_
  refine sim_iconst dX1_tryTide_1 (by decide) ?_
  refine sim_callVIm v_RX1_56 sh_121 dX1_tryTide_2 (k_Day_draw 4 σ) rfl ⟨by decide, by decide⟩ (S := []) rfl (Nat.le_of_ble_eq_true rfl) (fun r1 s2 => ?_)
  refine sim_if_ne (tgt := 35) dX1_tryTide_5 (by decide) ?_ ?_
  · exact sim_vret rfl rfl dX1_tryTide_35
  · refine sim_aload_n 0 rfl dX1_tryTide_8 ?_
    refine sim_getR g_RX1_31 sh_121 rh_121_0 dX1_tryTide_9 ?_
    refine sim_getI g_RX1_75 (LRow_o lay_11) dX1_tryTide_12 ?_
    refine sim_if_le (tgt := 35) dX1_tryTide_15 (by decide) ?_ ?_
    · exact sim_vret rfl rfl dX1_tryTide_35
    · refine sim_aload_n 0 rfl dX1_tryTide_18 ?_
      refine sim_getR g_RX1_31 sh_121 rh_121_0 dX1_tryTide_19 ?_
      refine sim_callVVm v_RX1_81 (LRow_o lay_11) dX1_tryTide_22 (k_Row_turnLast SH RHO 11 4 lay_11 lay_4 s2) rfl ⟨by decide, by decide⟩ (S := []) rfl (Nat.le_of_ble_eq_true rfl) (fun s3 => ?_)
      refine sim_aload_n 0 rfl dX1_tryTide_25 ?_
      refine sim_dup rfl dX1_tryTide_26 ?_
      refine sim_getI g_RX1_25 sh_121 dX1_tryTide_27 ?_
      refine sim_iconst dX1_tryTide_30 (by decide) ?_
      refine sim_iadd dX1_tryTide_31 ?_
      refine sim_putI g_RX1_25 sh_121 dX1_tryTide_32 (fun s4 => ?_)
      exact sim_vret rfl rfl dX1_tryTide_35
theorem dX1_live_0 : decode cX1_live 0 = .ok (.aload_n 0, 1) := by decide +kernel
theorem dX1_live_1 : decode cX1_live 1 = .ok (.iload_n 2, 1) := by decide +kernel
theorem dX1_live_2 : decode cX1_live 2 = .ok (.putfield 9, 3) := by decide +kernel
theorem dX1_live_5 : decode cX1_live 5 = .ok (.aload_n 0, 1) := by decide +kernel
theorem dX1_live_6 : decode cX1_live 6 = .ok (.iconst 1, 1) := by decide +kernel
theorem dX1_live_7 : decode cX1_live 7 = .ok (.putfield 15, 3) := by decide +kernel
theorem dX1_live_10 : decode cX1_live 10 = .ok (.aload_n 0, 1) := by decide +kernel
theorem dX1_live_11 : decode cX1_live 11 = .ok (.iconst 0, 1) := by decide +kernel
theorem dX1_live_12 : decode cX1_live 12 = .ok (.putfield 19, 3) := by decide +kernel
theorem dX1_live_15 : decode cX1_live 15 = .ok (.aload_n 0, 1) := by decide +kernel
theorem dX1_live_16 : decode cX1_live 16 = .ok (.iconst 0, 1) := by decide +kernel
theorem dX1_live_17 : decode cX1_live 17 = .ok (.putfield 22, 3) := by decide +kernel
theorem dX1_live_20 : decode cX1_live 20 = .ok (.aload_n 0, 1) := by decide +kernel
theorem dX1_live_21 : decode cX1_live 21 = .ok (.iconst 0, 1) := by decide +kernel
theorem dX1_live_22 : decode cX1_live 22 = .ok (.putfield 25, 3) := by decide +kernel
theorem dX1_live_25 : decode cX1_live 25 = .ok (.aload_n 0, 1) := by decide +kernel
theorem dX1_live_26 : decode cX1_live 26 = .ok (.iconst 0, 1) := by decide +kernel
theorem dX1_live_27 : decode cX1_live 27 = .ok (.putfield 28, 3) := by decide +kernel
theorem dX1_live_30 : decode cX1_live 30 = .ok (.iconst 0, 1) := by decide +kernel
theorem dX1_live_31 : decode cX1_live 31 = .ok (.istore_n 3, 1) := by decide +kernel
theorem dX1_live_32 : decode cX1_live 32 = .ok (.iload_n 3, 1) := by decide +kernel
theorem dX1_live_33 : decode cX1_live 33 = .ok (.iload_n 1, 1) := by decide +kernel
theorem dX1_live_34 : decode cX1_live 34 = .ok (.if_icmp .ge 21, 3) := by decide +kernel
theorem dX1_live_37 : decode cX1_live 37 = .ok (.aload_n 0, 1) := by decide +kernel
theorem dX1_live_38 : decode cX1_live 38 = .ok (.invokevirtual 35, 3) := by decide +kernel
theorem dX1_live_41 : decode cX1_live 41 = .ok (.aload_n 0, 1) := by decide +kernel
theorem dX1_live_42 : decode cX1_live 42 = .ok (.invokevirtual 38, 3) := by decide +kernel
theorem dX1_live_45 : decode cX1_live 45 = .ok (.aload_n 0, 1) := by decide +kernel
theorem dX1_live_46 : decode cX1_live 46 = .ok (.invokevirtual 41, 3) := by decide +kernel
theorem dX1_live_49 : decode cX1_live 49 = .ok (.iinc 3 1, 3) := by decide +kernel
theorem dX1_live_52 : decode cX1_live 52 = .ok (.goto (-20), 3) := by decide +kernel
theorem dX1_live_55 : decode cX1_live 55 = .ok (.aload_n 0, 1) := by decide +kernel
theorem dX1_live_56 : decode cX1_live 56 = .ok (.getfield 19, 3) := by decide +kernel
theorem dX1_live_59 : decode cX1_live 59 = .ok (.ireturn, 1) := by decide +kernel
def f_Day_live (n : Nat)  (a1 : Int) (a2 : Int) (σ : JSg) : Option (Int × JSg) :=
  lt_ (sp σ 121 1 a2) fun s1 => lt_ (sp s1 121 2 1) fun s2 => lt_ (sp s2 121 3 0) fun s3 => lt_ (sp s3 121 4 0) fun s4 => lt_ (sp s4 121 5 0) fun s5 => lt_ (sp s5 121 6 0) fun s6 => lt_ 0 fun v7 => wh2 n (fun rc8 (x9 : Int) (s10 : JSg) => if x9 < a1 then (bd1 (f_Day_tryVisit n s10) fun s11 => bd1 (f_Day_tryCat n s11) fun s12 => bd1 (f_Day_tryTide s12) fun s13 => lt_ (w32 (x9 + 1)) fun v14 => rc8 v14 s13) else (some (s10 121 3, s10))) v7 s6
set_option maxRecDepth 20000 in
set_option maxHeartbeats 4000000 in
theorem k_Day_live  (n : Nat)   (a1 : Int) (a2 : Int) (σ : JSg) : Call yX1_live cX1_live 4 (some .int) 5 SH RHO [vR 121, vI a1, vI a2] σ dIm (f_Day_live n a1 a2 σ) := by
  refine call_of_sim (by decide +kernel) (Nat.le_of_ble_eq_true rfl) ?_
  show Sim RX1 cX1_live 4 (some .int) 5 SH RHO 0 [(0, vR 121), (1, vI a1), (2, vI a2)] [] σ dIm (f_Day_live n a1 a2 σ)
  unfold f_Day_live
  refine sim_aload_n 0 rfl dX1_live_0 ?_
  refine sim_iload_n 2 rfl dX1_live_1 ?_
  refine sim_putI g_RX1_9 sh_121 dX1_live_2 (fun s1 => ?_)
  refine sim_aload_n 0 rfl dX1_live_5 ?_
  refine sim_iconst dX1_live_6 (by decide) ?_
  refine sim_putZ (Or.inr rfl) g_RX1_15 sh_121 dX1_live_7 (fun s2 => ?_)
  refine sim_aload_n 0 rfl dX1_live_10 ?_
  refine sim_iconst dX1_live_11 (by decide) ?_
  refine sim_putI g_RX1_19 sh_121 dX1_live_12 (fun s3 => ?_)
  refine sim_aload_n 0 rfl dX1_live_15 ?_
  refine sim_iconst dX1_live_16 (by decide) ?_
  refine sim_putI g_RX1_22 sh_121 dX1_live_17 (fun s4 => ?_)
  refine sim_aload_n 0 rfl dX1_live_20 ?_
  refine sim_iconst dX1_live_21 (by decide) ?_
  refine sim_putI g_RX1_25 sh_121 dX1_live_22 (fun s5 => ?_)
  refine sim_aload_n 0 rfl dX1_live_25 ?_
  refine sim_iconst dX1_live_26 (by decide) ?_
  refine sim_putI g_RX1_28 sh_121 dX1_live_27 (fun s6 => ?_)
  refine sim_iconst dX1_live_30 (by decide) ?_
  refine sim_istore_n (fun v7 => [(3, vI v7), (0, vR 121), (1, vI a1), (2, vI a2)]) (fun _ => rfl) (by decide) dX1_live_31 (fun v7 => ?_)
  refine sim_sub [1, 2, 0] (L' := [(0, vR 121), (1, vI a1), (3, vI v7)]) rfl ?_
  refine sim_wh2 (fun (x9 : Int) (s10 : JSg) => [(0, vR 121), (1, vI a1), (3, vI x9)]) (fun (x9 : Int) (s10 : JSg) => s10) ?_ n v7 s6
  intro rc8 hrc8 x9 s10
  refine sim_iload_n 2 rfl dX1_live_32 ?_
  refine sim_iload_n 1 rfl dX1_live_33 ?_
  refine sim_icmp_ge (tgt := 55) dX1_live_34 (by decide) ?_ ?_
  · refine sim_aload_n 0 rfl dX1_live_55 ?_
    refine sim_getI g_RX1_19 sh_121 dX1_live_56 ?_
    exact sim_iret rfl rfl dX1_live_59
  · refine sim_aload_n 0 rfl dX1_live_37 ?_
    refine sim_callVVm v_RX1_35 sh_121 dX1_live_38 (k_Day_tryVisit n s10) rfl ⟨by decide, by decide⟩ (S := []) rfl (Nat.le_of_ble_eq_true rfl) (fun s11 => ?_)
    refine sim_aload_n 0 rfl dX1_live_41 ?_
    refine sim_callVVm v_RX1_38 sh_121 dX1_live_42 (k_Day_tryCat n s11) rfl ⟨by decide, by decide⟩ (S := []) rfl (Nat.le_of_ble_eq_true rfl) (fun s12 => ?_)
    refine sim_aload_n 0 rfl dX1_live_45 ?_
    refine sim_callVVm v_RX1_41 sh_121 dX1_live_46 (k_Day_tryTide s12) rfl ⟨by decide, by decide⟩ (S := []) rfl (Nat.le_of_ble_eq_true rfl) (fun s13 => ?_)
    refine sim_iinc 2 rfl (fun v14 => [(3, vI v14), (0, vR 121), (1, vI a1)]) (fun _ => rfl) (by decide) dX1_live_49 (fun v14 => ?_)
    refine sim_goto (tgt := 32) dX1_live_52 (by decide) ?_
    exact sim_sub [1, 2, 0] rfl (hrc8 v14 s13)
theorem dX11_days_0 : decode cX11_days 0 = .ok (.iload_n 1, 1) := by decide +kernel
theorem dX11_days_1 : decode cX11_days 1 = .ok (.iconst 1, 1) := by decide +kernel
theorem dX11_days_2 : decode cX11_days 2 = .ok (.if_icmp .lt 23, 3) := by decide +kernel
theorem dX11_days_5 : decode cX11_days 5 = .ok (.iload_n 1, 1) := by decide +kernel
theorem dX11_days_6 : decode cX11_days 6 = .ok (.sipush 200, 3) := by decide +kernel
theorem dX11_days_9 : decode cX11_days 9 = .ok (.if_icmp .gt 16, 3) := by decide +kernel
theorem dX11_days_12 : decode cX11_days 12 = .ok (.aload_n 0, 1) := by decide +kernel
theorem dX11_days_13 : decode cX11_days 13 = .ok (.getfield 29, 3) := by decide +kernel
theorem dX11_days_16 : decode cX11_days 16 = .ok (.getfield 54, 3) := by decide +kernel
theorem dX11_days_19 : decode cX11_days 19 = .ok (.getfield 257, 3) := by decide +kernel
theorem dX11_days_22 : decode cX11_days 22 = .ok (.ifCond .ne 5, 3) := by decide +kernel
theorem dX11_days_25 : decode cX11_days 25 = .ok (.iconst (-1), 1) := by decide +kernel
theorem dX11_days_26 : decode cX11_days 26 = .ok (.ireturn, 1) := by decide +kernel
theorem dX11_days_27 : decode cX11_days 27 = .ok (.aload_n 0, 1) := by decide +kernel
theorem dX11_days_28 : decode cX11_days 28 = .ok (.invokevirtual 221, 3) := by decide +kernel
theorem dX11_days_31 : decode cX11_days 31 = .ok (.aload_n 0, 1) := by decide +kernel
theorem dX11_days_32 : decode cX11_days 32 = .ok (.getfield 114, 3) := by decide +kernel
theorem dX11_days_35 : decode cX11_days 35 = .ok (.iload_n 1, 1) := by decide +kernel
theorem dX11_days_36 : decode cX11_days 36 = .ok (.iload_n 2, 1) := by decide +kernel
theorem dX11_days_37 : decode cX11_days 37 = .ok (.invokevirtual 319, 3) := by decide +kernel
theorem dX11_days_40 : decode cX11_days 40 = .ok (.ireturn, 1) := by decide +kernel
def f_W_days (n : Nat)  (a1 : Int) (a2 : Int) (σ : JSg) : Option (Int × JSg) :=
  if a1 < 1 then (some ((-1), σ)) else (if 200 < a1 then (some ((-1), σ)) else (if (σ 4 1) = 0 then (some ((-1), σ)) else (bd1 (f_W_keepPast σ) fun s1 => bd2 (f_Day_live n a1 a2 s1) fun r2 s3 => some (r2, s3))))
set_option maxRecDepth 20000 in
set_option maxHeartbeats 4000000 in
theorem k_W_days  (n : Nat)   (a1 : Int) (a2 : Int) (σ : JSg) : Call yX11_days cX11_days 3 (some .int) 6 SH RHO [vR 0, vI a1, vI a2] σ dIm (f_W_days n a1 a2 σ) := by
  refine call_of_sim (by decide +kernel) (Nat.le_of_ble_eq_true rfl) ?_
  show Sim RX11 cX11_days 3 (some .int) 6 SH RHO 0 [(0, vR 0), (1, vI a1), (2, vI a2)] [] σ dIm (f_W_days n a1 a2 σ)
  unfold f_W_days
  refine sim_iload_n 1 rfl dX11_days_0 ?_
  refine sim_iconst dX11_days_1 (by decide) ?_
  refine sim_icmp_lt (tgt := 25) dX11_days_2 (by decide) ?_ ?_
  · refine sim_iconst dX11_days_25 (by decide) ?_
    exact sim_iret rfl rfl dX11_days_26
  · refine sim_iload_n 1 rfl dX11_days_5 ?_
    refine sim_sipush dX11_days_6 (by decide +kernel) ?_
    refine sim_icmp_gt (tgt := 25) dX11_days_9 (by decide) ?_ ?_
    · refine sim_iconst dX11_days_25 (by decide) ?_
      exact sim_iret rfl rfl dX11_days_26
    · refine sim_aload_n 0 rfl dX11_days_12 ?_
      refine sim_getR g_RX11_29 sh_0 rh_0_3 dX11_days_13 ?_
      refine sim_getR g_RX11_54 (LWld_o lay_3) rh_3_0 dX11_days_16 ?_
      refine sim_getI g_RX11_257 (LIsl_o lay_4) dX11_days_19 ?_
      refine sim_if_ne (tgt := 27) dX11_days_22 (by decide) ?_ ?_
      · refine sim_aload_n 0 rfl dX11_days_27 ?_
        refine sim_callVVm v_RX11_221 sh_0 dX11_days_28 (k_W_keepPast σ) rfl ⟨by decide, by decide⟩ (S := []) rfl (Nat.le_of_ble_eq_true rfl) (fun s1 => ?_)
        refine sim_aload_n 0 rfl dX11_days_31 ?_
        refine sim_getR g_RX11_114 sh_0 rh_0_16 dX11_days_32 ?_
        refine sim_iload_n 1 rfl dX11_days_35 ?_
        refine sim_iload_n 2 rfl dX11_days_36 ?_
        refine sim_callVIm v_RX11_319 sh_121 dX11_days_37 (k_Day_live n a1 a2 s1) rfl ⟨by decide, by decide⟩ (S := []) rfl (Nat.le_of_ble_eq_true rfl) (fun r2 s3 => ?_)
        exact sim_iret rfl rfl dX11_days_40
      · refine sim_iconst dX11_days_25 (by decide) ?_
        exact sim_iret rfl rfl dX11_days_26
theorem dX5_hasSeen_0 : decode cX5_hasSeen 0 = .ok (.aload_n 0, 1) := by decide +kernel
theorem dX5_hasSeen_1 : decode cX5_hasSeen 1 = .ok (.getfield 22, 3) := by decide +kernel
theorem dX5_hasSeen_4 : decode cX5_hasSeen 4 = .ok (.iload_n 1, 1) := by decide +kernel
theorem dX5_hasSeen_5 : decode cX5_hasSeen 5 = .ok (.ishr, 1) := by decide +kernel
theorem dX5_hasSeen_6 : decode cX5_hasSeen 6 = .ok (.iconst 1, 1) := by decide +kernel
theorem dX5_hasSeen_7 : decode cX5_hasSeen 7 = .ok (.iand, 1) := by decide +kernel
theorem dX5_hasSeen_8 : decode cX5_hasSeen 8 = .ok (.ifCond .eq 7, 3) := by decide +kernel
theorem dX5_hasSeen_11 : decode cX5_hasSeen 11 = .ok (.iconst 1, 1) := by decide +kernel
theorem dX5_hasSeen_12 : decode cX5_hasSeen 12 = .ok (.goto 4, 3) := by decide +kernel
theorem dX5_hasSeen_15 : decode cX5_hasSeen 15 = .ok (.iconst 0, 1) := by decide +kernel
theorem dX5_hasSeen_16 : decode cX5_hasSeen 16 = .ok (.ireturn, 1) := by decide +kernel
def f_Mem_hasSeen  (p : Nat) (a1 : Int) (σ : JSg) : Option (Int) :=
  if (an32 (sr32 (σ p 3) a1) 1) = 0 then (some 0) else (some 1)
set_option maxRecDepth 20000 in
set_option maxHeartbeats 4000000 in
theorem k_Mem_hasSeen (Sh : JSh) (ρ : JRo)  (p : Nat) (hp : LMem Sh ρ p) (a1 : Int) (σ : JSg) : Call yX5_hasSeen cX5_hasSeen 2 (some .boolean) 0 Sh ρ [vR p, vI a1] σ (dIp σ) (f_Mem_hasSeen p a1 σ) := by
  refine call_of_sim (by decide +kernel) (Nat.le_of_ble_eq_true rfl) ?_
  show Sim RX5 cX5_hasSeen 2 (some .boolean) 0 Sh ρ 0 [(0, vR p), (1, vI a1)] [] σ (dIp σ) (f_Mem_hasSeen p a1 σ)
  unfold f_Mem_hasSeen
  refine sim_aload_n 0 rfl dX5_hasSeen_0 ?_
  refine sim_getI g_RX5_22 (LMem_o hp) dX5_hasSeen_1 ?_
  refine sim_iload_n 1 rfl dX5_hasSeen_4 ?_
  refine sim_ishr dX5_hasSeen_5 ?_
  refine sim_iconst dX5_hasSeen_6 (by decide) ?_
  refine sim_iand dX5_hasSeen_7 ?_
  refine sim_if_eq (tgt := 15) dX5_hasSeen_8 (by decide) ?_ ?_
  · refine sim_iconst dX5_hasSeen_15 (by decide) ?_
    exact sim_zret (Or.inl rfl) rfl rfl dX5_hasSeen_16
  · refine sim_iconst dX5_hasSeen_11 (by decide) ?_
    refine sim_goto (tgt := 16) dX5_hasSeen_12 (by decide) ?_
    exact sim_zret (Or.inr rfl) rfl rfl dX5_hasSeen_16
