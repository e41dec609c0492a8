theorem dX3_readLine_0 : decode cX3_readLine 0 = .ok (.aload_n 1, 1) := by decide +kernel
theorem dX3_readLine_1 : decode cX3_readLine 1 = .ok (.getfield 85, 3) := by decide +kernel
theorem dX3_readLine_4 : decode cX3_readLine 4 = .ok (.tableswitch 66 1 5 #[36, 42, 48, 54, 60], 36) := by decide +kernel
theorem dX3_readLine_40 : decode cX3_readLine 40 = .ok (.aload_n 0, 1) := by decide +kernel
theorem dX3_readLine_41 : decode cX3_readLine 41 = .ok (.aload_n 1, 1) := by decide +kernel
theorem dX3_readLine_42 : decode cX3_readLine 42 = .ok (.invokevirtual 88, 3) := by decide +kernel
theorem dX3_readLine_45 : decode cX3_readLine 45 = .ok (.ireturn, 1) := by decide +kernel
theorem dX3_readLine_46 : decode cX3_readLine 46 = .ok (.aload_n 0, 1) := by decide +kernel
theorem dX3_readLine_47 : decode cX3_readLine 47 = .ok (.aload_n 1, 1) := by decide +kernel
theorem dX3_readLine_48 : decode cX3_readLine 48 = .ok (.invokevirtual 91, 3) := by decide +kernel
theorem dX3_readLine_51 : decode cX3_readLine 51 = .ok (.ireturn, 1) := by decide +kernel
theorem dX3_readLine_52 : decode cX3_readLine 52 = .ok (.aload_n 0, 1) := by decide +kernel
theorem dX3_readLine_53 : decode cX3_readLine 53 = .ok (.aload_n 1, 1) := by decide +kernel
theorem dX3_readLine_54 : decode cX3_readLine 54 = .ok (.invokevirtual 94, 3) := by decide +kernel
theorem dX3_readLine_57 : decode cX3_readLine 57 = .ok (.ireturn, 1) := by decide +kernel
theorem dX3_readLine_58 : decode cX3_readLine 58 = .ok (.aload_n 0, 1) := by decide +kernel
theorem dX3_readLine_59 : decode cX3_readLine 59 = .ok (.aload_n 1, 1) := by decide +kernel
theorem dX3_readLine_60 : decode cX3_readLine 60 = .ok (.invokevirtual 97, 3) := by decide +kernel
theorem dX3_readLine_63 : decode cX3_readLine 63 = .ok (.ireturn, 1) := by decide +kernel
theorem dX3_readLine_64 : decode cX3_readLine 64 = .ok (.aload_n 0, 1) := by decide +kernel
theorem dX3_readLine_65 : decode cX3_readLine 65 = .ok (.aload_n 1, 1) := by decide +kernel
theorem dX3_readLine_66 : decode cX3_readLine 66 = .ok (.invokevirtual 100, 3) := by decide +kernel
theorem dX3_readLine_69 : decode cX3_readLine 69 = .ok (.ireturn, 1) := by decide +kernel
theorem dX3_readLine_70 : decode cX3_readLine 70 = .ok (.aload_n 1, 1) := by decide +kernel
theorem dX3_readLine_71 : decode cX3_readLine 71 = .ok (.iconst 1, 1) := by decide +kernel
theorem dX3_readLine_72 : decode cX3_readLine 72 = .ok (.invokevirtual 103, 3) := by decide +kernel
theorem dX3_readLine_75 : decode cX3_readLine 75 = .ok (.ireturn, 1) := by decide +kernel
def f_Isl_readLine (n : Nat) (p : Nat)  (σ : JSg) : Option (Int × JSg) :=
  sw_ (σ 2 6) 1 [bd2 (f_Isl_readWidow n p σ) fun r1 s2 => chk (r1 = 0 ∨ r1 = 1) <| some (r1, s2), bd2 (f_Isl_readStone n p σ) fun r3 s4 => chk (r3 = 0 ∨ r3 = 1) <| some (r3, s4), bd2 (f_Isl_readForgive n p σ) fun r5 s6 => chk (r5 = 0 ∨ r5 = 1) <| some (r5, s6), bd2 (f_Isl_readQuarrel n p σ) fun r7 s8 => chk (r7 = 0 ∨ r7 = 1) <| some (r7, s8), bd2 (f_Isl_readPawn n p σ) fun r9 s10 => chk (r9 = 0 ∨ r9 = 1) <| some (r9, s10)] (bd2 (f_Tok_fail 1 σ) fun r11 s12 => chk (r11 = 0 ∨ r11 = 1) <| some (r11, s12))
set_option maxRecDepth 20000 in
set_option maxHeartbeats 4000000 in
theorem k_Isl_readLine  (n : Nat) (p : Nat) (hp : LIsl SH RHO p)  (σ : JSg) : Call yX3_readLine cX3_readLine 2 (some .boolean) 10 SH RHO [vR p, vR 2] σ dIm (f_Isl_readLine n p σ) := by
  refine call_of_sim (by decide +kernel) (Nat.le_of_ble_eq_true rfl) ?_
  show Sim RX3 cX3_readLine 2 (some .boolean) 10 SH RHO 0 [(0, vR p), (1, vR 2)] [] σ dIm (f_Isl_readLine n p σ)
  unfold f_Isl_readLine
  refine sim_aload_n 1 rfl dX3_readLine_0 ?_
  refine sim_getI g_RX3_85 sh_2 dX3_readLine_1 ?_
  refine sim_tsw2 (td := 70) [40, 46, 52, 58, 64] dX3_readLine_4 (by decide) (by decide) (tsw_of (by decide +kernel)) ⟨?_, ?_, ?_, ?_, ?_, trivial⟩ ?_
  · refine sim_aload_n 0 rfl dX3_readLine_40 ?_
    refine sim_aload_n 1 rfl dX3_readLine_41 ?_
    refine sim_callVIm v_RX3_88 (LIsl_o hp) dX3_readLine_42 (k_Isl_readWidow n p hp σ) rfl ⟨by decide, by decide⟩ (S := []) rfl (Nat.le_of_ble_eq_true rfl) (fun r1 s2 => ?_)
    exact sim_zretc rfl rfl dX3_readLine_45
  · refine sim_aload_n 0 rfl dX3_readLine_46 ?_
    refine sim_aload_n 1 rfl dX3_readLine_47 ?_
    refine sim_callVIm v_RX3_91 (LIsl_o hp) dX3_readLine_48 (k_Isl_readStone n p hp σ) rfl ⟨by decide, by decide⟩ (S := []) rfl (Nat.le_of_ble_eq_true rfl) (fun r3 s4 => ?_)
    exact sim_zretc rfl rfl dX3_readLine_51
  · refine sim_aload_n 0 rfl dX3_readLine_52 ?_
    refine sim_aload_n 1 rfl dX3_readLine_53 ?_
    refine sim_callVIm v_RX3_94 (LIsl_o hp) dX3_readLine_54 (k_Isl_readForgive n p hp σ) rfl ⟨by decide, by decide⟩ (S := []) rfl (Nat.le_of_ble_eq_true rfl) (fun r5 s6 => ?_)
    exact sim_zretc rfl rfl dX3_readLine_57
  · refine sim_aload_n 0 rfl dX3_readLine_58 ?_
    refine sim_aload_n 1 rfl dX3_readLine_59 ?_
    refine sim_callVIm v_RX3_97 (LIsl_o hp) dX3_readLine_60 (k_Isl_readQuarrel n p hp σ) rfl ⟨by decide, by decide⟩ (S := []) rfl (Nat.le_of_ble_eq_true rfl) (fun r7 s8 => ?_)
    exact sim_zretc rfl rfl dX3_readLine_63
  · refine sim_aload_n 0 rfl dX3_readLine_64 ?_
    refine sim_aload_n 1 rfl dX3_readLine_65 ?_
    refine sim_callVIm v_RX3_100 (LIsl_o hp) dX3_readLine_66 (k_Isl_readPawn n p hp σ) rfl ⟨by decide, by decide⟩ (S := []) rfl (Nat.le_of_ble_eq_true rfl) (fun r9 s10 => ?_)
    exact sim_zretc rfl rfl dX3_readLine_69
  · refine sim_aload_n 1 rfl dX3_readLine_70 ?_
    refine sim_iconst dX3_readLine_71 (by decide) ?_
    refine sim_callVIm v_RX3_103 sh_2 dX3_readLine_72 (k_Tok_fail 1 σ) rfl ⟨by decide, by decide⟩ (S := []) rfl (Nat.le_of_ble_eq_true rfl) (fun r11 s12 => ?_)
    exact sim_zretc rfl rfl dX3_readLine_75
theorem dX3_findFitting_0 : decode cX3_findFitting 0 = .ok (.iconst 0, 1) := by decide +kernel
theorem dX3_findFitting_1 : decode cX3_findFitting 1 = .ok (.istore_n 1, 1) := by decide +kernel
theorem dX3_findFitting_2 : decode cX3_findFitting 2 = .ok (.iload_n 1, 1) := by decide +kernel
theorem dX3_findFitting_3 : decode cX3_findFitting 3 = .ok (.bipush 7, 2) := by decide +kernel
theorem dX3_findFitting_5 : decode cX3_findFitting 5 = .ok (.if_icmp .ge 72, 3) := by decide +kernel
theorem dX3_findFitting_8 : decode cX3_findFitting 8 = .ok (.aload_n 0, 1) := by decide +kernel
theorem dX3_findFitting_9 : decode cX3_findFitting 9 = .ok (.getfield 51, 3) := by decide +kernel
theorem dX3_findFitting_12 : decode cX3_findFitting 12 = .ok (.iload_n 1, 1) := by decide +kernel
theorem dX3_findFitting_13 : decode cX3_findFitting 13 = .ok (.iconst 0, 1) := by decide +kernel
theorem dX3_findFitting_14 : decode cX3_findFitting 14 = .ok (.iastore, 1) := by decide +kernel
theorem dX3_findFitting_15 : decode cX3_findFitting 15 = .ok (.iconst 0, 1) := by decide +kernel
theorem dX3_findFitting_16 : decode cX3_findFitting 16 = .ok (.istore_n 2, 1) := by decide +kernel
theorem dX3_findFitting_17 : decode cX3_findFitting 17 = .ok (.iload_n 2, 1) := by decide +kernel
theorem dX3_findFitting_18 : decode cX3_findFitting 18 = .ok (.bipush 7, 2) := by decide +kernel
theorem dX3_findFitting_20 : decode cX3_findFitting 20 = .ok (.if_icmp .ge 51, 3) := by decide +kernel
theorem dX3_findFitting_23 : decode cX3_findFitting 23 = .ok (.aload_n 0, 1) := by decide +kernel
theorem dX3_findFitting_24 : decode cX3_findFitting 24 = .ok (.iload_n 1, 1) := by decide +kernel
theorem dX3_findFitting_25 : decode cX3_findFitting 25 = .ok (.iload_n 2, 1) := by decide +kernel
theorem dX3_findFitting_26 : decode cX3_findFitting 26 = .ok (.invokevirtual 144, 3) := by decide +kernel
theorem dX3_findFitting_29 : decode cX3_findFitting 29 = .ok (.ifCond .ne 36, 3) := by decide +kernel
theorem dX3_findFitting_32 : decode cX3_findFitting 32 = .ok (.iload_n 1, 1) := by decide +kernel
theorem dX3_findFitting_33 : decode cX3_findFitting 33 = .ok (.iload_n 2, 1) := by decide +kernel
theorem dX3_findFitting_34 : decode cX3_findFitting 34 = .ok (.if_icmp .eq 19, 3) := by decide +kernel
theorem dX3_findFitting_37 : decode cX3_findFitting 37 = .ok (.aload_n 0, 1) := by decide +kernel
theorem dX3_findFitting_38 : decode cX3_findFitting 38 = .ok (.iload_n 1, 1) := by decide +kernel
theorem dX3_findFitting_39 : decode cX3_findFitting 39 = .ok (.invokevirtual 141, 3) := by decide +kernel
theorem dX3_findFitting_42 : decode cX3_findFitting 42 = .ok (.ifCond .ne 11, 3) := by decide +kernel
theorem dX3_findFitting_45 : decode cX3_findFitting 45 = .ok (.aload_n 0, 1) := by decide +kernel
theorem dX3_findFitting_46 : decode cX3_findFitting 46 = .ok (.iload_n 2, 1) := by decide +kernel
theorem dX3_findFitting_47 : decode cX3_findFitting 47 = .ok (.invokevirtual 141, 3) := by decide +kernel
theorem dX3_findFitting_50 : decode cX3_findFitting 50 = .ok (.ifCond .eq 15, 3) := by decide +kernel
theorem dX3_findFitting_53 : decode cX3_findFitting 53 = .ok (.aload_n 0, 1) := by decide +kernel
theorem dX3_findFitting_54 : decode cX3_findFitting 54 = .ok (.getfield 51, 3) := by decide +kernel
theorem dX3_findFitting_57 : decode cX3_findFitting 57 = .ok (.iload_n 1, 1) := by decide +kernel
theorem dX3_findFitting_58 : decode cX3_findFitting 58 = .ok (.dup2, 1) := by decide +kernel
theorem dX3_findFitting_59 : decode cX3_findFitting 59 = .ok (.iaload, 1) := by decide +kernel
theorem dX3_findFitting_60 : decode cX3_findFitting 60 = .ok (.iconst 1, 1) := by decide +kernel
theorem dX3_findFitting_61 : decode cX3_findFitting 61 = .ok (.iload_n 2, 1) := by decide +kernel
theorem dX3_findFitting_62 : decode cX3_findFitting 62 = .ok (.ishl, 1) := by decide +kernel
theorem dX3_findFitting_63 : decode cX3_findFitting 63 = .ok (.ior, 1) := by decide +kernel
theorem dX3_findFitting_64 : decode cX3_findFitting 64 = .ok (.iastore, 1) := by decide +kernel
theorem dX3_findFitting_65 : decode cX3_findFitting 65 = .ok (.iinc 2 1, 3) := by decide +kernel
theorem dX3_findFitting_68 : decode cX3_findFitting 68 = .ok (.goto (-51), 3) := by decide +kernel
theorem dX3_findFitting_71 : decode cX3_findFitting 71 = .ok (.iinc 1 1, 3) := by decide +kernel
theorem dX3_findFitting_74 : decode cX3_findFitting 74 = .ok (.goto (-72), 3) := by decide +kernel
theorem dX3_findFitting_77 : decode cX3_findFitting 77 = .ok (.return_, 1) := by decide +kernel
def f_Isl_findFitting (n : Nat) (p : Nat)  (σ : JSg) : Option (JSg) :=
  lt_ 0 fun v1 => wh2 n (fun rc2 (x3 : Int) (s4 : JSg) => if x3 < 7 then (chk (0 ≤ x3 ∧ x3 < 7) <| lt_ (sp s4 (p + 6) x3.toNat 0) fun s5 => lt_ 0 fun v6 => wh2 n (fun rc7 (x8 : Int) (s9 : JSg) => if x8 < 7 then (bd1 (f_Isl_areAngry p x3 x8 s9) fun r11 => jn1 (fun  (s13 : JSg) => lt_ (w32 (x8 + 1)) fun v14 => rc7 v14 s13) fun j12 => if r11 = 0 then (jn0 (chk (0 ≤ x3 ∧ x3 < 7) <| chk (0 ≤ x3 ∧ x3 < 7) <| lt_ (sp s9 (p + 6) x3.toNat (or32 (s9 (p + 6) x3.toNat) (sl32 1 x8))) fun s16 => j12 s16) fun j15 => if x3 = x8 then (j15) else (bd1 (f_Isl_isForgiven p x3 s9) fun r17 => if r17 = 0 then (bd1 (f_Isl_isForgiven p x8 s9) fun r18 => if r18 = 0 then (j12 s9) else (j15)) else (j15))) else (j12 s9)) else (lt_ (w32 (x3 + 1)) fun v10 => rc2 v10 s9)) v6 s5) else (some s4)) v1 (σ)
set_option maxRecDepth 20000 in
set_option maxHeartbeats 4000000 in
theorem k_Isl_findFitting (Sh : JSh) (ρ : JRo) (n : Nat) (p : Nat) (hp : LIsl Sh ρ p)  (σ : JSg) : Call yX3_findFitting cX3_findFitting 3 none 1 Sh ρ [vR p] σ dVm (f_Isl_findFitting n p σ) := by
  refine call_of_sim (by decide +kernel) (Nat.le_of_ble_eq_true rfl) ?_
  show Sim RX3 cX3_findFitting 3 none 1 Sh ρ 0 [(0, vR p)] [] σ dVm (f_Isl_findFitting n p σ)
  unfold f_Isl_findFitting
  refine sim_iconst dX3_findFitting_0 (by decide) ?_
  refine sim_istore_n (fun v1 => [(1, vI v1), (0, vR p)]) (fun _ => rfl) (by decide) dX3_findFitting_1 (fun v1 => ?_)
  refine sim_sub [1, 0] (L' := [(0, vR p), (1, vI v1)]) rfl ?_
  refine sim_wh2 (fun (x3 : Int) (s4 : JSg) => [(0, vR p), (1, vI x3)]) (fun (x3 : Int) (s4 : JSg) => s4) ?_ n v1 (σ)
  intro rc2 hrc2 x3 s4
  refine sim_iload_n 1 rfl dX3_findFitting_2 ?_
  refine sim_bipush dX3_findFitting_3 (by decide +kernel) ?_
  refine sim_icmp_ge (tgt := 77) dX3_findFitting_5 (by decide) ?_ ?_
  · exact sim_vret rfl rfl dX3_findFitting_77
  · refine sim_aload_n 0 rfl dX3_findFitting_8 ?_
    refine sim_getR g_RX3_51 (LIsl_o hp) (LIsl_r12 hp) dX3_findFitting_9 ?_
    refine sim_iload_n 1 rfl dX3_findFitting_12 ?_
    refine sim_iconst dX3_findFitting_13 (by decide) ?_
    refine sim_iastore (LIsl_a12 hp) rfl dX3_findFitting_14 (fun s5 => ?_)
    refine sim_iconst dX3_findFitting_15 (by decide) ?_
    refine sim_istore_n (fun v6 => [(2, vI v6), (0, vR p), (1, vI x3)]) (fun _ => rfl) (by decide) dX3_findFitting_16 (fun v6 => ?_)
    refine sim_sub [1, 2, 0] (L' := [(0, vR p), (1, vI x3), (2, vI v6)]) rfl ?_
    refine sim_wh2 (fun (x8 : Int) (s9 : JSg) => [(0, vR p), (1, vI x3), (2, vI x8)]) (fun (x8 : Int) (s9 : JSg) => s9) ?_ n v6 s5
    intro rc7 hrc7 x8 s9
    refine sim_iload_n 2 rfl dX3_findFitting_17 ?_
    refine sim_bipush dX3_findFitting_18 (by decide +kernel) ?_
    refine sim_icmp_ge (tgt := 71) dX3_findFitting_20 (by decide) ?_ ?_
    · refine sim_iinc 1 rfl (fun v10 => [(1, vI v10), (0, vR p), (2, vI x8)]) (fun _ => rfl) (by decide) dX3_findFitting_71 (fun v10 => ?_)
      refine sim_goto (tgt := 2) dX3_findFitting_74 (by decide) ?_
      exact sim_sub [1, 0] rfl (hrc2 v10 s9)
    · refine sim_aload_n 0 rfl dX3_findFitting_23 ?_
      refine sim_iload_n 1 rfl dX3_findFitting_24 ?_
      refine sim_iload_n 2 rfl dX3_findFitting_25 ?_
      refine sim_callVIp v_RX3_144 (LIsl_o hp) dX3_findFitting_26 (k_Isl_areAngry Sh ρ p hp x3 x8 s9) rfl ⟨by decide, by decide⟩ (S := []) rfl (Nat.le_of_ble_eq_true rfl) (fun r11 => ?_)
      refine sim_jn1 (pc' := 65) (fun  (s13 : JSg) => [(0, vR p), (1, vI x3), (2, vI x8)]) (fun  (s13 : JSg) => []) (fun  (s13 : JSg) => s13) ?_ (fun j12 hj12 => ?_)
      · intro s13
        refine sim_iinc 2 rfl (fun v14 => [(2, vI v14), (0, vR p), (1, vI x3)]) (fun _ => rfl) (by decide) dX3_findFitting_65 (fun v14 => ?_)
        refine sim_goto (tgt := 17) dX3_findFitting_68 (by decide) ?_
        exact sim_sub [1, 2, 0] rfl (hrc7 v14 s13)
      refine sim_if_ne (tgt := 65) dX3_findFitting_29 (by decide) ?_ ?_
      · exact sim_sub [0, 1, 2] rfl (hj12 s9)
      · refine sim_iload_n 1 rfl dX3_findFitting_32 ?_
        refine sim_iload_n 2 rfl dX3_findFitting_33 ?_
        refine sim_jn0 (pc' := 53) ([(0, vR p), (1, vI x3), (2, vI x8)]) ([]) (s9) ?_ (fun j15 hj15 => ?_)
        · refine sim_aload_n 0 rfl dX3_findFitting_53 ?_
          refine sim_getR g_RX3_51 (LIsl_o hp) (LIsl_r12 hp) dX3_findFitting_54 ?_
          refine sim_iload_n 1 rfl dX3_findFitting_57 ?_
          refine sim_dup2 rfl rfl dX3_findFitting_58 ?_
          refine sim_iaload (LIsl_a12 hp) rfl dX3_findFitting_59 ?_
          refine sim_iconst dX3_findFitting_60 (by decide) ?_
          refine sim_iload_n 2 rfl dX3_findFitting_61 ?_
          refine sim_ishl dX3_findFitting_62 ?_
          refine sim_ior dX3_findFitting_63 ?_
          refine sim_iastore (LIsl_a12 hp) rfl dX3_findFitting_64 (fun s16 => ?_)
          exact sim_sub [0, 1, 2] rfl (hj12 s16)
        refine sim_icmp_eq (tgt := 53) dX3_findFitting_34 (by decide) ?_ ?_
        · exact sim_sub [0, 1, 2] rfl (hj15 )
        · refine sim_aload_n 0 rfl dX3_findFitting_37 ?_
          refine sim_iload_n 1 rfl dX3_findFitting_38 ?_
          refine sim_callVIp v_RX3_141 (LIsl_o hp) dX3_findFitting_39 (k_Isl_isForgiven Sh ρ p hp x3 s9) rfl ⟨by decide, by decide⟩ (S := []) rfl (Nat.le_of_ble_eq_true rfl) (fun r17 => ?_)
          refine sim_if_ne (tgt := 53) dX3_findFitting_42 (by decide) ?_ ?_
          · exact sim_sub [0, 1, 2] rfl (hj15 )
          · refine sim_aload_n 0 rfl dX3_findFitting_45 ?_
            refine sim_iload_n 2 rfl dX3_findFitting_46 ?_
            refine sim_callVIp v_RX3_141 (LIsl_o hp) dX3_findFitting_47 (k_Isl_isForgiven Sh ρ p hp x8 s9) rfl ⟨by decide, by decide⟩ (S := []) rfl (Nat.le_of_ble_eq_true rfl) (fun r18 => ?_)
            refine sim_if_eq (tgt := 65) dX3_findFitting_50 (by decide) ?_ ?_
            · exact sim_sub [0, 1, 2] rfl (hj12 s9)
            · exact sim_sub [0, 1, 2] rfl (hj15 )
theorem dX3_readAll_0 : decode cX3_readAll 0 = .ok (.aload_n 0, 1) := by decide +kernel
theorem dX3_readAll_1 : decode cX3_readAll 1 = .ok (.invokevirtual 69, 3) := by decide +kernel
theorem dX3_readAll_4 : decode cX3_readAll 4 = .ok (.aload_n 0, 1) := by decide +kernel
theorem dX3_readAll_5 : decode cX3_readAll 5 = .ok (.getfield 11, 3) := by decide +kernel
theorem dX3_readAll_8 : decode cX3_readAll 8 = .ok (.sipush 900, 3) := by decide +kernel
theorem dX3_readAll_11 : decode cX3_readAll 11 = .ok (.if_icmp .ge 42, 3) := by decide +kernel
theorem dX3_readAll_14 : decode cX3_readAll 14 = .ok (.aload_n 1, 1) := by decide +kernel
theorem dX3_readAll_15 : decode cX3_readAll 15 = .ok (.getfield 72, 3) := by decide +kernel
theorem dX3_readAll_18 : decode cX3_readAll 18 = .ok (.ifCond .eq 35, 3) := by decide +kernel
theorem dX3_readAll_21 : decode cX3_readAll 21 = .ok (.aload_n 0, 1) := by decide +kernel
theorem dX3_readAll_22 : decode cX3_readAll 22 = .ok (.aload_n 1, 1) := by decide +kernel
theorem dX3_readAll_23 : decode cX3_readAll 23 = .ok (.invokevirtual 77, 3) := by decide +kernel
theorem dX3_readAll_26 : decode cX3_readAll 26 = .ok (.ifCond .eq 12, 3) := by decide +kernel
theorem dX3_readAll_29 : decode cX3_readAll 29 = .ok (.aload_n 1, 1) := by decide +kernel
theorem dX3_readAll_30 : decode cX3_readAll 30 = .ok (.bipush 59, 2) := by decide +kernel
theorem dX3_readAll_32 : decode cX3_readAll 32 = .ok (.invokevirtual 81, 3) := by decide +kernel
theorem dX3_readAll_35 : decode cX3_readAll 35 = .ok (.ifCond .ne 5, 3) := by decide +kernel
theorem dX3_readAll_38 : decode cX3_readAll 38 = .ok (.iconst 0, 1) := by decide +kernel
theorem dX3_readAll_39 : decode cX3_readAll 39 = .ok (.ireturn, 1) := by decide +kernel
theorem dX3_readAll_40 : decode cX3_readAll 40 = .ok (.aload_n 0, 1) := by decide +kernel
theorem dX3_readAll_41 : decode cX3_readAll 41 = .ok (.dup, 1) := by decide +kernel
theorem dX3_readAll_42 : decode cX3_readAll 42 = .ok (.getfield 11, 3) := by decide +kernel
theorem dX3_readAll_45 : decode cX3_readAll 45 = .ok (.iconst 1, 1) := by decide +kernel
theorem dX3_readAll_46 : decode cX3_readAll 46 = .ok (.iadd, 1) := by decide +kernel
theorem dX3_readAll_47 : decode cX3_readAll 47 = .ok (.putfield 11, 3) := by decide +kernel
theorem dX3_readAll_50 : decode cX3_readAll 50 = .ok (.goto (-46), 3) := by decide +kernel
theorem dX3_readAll_53 : decode cX3_readAll 53 = .ok (.aload_n 0, 1) := by decide +kernel
theorem dX3_readAll_54 : decode cX3_readAll 54 = .ok (.invokevirtual 54, 3) := by decide +kernel
theorem dX3_readAll_57 : decode cX3_readAll 57 = .ok (.iconst 1, 1) := by decide +kernel
theorem dX3_readAll_58 : decode cX3_readAll 58 = .ok (.ireturn, 1) := by decide +kernel
def f_Isl_readAll (n : Nat) (p : Nat)  (σ : JSg) : Option (Int × JSg) :=
  bd1 (f_Isl_clear n p σ) fun s1 => wh1 n (fun rc2  (s3 : JSg) => jn0 (bd1 (f_Isl_findFitting n p s3) fun s5 => some (1, s5)) fun j4 => if (s3 p 0) < 900 then (if (s3 2 4) = 0 then (j4) else (bd2 (f_Isl_readLine n p s3) fun r6 s7 => if r6 = 0 then (some (0, s7)) else (bd2 (f_Tok_passes n 59 s7) fun r8 s9 => if r8 = 0 then (some (0, s9)) else (lt_ (sp s9 p 0 (w32 ((s9 p 0) + 1))) fun s10 => rc2 s10)))) else (j4)) s1
set_option maxRecDepth 20000 in
set_option maxHeartbeats 4000000 in
theorem k_Isl_readAll  (n : Nat) (p : Nat) (hp : LIsl SH RHO p)  (σ : JSg) : Call yX3_readAll cX3_readAll 2 (some .boolean) 11 SH RHO [vR p, vR 2] σ dIm (f_Isl_readAll n p σ) := by
  refine call_of_sim (by decide +kernel) (Nat.le_of_ble_eq_true rfl) ?_
  show Sim RX3 cX3_readAll 2 (some .boolean) 11 SH RHO 0 [(0, vR p), (1, vR 2)] [] σ dIm (f_Isl_readAll n p σ)
  unfold f_Isl_readAll
  refine sim_aload_n 0 rfl dX3_readAll_0 ?_
  refine sim_callVVm v_RX3_69 (LIsl_o hp) dX3_readAll_1 (k_Isl_clear SH RHO n p hp σ) rfl ⟨by decide, by decide⟩ (S := []) rfl (Nat.le_of_ble_eq_true rfl) (fun s1 => ?_)
  refine sim_sub [0, 1] (L' := [(0, vR p), (1, vR 2)]) rfl ?_
  refine sim_wh1 (fun  (s3 : JSg) => [(0, vR p), (1, vR 2)]) (fun  (s3 : JSg) => s3) ?_ n s1
  intro rc2 hrc2 s3
  refine sim_aload_n 0 rfl dX3_readAll_4 ?_
  refine sim_getI g_RX3_11 (LIsl_o hp) dX3_readAll_5 ?_
  refine sim_sipush dX3_readAll_8 (by decide +kernel) ?_
  refine sim_jn0 (pc' := 53) ([(0, vR p)]) ([]) (s3) ?_ (fun j4 hj4 => ?_)
  · refine sim_aload_n 0 rfl dX3_readAll_53 ?_
    refine sim_callVVm v_RX3_54 (LIsl_o hp) dX3_readAll_54 (k_Isl_findFitting SH RHO n p hp s3) rfl ⟨by decide, by decide⟩ (S := []) rfl (Nat.le_of_ble_eq_true rfl) (fun s5 => ?_)
    refine sim_iconst dX3_readAll_57 (by decide) ?_
    exact sim_zret (Or.inr rfl) rfl rfl dX3_readAll_58
  refine sim_icmp_ge (tgt := 53) dX3_readAll_11 (by decide) ?_ ?_
  · exact sim_sub [0] rfl (hj4 )
  · refine sim_aload_n 1 rfl dX3_readAll_14 ?_
    refine sim_getI g_RX3_72 sh_2 dX3_readAll_15 ?_
    refine sim_if_eq (tgt := 53) dX3_readAll_18 (by decide) ?_ ?_
    · exact sim_sub [0] rfl (hj4 )
    · refine sim_aload_n 0 rfl dX3_readAll_21 ?_
      refine sim_aload_n 1 rfl dX3_readAll_22 ?_
      refine sim_callVIm v_RX3_77 (LIsl_o hp) dX3_readAll_23 (k_Isl_readLine n p hp s3) rfl ⟨by decide, by decide⟩ (S := []) rfl (Nat.le_of_ble_eq_true rfl) (fun r6 s7 => ?_)
      refine sim_if_eq (tgt := 38) dX3_readAll_26 (by decide) ?_ ?_
      · refine sim_iconst dX3_readAll_38 (by decide) ?_
        exact sim_zret (Or.inl rfl) rfl rfl dX3_readAll_39
      · refine sim_aload_n 1 rfl dX3_readAll_29 ?_
        refine sim_bipush dX3_readAll_30 (by decide +kernel) ?_
        refine sim_callVIm v_RX3_81 sh_2 dX3_readAll_32 (k_Tok_passes n 59 s7) rfl ⟨by decide, by decide⟩ (S := []) rfl (Nat.le_of_ble_eq_true rfl) (fun r8 s9 => ?_)
        refine sim_if_ne (tgt := 40) dX3_readAll_35 (by decide) ?_ ?_
        · refine sim_aload_n 0 rfl dX3_readAll_40 ?_
          refine sim_dup rfl dX3_readAll_41 ?_
          refine sim_getI g_RX3_11 (LIsl_o hp) dX3_readAll_42 ?_
          refine sim_iconst dX3_readAll_45 (by decide) ?_
          refine sim_iadd dX3_readAll_46 ?_
          refine sim_putI g_RX3_11 (LIsl_o hp) dX3_readAll_47 (fun s10 => ?_)
          refine sim_goto (tgt := 4) dX3_readAll_50 (by decide) ?_
          exact sim_sub [0, 1] rfl (hrc2 s10)
        · refine sim_iconst dX3_readAll_38 (by decide) ?_
          exact sim_zret (Or.inl rfl) rfl rfl dX3_readAll_39
theorem dX7_begin_0 : decode cX7_begin 0 = .ok (.aload_n 0, 1) := by decide +kernel
theorem dX7_begin_1 : decode cX7_begin 1 = .ok (.iconst 0, 1) := by decide +kernel
theorem dX7_begin_2 : decode cX7_begin 2 = .ok (.putfield 21, 3) := by decide +kernel
theorem dX7_begin_5 : decode cX7_begin 5 = .ok (.aload_n 0, 1) := by decide +kernel
theorem dX7_begin_6 : decode cX7_begin 6 = .ok (.getfield 15, 3) := by decide +kernel
theorem dX7_begin_9 : decode cX7_begin 9 = .ok (.iconst 0, 1) := by decide +kernel
theorem dX7_begin_10 : decode cX7_begin 10 = .ok (.invokestatic 38, 3) := by decide +kernel
theorem dX7_begin_13 : decode cX7_begin 13 = .ok (.aload_n 0, 1) := by decide +kernel
theorem dX7_begin_14 : decode cX7_begin 14 = .ok (.getfield 25, 3) := by decide +kernel
theorem dX7_begin_17 : decode cX7_begin 17 = .ok (.iconst 0, 1) := by decide +kernel
theorem dX7_begin_18 : decode cX7_begin 18 = .ok (.invokestatic 38, 3) := by decide +kernel
theorem dX7_begin_21 : decode cX7_begin 21 = .ok (.aload_n 0, 1) := by decide +kernel
theorem dX7_begin_22 : decode cX7_begin 22 = .ok (.getfield 28, 3) := by decide +kernel
theorem dX7_begin_25 : decode cX7_begin 25 = .ok (.iconst 0, 1) := by decide +kernel
theorem dX7_begin_26 : decode cX7_begin 26 = .ok (.invokestatic 38, 3) := by decide +kernel
theorem dX7_begin_29 : decode cX7_begin 29 = .ok (.aload_n 0, 1) := by decide +kernel
theorem dX7_begin_30 : decode cX7_begin 30 = .ok (.getfield 31, 3) := by decide +kernel
theorem dX7_begin_33 : decode cX7_begin 33 = .ok (.iconst 0, 1) := by decide +kernel
theorem dX7_begin_34 : decode cX7_begin 34 = .ok (.invokestatic 38, 3) := by decide +kernel
theorem dX7_begin_37 : decode cX7_begin 37 = .ok (.aload_n 0, 1) := by decide +kernel
theorem dX7_begin_38 : decode cX7_begin 38 = .ok (.getfield 34, 3) := by decide +kernel
theorem dX7_begin_41 : decode cX7_begin 41 = .ok (.getfield 44, 3) := by decide +kernel
theorem dX7_begin_44 : decode cX7_begin 44 = .ok (.iconst 0, 1) := by decide +kernel
theorem dX7_begin_45 : decode cX7_begin 45 = .ok (.aload_n 0, 1) := by decide +kernel
theorem dX7_begin_46 : decode cX7_begin 46 = .ok (.getfield 9, 3) := by decide +kernel
theorem dX7_begin_49 : decode cX7_begin 49 = .ok (.iconst 0, 1) := by decide +kernel
theorem dX7_begin_50 : decode cX7_begin 50 = .ok (.bipush 28, 2) := by decide +kernel
theorem dX7_begin_52 : decode cX7_begin 52 = .ok (.invokestatic 49, 3) := by decide +kernel
theorem dX7_begin_55 : decode cX7_begin 55 = .ok (.return_, 1) := by decide +kernel
def f_Row_begin (n : Nat) (p : Nat) (ip : Nat)  (σ : JSg) : Option (JSg) :=
  lt_ (sp σ p 4 0) fun s1 => bd1 (f_JArr_fill_53178 n (p + 2) 28 0 s1) fun s2 => bd1 (f_JArr_fill_53178 n (p + 4) 28 0 s2) fun s3 => bd1 (f_JArr_fill_53178 n (p + 5) 6 0 s3) fun s4 => bd1 (f_JArr_fill_53178 n (p + 6) 6 0 s4) fun s5 => lt_ (acp s5 (ip + 4) 0 (p + 1) 0 28) fun s6 => some s6
set_option maxRecDepth 20000 in
set_option maxHeartbeats 4000000 in
theorem k_Row_begin (Sh : JSh) (ρ : JRo) (n : Nat) (p : Nat) (ip : Nat) (hp : LRow Sh ρ p ip) (hip : LIsl Sh ρ ip)  (σ : JSg) : Call yX7_begin cX7_begin 1 none 1 Sh ρ [vR p] σ dVm (f_Row_begin n p ip σ) := by
  refine call_of_sim (by decide +kernel) (Nat.le_of_ble_eq_true rfl) ?_
  show Sim RX7 cX7_begin 1 none 1 Sh ρ 0 [(0, vR p)] [] σ dVm (f_Row_begin n p ip σ)
  unfold f_Row_begin
  refine sim_aload_n 0 rfl dX7_begin_0 ?_
  refine sim_iconst dX7_begin_1 (by decide) ?_
  refine sim_putI g_RX7_21 (LRow_o hp) dX7_begin_2 (fun s1 => ?_)
  refine sim_aload_n 0 rfl dX7_begin_5 ?_
  refine sim_getR g_RX7_15 (LRow_o hp) (LRow_r2 hp) dX7_begin_6 ?_
  refine sim_iconst dX7_begin_9 (by decide) ?_
  refine sim_callSVm s_RX7_38 dX7_begin_10 (k_JArr_fill_53178 Sh ρ n (p + 2) 28 (LRow_a2 hp) (okI_lit (by decide)) 0 s1) rfl ⟨by decide, by decide⟩ (S := []) rfl (Nat.le_of_ble_eq_true rfl) (fun s2 => ?_)
  refine sim_aload_n 0 rfl dX7_begin_13 ?_
  refine sim_getR g_RX7_25 (LRow_o hp) (LRow_r5 hp) dX7_begin_14 ?_
  refine sim_iconst dX7_begin_17 (by decide) ?_
  refine sim_callSVm s_RX7_38 dX7_begin_18 (k_JArr_fill_53178 Sh ρ n (p + 4) 28 (LRow_a5 hp) (okI_lit (by decide)) 0 s2) rfl ⟨by decide, by decide⟩ (S := []) rfl (Nat.le_of_ble_eq_true rfl) (fun s3 => ?_)
  refine sim_aload_n 0 rfl dX7_begin_21 ?_
  refine sim_getR g_RX7_28 (LRow_o hp) (LRow_r6 hp) dX7_begin_22 ?_
  refine sim_iconst dX7_begin_25 (by decide) ?_
  refine sim_callSVm s_RX7_38 dX7_begin_26 (k_JArr_fill_53178 Sh ρ n (p + 5) 6 (LRow_a6 hp) (okI_lit (by decide)) 0 s3) rfl ⟨by decide, by decide⟩ (S := []) rfl (Nat.le_of_ble_eq_true rfl) (fun s4 => ?_)
  refine sim_aload_n 0 rfl dX7_begin_29 ?_
  refine sim_getR g_RX7_31 (LRow_o hp) (LRow_r7 hp) dX7_begin_30 ?_
  refine sim_iconst dX7_begin_33 (by decide) ?_
  refine sim_callSVm s_RX7_38 dX7_begin_34 (k_JArr_fill_53178 Sh ρ n (p + 6) 6 (LRow_a7 hp) (okI_lit (by decide)) 0 s4) rfl ⟨by decide, by decide⟩ (S := []) rfl (Nat.le_of_ble_eq_true rfl) (fun s5 => ?_)
  refine sim_aload_n 0 rfl dX7_begin_37 ?_
  refine sim_getR g_RX7_34 (LRow_o hp) (LRow_r0 hp) dX7_begin_38 ?_
  refine sim_getR g_RX7_44 (LIsl_o hip) (LIsl_r10 hip) dX7_begin_41 ?_
  refine sim_iconst dX7_begin_44 (by decide) ?_
  refine sim_aload_n 0 rfl dX7_begin_45 ?_
  refine sim_getR g_RX7_9 (LRow_o hp) (LRow_r1 hp) dX7_begin_46 ?_
  refine sim_iconst dX7_begin_49 (by decide) ?_
  refine sim_bipush dX7_begin_50 (by decide +kernel) ?_
  refine sim_acpIK (a := 0) (b := 0) (n := 28) (LIsl_a10 hip) (LRow_a1 hp) rfl rfl rfl (by decide) w_789 w_783 w_782 w_21 (by decide) (Nat.le_of_ble_eq_true rfl) dX7_begin_52 (fun s6 => ?_)
  exact sim_vret rfl rfl dX7_begin_55
theorem dX10_settle_0 : decode cX10_settle 0 = .ok (.aload_n 0, 1) := by decide +kernel
theorem dX10_settle_1 : decode cX10_settle 1 = .ok (.getfield 10, 3) := by decide +kernel
theorem dX10_settle_4 : decode cX10_settle 4 = .ok (.aload_n 1, 1) := by decide +kernel
theorem dX10_settle_5 : decode cX10_settle 5 = .ok (.invokevirtual 43, 3) := by decide +kernel
theorem dX10_settle_8 : decode cX10_settle 8 = .ok (.aload_n 0, 1) := by decide +kernel
theorem dX10_settle_9 : decode cX10_settle 9 = .ok (.getfield 21, 3) := by decide +kernel
theorem dX10_settle_12 : decode cX10_settle 12 = .ok (.invokevirtual 55, 3) := by decide +kernel
theorem dX10_settle_15 : decode cX10_settle 15 = .ok (.aload_n 0, 1) := by decide +kernel
theorem dX10_settle_16 : decode cX10_settle 16 = .ok (.getfield 28, 3) := by decide +kernel
theorem dX10_settle_19 : decode cX10_settle 19 = .ok (.invokevirtual 58, 3) := by decide +kernel
theorem dX10_settle_22 : decode cX10_settle 22 = .ok (.aload_n 0, 1) := by decide +kernel
theorem dX10_settle_23 : decode cX10_settle 23 = .ok (.getfield 35, 3) := by decide +kernel
theorem dX10_settle_26 : decode cX10_settle 26 = .ok (.invokevirtual 61, 3) := by decide +kernel
theorem dX10_settle_29 : decode cX10_settle 29 = .ok (.return_, 1) := by decide +kernel
def f_Wld_settle (n : Nat) (p : Nat) (q : Nat)  (σ : JSg) : Option (JSg) :=
  bd1 (f_Isl_copyFrom (p + 1) q σ) fun s1 => bd1 (f_Row_begin n (p + 8) (p + 1) s1) fun s2 => bd1 (f_Mem_clear n (p + 15) s2) fun s3 => bd1 (f_Sen_clear (p + 18) s3) fun s4 => some s4
set_option maxRecDepth 20000 in
set_option maxHeartbeats 4000000 in
theorem k_Wld_settle (Sh : JSh) (ρ : JRo) (n : Nat) (p : Nat) (q : Nat) (hp : LWld Sh ρ p) (hq : LIsl Sh ρ q)  (σ : JSg) : Call yX10_settle cX10_settle 2 none 2 Sh ρ [vR p, vR q] σ dVm (f_Wld_settle n p q σ) := by
  refine call_of_sim (by decide +kernel) (Nat.le_of_ble_eq_true rfl) ?_
  show Sim RX10 cX10_settle 2 none 2 Sh ρ 0 [(0, vR p), (1, vR q)] [] σ dVm (f_Wld_settle n p q σ)
  unfold f_Wld_settle
  refine sim_aload_n 0 rfl dX10_settle_0 ?_
  refine sim_getR g_RX10_10 (LWld_o hp) (LWld_r0 hp) dX10_settle_1 ?_
  refine sim_aload_n 1 rfl dX10_settle_4 ?_
  refine sim_callVVm v_RX10_43 (LIsl_o (LWld_isl hp)) dX10_settle_5 (k_Isl_copyFrom Sh ρ (p + 1) q (LWld_isl hp) hq σ) rfl ⟨by decide, by decide⟩ (S := []) rfl (Nat.le_of_ble_eq_true rfl) (fun s1 => ?_)
  refine sim_aload_n 0 rfl dX10_settle_8 ?_
  refine sim_getR g_RX10_21 (LWld_o hp) (LWld_r1 hp) dX10_settle_9 ?_
  refine sim_callVVm v_RX10_55 (LRow_o (LWld_row hp)) dX10_settle_12 (k_Row_begin Sh ρ n (p + 8) (p + 1) (LWld_row hp) (LWld_isl hp) s1) rfl ⟨by decide, by decide⟩ (S := []) rfl (Nat.le_of_ble_eq_true rfl) (fun s2 => ?_)
  refine sim_aload_n 0 rfl dX10_settle_15 ?_
  refine sim_getR g_RX10_28 (LWld_o hp) (LWld_r2 hp) dX10_settle_16 ?_
  refine sim_callVVm v_RX10_58 (LMem_o (LWld_mem hp)) dX10_settle_19 (k_Mem_clear Sh ρ n (p + 15) (LWld_mem hp) s2) rfl ⟨by decide, by decide⟩ (S := []) rfl (Nat.le_of_ble_eq_true rfl) (fun s3 => ?_)
  refine sim_aload_n 0 rfl dX10_settle_22 ?_
  refine sim_getR g_RX10_35 (LWld_o hp) (LWld_r3 hp) dX10_settle_23 ?_
  refine sim_callVVm v_RX10_61 (LSen_o (LWld_sen hp)) dX10_settle_26 (k_Sen_clear Sh ρ (p + 18) (LWld_sen hp) s3) rfl ⟨by decide, by decide⟩ (S := []) rfl (Nat.le_of_ble_eq_true rfl) (fun s4 => ?_)
  exact sim_vret rfl rfl dX10_settle_29
theorem dX11_island_0 : decode cX11_island 0 = .ok (.aload_n 0, 1) := by decide +kernel
theorem dX11_island_1 : decode cX11_island 1 = .ok (.sipush 900, 3) := by decide +kernel
theorem dX11_island_4 : decode cX11_island 4 = .ok (.invokevirtual 130, 3) := by decide +kernel
theorem dX11_island_7 : decode cX11_island 7 = .ok (.aload_n 0, 1) := by decide +kernel
theorem dX11_island_8 : decode cX11_island 8 = .ok (.getfield 33, 3) := by decide +kernel
theorem dX11_island_11 : decode cX11_island 11 = .ok (.getfield 54, 3) := by decide +kernel
theorem dX11_island_14 : decode cX11_island 14 = .ok (.aload_n 0, 1) := by decide +kernel
theorem dX11_island_15 : decode cX11_island 15 = .ok (.getfield 22, 3) := by decide +kernel
theorem dX11_island_18 : decode cX11_island 18 = .ok (.invokevirtual 133, 3) := by decide +kernel
theorem dX11_island_21 : decode cX11_island 21 = .ok (.ifCond .ne 13, 3) := by decide +kernel
theorem dX11_island_24 : decode cX11_island 24 = .ok (.iconst (-1), 1) := by decide +kernel
theorem dX11_island_25 : decode cX11_island 25 = .ok (.aload_n 0, 1) := by decide +kernel
theorem dX11_island_26 : decode cX11_island 26 = .ok (.getfield 22, 3) := by decide +kernel
theorem dX11_island_29 : decode cX11_island 29 = .ok (.getfield 137, 3) := by decide +kernel
theorem dX11_island_32 : decode cX11_island 32 = .ok (.isub, 1) := by decide +kernel
theorem dX11_island_33 : decode cX11_island 33 = .ok (.ireturn, 1) := by decide +kernel
theorem dX11_island_34 : decode cX11_island 34 = .ok (.aload_n 0, 1) := by decide +kernel
theorem dX11_island_35 : decode cX11_island 35 = .ok (.getfield 29, 3) := by decide +kernel
theorem dX11_island_38 : decode cX11_island 38 = .ok (.aload_n 0, 1) := by decide +kernel
theorem dX11_island_39 : decode cX11_island 39 = .ok (.getfield 33, 3) := by decide +kernel
theorem dX11_island_42 : decode cX11_island 42 = .ok (.getfield 54, 3) := by decide +kernel
theorem dX11_island_45 : decode cX11_island 45 = .ok (.invokevirtual 140, 3) := by decide +kernel
theorem dX11_island_48 : decode cX11_island 48 = .ok (.aload_n 0, 1) := by decide +kernel
theorem dX11_island_49 : decode cX11_island 49 = .ok (.iconst 0, 1) := by decide +kernel
theorem dX11_island_50 : decode cX11_island 50 = .ok (.putfield 48, 3) := by decide +kernel
theorem dX11_island_53 : decode cX11_island 53 = .ok (.aload_n 0, 1) := by decide +kernel
theorem dX11_island_54 : decode cX11_island 54 = .ok (.getfield 29, 3) := by decide +kernel
theorem dX11_island_57 : decode cX11_island 57 = .ok (.getfield 54, 3) := by decide +kernel
theorem dX11_island_60 : decode cX11_island 60 = .ok (.getfield 143, 3) := by decide +kernel
theorem dX11_island_63 : decode cX11_island 63 = .ok (.ireturn, 1) := by decide +kernel
def f_W_island (n : Nat)   (σ : JSg) : Option (Int × JSg) :=
  bd1 (f_W_takeTape n 900 σ) fun s1 => bd2 (f_Isl_readAll n 27 s1) fun r2 s3 => if r2 = 0 then (some (w32 ((-1) - (s3 2 13)), s3)) else (bd1 (f_Wld_settle n 3 27 s3) fun s4 => lt_ (sp s4 0 8 0) fun s5 => some (s5 4 0, s5))
set_option maxRecDepth 20000 in
set_option maxHeartbeats 4000000 in
theorem k_W_island  (n : Nat)    (σ : JSg) : Call yX11_island cX11_island 1 (some .int) 12 SH RHO [vR 0] σ dIm (f_W_island n σ) := by
  refine call_of_sim (by decide +kernel) (Nat.le_of_ble_eq_true rfl) ?_
  show Sim RX11 cX11_island 1 (some .int) 12 SH RHO 0 [(0, vR 0)] [] σ dIm (f_W_island n σ)
  unfold f_W_island
  refine sim_aload_n 0 rfl dX11_island_0 ?_
  refine sim_sipush dX11_island_1 (by decide +kernel) ?_
  refine sim_callVVm v_RX11_130 sh_0 dX11_island_4 (k_W_takeTape n 900 σ) rfl ⟨by decide, by decide⟩ (S := []) rfl (Nat.le_of_ble_eq_true rfl) (fun s1 => ?_)
  refine sim_aload_n 0 rfl dX11_island_7 ?_
  refine sim_getR g_RX11_33 sh_0 rh_0_4 dX11_island_8 ?_
  refine sim_getR g_RX11_54 (LWld_o lay_26) rh_26_0 dX11_island_11 ?_
  refine sim_aload_n 0 rfl dX11_island_14 ?_
  refine sim_getR g_RX11_22 sh_0 rh_0_2 dX11_island_15 ?_
  refine sim_callVIm v_RX11_133 (LIsl_o lay_27) dX11_island_18 (k_Isl_readAll n 27 lay_27 s1) rfl ⟨by decide, by decide⟩ (S := []) rfl (Nat.le_of_ble_eq_true rfl) (fun r2 s3 => ?_)
  refine sim_if_ne (tgt := 34) dX11_island_21 (by decide) ?_ ?_
  · refine sim_aload_n 0 rfl dX11_island_34 ?_
    refine sim_getR g_RX11_29 sh_0 rh_0_3 dX11_island_35 ?_
    refine sim_aload_n 0 rfl dX11_island_38 ?_
    refine sim_getR g_RX11_33 sh_0 rh_0_4 dX11_island_39 ?_
    refine sim_getR g_RX11_54 (LWld_o lay_26) rh_26_0 dX11_island_42 ?_
    refine sim_callVVm v_RX11_140 (LWld_o lay_3) dX11_island_45 (k_Wld_settle SH RHO n 3 27 lay_3 lay_27 s3) rfl ⟨by decide, by decide⟩ (S := []) rfl (Nat.le_of_ble_eq_true rfl) (fun s4 => ?_)
    refine sim_aload_n 0 rfl dX11_island_48 ?_
    refine sim_iconst dX11_island_49 (by decide) ?_
    refine sim_putI g_RX11_48 sh_0 dX11_island_50 (fun s5 => ?_)
    refine sim_aload_n 0 rfl dX11_island_53 ?_
    refine sim_getR g_RX11_29 sh_0 rh_0_3 dX11_island_54 ?_
    refine sim_getR g_RX11_54 (LWld_o lay_3) rh_3_0 dX11_island_57 ?_
    refine sim_getI g_RX11_143 (LIsl_o lay_4) dX11_island_60 ?_
    exact sim_iret rfl rfl dX11_island_63
  · refine sim_iconst dX11_island_24 (by decide) ?_
    refine sim_aload_n 0 rfl dX11_island_25 ?_
    refine sim_getR g_RX11_22 sh_0 rh_0_2 dX11_island_26 ?_
    refine sim_getI g_RX11_137 sh_2 dX11_island_29 ?_
    refine sim_isub dX11_island_32 ?_
    exact sim_iret rfl rfl dX11_island_33
theorem dX11_end_0 : decode cX11_end 0 = .ok (.iload_n 1, 1) := by decide +kernel
theorem dX11_end_1 : decode cX11_end 1 = .ok (.ifCond .lt 11, 3) := by decide +kernel
theorem dX11_end_4 : decode cX11_end 4 = .ok (.iload_n 1, 1) := by decide +kernel
theorem dX11_end_5 : decode cX11_end 5 = .ok (.aload_n 0, 1) := by decide +kernel
theorem dX11_end_6 : decode cX11_end 6 = .ok (.getfield 13, 3) := by decide +kernel
theorem dX11_end_9 : decode cX11_end 9 = .ok (.if_icmp .le 5, 3) := by decide +kernel
theorem dX11_end_12 : decode cX11_end 12 = .ok (.iconst 0, 1) := by decide +kernel
theorem dX11_end_13 : decode cX11_end 13 = .ok (.ireturn, 1) := by decide +kernel
theorem dX11_end_14 : decode cX11_end 14 = .ok (.aload_n 0, 1) := by decide +kernel
theorem dX11_end_15 : decode cX11_end 15 = .ok (.iload_n 1, 1) := by decide +kernel
theorem dX11_end_16 : decode cX11_end 16 = .ok (.putfield 13, 3) := by decide +kernel
theorem dX11_end_19 : decode cX11_end 19 = .ok (.iconst 1, 1) := by decide +kernel
theorem dX11_end_20 : decode cX11_end 20 = .ok (.ireturn, 1) := by decide +kernel
def f_W_end   (a1 : Int) (σ : JSg) : Option (Int × JSg) :=
  if a1 < 0 then (some (0, σ)) else (if (σ 0 1) < a1 then (some (0, σ)) else (lt_ (sp σ 0 1 a1) fun s1 => some (1, s1)))
set_option maxRecDepth 20000 in
set_option maxHeartbeats 4000000 in
theorem k_W_end     (a1 : Int) (σ : JSg) : Call yX11_end cX11_end 2 (some .boolean) 0 SH RHO [vR 0, vI a1] σ dIm (f_W_end a1 σ) := by
  refine call_of_sim (by decide +kernel) (Nat.le_of_ble_eq_true rfl) ?_
  show Sim RX11 cX11_end 2 (some .boolean) 0 SH RHO 0 [(0, vR 0), (1, vI a1)] [] σ dIm (f_W_end a1 σ)
  unfold f_W_end
  refine sim_iload_n 1 rfl dX11_end_0 ?_
  refine sim_if_lt (tgt := 12) dX11_end_1 (by decide) ?_ ?_
  · refine sim_iconst dX11_end_12 (by decide) ?_
    exact sim_zret (Or.inl rfl) rfl rfl dX11_end_13
  · refine sim_iload_n 1 rfl dX11_end_4 ?_
    refine sim_aload_n 0 rfl dX11_end_5 ?_
    refine sim_getI g_RX11_13 sh_0 dX11_end_6 ?_
    refine sim_icmp_le (tgt := 14) dX11_end_9 (by decide) ?_ ?_
    · refine sim_aload_n 0 rfl dX11_end_14 ?_
      refine sim_iload_n 1 rfl dX11_end_15 ?_
      refine sim_putI g_RX11_13 sh_0 dX11_end_16 (fun s1 => ?_)
      refine sim_iconst dX11_end_19 (by decide) ?_
      exact sim_zret (Or.inr rfl) rfl rfl dX11_end_20
    · refine sim_iconst dX11_end_12 (by decide) ?_
      exact sim_zret (Or.inl rfl) rfl rfl dX11_end_13
theorem dX11_feedFour_0 : decode cX11_feedFour 0 = .ok (.bipush 24, 2) := by decide +kernel
theorem dX11_feedFour_2 : decode cX11_feedFour 2 = .ok (.istore_n 2, 1) := by decide +kernel
theorem dX11_feedFour_3 : decode cX11_feedFour 3 = .ok (.iload_n 2, 1) := by decide +kernel
theorem dX11_feedFour_4 : decode cX11_feedFour 4 = .ok (.ifCond .lt 42, 3) := by decide +kernel
theorem dX11_feedFour_7 : decode cX11_feedFour 7 = .ok (.aload_n 0, 1) := by decide +kernel
theorem dX11_feedFour_8 : decode cX11_feedFour 8 = .ok (.getfield 13, 3) := by decide +kernel
theorem dX11_feedFour_11 : decode cX11_feedFour 11 = .ok (.sipush 940, 3) := by decide +kernel
theorem dX11_feedFour_14 : decode cX11_feedFour 14 = .ok (.if_icmp .ge 32, 3) := by decide +kernel
theorem dX11_feedFour_17 : decode cX11_feedFour 17 = .ok (.aload_n 0, 1) := by decide +kernel
theorem dX11_feedFour_18 : decode cX11_feedFour 18 = .ok (.getfield 9, 3) := by decide +kernel
theorem dX11_feedFour_21 : decode cX11_feedFour 21 = .ok (.aload_n 0, 1) := by decide +kernel
theorem dX11_feedFour_22 : decode cX11_feedFour 22 = .ok (.getfield 13, 3) := by decide +kernel
theorem dX11_feedFour_25 : decode cX11_feedFour 25 = .ok (.iload_n 1, 1) := by decide +kernel
theorem dX11_feedFour_26 : decode cX11_feedFour 26 = .ok (.iload_n 2, 1) := by decide +kernel
theorem dX11_feedFour_27 : decode cX11_feedFour 27 = .ok (.ishr, 1) := by decide +kernel
theorem dX11_feedFour_28 : decode cX11_feedFour 28 = .ok (.i2b, 1) := by decide +kernel
theorem dX11_feedFour_29 : decode cX11_feedFour 29 = .ok (.bastore, 1) := by decide +kernel
theorem dX11_feedFour_30 : decode cX11_feedFour 30 = .ok (.aload_n 0, 1) := by decide +kernel
theorem dX11_feedFour_31 : decode cX11_feedFour 31 = .ok (.dup, 1) := by decide +kernel
theorem dX11_feedFour_32 : decode cX11_feedFour 32 = .ok (.getfield 13, 3) := by decide +kernel
theorem dX11_feedFour_35 : decode cX11_feedFour 35 = .ok (.iconst 1, 1) := by decide +kernel
theorem dX11_feedFour_36 : decode cX11_feedFour 36 = .ok (.iadd, 1) := by decide +kernel
theorem dX11_feedFour_37 : decode cX11_feedFour 37 = .ok (.putfield 13, 3) := by decide +kernel
theorem dX11_feedFour_40 : decode cX11_feedFour 40 = .ok (.iinc 2 (-8), 3) := by decide +kernel
theorem dX11_feedFour_43 : decode cX11_feedFour 43 = .ok (.goto (-40), 3) := by decide +kernel
theorem dX11_feedFour_46 : decode cX11_feedFour 46 = .ok (.return_, 1) := by decide +kernel
def f_W_feedFour (n : Nat)  (a1 : Int) (σ : JSg) : Option (JSg) :=
  lt_ 24 fun v1 => wh2 n (fun rc2 (x3 : Int) (s4 : JSg) => if x3 < 0 then (some s4) else (if (s4 0 1) < 940 then (chk (0 ≤ (s4 0 1) ∧ (s4 0 1) < 940) <| lt_ (sp s4 1 (s4 0 1).toNat (b8 (b8 (sr32 a1 x3)))) fun s5 => lt_ (sp s5 0 1 (w32 ((s5 0 1) + 1))) fun s6 => lt_ (w32 (x3 + (-8))) fun v7 => rc2 v7 s6) else (some s4))) v1 (σ)
set_option maxRecDepth 20000 in
set_option maxHeartbeats 4000000 in
theorem k_W_feedFour  (n : Nat)   (a1 : Int) (σ : JSg) : Call yX11_feedFour cX11_feedFour 3 none 0 SH RHO [vR 0, vI a1] σ dVm (f_W_feedFour n a1 σ) := by
  refine call_of_sim (by decide +kernel) (Nat.le_of_ble_eq_true rfl) ?_
  show Sim RX11 cX11_feedFour 3 none 0 SH RHO 0 [(0, vR 0), (1, vI a1)] [] σ dVm (f_W_feedFour n a1 σ)
  unfold f_W_feedFour
  refine sim_bipush dX11_feedFour_0 (by decide +kernel) ?_
  refine sim_istore_n (fun v1 => [(2, vI v1), (0, vR 0), (1, vI a1)]) (fun _ => rfl) (by decide) dX11_feedFour_2 (fun v1 => ?_)
  refine sim_sub [1, 2, 0] (L' := [(0, vR 0), (1, vI a1), (2, vI v1)]) rfl ?_
  refine sim_wh2 (fun (x3 : Int) (s4 : JSg) => [(0, vR 0), (1, vI a1), (2, vI x3)]) (fun (x3 : Int) (s4 : JSg) => s4) ?_ n v1 (σ)
  intro rc2 hrc2 x3 s4
  refine sim_iload_n 2 rfl dX11_feedFour_3 ?_
  refine sim_if_lt (tgt := 46) dX11_feedFour_4 (by decide) ?_ ?_
  · exact sim_vret rfl rfl dX11_feedFour_46
  · refine sim_aload_n 0 rfl dX11_feedFour_7 ?_
    refine sim_getI g_RX11_13 sh_0 dX11_feedFour_8 ?_
    refine sim_sipush dX11_feedFour_11 (by decide +kernel) ?_
    refine sim_icmp_ge (tgt := 46) dX11_feedFour_14 (by decide) ?_ ?_
    · exact sim_vret rfl rfl dX11_feedFour_46
    · refine sim_aload_n 0 rfl dX11_feedFour_17 ?_
      refine sim_getR g_RX11_9 sh_0 rh_0_0 dX11_feedFour_18 ?_
      refine sim_aload_n 0 rfl dX11_feedFour_21 ?_
      refine sim_getI g_RX11_13 sh_0 dX11_feedFour_22 ?_
      refine sim_iload_n 1 rfl dX11_feedFour_25 ?_
      refine sim_iload_n 2 rfl dX11_feedFour_26 ?_
      refine sim_ishr dX11_feedFour_27 ?_
      refine sim_i2b dX11_feedFour_28 ?_
      refine sim_bastore sh_1 rfl dX11_feedFour_29 (fun s5 => ?_)
      refine sim_aload_n 0 rfl dX11_feedFour_30 ?_
      refine sim_dup rfl dX11_feedFour_31 ?_
      refine sim_getI g_RX11_13 sh_0 dX11_feedFour_32 ?_
      refine sim_iconst dX11_feedFour_35 (by decide) ?_
      refine sim_iadd dX11_feedFour_36 ?_
      refine sim_putI g_RX11_13 sh_0 dX11_feedFour_37 (fun s6 => ?_)
      refine sim_iinc 2 rfl (fun v7 => [(2, vI v7), (0, vR 0), (1, vI a1)]) (fun _ => rfl) (by decide) dX11_feedFour_40 (fun v7 => ?_)
      refine sim_goto (tgt := 3) dX11_feedFour_43 (by decide) ?_
      exact sim_sub [1, 2, 0] rfl (hrc2 v7 s6)
theorem dX11_feed_0 : decode cX11_feed 0 = .ok (.aload_n 0, 1) := by decide +kernel
theorem dX11_feed_1 : decode cX11_feed 1 = .ok (.getfield 13, 3) := by decide +kernel
theorem dX11_feed_4 : decode cX11_feed 4 = .ok (.sipush 920, 3) := by decide +kernel
theorem dX11_feed_7 : decode cX11_feed 7 = .ok (.if_icmp .le 5, 3) := by decide +kernel
theorem dX11_feed_10 : decode cX11_feed 10 = .ok (.iconst (-1), 1) := by decide +kernel
theorem dX11_feed_11 : decode cX11_feed 11 = .ok (.ireturn, 1) := by decide +kernel
theorem dX11_feed_12 : decode cX11_feed 12 = .ok (.aload_n 0, 1) := by decide +kernel
theorem dX11_feed_13 : decode cX11_feed 13 = .ok (.iload_n 1, 1) := by decide +kernel
theorem dX11_feed_14 : decode cX11_feed 14 = .ok (.invokevirtual 124, 3) := by decide +kernel
theorem dX11_feed_17 : decode cX11_feed 17 = .ok (.aload_n 0, 1) := by decide +kernel
theorem dX11_feed_18 : decode cX11_feed 18 = .ok (.iload_n 2, 1) := by decide +kernel
theorem dX11_feed_19 : decode cX11_feed 19 = .ok (.invokevirtual 124, 3) := by decide +kernel
theorem dX11_feed_22 : decode cX11_feed 22 = .ok (.aload_n 0, 1) := by decide +kernel
theorem dX11_feed_23 : decode cX11_feed 23 = .ok (.iload_n 3, 1) := by decide +kernel
theorem dX11_feed_24 : decode cX11_feed 24 = .ok (.invokevirtual 124, 3) := by decide +kernel
theorem dX11_feed_27 : decode cX11_feed 27 = .ok (.aload_n 0, 1) := by decide +kernel
theorem dX11_feed_28 : decode cX11_feed 28 = .ok (.iload 4, 2) := by decide +kernel
theorem dX11_feed_30 : decode cX11_feed 30 = .ok (.invokevirtual 124, 3) := by decide +kernel
theorem dX11_feed_33 : decode cX11_feed 33 = .ok (.aload_n 0, 1) := by decide +kernel
theorem dX11_feed_34 : decode cX11_feed 34 = .ok (.iload 5, 2) := by decide +kernel
theorem dX11_feed_36 : decode cX11_feed 36 = .ok (.invokevirtual 124, 3) := by decide +kernel
theorem dX11_feed_39 : decode cX11_feed 39 = .ok (.aload_n 0, 1) := by decide +kernel
theorem dX11_feed_40 : decode cX11_feed 40 = .ok (.getfield 13, 3) := by decide +kernel
theorem dX11_feed_43 : decode cX11_feed 43 = .ok (.ireturn, 1) := by decide +kernel
def f_W_feed (n : Nat)  (a1 : Int) (a2 : Int) (a3 : Int) (a4 : Int) (a5 : Int) (σ : JSg) : Option (Int × JSg) :=
  if 920 < (σ 0 1) then (some ((-1), σ)) else (bd1 (f_W_feedFour n a1 σ) fun s1 => bd1 (f_W_feedFour n a2 s1) fun s2 => bd1 (f_W_feedFour n a3 s2) fun s3 => bd1 (f_W_feedFour n a4 s3) fun s4 => bd1 (f_W_feedFour n a5 s4) fun s5 => some (s5 0 1, s5))
set_option maxRecDepth 20000 in
set_option maxHeartbeats 4000000 in
theorem k_W_feed  (n : Nat)   (a1 : Int) (a2 : Int) (a3 : Int) (a4 : Int) (a5 : Int) (σ : JSg) : Call yX11_feed cX11_feed 6 (some .int) 1 SH RHO [vR 0, vI a1, vI a2, vI a3, vI a4, vI a5] σ dIm (f_W_feed n a1 a2 a3 a4 a5 σ) := by
  refine call_of_sim (by decide +kernel) (Nat.le_of_ble_eq_true rfl) ?_
  show Sim RX11 cX11_feed 6 (some .int) 1 SH RHO 0 [(0, vR 0), (1, vI a1), (2, vI a2), (3, vI a3), (4, vI a4), (5, vI a5)] [] σ dIm (f_W_feed n a1 a2 a3 a4 a5 σ)
  unfold f_W_feed
  refine sim_aload_n 0 rfl dX11_feed_0 ?_
  refine sim_getI g_RX11_13 sh_0 dX11_feed_1 ?_
  refine sim_sipush dX11_feed_4 (by decide +kernel) ?_
  refine sim_icmp_le (tgt := 12) dX11_feed_7 (by decide) ?_ ?_
  · refine sim_aload_n 0 rfl dX11_feed_12 ?_
    refine sim_iload_n 1 rfl dX11_feed_13 ?_
    refine sim_callVVm v_RX11_124 sh_0 dX11_feed_14 (k_W_feedFour n a1 σ) rfl ⟨by decide, by decide⟩ (S := []) rfl (Nat.le_of_ble_eq_true rfl) (fun s1 => ?_)
    refine sim_aload_n 0 rfl dX11_feed_17 ?_
    refine sim_iload_n 2 rfl dX11_feed_18 ?_
    refine sim_callVVm v_RX11_124 sh_0 dX11_feed_19 (k_W_feedFour n a2 s1) rfl ⟨by decide, by decide⟩ (S := []) rfl (Nat.le_of_ble_eq_true rfl) (fun s2 => ?_)
    refine sim_aload_n 0 rfl dX11_feed_22 ?_
    refine sim_iload_n 3 rfl dX11_feed_23 ?_
    refine sim_callVVm v_RX11_124 sh_0 dX11_feed_24 (k_W_feedFour n a3 s2) rfl ⟨by decide, by decide⟩ (S := []) rfl (Nat.le_of_ble_eq_true rfl) (fun s3 => ?_)
    refine sim_aload_n 0 rfl dX11_feed_27 ?_
    refine sim_iload 4 rfl dX11_feed_28 ?_
    refine sim_callVVm v_RX11_124 sh_0 dX11_feed_30 (k_W_feedFour n a4 s3) rfl ⟨by decide, by decide⟩ (S := []) rfl (Nat.le_of_ble_eq_true rfl) (fun s4 => ?_)
    refine sim_aload_n 0 rfl dX11_feed_33 ?_
    refine sim_iload 5 rfl dX11_feed_34 ?_
    refine sim_callVVm v_RX11_124 sh_0 dX11_feed_36 (k_W_feedFour n a5 s4) rfl ⟨by decide, by decide⟩ (S := []) rfl (Nat.le_of_ble_eq_true rfl) (fun s5 => ?_)
    refine sim_aload_n 0 rfl dX11_feed_39 ?_
    refine sim_getI g_RX11_13 sh_0 dX11_feed_40 ?_
    exact sim_iret rfl rfl dX11_feed_43
  · refine sim_iconst dX11_feed_10 (by decide) ?_
    exact sim_iret rfl rfl dX11_feed_11
