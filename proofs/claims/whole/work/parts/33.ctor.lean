set_option maxRecDepth 20000 in
set_option maxHeartbeats 4000000 in
theorem kc_1 : DCall yX9_init cX9_init 2 1 (shp 3) (rst 1) [vR 2, vR 1] (sst 0) (shp 3) (rst 2) (sst 0) := by
  refine dcall_of_sim (by decide +kernel) rfl (Nat.le_of_ble_eq_true rfl) ⟨by decide +kernel, by decide +kernel⟩ ?_
  show GC RX9 cX9_init 2 1 3 1 0 0 [(0, vR 2), (1, vR 1)] [] _ _ 3 2 0
  refine sim_aload_n 0 rfl dX9_init_0 ?_
  refine sim_objInit w_40 w_33 w_34 (by decide) (Nat.le_of_ble_eq_true rfl) dX9_init_1 ?_
  refine sim_aload_n 0 rfl dX9_init_4 ?_
  refine sim_iconst dX9_init_5 (by decide) ?_
  refine cs_putI0 g_RX9_9 (by decide +kernel) (by decide +kernel) dX9_init_6 ?_
  refine sim_aload_n 0 rfl dX9_init_9 ?_
  refine sim_iconst dX9_init_10 (by decide) ?_
  refine cs_putI0 g_RX9_15 (by decide +kernel) (by decide +kernel) dX9_init_11 ?_
  refine sim_aload_n 0 rfl dX9_init_14 ?_
  refine sim_iconst dX9_init_15 (by decide) ?_
  refine cs_putI0 g_RX9_18 (by decide +kernel) (by decide +kernel) dX9_init_16 ?_
  refine sim_aload_n 0 rfl dX9_init_19 ?_
  refine sim_iconst dX9_init_20 (by decide) ?_
  refine cs_putI0 g_RX9_21 (by decide +kernel) (by decide +kernel) dX9_init_21 ?_
  refine sim_aload_n 0 rfl dX9_init_24 ?_
  refine sim_iconst dX9_init_25 (by decide) ?_
  refine cs_putI0 g_RX9_24 (by decide +kernel) (by decide +kernel) dX9_init_26 ?_
  refine sim_aload_n 0 rfl dX9_init_29 ?_
  refine sim_iconst dX9_init_30 (by decide) ?_
  refine cs_putI0 g_RX9_27 (by decide +kernel) (by decide +kernel) dX9_init_31 ?_
  refine sim_aload_n 0 rfl dX9_init_34 ?_
  refine sim_lconst (v := 0) dX9_init_35 (by decide +kernel) ?_
  refine cs_putL0 g_RX9_30 (by decide +kernel) (by decide +kernel) dX9_init_36 ?_
  refine sim_aload_n 0 rfl dX9_init_39 ?_
  refine sim_iconst dX9_init_40 (by decide) ?_
  refine cs_putI0 g_RX9_34 (by decide +kernel) (by decide +kernel) dX9_init_41 ?_
  refine sim_aload_n 0 rfl dX9_init_44 ?_
  refine sim_iconst dX9_init_45 (by decide) ?_
  refine cs_putI0 g_RX9_37 (by decide +kernel) (by decide +kernel) dX9_init_46 ?_
  refine sim_aload_n 0 rfl dX9_init_49 ?_
  refine sim_iconst dX9_init_50 (by decide) ?_
  refine cs_putI0 g_RX9_40 (by decide +kernel) (by decide +kernel) dX9_init_51 ?_
  refine sim_aload_n 0 rfl dX9_init_54 ?_
  refine sim_iconst dX9_init_55 (by decide) ?_
  refine cs_putI0 g_RX9_43 (by decide +kernel) (by decide +kernel) dX9_init_56 ?_
  refine sim_aload_n 0 rfl dX9_init_59 ?_
  refine sim_iconst dX9_init_60 (by decide) ?_
  refine cs_putI0 g_RX9_46 (by decide +kernel) (by decide +kernel) dX9_init_61 ?_
  refine sim_aload_n 0 rfl dX9_init_64 ?_
  refine sim_iconst dX9_init_65 (by decide) ?_
  refine cs_putI0 g_RX9_49 (by decide +kernel) (by decide +kernel) dX9_init_66 ?_
  refine sim_aload_n 0 rfl dX9_init_69 ?_
  refine sim_aload_n 1 rfl dX9_init_70 ?_
  refine cs_putR jc_9 g_RX9_52 rfl (by decide) (fun _ => ⟨rfl, rfl⟩) (by decide +kernel) (by decide +kernel) dX9_init_71 ?_
  exact sim_dret rfl dX9_init_74
set_option maxRecDepth 20000 in
set_option maxHeartbeats 4000000 in
theorem kc_2 : DCall yX3_init cX3_init 1 2 (shp 5) (rst 3) [vR 4] (sst 0) (shp 11) (rst 9) (sst 8) := by
  refine dcall_of_sim (by decide +kernel) rfl (Nat.le_of_ble_eq_true rfl) ⟨by decide +kernel, by decide +kernel⟩ ?_
  show GC RX3 cX3_init 1 2 5 3 0 0 [(0, vR 4)] [] _ _ 11 9 8
  refine sim_aload_n 0 rfl dX3_init_0 ?_
  refine sim_objInit w_110 w_33 w_34 (by decide) (Nat.le_of_ble_eq_true rfl) dX3_init_1 ?_
  refine sim_aload_n 0 rfl dX3_init_4 ?_
  refine sim_iconst dX3_init_5 (by decide) ?_
  refine cs_putI0 g_RX3_11 (by decide +kernel) (by decide +kernel) dX3_init_6 ?_
  refine sim_aload_n 0 rfl dX3_init_9 ?_
  refine sim_iconst dX3_init_10 (by decide) ?_
  refine cs_putI0 g_RX3_15 (by decide +kernel) (by decide +kernel) dX3_init_11 ?_
  refine sim_aload_n 0 rfl dX3_init_14 ?_
  refine sim_iconst dX3_init_15 (by decide) ?_
  refine cs_putI0 g_RX3_18 (by decide +kernel) (by decide +kernel) dX3_init_16 ?_
  refine sim_aload_n 0 rfl dX3_init_19 ?_
  refine sim_iconst dX3_init_20 (by decide) ?_
  refine cs_putI0 g_RX3_21 (by decide +kernel) (by decide +kernel) dX3_init_21 ?_
  refine sim_aload_n 0 rfl dX3_init_24 ?_
  refine sim_iconst dX3_init_25 (by decide) ?_
  refine cs_putI0 g_RX3_24 (by decide +kernel) (by decide +kernel) dX3_init_26 ?_
  refine sim_aload_n 0 rfl dX3_init_29 ?_
  refine sim_iconst dX3_init_30 (by decide) ?_
  refine cs_putI g_RX3_27 (by decide +kernel) (by decide +kernel) dX3_init_31 ?_
  refine sim_aload_n 0 rfl dX3_init_34 ?_
  refine sim_iconst dX3_init_35 (by decide) ?_
  refine cs_putZ0 (by decide) g_RX3_30 (by decide +kernel) (by decide +kernel) dX3_init_36 ?_
  refine sim_aload_n 0 rfl dX3_init_39 ?_
  refine sim_bipush dX3_init_40 (by decide +kernel) ?_
  refine cs_newarr2 (n := 6) rfl (by decide) w_191 sh_5 (by decide +kernel) dX3_init_42 ?_
  refine cs_putR jc_3 g_RX3_34 rfl (by decide) (fun _ => ⟨rfl, rfl⟩) (by decide +kernel) (by decide +kernel) dX3_init_44 ?_
  refine sim_aload_n 0 rfl dX3_init_47 ?_
  refine sim_bipush dX3_init_48 (by decide +kernel) ?_
  refine cs_newarr0 (n := 28) rfl (by decide) w_192 sh_6 (by decide +kernel) dX3_init_50 ?_
  refine cs_putR jc_3 g_RX3_38 rfl (by decide) (fun _ => ⟨rfl, rfl⟩) (by decide +kernel) (by decide +kernel) dX3_init_52 ?_
  refine sim_aload_n 0 rfl dX3_init_55 ?_
  refine sim_bipush dX3_init_56 (by decide +kernel) ?_
  refine cs_newarr0 (n := 28) rfl (by decide) w_192 sh_7 (by decide +kernel) dX3_init_58 ?_
  refine cs_putR jc_3 g_RX3_42 rfl (by decide) (fun _ => ⟨rfl, rfl⟩) (by decide +kernel) (by decide +kernel) dX3_init_60 ?_
  refine sim_aload_n 0 rfl dX3_init_63 ?_
  refine sim_bipush dX3_init_64 (by decide +kernel) ?_
  refine cs_newarr0 (n := 28) rfl (by decide) w_192 sh_8 (by decide +kernel) dX3_init_66 ?_
  refine cs_putR jc_3 g_RX3_45 rfl (by decide) (fun _ => ⟨rfl, rfl⟩) (by decide +kernel) (by decide +kernel) dX3_init_68 ?_
  refine sim_aload_n 0 rfl dX3_init_71 ?_
  refine sim_bipush dX3_init_72 (by decide +kernel) ?_
  refine cs_newarr0 (n := 7) rfl (by decide) w_192 sh_9 (by decide +kernel) dX3_init_74 ?_
  refine cs_putR jc_3 g_RX3_48 rfl (by decide) (fun _ => ⟨rfl, rfl⟩) (by decide +kernel) (by decide +kernel) dX3_init_76 ?_
  refine sim_aload_n 0 rfl dX3_init_79 ?_
  refine sim_bipush dX3_init_80 (by decide +kernel) ?_
  refine cs_newarr0 (n := 7) rfl (by decide) w_192 sh_10 (by decide +kernel) dX3_init_82 ?_
  refine cs_putR jc_3 g_RX3_51 rfl (by decide) (fun _ => ⟨rfl, rfl⟩) (by decide +kernel) (by decide +kernel) dX3_init_84 ?_
  refine sim_aload_n 0 rfl dX3_init_87 ?_
  refine cs_fit (c1 := 8) v_RX3_54 (by decide +kernel) dX3_init_88 (k_Isl_findFitting (shp 11) (rst 9) 64 4 (by unfold LIsl; decide +kernel) (sst 1)) ⟨by decide, by decide⟩ (Nat.le_of_ble_eq_true rfl) fit_4 ?_
  exact sim_dret rfl dX3_init_91
set_option maxRecDepth 20000 in
set_option maxHeartbeats 4000000 in
theorem kc_3 : DCall yX7_init cX7_init 2 1 (shp 12) (rst 10) [vR 11, vR 4] (sst 8) (shp 18) (rst 17) (sst 8) := by
  refine dcall_of_sim (by decide +kernel) rfl (Nat.le_of_ble_eq_true rfl) ⟨by decide +kernel, by decide +kernel⟩ ?_
  show GC RX7 cX7_init 2 1 12 10 8 0 [(0, vR 11), (1, vR 4)] [] _ _ 18 17 8
  refine sim_aload_n 0 rfl dX7_init_0 ?_
  refine sim_objInit w_198 w_33 w_34 (by decide) (Nat.le_of_ble_eq_true rfl) dX7_init_1 ?_
  refine sim_aload_n 0 rfl dX7_init_4 ?_
  refine sim_bipush dX7_init_5 (by decide +kernel) ?_
  refine cs_newarr0 (n := 28) rfl (by decide) w_192 sh_12 (by decide +kernel) dX7_init_7 ?_
  refine cs_putR jc_7 g_RX7_9 rfl (by decide) (fun _ => ⟨rfl, rfl⟩) (by decide +kernel) (by decide +kernel) dX7_init_9 ?_
  refine sim_aload_n 0 rfl dX7_init_12 ?_
  refine sim_bipush dX7_init_13 (by decide +kernel) ?_
  refine cs_newarr0 (n := 28) rfl (by decide) w_192 sh_13 (by decide +kernel) dX7_init_15 ?_
  refine cs_putR jc_7 g_RX7_15 rfl (by decide) (fun _ => ⟨rfl, rfl⟩) (by decide +kernel) (by decide +kernel) dX7_init_17 ?_
  refine sim_aload_n 0 rfl dX7_init_20 ?_
  refine sim_bipush dX7_init_21 (by decide +kernel) ?_
  refine cs_newarr0 (n := 28) rfl (by decide) w_192 sh_14 (by decide +kernel) dX7_init_23 ?_
  refine cs_putR jc_7 g_RX7_18 rfl (by decide) (fun _ => ⟨rfl, rfl⟩) (by decide +kernel) (by decide +kernel) dX7_init_25 ?_
  refine sim_aload_n 0 rfl dX7_init_28 ?_
  refine sim_iconst dX7_init_29 (by decide) ?_
  refine cs_putI0 g_RX7_21 (by decide +kernel) (by decide +kernel) dX7_init_30 ?_
  refine sim_aload_n 0 rfl dX7_init_33 ?_
  refine sim_bipush dX7_init_34 (by decide +kernel) ?_
  refine cs_newarr0 (n := 28) rfl (by decide) w_192 sh_15 (by decide +kernel) dX7_init_36 ?_
  refine cs_putR jc_7 g_RX7_25 rfl (by decide) (fun _ => ⟨rfl, rfl⟩) (by decide +kernel) (by decide +kernel) dX7_init_38 ?_
  refine sim_aload_n 0 rfl dX7_init_41 ?_
  refine sim_bipush dX7_init_42 (by decide +kernel) ?_
  refine cs_newarr0 (n := 6) rfl (by decide) w_192 sh_16 (by decide +kernel) dX7_init_44 ?_
  refine cs_putR jc_7 g_RX7_28 rfl (by decide) (fun _ => ⟨rfl, rfl⟩) (by decide +kernel) (by decide +kernel) dX7_init_46 ?_
  refine sim_aload_n 0 rfl dX7_init_49 ?_
  refine sim_bipush dX7_init_50 (by decide +kernel) ?_
  refine cs_newarr0 (n := 6) rfl (by decide) w_192 sh_17 (by decide +kernel) dX7_init_52 ?_
  refine cs_putR jc_7 g_RX7_31 rfl (by decide) (fun _ => ⟨rfl, rfl⟩) (by decide +kernel) (by decide +kernel) dX7_init_54 ?_
  refine sim_aload_n 0 rfl dX7_init_57 ?_
  refine sim_aload_n 1 rfl dX7_init_58 ?_
  refine cs_putR jc_7 g_RX7_34 rfl (by decide) (fun _ => ⟨rfl, rfl⟩) (by decide +kernel) (by decide +kernel) dX7_init_59 ?_
  exact sim_dret rfl dX7_init_62
set_option maxRecDepth 20000 in
set_option maxHeartbeats 4000000 in
theorem kc_4 : DCall yX5_init cX5_init 1 1 (shp 19) (rst 18) [vR 18] (sst 8) (shp 21) (rst 20) (sst 8) := by
  refine dcall_of_sim (by decide +kernel) rfl (Nat.le_of_ble_eq_true rfl) ⟨by decide +kernel, by decide +kernel⟩ ?_
  show GC RX5 cX5_init 1 1 19 18 8 0 [(0, vR 18)] [] _ _ 21 20 8
  refine sim_aload_n 0 rfl dX5_init_0 ?_
  refine sim_objInit w_247 w_33 w_34 (by decide) (Nat.le_of_ble_eq_true rfl) dX5_init_1 ?_
  refine sim_aload_n 0 rfl dX5_init_4 ?_
  refine sim_iconst dX5_init_5 (by decide) ?_
  refine cs_putI0 g_RX5_11 (by decide +kernel) (by decide +kernel) dX5_init_6 ?_
  refine sim_aload_n 0 rfl dX5_init_9 ?_
  refine sim_iconst dX5_init_10 (by decide) ?_
  refine cs_putI0 g_RX5_15 (by decide +kernel) (by decide +kernel) dX5_init_11 ?_
  refine sim_aload_n 0 rfl dX5_init_14 ?_
  refine sim_bipush dX5_init_15 (by decide +kernel) ?_
  refine cs_newarr0 (n := 6) rfl (by decide) w_192 sh_19 (by decide +kernel) dX5_init_17 ?_
  refine cs_putR jc_5 g_RX5_18 rfl (by decide) (fun _ => ⟨rfl, rfl⟩) (by decide +kernel) (by decide +kernel) dX5_init_19 ?_
  refine sim_aload_n 0 rfl dX5_init_22 ?_
  refine sim_iconst dX5_init_23 (by decide) ?_
  refine cs_putI0 g_RX5_22 (by decide +kernel) (by decide +kernel) dX5_init_24 ?_
  refine sim_aload_n 0 rfl dX5_init_27 ?_
  refine sim_bipush dX5_init_28 (by decide +kernel) ?_
  refine cs_newarr0 (n := 6) rfl (by decide) w_192 sh_20 (by decide +kernel) dX5_init_30 ?_
  refine cs_putR jc_5 g_RX5_25 rfl (by decide) (fun _ => ⟨rfl, rfl⟩) (by decide +kernel) (by decide +kernel) dX5_init_32 ?_
  exact sim_dret rfl dX5_init_35
set_option maxRecDepth 20000 in
set_option maxHeartbeats 4000000 in
theorem kc_5 : DCall yX8_init cX8_init 1 1 (shp 22) (rst 21) [vR 21] (sst 8) (shp 26) (rst 25) (sst 8) := by
  refine dcall_of_sim (by decide +kernel) rfl (Nat.le_of_ble_eq_true rfl) ⟨by decide +kernel, by decide +kernel⟩ ?_
  show GC RX8 cX8_init 1 1 22 21 8 0 [(0, vR 21)] [] _ _ 26 25 8
  refine sim_aload_n 0 rfl dX8_init_0 ?_
  refine sim_objInit w_272 w_33 w_34 (by decide) (Nat.le_of_ble_eq_true rfl) dX8_init_1 ?_
  refine sim_aload_n 0 rfl dX8_init_4 ?_
  refine sim_iconst dX8_init_5 (by decide) ?_
  refine cs_putI0 g_RX8_11 (by decide +kernel) (by decide +kernel) dX8_init_6 ?_
  refine sim_aload_n 0 rfl dX8_init_9 ?_
  refine sim_iconst dX8_init_10 (by decide) ?_
  refine cs_putI0 g_RX8_15 (by decide +kernel) (by decide +kernel) dX8_init_11 ?_
  refine sim_aload_n 0 rfl dX8_init_14 ?_
  refine sim_bipush dX8_init_15 (by decide +kernel) ?_
  refine cs_newarr0 (n := 40) rfl (by decide) w_192 sh_22 (by decide +kernel) dX8_init_17 ?_
  refine cs_putR jc_8 g_RX8_18 rfl (by decide) (fun _ => ⟨rfl, rfl⟩) (by decide +kernel) (by decide +kernel) dX8_init_19 ?_
  refine sim_aload_n 0 rfl dX8_init_22 ?_
  refine sim_bipush dX8_init_23 (by decide +kernel) ?_
  refine cs_newarr0 (n := 40) rfl (by decide) w_192 sh_23 (by decide +kernel) dX8_init_25 ?_
  refine cs_putR jc_8 g_RX8_22 rfl (by decide) (fun _ => ⟨rfl, rfl⟩) (by decide +kernel) (by decide +kernel) dX8_init_27 ?_
  refine sim_aload_n 0 rfl dX8_init_30 ?_
  refine sim_bipush dX8_init_31 (by decide +kernel) ?_
  refine cs_newarr0 (n := 40) rfl (by decide) w_192 sh_24 (by decide +kernel) dX8_init_33 ?_
  refine cs_putR jc_8 g_RX8_25 rfl (by decide) (fun _ => ⟨rfl, rfl⟩) (by decide +kernel) (by decide +kernel) dX8_init_35 ?_
  refine sim_aload_n 0 rfl dX8_init_38 ?_
  refine sim_bipush dX8_init_39 (by decide +kernel) ?_
  refine cs_newarr0 (n := 20) rfl (by decide) w_192 sh_25 (by decide +kernel) dX8_init_41 ?_
  refine cs_putR jc_8 g_RX8_28 rfl (by decide) (fun _ => ⟨rfl, rfl⟩) (by decide +kernel) (by decide +kernel) dX8_init_43 ?_
  exact sim_dret rfl dX8_init_46
set_option maxRecDepth 20000 in
set_option maxHeartbeats 4000000 in
theorem kc_6 : DCall yX10_init cX10_init 1 3 (shp 4) (rst 3) [vR 3] (sst 0) (shp 26) (rst 26) (sst 8) := by
  refine dcall_of_sim (by decide +kernel) rfl (Nat.le_of_ble_eq_true rfl) ⟨by decide +kernel, by decide +kernel⟩ ?_
  show GC RX10 cX10_init 1 3 4 3 0 0 [(0, vR 3)] [] _ _ 26 26 8
  refine sim_aload_n 0 rfl dX10_init_0 ?_
  refine sim_objInit w_104 w_33 w_34 (by decide) (Nat.le_of_ble_eq_true rfl) dX10_init_1 ?_
  refine sim_aload_n 0 rfl dX10_init_4 ?_
  refine cs_new jc_3 df_3 w_105 w_106 w_4 sh_4 (by decide +kernel) dX10_init_5 ?_
  refine sim_dup rfl dX10_init_8 ?_
  refine sim_ctor (Sh1 := shp 11) (ρ1 := rst 9) (σ1 := sst 8) l_RX10_9 w_108 rfl rD_nx rfl ⟨by decide, by decide⟩ (Nat.le_of_ble_eq_true rfl) dX10_init_9 kc_2 (ctor_of (show ctorB 5 11 [(0, vR 3)] [vR 4, vR 3] _ _ = true by decide +kernel)) (as := []) (S := [vR 4, vR 3]) rfl ?_
  refine cs_putR jc_10 g_RX10_10 rfl (by decide) (fun _ => ⟨rfl, rfl⟩) (by decide +kernel) (by decide +kernel) dX10_init_12 ?_
  refine sim_aload_n 0 rfl dX10_init_15 ?_
  refine cs_new jc_7 df_7 w_193 w_194 w_5 sh_11 (by decide +kernel) dX10_init_16 ?_
  refine sim_dup rfl dX10_init_19 ?_
  refine sim_aload_n 0 rfl dX10_init_20 ?_
  refine sim_getR (q := 4) g_RX10_10 (by decide +kernel) (by decide +kernel) dX10_init_21 ?_
  refine sim_ctor (Sh1 := shp 18) (ρ1 := rst 17) (σ1 := sst 8) l_RX10_18 w_196 rfl rD_nx rfl ⟨by decide, by decide⟩ (Nat.le_of_ble_eq_true rfl) dX10_init_24 kc_3 (ctor_of (show ctorB 12 18 [(0, vR 3)] [vR 11, vR 3] _ _ = true by decide +kernel)) (as := [vR 4]) (S := [vR 11, vR 3]) rfl ?_
  refine cs_putR jc_10 g_RX10_21 rfl (by decide) (fun _ => ⟨rfl, rfl⟩) (by decide +kernel) (by decide +kernel) dX10_init_27 ?_
  refine sim_aload_n 0 rfl dX10_init_30 ?_
  refine cs_new jc_5 df_5 w_242 w_243 w_6 sh_18 (by decide +kernel) dX10_init_31 ?_
  refine sim_dup rfl dX10_init_34 ?_
  refine sim_ctorN (Sh1 := shp 21) (ρ1 := rst 20) (σ1 := sst 8) (host := "WidowRow") ⟨w_246, w_6, by decide +kernel⟩ w_245 rfl rD_nx (fun _ h => h.2.1) rfl ⟨by decide, by decide⟩ (Nat.le_of_ble_eq_true rfl) dX10_init_35 kc_4 (ctor_of (show ctorB 19 21 [(0, vR 3)] [vR 18, vR 3] _ _ = true by decide +kernel)) (as := []) (S := [vR 18, vR 3]) rfl ?_
  refine cs_putR jc_10 g_RX10_28 rfl (by decide) (fun _ => ⟨rfl, rfl⟩) (by decide +kernel) (by decide +kernel) dX10_init_38 ?_
  refine sim_aload_n 0 rfl dX10_init_41 ?_
  refine cs_new jc_8 df_8 w_267 w_268 w_7 sh_21 (by decide +kernel) dX10_init_42 ?_
  refine sim_dup rfl dX10_init_45 ?_
  refine sim_ctorN (Sh1 := shp 26) (ρ1 := rst 25) (σ1 := sst 8) (host := "WidowRow") ⟨w_271, w_7, by decide +kernel⟩ w_270 rfl rD_nx (fun _ h => h.2.2.1) rfl ⟨by decide, by decide⟩ (Nat.le_of_ble_eq_true rfl) dX10_init_46 kc_5 (ctor_of (show ctorB 22 26 [(0, vR 3)] [vR 21, vR 3] _ _ = true by decide +kernel)) (as := []) (S := [vR 21, vR 3]) rfl ?_
  refine cs_putR jc_10 g_RX10_35 rfl (by decide) (fun _ => ⟨rfl, rfl⟩) (by decide +kernel) (by decide +kernel) dX10_init_49 ?_
  refine sim_aload_n 0 rfl dX10_init_52 ?_
  refine sim_iconst dX10_init_53 (by decide) ?_
  refine cs_putZ0 (by decide) g_RX10_39 (by decide +kernel) (by decide +kernel) dX10_init_54 ?_
  exact sim_dret rfl dX10_init_57
set_option maxRecDepth 20000 in
set_option maxHeartbeats 4000000 in
theorem kc_7 : DCall yX3_init cX3_init 1 2 (shp 28) (rst 27) [vR 27] (sst 8) (shp 34) (rst 33) (sst 16) := by
  refine dcall_of_sim (by decide +kernel) rfl (Nat.le_of_ble_eq_true rfl) ⟨by decide +kernel, by decide +kernel⟩ ?_
  show GC RX3 cX3_init 1 2 28 27 8 0 [(0, vR 27)] [] _ _ 34 33 16
  refine sim_aload_n 0 rfl dX3_init_0 ?_
  refine sim_objInit w_110 w_33 w_34 (by decide) (Nat.le_of_ble_eq_true rfl) dX3_init_1 ?_
  refine sim_aload_n 0 rfl dX3_init_4 ?_
  refine sim_iconst dX3_init_5 (by decide) ?_
  refine cs_putI0 g_RX3_11 (by decide +kernel) (by decide +kernel) dX3_init_6 ?_
  refine sim_aload_n 0 rfl dX3_init_9 ?_
  refine sim_iconst dX3_init_10 (by decide) ?_
  refine cs_putI0 g_RX3_15 (by decide +kernel) (by decide +kernel) dX3_init_11 ?_
  refine sim_aload_n 0 rfl dX3_init_14 ?_
  refine sim_iconst dX3_init_15 (by decide) ?_
  refine cs_putI0 g_RX3_18 (by decide +kernel) (by decide +kernel) dX3_init_16 ?_
  refine sim_aload_n 0 rfl dX3_init_19 ?_
  refine sim_iconst dX3_init_20 (by decide) ?_
  refine cs_putI0 g_RX3_21 (by decide +kernel) (by decide +kernel) dX3_init_21 ?_
  refine sim_aload_n 0 rfl dX3_init_24 ?_
  refine sim_iconst dX3_init_25 (by decide) ?_
  refine cs_putI0 g_RX3_24 (by decide +kernel) (by decide +kernel) dX3_init_26 ?_
  refine sim_aload_n 0 rfl dX3_init_29 ?_
  refine sim_iconst dX3_init_30 (by decide) ?_
  refine cs_putI g_RX3_27 (by decide +kernel) (by decide +kernel) dX3_init_31 ?_
  refine sim_aload_n 0 rfl dX3_init_34 ?_
  refine sim_iconst dX3_init_35 (by decide) ?_
  refine cs_putZ0 (by decide) g_RX3_30 (by decide +kernel) (by decide +kernel) dX3_init_36 ?_
  refine sim_aload_n 0 rfl dX3_init_39 ?_
  refine sim_bipush dX3_init_40 (by decide +kernel) ?_
  refine cs_newarr2 (n := 6) rfl (by decide) w_191 sh_28 (by decide +kernel) dX3_init_42 ?_
  refine cs_putR jc_3 g_RX3_34 rfl (by decide) (fun _ => ⟨rfl, rfl⟩) (by decide +kernel) (by decide +kernel) dX3_init_44 ?_
  refine sim_aload_n 0 rfl dX3_init_47 ?_
  refine sim_bipush dX3_init_48 (by decide +kernel) ?_
  refine cs_newarr0 (n := 28) rfl (by decide) w_192 sh_29 (by decide +kernel) dX3_init_50 ?_
  refine cs_putR jc_3 g_RX3_38 rfl (by decide) (fun _ => ⟨rfl, rfl⟩) (by decide +kernel) (by decide +kernel) dX3_init_52 ?_
  refine sim_aload_n 0 rfl dX3_init_55 ?_
  refine sim_bipush dX3_init_56 (by decide +kernel) ?_
  refine cs_newarr0 (n := 28) rfl (by decide) w_192 sh_30 (by decide +kernel) dX3_init_58 ?_
  refine cs_putR jc_3 g_RX3_42 rfl (by decide) (fun _ => ⟨rfl, rfl⟩) (by decide +kernel) (by decide +kernel) dX3_init_60 ?_
  refine sim_aload_n 0 rfl dX3_init_63 ?_
  refine sim_bipush dX3_init_64 (by decide +kernel) ?_
  refine cs_newarr0 (n := 28) rfl (by decide) w_192 sh_31 (by decide +kernel) dX3_init_66 ?_
  refine cs_putR jc_3 g_RX3_45 rfl (by decide) (fun _ => ⟨rfl, rfl⟩) (by decide +kernel) (by decide +kernel) dX3_init_68 ?_
  refine sim_aload_n 0 rfl dX3_init_71 ?_
  refine sim_bipush dX3_init_72 (by decide +kernel) ?_
  refine cs_newarr0 (n := 7) rfl (by decide) w_192 sh_32 (by decide +kernel) dX3_init_74 ?_
  refine cs_putR jc_3 g_RX3_48 rfl (by decide) (fun _ => ⟨rfl, rfl⟩) (by decide +kernel) (by decide +kernel) dX3_init_76 ?_
  refine sim_aload_n 0 rfl dX3_init_79 ?_
  refine sim_bipush dX3_init_80 (by decide +kernel) ?_
  refine cs_newarr0 (n := 7) rfl (by decide) w_192 sh_33 (by decide +kernel) dX3_init_82 ?_
  refine cs_putR jc_3 g_RX3_51 rfl (by decide) (fun _ => ⟨rfl, rfl⟩) (by decide +kernel) (by decide +kernel) dX3_init_84 ?_
  refine sim_aload_n 0 rfl dX3_init_87 ?_
  refine cs_fit (c1 := 16) v_RX3_54 (by decide +kernel) dX3_init_88 (k_Isl_findFitting (shp 34) (rst 33) 64 27 (by unfold LIsl; decide +kernel) (sst 9)) ⟨by decide, by decide⟩ (Nat.le_of_ble_eq_true rfl) fit_27 ?_
  exact sim_dret rfl dX3_init_91
set_option maxRecDepth 20000 in
set_option maxHeartbeats 4000000 in
theorem kc_8 : DCall yX7_init cX7_init 2 1 (shp 35) (rst 34) [vR 34, vR 27] (sst 16) (shp 41) (rst 41) (sst 16) := by
  refine dcall_of_sim (by decide +kernel) rfl (Nat.le_of_ble_eq_true rfl) ⟨by decide +kernel, by decide +kernel⟩ ?_
  show GC RX7 cX7_init 2 1 35 34 16 0 [(0, vR 34), (1, vR 27)] [] _ _ 41 41 16
  refine sim_aload_n 0 rfl dX7_init_0 ?_
  refine sim_objInit w_198 w_33 w_34 (by decide) (Nat.le_of_ble_eq_true rfl) dX7_init_1 ?_
  refine sim_aload_n 0 rfl dX7_init_4 ?_
  refine sim_bipush dX7_init_5 (by decide +kernel) ?_
  refine cs_newarr0 (n := 28) rfl (by decide) w_192 sh_35 (by decide +kernel) dX7_init_7 ?_
  refine cs_putR jc_7 g_RX7_9 rfl (by decide) (fun _ => ⟨rfl, rfl⟩) (by decide +kernel) (by decide +kernel) dX7_init_9 ?_
  refine sim_aload_n 0 rfl dX7_init_12 ?_
  refine sim_bipush dX7_init_13 (by decide +kernel) ?_
  refine cs_newarr0 (n := 28) rfl (by decide) w_192 sh_36 (by decide +kernel) dX7_init_15 ?_
  refine cs_putR jc_7 g_RX7_15 rfl (by decide) (fun _ => ⟨rfl, rfl⟩) (by decide +kernel) (by decide +kernel) dX7_init_17 ?_
  refine sim_aload_n 0 rfl dX7_init_20 ?_
  refine sim_bipush dX7_init_21 (by decide +kernel) ?_
  refine cs_newarr0 (n := 28) rfl (by decide) w_192 sh_37 (by decide +kernel) dX7_init_23 ?_
  refine cs_putR jc_7 g_RX7_18 rfl (by decide) (fun _ => ⟨rfl, rfl⟩) (by decide +kernel) (by decide +kernel) dX7_init_25 ?_
  refine sim_aload_n 0 rfl dX7_init_28 ?_
  refine sim_iconst dX7_init_29 (by decide) ?_
  refine cs_putI0 g_RX7_21 (by decide +kernel) (by decide +kernel) dX7_init_30 ?_
  refine sim_aload_n 0 rfl dX7_init_33 ?_
  refine sim_bipush dX7_init_34 (by decide +kernel) ?_
  refine cs_newarr0 (n := 28) rfl (by decide) w_192 sh_38 (by decide +kernel) dX7_init_36 ?_
  refine cs_putR jc_7 g_RX7_25 rfl (by decide) (fun _ => ⟨rfl, rfl⟩) (by decide +kernel) (by decide +kernel) dX7_init_38 ?_
  refine sim_aload_n 0 rfl dX7_init_41 ?_
  refine sim_bipush dX7_init_42 (by decide +kernel) ?_
  refine cs_newarr0 (n := 6) rfl (by decide) w_192 sh_39 (by decide +kernel) dX7_init_44 ?_
  refine cs_putR jc_7 g_RX7_28 rfl (by decide) (fun _ => ⟨rfl, rfl⟩) (by decide +kernel) (by decide +kernel) dX7_init_46 ?_
  refine sim_aload_n 0 rfl dX7_init_49 ?_
  refine sim_bipush dX7_init_50 (by decide +kernel) ?_
  refine cs_newarr0 (n := 6) rfl (by decide) w_192 sh_40 (by decide +kernel) dX7_init_52 ?_
  refine cs_putR jc_7 g_RX7_31 rfl (by decide) (fun _ => ⟨rfl, rfl⟩) (by decide +kernel) (by decide +kernel) dX7_init_54 ?_
  refine sim_aload_n 0 rfl dX7_init_57 ?_
  refine sim_aload_n 1 rfl dX7_init_58 ?_
  refine cs_putR jc_7 g_RX7_34 rfl (by decide) (fun _ => ⟨rfl, rfl⟩) (by decide +kernel) (by decide +kernel) dX7_init_59 ?_
  exact sim_dret rfl dX7_init_62
set_option maxRecDepth 20000 in
set_option maxHeartbeats 4000000 in
theorem kc_9 : DCall yX5_init cX5_init 1 1 (shp 42) (rst 42) [vR 41] (sst 16) (shp 44) (rst 44) (sst 16) := by
  refine dcall_of_sim (by decide +kernel) rfl (Nat.le_of_ble_eq_true rfl) ⟨by decide +kernel, by decide +kernel⟩ ?_
  show GC RX5 cX5_init 1 1 42 42 16 0 [(0, vR 41)] [] _ _ 44 44 16
  refine sim_aload_n 0 rfl dX5_init_0 ?_
  refine sim_objInit w_247 w_33 w_34 (by decide) (Nat.le_of_ble_eq_true rfl) dX5_init_1 ?_
  refine sim_aload_n 0 rfl dX5_init_4 ?_
  refine sim_iconst dX5_init_5 (by decide) ?_
  refine cs_putI0 g_RX5_11 (by decide +kernel) (by decide +kernel) dX5_init_6 ?_
  refine sim_aload_n 0 rfl dX5_init_9 ?_
  refine sim_iconst dX5_init_10 (by decide) ?_
  refine cs_putI0 g_RX5_15 (by decide +kernel) (by decide +kernel) dX5_init_11 ?_
  refine sim_aload_n 0 rfl dX5_init_14 ?_
  refine sim_bipush dX5_init_15 (by decide +kernel) ?_
  refine cs_newarr0 (n := 6) rfl (by decide) w_192 sh_42 (by decide +kernel) dX5_init_17 ?_
  refine cs_putR jc_5 g_RX5_18 rfl (by decide) (fun _ => ⟨rfl, rfl⟩) (by decide +kernel) (by decide +kernel) dX5_init_19 ?_
  refine sim_aload_n 0 rfl dX5_init_22 ?_
  refine sim_iconst dX5_init_23 (by decide) ?_
  refine cs_putI0 g_RX5_22 (by decide +kernel) (by decide +kernel) dX5_init_24 ?_
  refine sim_aload_n 0 rfl dX5_init_27 ?_
  refine sim_bipush dX5_init_28 (by decide +kernel) ?_
  refine cs_newarr0 (n := 6) rfl (by decide) w_192 sh_43 (by decide +kernel) dX5_init_30 ?_
  refine cs_putR jc_5 g_RX5_25 rfl (by decide) (fun _ => ⟨rfl, rfl⟩) (by decide +kernel) (by decide +kernel) dX5_init_32 ?_
  exact sim_dret rfl dX5_init_35
set_option maxRecDepth 20000 in
set_option maxHeartbeats 4000000 in
theorem kc_10 : DCall yX8_init cX8_init 1 1 (shp 45) (rst 45) [vR 44] (sst 16) (shp 49) (rst 49) (sst 16) := by
  refine dcall_of_sim (by decide +kernel) rfl (Nat.le_of_ble_eq_true rfl) ⟨by decide +kernel, by decide +kernel⟩ ?_
  show GC RX8 cX8_init 1 1 45 45 16 0 [(0, vR 44)] [] _ _ 49 49 16
  refine sim_aload_n 0 rfl dX8_init_0 ?_
  refine sim_objInit w_272 w_33 w_34 (by decide) (Nat.le_of_ble_eq_true rfl) dX8_init_1 ?_
  refine sim_aload_n 0 rfl dX8_init_4 ?_
  refine sim_iconst dX8_init_5 (by decide) ?_
  refine cs_putI0 g_RX8_11 (by decide +kernel) (by decide +kernel) dX8_init_6 ?_
  refine sim_aload_n 0 rfl dX8_init_9 ?_
  refine sim_iconst dX8_init_10 (by decide) ?_
  refine cs_putI0 g_RX8_15 (by decide +kernel) (by decide +kernel) dX8_init_11 ?_
  refine sim_aload_n 0 rfl dX8_init_14 ?_
  refine sim_bipush dX8_init_15 (by decide +kernel) ?_
  refine cs_newarr0 (n := 40) rfl (by decide) w_192 sh_45 (by decide +kernel) dX8_init_17 ?_
  refine cs_putR jc_8 g_RX8_18 rfl (by decide) (fun _ => ⟨rfl, rfl⟩) (by decide +kernel) (by decide +kernel) dX8_init_19 ?_
  refine sim_aload_n 0 rfl dX8_init_22 ?_
  refine sim_bipush dX8_init_23 (by decide +kernel) ?_
  refine cs_newarr0 (n := 40) rfl (by decide) w_192 sh_46 (by decide +kernel) dX8_init_25 ?_
  refine cs_putR jc_8 g_RX8_22 rfl (by decide) (fun _ => ⟨rfl, rfl⟩) (by decide +kernel) (by decide +kernel) dX8_init_27 ?_
  refine sim_aload_n 0 rfl dX8_init_30 ?_
  refine sim_bipush dX8_init_31 (by decide +kernel) ?_
  refine cs_newarr0 (n := 40) rfl (by decide) w_192 sh_47 (by decide +kernel) dX8_init_33 ?_
  refine cs_putR jc_8 g_RX8_25 rfl (by decide) (fun _ => ⟨rfl, rfl⟩) (by decide +kernel) (by decide +kernel) dX8_init_35 ?_
  refine sim_aload_n 0 rfl dX8_init_38 ?_
  refine sim_bipush dX8_init_39 (by decide +kernel) ?_
  refine cs_newarr0 (n := 20) rfl (by decide) w_192 sh_48 (by decide +kernel) dX8_init_41 ?_
  refine cs_putR jc_8 g_RX8_28 rfl (by decide) (fun _ => ⟨rfl, rfl⟩) (by decide +kernel) (by decide +kernel) dX8_init_43 ?_
  exact sim_dret rfl dX8_init_46
set_option maxRecDepth 20000 in
set_option maxHeartbeats 4000000 in
theorem kc_11 : DCall yX10_init cX10_init 1 3 (shp 27) (rst 27) [vR 26] (sst 8) (shp 49) (rst 50) (sst 16) := by
  refine dcall_of_sim (by decide +kernel) rfl (Nat.le_of_ble_eq_true rfl) ⟨by decide +kernel, by decide +kernel⟩ ?_
  show GC RX10 cX10_init 1 3 27 27 8 0 [(0, vR 26)] [] _ _ 49 50 16
  refine sim_aload_n 0 rfl dX10_init_0 ?_
  refine sim_objInit w_104 w_33 w_34 (by decide) (Nat.le_of_ble_eq_true rfl) dX10_init_1 ?_
  refine sim_aload_n 0 rfl dX10_init_4 ?_
  refine cs_new jc_3 df_3 w_105 w_106 w_4 sh_27 (by decide +kernel) dX10_init_5 ?_
  refine sim_dup rfl dX10_init_8 ?_
  refine sim_ctor (Sh1 := shp 34) (ρ1 := rst 33) (σ1 := sst 16) l_RX10_9 w_108 rfl rD_nx rfl ⟨by decide, by decide⟩ (Nat.le_of_ble_eq_true rfl) dX10_init_9 kc_7 (ctor_of (show ctorB 28 34 [(0, vR 26)] [vR 27, vR 26] _ _ = true by decide +kernel)) (as := []) (S := [vR 27, vR 26]) rfl ?_
  refine cs_putR jc_10 g_RX10_10 rfl (by decide) (fun _ => ⟨rfl, rfl⟩) (by decide +kernel) (by decide +kernel) dX10_init_12 ?_
  refine sim_aload_n 0 rfl dX10_init_15 ?_
  refine cs_new jc_7 df_7 w_193 w_194 w_5 sh_34 (by decide +kernel) dX10_init_16 ?_
  refine sim_dup rfl dX10_init_19 ?_
  refine sim_aload_n 0 rfl dX10_init_20 ?_
  refine sim_getR (q := 27) g_RX10_10 (by decide +kernel) (by decide +kernel) dX10_init_21 ?_
  refine sim_ctor (Sh1 := shp 41) (ρ1 := rst 41) (σ1 := sst 16) l_RX10_18 w_196 rfl rD_nx rfl ⟨by decide, by decide⟩ (Nat.le_of_ble_eq_true rfl) dX10_init_24 kc_8 (ctor_of (show ctorB 35 41 [(0, vR 26)] [vR 34, vR 26] _ _ = true by decide +kernel)) (as := [vR 27]) (S := [vR 34, vR 26]) rfl ?_
  refine cs_putR jc_10 g_RX10_21 rfl (by decide) (fun _ => ⟨rfl, rfl⟩) (by decide +kernel) (by decide +kernel) dX10_init_27 ?_
  refine sim_aload_n 0 rfl dX10_init_30 ?_
  refine cs_new jc_5 df_5 w_242 w_243 w_6 sh_41 (by decide +kernel) dX10_init_31 ?_
  refine sim_dup rfl dX10_init_34 ?_
  refine sim_ctorN (Sh1 := shp 44) (ρ1 := rst 44) (σ1 := sst 16) (host := "WidowRow") ⟨w_246, w_6, by decide +kernel⟩ w_245 rfl rD_nx (fun _ h => h.2.1) rfl ⟨by decide, by decide⟩ (Nat.le_of_ble_eq_true rfl) dX10_init_35 kc_9 (ctor_of (show ctorB 42 44 [(0, vR 26)] [vR 41, vR 26] _ _ = true by decide +kernel)) (as := []) (S := [vR 41, vR 26]) rfl ?_
  refine cs_putR jc_10 g_RX10_28 rfl (by decide) (fun _ => ⟨rfl, rfl⟩) (by decide +kernel) (by decide +kernel) dX10_init_38 ?_
  refine sim_aload_n 0 rfl dX10_init_41 ?_
  refine cs_new jc_8 df_8 w_267 w_268 w_7 sh_44 (by decide +kernel) dX10_init_42 ?_
  refine sim_dup rfl dX10_init_45 ?_
  refine sim_ctorN (Sh1 := shp 49) (ρ1 := rst 49) (σ1 := sst 16) (host := "WidowRow") ⟨w_271, w_7, by decide +kernel⟩ w_270 rfl rD_nx (fun _ h => h.2.2.1) rfl ⟨by decide, by decide⟩ (Nat.le_of_ble_eq_true rfl) dX10_init_46 kc_10 (ctor_of (show ctorB 45 49 [(0, vR 26)] [vR 44, vR 26] _ _ = true by decide +kernel)) (as := []) (S := [vR 44, vR 26]) rfl ?_
  refine cs_putR jc_10 g_RX10_35 rfl (by decide) (fun _ => ⟨rfl, rfl⟩) (by decide +kernel) (by decide +kernel) dX10_init_49 ?_
  refine sim_aload_n 0 rfl dX10_init_52 ?_
  refine sim_iconst dX10_init_53 (by decide) ?_
  refine cs_putZ0 (by decide) g_RX10_39 (by decide +kernel) (by decide +kernel) dX10_init_54 ?_
  exact sim_dret rfl dX10_init_57
set_option maxRecDepth 20000 in
set_option maxHeartbeats 4000000 in
theorem kc_12 : DCall yX3_init cX3_init 1 2 (shp 51) (rst 51) [vR 50] (sst 16) (shp 57) (rst 57) (sst 24) := by
  refine dcall_of_sim (by decide +kernel) rfl (Nat.le_of_ble_eq_true rfl) ⟨by decide +kernel, by decide +kernel⟩ ?_
  show GC RX3 cX3_init 1 2 51 51 16 0 [(0, vR 50)] [] _ _ 57 57 24
  refine sim_aload_n 0 rfl dX3_init_0 ?_
  refine sim_objInit w_110 w_33 w_34 (by decide) (Nat.le_of_ble_eq_true rfl) dX3_init_1 ?_
  refine sim_aload_n 0 rfl dX3_init_4 ?_
  refine sim_iconst dX3_init_5 (by decide) ?_
  refine cs_putI0 g_RX3_11 (by decide +kernel) (by decide +kernel) dX3_init_6 ?_
  refine sim_aload_n 0 rfl dX3_init_9 ?_
  refine sim_iconst dX3_init_10 (by decide) ?_
  refine cs_putI0 g_RX3_15 (by decide +kernel) (by decide +kernel) dX3_init_11 ?_
  refine sim_aload_n 0 rfl dX3_init_14 ?_
  refine sim_iconst dX3_init_15 (by decide) ?_
  refine cs_putI0 g_RX3_18 (by decide +kernel) (by decide +kernel) dX3_init_16 ?_
  refine sim_aload_n 0 rfl dX3_init_19 ?_
  refine sim_iconst dX3_init_20 (by decide) ?_
  refine cs_putI0 g_RX3_21 (by decide +kernel) (by decide +kernel) dX3_init_21 ?_
  refine sim_aload_n 0 rfl dX3_init_24 ?_
  refine sim_iconst dX3_init_25 (by decide) ?_
  refine cs_putI0 g_RX3_24 (by decide +kernel) (by decide +kernel) dX3_init_26 ?_
  refine sim_aload_n 0 rfl dX3_init_29 ?_
  refine sim_iconst dX3_init_30 (by decide) ?_
  refine cs_putI g_RX3_27 (by decide +kernel) (by decide +kernel) dX3_init_31 ?_
  refine sim_aload_n 0 rfl dX3_init_34 ?_
  refine sim_iconst dX3_init_35 (by decide) ?_
  refine cs_putZ0 (by decide) g_RX3_30 (by decide +kernel) (by decide +kernel) dX3_init_36 ?_
  refine sim_aload_n 0 rfl dX3_init_39 ?_
  refine sim_bipush dX3_init_40 (by decide +kernel) ?_
  refine cs_newarr2 (n := 6) rfl (by decide) w_191 sh_51 (by decide +kernel) dX3_init_42 ?_
  refine cs_putR jc_3 g_RX3_34 rfl (by decide) (fun _ => ⟨rfl, rfl⟩) (by decide +kernel) (by decide +kernel) dX3_init_44 ?_
  refine sim_aload_n 0 rfl dX3_init_47 ?_
  refine sim_bipush dX3_init_48 (by decide +kernel) ?_
  refine cs_newarr0 (n := 28) rfl (by decide) w_192 sh_52 (by decide +kernel) dX3_init_50 ?_
  refine cs_putR jc_3 g_RX3_38 rfl (by decide) (fun _ => ⟨rfl, rfl⟩) (by decide +kernel) (by decide +kernel) dX3_init_52 ?_
  refine sim_aload_n 0 rfl dX3_init_55 ?_
  refine sim_bipush dX3_init_56 (by decide +kernel) ?_
  refine cs_newarr0 (n := 28) rfl (by decide) w_192 sh_53 (by decide +kernel) dX3_init_58 ?_
  refine cs_putR jc_3 g_RX3_42 rfl (by decide) (fun _ => ⟨rfl, rfl⟩) (by decide +kernel) (by decide +kernel) dX3_init_60 ?_
  refine sim_aload_n 0 rfl dX3_init_63 ?_
  refine sim_bipush dX3_init_64 (by decide +kernel) ?_
  refine cs_newarr0 (n := 28) rfl (by decide) w_192 sh_54 (by decide +kernel) dX3_init_66 ?_
  refine cs_putR jc_3 g_RX3_45 rfl (by decide) (fun _ => ⟨rfl, rfl⟩) (by decide +kernel) (by decide +kernel) dX3_init_68 ?_
  refine sim_aload_n 0 rfl dX3_init_71 ?_
  refine sim_bipush dX3_init_72 (by decide +kernel) ?_
  refine cs_newarr0 (n := 7) rfl (by decide) w_192 sh_55 (by decide +kernel) dX3_init_74 ?_
  refine cs_putR jc_3 g_RX3_48 rfl (by decide) (fun _ => ⟨rfl, rfl⟩) (by decide +kernel) (by decide +kernel) dX3_init_76 ?_
  refine sim_aload_n 0 rfl dX3_init_79 ?_
  refine sim_bipush dX3_init_80 (by decide +kernel) ?_
  refine cs_newarr0 (n := 7) rfl (by decide) w_192 sh_56 (by decide +kernel) dX3_init_82 ?_
  refine cs_putR jc_3 g_RX3_51 rfl (by decide) (fun _ => ⟨rfl, rfl⟩) (by decide +kernel) (by decide +kernel) dX3_init_84 ?_
  refine sim_aload_n 0 rfl dX3_init_87 ?_
  refine cs_fit (c1 := 24) v_RX3_54 (by decide +kernel) dX3_init_88 (k_Isl_findFitting (shp 57) (rst 57) 64 50 (by unfold LIsl; decide +kernel) (sst 17)) ⟨by decide, by decide⟩ (Nat.le_of_ble_eq_true rfl) fit_50 ?_
  exact sim_dret rfl dX3_init_91
set_option maxRecDepth 20000 in
set_option maxHeartbeats 4000000 in
theorem kc_13 : DCall yX7_init cX7_init 2 1 (shp 58) (rst 58) [vR 57, vR 50] (sst 24) (shp 64) (rst 65) (sst 24) := by
  refine dcall_of_sim (by decide +kernel) rfl (Nat.le_of_ble_eq_true rfl) ⟨by decide +kernel, by decide +kernel⟩ ?_
  show GC RX7 cX7_init 2 1 58 58 24 0 [(0, vR 57), (1, vR 50)] [] _ _ 64 65 24
  refine sim_aload_n 0 rfl dX7_init_0 ?_
  refine sim_objInit w_198 w_33 w_34 (by decide) (Nat.le_of_ble_eq_true rfl) dX7_init_1 ?_
  refine sim_aload_n 0 rfl dX7_init_4 ?_
  refine sim_bipush dX7_init_5 (by decide +kernel) ?_
  refine cs_newarr0 (n := 28) rfl (by decide) w_192 sh_58 (by decide +kernel) dX7_init_7 ?_
  refine cs_putR jc_7 g_RX7_9 rfl (by decide) (fun _ => ⟨rfl, rfl⟩) (by decide +kernel) (by decide +kernel) dX7_init_9 ?_
  refine sim_aload_n 0 rfl dX7_init_12 ?_
  refine sim_bipush dX7_init_13 (by decide +kernel) ?_
  refine cs_newarr0 (n := 28) rfl (by decide) w_192 sh_59 (by decide +kernel) dX7_init_15 ?_
  refine cs_putR jc_7 g_RX7_15 rfl (by decide) (fun _ => ⟨rfl, rfl⟩) (by decide +kernel) (by decide +kernel) dX7_init_17 ?_
  refine sim_aload_n 0 rfl dX7_init_20 ?_
  refine sim_bipush dX7_init_21 (by decide +kernel) ?_
  refine cs_newarr0 (n := 28) rfl (by decide) w_192 sh_60 (by decide +kernel) dX7_init_23 ?_
  refine cs_putR jc_7 g_RX7_18 rfl (by decide) (fun _ => ⟨rfl, rfl⟩) (by decide +kernel) (by decide +kernel) dX7_init_25 ?_
  refine sim_aload_n 0 rfl dX7_init_28 ?_
  refine sim_iconst dX7_init_29 (by decide) ?_
  refine cs_putI0 g_RX7_21 (by decide +kernel) (by decide +kernel) dX7_init_30 ?_
  refine sim_aload_n 0 rfl dX7_init_33 ?_
  refine sim_bipush dX7_init_34 (by decide +kernel) ?_
  refine cs_newarr0 (n := 28) rfl (by decide) w_192 sh_61 (by decide +kernel) dX7_init_36 ?_
  refine cs_putR jc_7 g_RX7_25 rfl (by decide) (fun _ => ⟨rfl, rfl⟩) (by decide +kernel) (by decide +kernel) dX7_init_38 ?_
  refine sim_aload_n 0 rfl dX7_init_41 ?_
  refine sim_bipush dX7_init_42 (by decide +kernel) ?_
  refine cs_newarr0 (n := 6) rfl (by decide) w_192 sh_62 (by decide +kernel) dX7_init_44 ?_
  refine cs_putR jc_7 g_RX7_28 rfl (by decide) (fun _ => ⟨rfl, rfl⟩) (by decide +kernel) (by decide +kernel) dX7_init_46 ?_
  refine sim_aload_n 0 rfl dX7_init_49 ?_
  refine sim_bipush dX7_init_50 (by decide +kernel) ?_
  refine cs_newarr0 (n := 6) rfl (by decide) w_192 sh_63 (by decide +kernel) dX7_init_52 ?_
  refine cs_putR jc_7 g_RX7_31 rfl (by decide) (fun _ => ⟨rfl, rfl⟩) (by decide +kernel) (by decide +kernel) dX7_init_54 ?_
  refine sim_aload_n 0 rfl dX7_init_57 ?_
  refine sim_aload_n 1 rfl dX7_init_58 ?_
  refine cs_putR jc_7 g_RX7_34 rfl (by decide) (fun _ => ⟨rfl, rfl⟩) (by decide +kernel) (by decide +kernel) dX7_init_59 ?_
  exact sim_dret rfl dX7_init_62
set_option maxRecDepth 20000 in
set_option maxHeartbeats 4000000 in
theorem kc_14 : DCall yX5_init cX5_init 1 1 (shp 65) (rst 66) [vR 64] (sst 24) (shp 67) (rst 68) (sst 24) := by
  refine dcall_of_sim (by decide +kernel) rfl (Nat.le_of_ble_eq_true rfl) ⟨by decide +kernel, by decide +kernel⟩ ?_
  show GC RX5 cX5_init 1 1 65 66 24 0 [(0, vR 64)] [] _ _ 67 68 24
  refine sim_aload_n 0 rfl dX5_init_0 ?_
  refine sim_objInit w_247 w_33 w_34 (by decide) (Nat.le_of_ble_eq_true rfl) dX5_init_1 ?_
  refine sim_aload_n 0 rfl dX5_init_4 ?_
  refine sim_iconst dX5_init_5 (by decide) ?_
  refine cs_putI0 g_RX5_11 (by decide +kernel) (by decide +kernel) dX5_init_6 ?_
  refine sim_aload_n 0 rfl dX5_init_9 ?_
  refine sim_iconst dX5_init_10 (by decide) ?_
  refine cs_putI0 g_RX5_15 (by decide +kernel) (by decide +kernel) dX5_init_11 ?_
  refine sim_aload_n 0 rfl dX5_init_14 ?_
  refine sim_bipush dX5_init_15 (by decide +kernel) ?_
  refine cs_newarr0 (n := 6) rfl (by decide) w_192 sh_65 (by decide +kernel) dX5_init_17 ?_
  refine cs_putR jc_5 g_RX5_18 rfl (by decide) (fun _ => ⟨rfl, rfl⟩) (by decide +kernel) (by decide +kernel) dX5_init_19 ?_
  refine sim_aload_n 0 rfl dX5_init_22 ?_
  refine sim_iconst dX5_init_23 (by decide) ?_
  refine cs_putI0 g_RX5_22 (by decide +kernel) (by decide +kernel) dX5_init_24 ?_
  refine sim_aload_n 0 rfl dX5_init_27 ?_
  refine sim_bipush dX5_init_28 (by decide +kernel) ?_
  refine cs_newarr0 (n := 6) rfl (by decide) w_192 sh_66 (by decide +kernel) dX5_init_30 ?_
  refine cs_putR jc_5 g_RX5_25 rfl (by decide) (fun _ => ⟨rfl, rfl⟩) (by decide +kernel) (by decide +kernel) dX5_init_32 ?_
  exact sim_dret rfl dX5_init_35
set_option maxRecDepth 20000 in
set_option maxHeartbeats 4000000 in
theorem kc_15 : DCall yX8_init cX8_init 1 1 (shp 68) (rst 69) [vR 67] (sst 24) (shp 72) (rst 73) (sst 24) := by
  refine dcall_of_sim (by decide +kernel) rfl (Nat.le_of_ble_eq_true rfl) ⟨by decide +kernel, by decide +kernel⟩ ?_
  show GC RX8 cX8_init 1 1 68 69 24 0 [(0, vR 67)] [] _ _ 72 73 24
  refine sim_aload_n 0 rfl dX8_init_0 ?_
  refine sim_objInit w_272 w_33 w_34 (by decide) (Nat.le_of_ble_eq_true rfl) dX8_init_1 ?_
  refine sim_aload_n 0 rfl dX8_init_4 ?_
  refine sim_iconst dX8_init_5 (by decide) ?_
  refine cs_putI0 g_RX8_11 (by decide +kernel) (by decide +kernel) dX8_init_6 ?_
  refine sim_aload_n 0 rfl dX8_init_9 ?_
  refine sim_iconst dX8_init_10 (by decide) ?_
  refine cs_putI0 g_RX8_15 (by decide +kernel) (by decide +kernel) dX8_init_11 ?_
  refine sim_aload_n 0 rfl dX8_init_14 ?_
  refine sim_bipush dX8_init_15 (by decide +kernel) ?_
  refine cs_newarr0 (n := 40) rfl (by decide) w_192 sh_68 (by decide +kernel) dX8_init_17 ?_
  refine cs_putR jc_8 g_RX8_18 rfl (by decide) (fun _ => ⟨rfl, rfl⟩) (by decide +kernel) (by decide +kernel) dX8_init_19 ?_
  refine sim_aload_n 0 rfl dX8_init_22 ?_
  refine sim_bipush dX8_init_23 (by decide +kernel) ?_
  refine cs_newarr0 (n := 40) rfl (by decide) w_192 sh_69 (by decide +kernel) dX8_init_25 ?_
  refine cs_putR jc_8 g_RX8_22 rfl (by decide) (fun _ => ⟨rfl, rfl⟩) (by decide +kernel) (by decide +kernel) dX8_init_27 ?_
  refine sim_aload_n 0 rfl dX8_init_30 ?_
  refine sim_bipush dX8_init_31 (by decide +kernel) ?_
  refine cs_newarr0 (n := 40) rfl (by decide) w_192 sh_70 (by decide +kernel) dX8_init_33 ?_
  refine cs_putR jc_8 g_RX8_25 rfl (by decide) (fun _ => ⟨rfl, rfl⟩) (by decide +kernel) (by decide +kernel) dX8_init_35 ?_
  refine sim_aload_n 0 rfl dX8_init_38 ?_
  refine sim_bipush dX8_init_39 (by decide +kernel) ?_
  refine cs_newarr0 (n := 20) rfl (by decide) w_192 sh_71 (by decide +kernel) dX8_init_41 ?_
  refine cs_putR jc_8 g_RX8_28 rfl (by decide) (fun _ => ⟨rfl, rfl⟩) (by decide +kernel) (by decide +kernel) dX8_init_43 ?_
  exact sim_dret rfl dX8_init_46
set_option maxRecDepth 20000 in
set_option maxHeartbeats 4000000 in
theorem kc_16 : DCall yX10_init cX10_init 1 3 (shp 50) (rst 51) [vR 49] (sst 16) (shp 72) (rst 74) (sst 24) := by
  refine dcall_of_sim (by decide +kernel) rfl (Nat.le_of_ble_eq_true rfl) ⟨by decide +kernel, by decide +kernel⟩ ?_
  show GC RX10 cX10_init 1 3 50 51 16 0 [(0, vR 49)] [] _ _ 72 74 24
  refine sim_aload_n 0 rfl dX10_init_0 ?_
  refine sim_objInit w_104 w_33 w_34 (by decide) (Nat.le_of_ble_eq_true rfl) dX10_init_1 ?_
  refine sim_aload_n 0 rfl dX10_init_4 ?_
  refine cs_new jc_3 df_3 w_105 w_106 w_4 sh_50 (by decide +kernel) dX10_init_5 ?_
  refine sim_dup rfl dX10_init_8 ?_
  refine sim_ctor (Sh1 := shp 57) (ρ1 := rst 57) (σ1 := sst 24) l_RX10_9 w_108 rfl rD_nx rfl ⟨by decide, by decide⟩ (Nat.le_of_ble_eq_true rfl) dX10_init_9 kc_12 (ctor_of (show ctorB 51 57 [(0, vR 49)] [vR 50, vR 49] _ _ = true by decide +kernel)) (as := []) (S := [vR 50, vR 49]) rfl ?_
  refine cs_putR jc_10 g_RX10_10 rfl (by decide) (fun _ => ⟨rfl, rfl⟩) (by decide +kernel) (by decide +kernel) dX10_init_12 ?_
  refine sim_aload_n 0 rfl dX10_init_15 ?_
  refine cs_new jc_7 df_7 w_193 w_194 w_5 sh_57 (by decide +kernel) dX10_init_16 ?_
  refine sim_dup rfl dX10_init_19 ?_
  refine sim_aload_n 0 rfl dX10_init_20 ?_
  refine sim_getR (q := 50) g_RX10_10 (by decide +kernel) (by decide +kernel) dX10_init_21 ?_
  refine sim_ctor (Sh1 := shp 64) (ρ1 := rst 65) (σ1 := sst 24) l_RX10_18 w_196 rfl rD_nx rfl ⟨by decide, by decide⟩ (Nat.le_of_ble_eq_true rfl) dX10_init_24 kc_13 (ctor_of (show ctorB 58 64 [(0, vR 49)] [vR 57, vR 49] _ _ = true by decide +kernel)) (as := [vR 50]) (S := [vR 57, vR 49]) rfl ?_
  refine cs_putR jc_10 g_RX10_21 rfl (by decide) (fun _ => ⟨rfl, rfl⟩) (by decide +kernel) (by decide +kernel) dX10_init_27 ?_
  refine sim_aload_n 0 rfl dX10_init_30 ?_
  refine cs_new jc_5 df_5 w_242 w_243 w_6 sh_64 (by decide +kernel) dX10_init_31 ?_
  refine sim_dup rfl dX10_init_34 ?_
  refine sim_ctorN (Sh1 := shp 67) (ρ1 := rst 68) (σ1 := sst 24) (host := "WidowRow") ⟨w_246, w_6, by decide +kernel⟩ w_245 rfl rD_nx (fun _ h => h.2.1) rfl ⟨by decide, by decide⟩ (Nat.le_of_ble_eq_true rfl) dX10_init_35 kc_14 (ctor_of (show ctorB 65 67 [(0, vR 49)] [vR 64, vR 49] _ _ = true by decide +kernel)) (as := []) (S := [vR 64, vR 49]) rfl ?_
  refine cs_putR jc_10 g_RX10_28 rfl (by decide) (fun _ => ⟨rfl, rfl⟩) (by decide +kernel) (by decide +kernel) dX10_init_38 ?_
  refine sim_aload_n 0 rfl dX10_init_41 ?_
  refine cs_new jc_8 df_8 w_267 w_268 w_7 sh_67 (by decide +kernel) dX10_init_42 ?_
  refine sim_dup rfl dX10_init_45 ?_
  refine sim_ctorN (Sh1 := shp 72) (ρ1 := rst 73) (σ1 := sst 24) (host := "WidowRow") ⟨w_271, w_7, by decide +kernel⟩ w_270 rfl rD_nx (fun _ h => h.2.2.1) rfl ⟨by decide, by decide⟩ (Nat.le_of_ble_eq_true rfl) dX10_init_46 kc_15 (ctor_of (show ctorB 68 72 [(0, vR 49)] [vR 67, vR 49] _ _ = true by decide +kernel)) (as := []) (S := [vR 67, vR 49]) rfl ?_
  refine cs_putR jc_10 g_RX10_35 rfl (by decide) (fun _ => ⟨rfl, rfl⟩) (by decide +kernel) (by decide +kernel) dX10_init_49 ?_
  refine sim_aload_n 0 rfl dX10_init_52 ?_
  refine sim_iconst dX10_init_53 (by decide) ?_
  refine cs_putZ0 (by decide) g_RX10_39 (by decide +kernel) (by decide +kernel) dX10_init_54 ?_
  exact sim_dret rfl dX10_init_57
set_option maxRecDepth 20000 in
set_option maxHeartbeats 4000000 in
theorem kc_17 : DCall yX3_init cX3_init 1 2 (shp 74) (rst 75) [vR 73] (sst 24) (shp 80) (rst 81) (sst 32) := by
  refine dcall_of_sim (by decide +kernel) rfl (Nat.le_of_ble_eq_true rfl) ⟨by decide +kernel, by decide +kernel⟩ ?_
  show GC RX3 cX3_init 1 2 74 75 24 0 [(0, vR 73)] [] _ _ 80 81 32
  refine sim_aload_n 0 rfl dX3_init_0 ?_
  refine sim_objInit w_110 w_33 w_34 (by decide) (Nat.le_of_ble_eq_true rfl) dX3_init_1 ?_
  refine sim_aload_n 0 rfl dX3_init_4 ?_
  refine sim_iconst dX3_init_5 (by decide) ?_
  refine cs_putI0 g_RX3_11 (by decide +kernel) (by decide +kernel) dX3_init_6 ?_
  refine sim_aload_n 0 rfl dX3_init_9 ?_
  refine sim_iconst dX3_init_10 (by decide) ?_
  refine cs_putI0 g_RX3_15 (by decide +kernel) (by decide +kernel) dX3_init_11 ?_
  refine sim_aload_n 0 rfl dX3_init_14 ?_
  refine sim_iconst dX3_init_15 (by decide) ?_
  refine cs_putI0 g_RX3_18 (by decide +kernel) (by decide +kernel) dX3_init_16 ?_
  refine sim_aload_n 0 rfl dX3_init_19 ?_
  refine sim_iconst dX3_init_20 (by decide) ?_
  refine cs_putI0 g_RX3_21 (by decide +kernel) (by decide +kernel) dX3_init_21 ?_
  refine sim_aload_n 0 rfl dX3_init_24 ?_
  refine sim_iconst dX3_init_25 (by decide) ?_
  refine cs_putI0 g_RX3_24 (by decide +kernel) (by decide +kernel) dX3_init_26 ?_
  refine sim_aload_n 0 rfl dX3_init_29 ?_
  refine sim_iconst dX3_init_30 (by decide) ?_
  refine cs_putI g_RX3_27 (by decide +kernel) (by decide +kernel) dX3_init_31 ?_
  refine sim_aload_n 0 rfl dX3_init_34 ?_
  refine sim_iconst dX3_init_35 (by decide) ?_
  refine cs_putZ0 (by decide) g_RX3_30 (by decide +kernel) (by decide +kernel) dX3_init_36 ?_
  refine sim_aload_n 0 rfl dX3_init_39 ?_
  refine sim_bipush dX3_init_40 (by decide +kernel) ?_
  refine cs_newarr2 (n := 6) rfl (by decide) w_191 sh_74 (by decide +kernel) dX3_init_42 ?_
  refine cs_putR jc_3 g_RX3_34 rfl (by decide) (fun _ => ⟨rfl, rfl⟩) (by decide +kernel) (by decide +kernel) dX3_init_44 ?_
  refine sim_aload_n 0 rfl dX3_init_47 ?_
  refine sim_bipush dX3_init_48 (by decide +kernel) ?_
  refine cs_newarr0 (n := 28) rfl (by decide) w_192 sh_75 (by decide +kernel) dX3_init_50 ?_
  refine cs_putR jc_3 g_RX3_38 rfl (by decide) (fun _ => ⟨rfl, rfl⟩) (by decide +kernel) (by decide +kernel) dX3_init_52 ?_
  refine sim_aload_n 0 rfl dX3_init_55 ?_
  refine sim_bipush dX3_init_56 (by decide +kernel) ?_
  refine cs_newarr0 (n := 28) rfl (by decide) w_192 sh_76 (by decide +kernel) dX3_init_58 ?_
  refine cs_putR jc_3 g_RX3_42 rfl (by decide) (fun _ => ⟨rfl, rfl⟩) (by decide +kernel) (by decide +kernel) dX3_init_60 ?_
  refine sim_aload_n 0 rfl dX3_init_63 ?_
  refine sim_bipush dX3_init_64 (by decide +kernel) ?_
  refine cs_newarr0 (n := 28) rfl (by decide) w_192 sh_77 (by decide +kernel) dX3_init_66 ?_
  refine cs_putR jc_3 g_RX3_45 rfl (by decide) (fun _ => ⟨rfl, rfl⟩) (by decide +kernel) (by decide +kernel) dX3_init_68 ?_
  refine sim_aload_n 0 rfl dX3_init_71 ?_
  refine sim_bipush dX3_init_72 (by decide +kernel) ?_
  refine cs_newarr0 (n := 7) rfl (by decide) w_192 sh_78 (by decide +kernel) dX3_init_74 ?_
  refine cs_putR jc_3 g_RX3_48 rfl (by decide) (fun _ => ⟨rfl, rfl⟩) (by decide +kernel) (by decide +kernel) dX3_init_76 ?_
  refine sim_aload_n 0 rfl dX3_init_79 ?_
  refine sim_bipush dX3_init_80 (by decide +kernel) ?_
  refine cs_newarr0 (n := 7) rfl (by decide) w_192 sh_79 (by decide +kernel) dX3_init_82 ?_
  refine cs_putR jc_3 g_RX3_51 rfl (by decide) (fun _ => ⟨rfl, rfl⟩) (by decide +kernel) (by decide +kernel) dX3_init_84 ?_
  refine sim_aload_n 0 rfl dX3_init_87 ?_
  refine cs_fit (c1 := 32) v_RX3_54 (by decide +kernel) dX3_init_88 (k_Isl_findFitting (shp 80) (rst 81) 64 73 (by unfold LIsl; decide +kernel) (sst 25)) ⟨by decide, by decide⟩ (Nat.le_of_ble_eq_true rfl) fit_73 ?_
  exact sim_dret rfl dX3_init_91
set_option maxRecDepth 20000 in
set_option maxHeartbeats 4000000 in
theorem kc_18 : DCall yX7_init cX7_init 2 1 (shp 81) (rst 82) [vR 80, vR 73] (sst 32) (shp 87) (rst 89) (sst 32) := by
  refine dcall_of_sim (by decide +kernel) rfl (Nat.le_of_ble_eq_true rfl) ⟨by decide +kernel, by decide +kernel⟩ ?_
  show GC RX7 cX7_init 2 1 81 82 32 0 [(0, vR 80), (1, vR 73)] [] _ _ 87 89 32
  refine sim_aload_n 0 rfl dX7_init_0 ?_
  refine sim_objInit w_198 w_33 w_34 (by decide) (Nat.le_of_ble_eq_true rfl) dX7_init_1 ?_
  refine sim_aload_n 0 rfl dX7_init_4 ?_
  refine sim_bipush dX7_init_5 (by decide +kernel) ?_
  refine cs_newarr0 (n := 28) rfl (by decide) w_192 sh_81 (by decide +kernel) dX7_init_7 ?_
  refine cs_putR jc_7 g_RX7_9 rfl (by decide) (fun _ => ⟨rfl, rfl⟩) (by decide +kernel) (by decide +kernel) dX7_init_9 ?_
  refine sim_aload_n 0 rfl dX7_init_12 ?_
  refine sim_bipush dX7_init_13 (by decide +kernel) ?_
  refine cs_newarr0 (n := 28) rfl (by decide) w_192 sh_82 (by decide +kernel) dX7_init_15 ?_
  refine cs_putR jc_7 g_RX7_15 rfl (by decide) (fun _ => ⟨rfl, rfl⟩) (by decide +kernel) (by decide +kernel) dX7_init_17 ?_
  refine sim_aload_n 0 rfl dX7_init_20 ?_
  refine sim_bipush dX7_init_21 (by decide +kernel) ?_
  refine cs_newarr0 (n := 28) rfl (by decide) w_192 sh_83 (by decide +kernel) dX7_init_23 ?_
  refine cs_putR jc_7 g_RX7_18 rfl (by decide) (fun _ => ⟨rfl, rfl⟩) (by decide +kernel) (by decide +kernel) dX7_init_25 ?_
  refine sim_aload_n 0 rfl dX7_init_28 ?_
  refine sim_iconst dX7_init_29 (by decide) ?_
  refine cs_putI0 g_RX7_21 (by decide +kernel) (by decide +kernel) dX7_init_30 ?_
  refine sim_aload_n 0 rfl dX7_init_33 ?_
  refine sim_bipush dX7_init_34 (by decide +kernel) ?_
  refine cs_newarr0 (n := 28) rfl (by decide) w_192 sh_84 (by decide +kernel) dX7_init_36 ?_
  refine cs_putR jc_7 g_RX7_25 rfl (by decide) (fun _ => ⟨rfl, rfl⟩) (by decide +kernel) (by decide +kernel) dX7_init_38 ?_
  refine sim_aload_n 0 rfl dX7_init_41 ?_
  refine sim_bipush dX7_init_42 (by decide +kernel) ?_
  refine cs_newarr0 (n := 6) rfl (by decide) w_192 sh_85 (by decide +kernel) dX7_init_44 ?_
  refine cs_putR jc_7 g_RX7_28 rfl (by decide) (fun _ => ⟨rfl, rfl⟩) (by decide +kernel) (by decide +kernel) dX7_init_46 ?_
  refine sim_aload_n 0 rfl dX7_init_49 ?_
  refine sim_bipush dX7_init_50 (by decide +kernel) ?_
  refine cs_newarr0 (n := 6) rfl (by decide) w_192 sh_86 (by decide +kernel) dX7_init_52 ?_
  refine cs_putR jc_7 g_RX7_31 rfl (by decide) (fun _ => ⟨rfl, rfl⟩) (by decide +kernel) (by decide +kernel) dX7_init_54 ?_
  refine sim_aload_n 0 rfl dX7_init_57 ?_
  refine sim_aload_n 1 rfl dX7_init_58 ?_
  refine cs_putR jc_7 g_RX7_34 rfl (by decide) (fun _ => ⟨rfl, rfl⟩) (by decide +kernel) (by decide +kernel) dX7_init_59 ?_
  exact sim_dret rfl dX7_init_62
set_option maxRecDepth 20000 in
set_option maxHeartbeats 4000000 in
theorem kc_19 : DCall yX5_init cX5_init 1 1 (shp 88) (rst 90) [vR 87] (sst 32) (shp 90) (rst 92) (sst 32) := by
  refine dcall_of_sim (by decide +kernel) rfl (Nat.le_of_ble_eq_true rfl) ⟨by decide +kernel, by decide +kernel⟩ ?_
  show GC RX5 cX5_init 1 1 88 90 32 0 [(0, vR 87)] [] _ _ 90 92 32
  refine sim_aload_n 0 rfl dX5_init_0 ?_
  refine sim_objInit w_247 w_33 w_34 (by decide) (Nat.le_of_ble_eq_true rfl) dX5_init_1 ?_
  refine sim_aload_n 0 rfl dX5_init_4 ?_
  refine sim_iconst dX5_init_5 (by decide) ?_
  refine cs_putI0 g_RX5_11 (by decide +kernel) (by decide +kernel) dX5_init_6 ?_
  refine sim_aload_n 0 rfl dX5_init_9 ?_
  refine sim_iconst dX5_init_10 (by decide) ?_
  refine cs_putI0 g_RX5_15 (by decide +kernel) (by decide +kernel) dX5_init_11 ?_
  refine sim_aload_n 0 rfl dX5_init_14 ?_
  refine sim_bipush dX5_init_15 (by decide +kernel) ?_
  refine cs_newarr0 (n := 6) rfl (by decide) w_192 sh_88 (by decide +kernel) dX5_init_17 ?_
  refine cs_putR jc_5 g_RX5_18 rfl (by decide) (fun _ => ⟨rfl, rfl⟩) (by decide +kernel) (by decide +kernel) dX5_init_19 ?_
  refine sim_aload_n 0 rfl dX5_init_22 ?_
  refine sim_iconst dX5_init_23 (by decide) ?_
  refine cs_putI0 g_RX5_22 (by decide +kernel) (by decide +kernel) dX5_init_24 ?_
  refine sim_aload_n 0 rfl dX5_init_27 ?_
  refine sim_bipush dX5_init_28 (by decide +kernel) ?_
  refine cs_newarr0 (n := 6) rfl (by decide) w_192 sh_89 (by decide +kernel) dX5_init_30 ?_
  refine cs_putR jc_5 g_RX5_25 rfl (by decide) (fun _ => ⟨rfl, rfl⟩) (by decide +kernel) (by decide +kernel) dX5_init_32 ?_
  exact sim_dret rfl dX5_init_35
set_option maxRecDepth 20000 in
set_option maxHeartbeats 4000000 in
theorem kc_20 : DCall yX8_init cX8_init 1 1 (shp 91) (rst 93) [vR 90] (sst 32) (shp 95) (rst 97) (sst 32) := by
  refine dcall_of_sim (by decide +kernel) rfl (Nat.le_of_ble_eq_true rfl) ⟨by decide +kernel, by decide +kernel⟩ ?_
  show GC RX8 cX8_init 1 1 91 93 32 0 [(0, vR 90)] [] _ _ 95 97 32
  refine sim_aload_n 0 rfl dX8_init_0 ?_
  refine sim_objInit w_272 w_33 w_34 (by decide) (Nat.le_of_ble_eq_true rfl) dX8_init_1 ?_
  refine sim_aload_n 0 rfl dX8_init_4 ?_
  refine sim_iconst dX8_init_5 (by decide) ?_
  refine cs_putI0 g_RX8_11 (by decide +kernel) (by decide +kernel) dX8_init_6 ?_
  refine sim_aload_n 0 rfl dX8_init_9 ?_
  refine sim_iconst dX8_init_10 (by decide) ?_
  refine cs_putI0 g_RX8_15 (by decide +kernel) (by decide +kernel) dX8_init_11 ?_
  refine sim_aload_n 0 rfl dX8_init_14 ?_
  refine sim_bipush dX8_init_15 (by decide +kernel) ?_
  refine cs_newarr0 (n := 40) rfl (by decide) w_192 sh_91 (by decide +kernel) dX8_init_17 ?_
  refine cs_putR jc_8 g_RX8_18 rfl (by decide) (fun _ => ⟨rfl, rfl⟩) (by decide +kernel) (by decide +kernel) dX8_init_19 ?_
  refine sim_aload_n 0 rfl dX8_init_22 ?_
  refine sim_bipush dX8_init_23 (by decide +kernel) ?_
  refine cs_newarr0 (n := 40) rfl (by decide) w_192 sh_92 (by decide +kernel) dX8_init_25 ?_
  refine cs_putR jc_8 g_RX8_22 rfl (by decide) (fun _ => ⟨rfl, rfl⟩) (by decide +kernel) (by decide +kernel) dX8_init_27 ?_
  refine sim_aload_n 0 rfl dX8_init_30 ?_
  refine sim_bipush dX8_init_31 (by decide +kernel) ?_
  refine cs_newarr0 (n := 40) rfl (by decide) w_192 sh_93 (by decide +kernel) dX8_init_33 ?_
  refine cs_putR jc_8 g_RX8_25 rfl (by decide) (fun _ => ⟨rfl, rfl⟩) (by decide +kernel) (by decide +kernel) dX8_init_35 ?_
  refine sim_aload_n 0 rfl dX8_init_38 ?_
  refine sim_bipush dX8_init_39 (by decide +kernel) ?_
  refine cs_newarr0 (n := 20) rfl (by decide) w_192 sh_94 (by decide +kernel) dX8_init_41 ?_
  refine cs_putR jc_8 g_RX8_28 rfl (by decide) (fun _ => ⟨rfl, rfl⟩) (by decide +kernel) (by decide +kernel) dX8_init_43 ?_
  exact sim_dret rfl dX8_init_46
set_option maxRecDepth 20000 in
set_option maxHeartbeats 4000000 in
theorem kc_21 : DCall yX10_init cX10_init 1 3 (shp 73) (rst 75) [vR 72] (sst 24) (shp 95) (rst 98) (sst 32) := by
  refine dcall_of_sim (by decide +kernel) rfl (Nat.le_of_ble_eq_true rfl) ⟨by decide +kernel, by decide +kernel⟩ ?_
  show GC RX10 cX10_init 1 3 73 75 24 0 [(0, vR 72)] [] _ _ 95 98 32
  refine sim_aload_n 0 rfl dX10_init_0 ?_
  refine sim_objInit w_104 w_33 w_34 (by decide) (Nat.le_of_ble_eq_true rfl) dX10_init_1 ?_
  refine sim_aload_n 0 rfl dX10_init_4 ?_
  refine cs_new jc_3 df_3 w_105 w_106 w_4 sh_73 (by decide +kernel) dX10_init_5 ?_
  refine sim_dup rfl dX10_init_8 ?_
  refine sim_ctor (Sh1 := shp 80) (ρ1 := rst 81) (σ1 := sst 32) l_RX10_9 w_108 rfl rD_nx rfl ⟨by decide, by decide⟩ (Nat.le_of_ble_eq_true rfl) dX10_init_9 kc_17 (ctor_of (show ctorB 74 80 [(0, vR 72)] [vR 73, vR 72] _ _ = true by decide +kernel)) (as := []) (S := [vR 73, vR 72]) rfl ?_
  refine cs_putR jc_10 g_RX10_10 rfl (by decide) (fun _ => ⟨rfl, rfl⟩) (by decide +kernel) (by decide +kernel) dX10_init_12 ?_
  refine sim_aload_n 0 rfl dX10_init_15 ?_
  refine cs_new jc_7 df_7 w_193 w_194 w_5 sh_80 (by decide +kernel) dX10_init_16 ?_
  refine sim_dup rfl dX10_init_19 ?_
  refine sim_aload_n 0 rfl dX10_init_20 ?_
  refine sim_getR (q := 73) g_RX10_10 (by decide +kernel) (by decide +kernel) dX10_init_21 ?_
  refine sim_ctor (Sh1 := shp 87) (ρ1 := rst 89) (σ1 := sst 32) l_RX10_18 w_196 rfl rD_nx rfl ⟨by decide, by decide⟩ (Nat.le_of_ble_eq_true rfl) dX10_init_24 kc_18 (ctor_of (show ctorB 81 87 [(0, vR 72)] [vR 80, vR 72] _ _ = true by decide +kernel)) (as := [vR 73]) (S := [vR 80, vR 72]) rfl ?_
  refine cs_putR jc_10 g_RX10_21 rfl (by decide) (fun _ => ⟨rfl, rfl⟩) (by decide +kernel) (by decide +kernel) dX10_init_27 ?_
  refine sim_aload_n 0 rfl dX10_init_30 ?_
  refine cs_new jc_5 df_5 w_242 w_243 w_6 sh_87 (by decide +kernel) dX10_init_31 ?_
  refine sim_dup rfl dX10_init_34 ?_
  refine sim_ctorN (Sh1 := shp 90) (ρ1 := rst 92) (σ1 := sst 32) (host := "WidowRow") ⟨w_246, w_6, by decide +kernel⟩ w_245 rfl rD_nx (fun _ h => h.2.1) rfl ⟨by decide, by decide⟩ (Nat.le_of_ble_eq_true rfl) dX10_init_35 kc_19 (ctor_of (show ctorB 88 90 [(0, vR 72)] [vR 87, vR 72] _ _ = true by decide +kernel)) (as := []) (S := [vR 87, vR 72]) rfl ?_
  refine cs_putR jc_10 g_RX10_28 rfl (by decide) (fun _ => ⟨rfl, rfl⟩) (by decide +kernel) (by decide +kernel) dX10_init_38 ?_
  refine sim_aload_n 0 rfl dX10_init_41 ?_
  refine cs_new jc_8 df_8 w_267 w_268 w_7 sh_90 (by decide +kernel) dX10_init_42 ?_
  refine sim_dup rfl dX10_init_45 ?_
  refine sim_ctorN (Sh1 := shp 95) (ρ1 := rst 97) (σ1 := sst 32) (host := "WidowRow") ⟨w_271, w_7, by decide +kernel⟩ w_270 rfl rD_nx (fun _ h => h.2.2.1) rfl ⟨by decide, by decide⟩ (Nat.le_of_ble_eq_true rfl) dX10_init_46 kc_20 (ctor_of (show ctorB 91 95 [(0, vR 72)] [vR 90, vR 72] _ _ = true by decide +kernel)) (as := []) (S := [vR 90, vR 72]) rfl ?_
  refine cs_putR jc_10 g_RX10_35 rfl (by decide) (fun _ => ⟨rfl, rfl⟩) (by decide +kernel) (by decide +kernel) dX10_init_49 ?_
  refine sim_aload_n 0 rfl dX10_init_52 ?_
  refine sim_iconst dX10_init_53 (by decide) ?_
  refine cs_putZ0 (by decide) g_RX10_39 (by decide +kernel) (by decide +kernel) dX10_init_54 ?_
  exact sim_dret rfl dX10_init_57
set_option maxRecDepth 20000 in
set_option maxHeartbeats 4000000 in
theorem kc_22 : DCall yX7_init cX7_init 2 1 (shp 97) (rst 100) [vR 96, vR 4] (sst 32) (shp 103) (rst 107) (sst 32) := by
  refine dcall_of_sim (by decide +kernel) rfl (Nat.le_of_ble_eq_true rfl) ⟨by decide +kernel, by decide +kernel⟩ ?_
  show GC RX7 cX7_init 2 1 97 100 32 0 [(0, vR 96), (1, vR 4)] [] _ _ 103 107 32
  refine sim_aload_n 0 rfl dX7_init_0 ?_
  refine sim_objInit w_198 w_33 w_34 (by decide) (Nat.le_of_ble_eq_true rfl) dX7_init_1 ?_
  refine sim_aload_n 0 rfl dX7_init_4 ?_
  refine sim_bipush dX7_init_5 (by decide +kernel) ?_
  refine cs_newarr0 (n := 28) rfl (by decide) w_192 sh_97 (by decide +kernel) dX7_init_7 ?_
  refine cs_putR jc_7 g_RX7_9 rfl (by decide) (fun _ => ⟨rfl, rfl⟩) (by decide +kernel) (by decide +kernel) dX7_init_9 ?_
  refine sim_aload_n 0 rfl dX7_init_12 ?_
  refine sim_bipush dX7_init_13 (by decide +kernel) ?_
  refine cs_newarr0 (n := 28) rfl (by decide) w_192 sh_98 (by decide +kernel) dX7_init_15 ?_
  refine cs_putR jc_7 g_RX7_15 rfl (by decide) (fun _ => ⟨rfl, rfl⟩) (by decide +kernel) (by decide +kernel) dX7_init_17 ?_
  refine sim_aload_n 0 rfl dX7_init_20 ?_
  refine sim_bipush dX7_init_21 (by decide +kernel) ?_
  refine cs_newarr0 (n := 28) rfl (by decide) w_192 sh_99 (by decide +kernel) dX7_init_23 ?_
  refine cs_putR jc_7 g_RX7_18 rfl (by decide) (fun _ => ⟨rfl, rfl⟩) (by decide +kernel) (by decide +kernel) dX7_init_25 ?_
  refine sim_aload_n 0 rfl dX7_init_28 ?_
  refine sim_iconst dX7_init_29 (by decide) ?_
  refine cs_putI0 g_RX7_21 (by decide +kernel) (by decide +kernel) dX7_init_30 ?_
  refine sim_aload_n 0 rfl dX7_init_33 ?_
  refine sim_bipush dX7_init_34 (by decide +kernel) ?_
  refine cs_newarr0 (n := 28) rfl (by decide) w_192 sh_100 (by decide +kernel) dX7_init_36 ?_
  refine cs_putR jc_7 g_RX7_25 rfl (by decide) (fun _ => ⟨rfl, rfl⟩) (by decide +kernel) (by decide +kernel) dX7_init_38 ?_
  refine sim_aload_n 0 rfl dX7_init_41 ?_
  refine sim_bipush dX7_init_42 (by decide +kernel) ?_
  refine cs_newarr0 (n := 6) rfl (by decide) w_192 sh_101 (by decide +kernel) dX7_init_44 ?_
  refine cs_putR jc_7 g_RX7_28 rfl (by decide) (fun _ => ⟨rfl, rfl⟩) (by decide +kernel) (by decide +kernel) dX7_init_46 ?_
  refine sim_aload_n 0 rfl dX7_init_49 ?_
  refine sim_bipush dX7_init_50 (by decide +kernel) ?_
  refine cs_newarr0 (n := 6) rfl (by decide) w_192 sh_102 (by decide +kernel) dX7_init_52 ?_
  refine cs_putR jc_7 g_RX7_31 rfl (by decide) (fun _ => ⟨rfl, rfl⟩) (by decide +kernel) (by decide +kernel) dX7_init_54 ?_
  refine sim_aload_n 0 rfl dX7_init_57 ?_
  refine sim_aload_n 1 rfl dX7_init_58 ?_
  refine cs_putR jc_7 g_RX7_34 rfl (by decide) (fun _ => ⟨rfl, rfl⟩) (by decide +kernel) (by decide +kernel) dX7_init_59 ?_
  exact sim_dret rfl dX7_init_62
set_option maxRecDepth 20000 in
set_option maxHeartbeats 4000000 in
theorem kc_23 : DCall yX0_init cX0_init 3 1 (shp 105) (rst 109) [vR 104, vR 11, vR 103] (sst 32) (shp 107) (rst 114) (sst 32) := by
  refine dcall_of_sim (by decide +kernel) rfl (Nat.le_of_ble_eq_true rfl) ⟨by decide +kernel, by decide +kernel⟩ ?_
  show GC RX0 cX0_init 3 1 105 109 32 0 [(0, vR 104), (1, vR 11), (2, vR 103)] [] _ _ 107 114 32
  refine sim_aload_n 0 rfl dX0_init_0 ?_
  refine sim_objInit w_323 w_33 w_34 (by decide) (Nat.le_of_ble_eq_true rfl) dX0_init_1 ?_
  refine sim_aload_n 0 rfl dX0_init_4 ?_
  refine sim_bipush dX0_init_5 (by decide +kernel) ?_
  refine cs_newarr0 (n := 12) rfl (by decide) w_192 sh_105 (by decide +kernel) dX0_init_7 ?_
  refine cs_putR jc_0 g_RX0_11 rfl (by decide) (fun _ => ⟨rfl, rfl⟩) (by decide +kernel) (by decide +kernel) dX0_init_9 ?_
  refine sim_aload_n 0 rfl dX0_init_12 ?_
  refine sim_iconst dX0_init_13 (by decide) ?_
  refine cs_putI0 g_RX0_15 (by decide +kernel) (by decide +kernel) dX0_init_14 ?_
  refine sim_aload_n 0 rfl dX0_init_17 ?_
  refine sim_bipush dX0_init_18 (by decide +kernel) ?_
  refine cs_newarr0 (n := 12) rfl (by decide) w_192 sh_106 (by decide +kernel) dX0_init_20 ?_
  refine cs_putR jc_0 g_RX0_19 rfl (by decide) (fun _ => ⟨rfl, rfl⟩) (by decide +kernel) (by decide +kernel) dX0_init_22 ?_
  refine sim_aload_n 0 rfl dX0_init_25 ?_
  refine sim_iconst dX0_init_26 (by decide) ?_
  refine cs_putI0 g_RX0_22 (by decide +kernel) (by decide +kernel) dX0_init_27 ?_
  refine sim_aload_n 0 rfl dX0_init_30 ?_
  refine sim_aload_n 1 rfl dX0_init_31 ?_
  refine cs_putR jc_0 g_RX0_25 rfl (by decide) (fun _ => ⟨rfl, rfl⟩) (by decide +kernel) (by decide +kernel) dX0_init_32 ?_
  refine sim_aload_n 0 rfl dX0_init_35 ?_
  refine sim_aload_n 1 rfl dX0_init_36 ?_
  refine sim_getR (q := 4) g_RX0_29 (by decide +kernel) (by decide +kernel) dX0_init_37 ?_
  refine cs_putR jc_0 g_RX0_35 rfl (by decide) (fun _ => ⟨rfl, rfl⟩) (by decide +kernel) (by decide +kernel) dX0_init_40 ?_
  refine sim_aload_n 0 rfl dX0_init_43 ?_
  refine sim_aload_n 2 rfl dX0_init_44 ?_
  refine cs_putR jc_0 g_RX0_36 rfl (by decide) (fun _ => ⟨rfl, rfl⟩) (by decide +kernel) (by decide +kernel) dX0_init_45 ?_
  exact sim_dret rfl dX0_init_48
set_option maxRecDepth 20000 in
set_option maxHeartbeats 4000000 in
theorem kc_24 : DCall yX6_init cX6_init 3 1 (shp 108) (rst 115) [vR 107, vR 11, vR 103] (sst 32) (shp 114) (rst 124) (sst 32) := by
  refine dcall_of_sim (by decide +kernel) rfl (Nat.le_of_ble_eq_true rfl) ⟨by decide +kernel, by decide +kernel⟩ ?_
  show GC RX6 cX6_init 3 1 108 115 32 0 [(0, vR 107), (1, vR 11), (2, vR 103)] [] _ _ 114 124 32
  refine sim_aload_n 0 rfl dX6_init_0 ?_
  refine sim_objInit w_353 w_33 w_34 (by decide) (Nat.le_of_ble_eq_true rfl) dX6_init_1 ?_
  refine sim_aload_n 0 rfl dX6_init_4 ?_
  refine sim_bipush dX6_init_5 (by decide +kernel) ?_
  refine cs_newarr0 (n := 10) rfl (by decide) w_192 sh_108 (by decide +kernel) dX6_init_7 ?_
  refine cs_putR jc_6 g_RX6_11 rfl (by decide) (fun _ => ⟨rfl, rfl⟩) (by decide +kernel) (by decide +kernel) dX6_init_9 ?_
  refine sim_aload_n 0 rfl dX6_init_12 ?_
  refine sim_iconst dX6_init_13 (by decide) ?_
  refine cs_putI0 g_RX6_15 (by decide +kernel) (by decide +kernel) dX6_init_14 ?_
  refine sim_aload_n 0 rfl dX6_init_17 ?_
  refine sim_bipush dX6_init_18 (by decide +kernel) ?_
  refine cs_newarr0 (n := 6) rfl (by decide) w_192 sh_109 (by decide +kernel) dX6_init_20 ?_
  refine cs_putR jc_6 g_RX6_19 rfl (by decide) (fun _ => ⟨rfl, rfl⟩) (by decide +kernel) (by decide +kernel) dX6_init_22 ?_
  refine sim_aload_n 0 rfl dX6_init_25 ?_
  refine sim_bipush dX6_init_26 (by decide +kernel) ?_
  refine cs_newarr0 (n := 23) rfl (by decide) w_192 sh_110 (by decide +kernel) dX6_init_28 ?_
  refine cs_putR jc_6 g_RX6_22 rfl (by decide) (fun _ => ⟨rfl, rfl⟩) (by decide +kernel) (by decide +kernel) dX6_init_30 ?_
  refine sim_aload_n 0 rfl dX6_init_33 ?_
  refine sim_bipush dX6_init_34 (by decide +kernel) ?_
  refine cs_newarr0 (n := 23) rfl (by decide) w_192 sh_111 (by decide +kernel) dX6_init_36 ?_
  refine cs_putR jc_6 g_RX6_25 rfl (by decide) (fun _ => ⟨rfl, rfl⟩) (by decide +kernel) (by decide +kernel) dX6_init_38 ?_
  refine sim_aload_n 0 rfl dX6_init_41 ?_
  refine sim_bipush dX6_init_42 (by decide +kernel) ?_
  refine cs_newarr0 (n := 10) rfl (by decide) w_192 sh_112 (by decide +kernel) dX6_init_44 ?_
  refine cs_putR jc_6 g_RX6_28 rfl (by decide) (fun _ => ⟨rfl, rfl⟩) (by decide +kernel) (by decide +kernel) dX6_init_46 ?_
  refine sim_aload_n 0 rfl dX6_init_49 ?_
  refine sim_iconst dX6_init_50 (by decide) ?_
  refine cs_putI0 g_RX6_31 (by decide +kernel) (by decide +kernel) dX6_init_51 ?_
  refine sim_aload_n 0 rfl dX6_init_54 ?_
  refine sim_iconst dX6_init_55 (by decide) ?_
  refine cs_putZ0 (by decide) g_RX6_34 (by decide +kernel) (by decide +kernel) dX6_init_56 ?_
  refine sim_aload_n 0 rfl dX6_init_59 ?_
  refine sim_bipush dX6_init_60 (by decide +kernel) ?_
  refine cs_newarr0 (n := 10) rfl (by decide) w_192 sh_113 (by decide +kernel) dX6_init_62 ?_
  refine cs_putR jc_6 g_RX6_38 rfl (by decide) (fun _ => ⟨rfl, rfl⟩) (by decide +kernel) (by decide +kernel) dX6_init_64 ?_
  refine sim_aload_n 0 rfl dX6_init_67 ?_
  refine sim_iconst dX6_init_68 (by decide) ?_
  refine cs_putI0 g_RX6_41 (by decide +kernel) (by decide +kernel) dX6_init_69 ?_
  refine sim_aload_n 0 rfl dX6_init_72 ?_
  refine sim_aload_n 1 rfl dX6_init_73 ?_
  refine cs_putR jc_6 g_RX6_44 rfl (by decide) (fun _ => ⟨rfl, rfl⟩) (by decide +kernel) (by decide +kernel) dX6_init_74 ?_
  refine sim_aload_n 0 rfl dX6_init_77 ?_
  refine sim_aload_n 1 rfl dX6_init_78 ?_
  refine sim_getR (q := 4) g_RX6_48 (by decide +kernel) (by decide +kernel) dX6_init_79 ?_
  refine cs_putR jc_6 g_RX6_54 rfl (by decide) (fun _ => ⟨rfl, rfl⟩) (by decide +kernel) (by decide +kernel) dX6_init_82 ?_
  refine sim_aload_n 0 rfl dX6_init_85 ?_
  refine sim_aload_n 2 rfl dX6_init_86 ?_
  refine cs_putR jc_6 g_RX6_55 rfl (by decide) (fun _ => ⟨rfl, rfl⟩) (by decide +kernel) (by decide +kernel) dX6_init_87 ?_
  exact sim_dret rfl dX6_init_90
set_option maxRecDepth 20000 in
set_option maxHeartbeats 4000000 in
theorem kc_25 : DCall yX4_init cX4_init 3 1 (shp 115) (rst 125) [vR 114, vR 11, vR 103] (sst 32) (shp 116) (rst 129) (sst 33) := by
  refine dcall_of_sim (by decide +kernel) rfl (Nat.le_of_ble_eq_true rfl) ⟨by decide +kernel, by decide +kernel⟩ ?_
  show GC RX4 cX4_init 3 1 115 125 32 0 [(0, vR 114), (1, vR 11), (2, vR 103)] [] _ _ 116 129 33
  refine sim_aload_n 0 rfl dX4_init_0 ?_
  refine sim_objInit w_401 w_33 w_34 (by decide) (Nat.le_of_ble_eq_true rfl) dX4_init_1 ?_
  refine sim_aload_n 0 rfl dX4_init_4 ?_
  refine sim_bipush dX4_init_5 (by decide +kernel) ?_
  refine cs_newarr0 (n := 10) rfl (by decide) w_192 sh_115 (by decide +kernel) dX4_init_7 ?_
  refine cs_putR jc_4 g_RX4_11 rfl (by decide) (fun _ => ⟨rfl, rfl⟩) (by decide +kernel) (by decide +kernel) dX4_init_9 ?_
  refine sim_aload_n 0 rfl dX4_init_12 ?_
  refine sim_iconst dX4_init_13 (by decide) ?_
  refine cs_putI0 g_RX4_15 (by decide +kernel) (by decide +kernel) dX4_init_14 ?_
  refine sim_aload_n 0 rfl dX4_init_17 ?_
  refine sim_iconst dX4_init_18 (by decide) ?_
  refine cs_putI0 g_RX4_19 (by decide +kernel) (by decide +kernel) dX4_init_19 ?_
  refine sim_aload_n 0 rfl dX4_init_22 ?_
  refine sim_iconst dX4_init_23 (by decide) ?_
  refine cs_putI0 g_RX4_22 (by decide +kernel) (by decide +kernel) dX4_init_24 ?_
  refine sim_aload_n 0 rfl dX4_init_27 ?_
  refine sim_iconst dX4_init_28 (by decide) ?_
  refine cs_putI g_RX4_25 (by decide +kernel) (by decide +kernel) dX4_init_29 ?_
  refine sim_aload_n 0 rfl dX4_init_32 ?_
  refine sim_aload_n 1 rfl dX4_init_33 ?_
  refine cs_putR jc_4 g_RX4_28 rfl (by decide) (fun _ => ⟨rfl, rfl⟩) (by decide +kernel) (by decide +kernel) dX4_init_34 ?_
  refine sim_aload_n 0 rfl dX4_init_37 ?_
  refine sim_aload_n 1 rfl dX4_init_38 ?_
  refine sim_getR (q := 4) g_RX4_32 (by decide +kernel) (by decide +kernel) dX4_init_39 ?_
  refine cs_putR jc_4 g_RX4_38 rfl (by decide) (fun _ => ⟨rfl, rfl⟩) (by decide +kernel) (by decide +kernel) dX4_init_42 ?_
  refine sim_aload_n 0 rfl dX4_init_45 ?_
  refine sim_aload_n 2 rfl dX4_init_46 ?_
  refine cs_putR jc_4 g_RX4_39 rfl (by decide) (fun _ => ⟨rfl, rfl⟩) (by decide +kernel) (by decide +kernel) dX4_init_47 ?_
  exact sim_dret rfl dX4_init_50
set_option maxRecDepth 20000 in
set_option maxHeartbeats 4000000 in
theorem kc_26 : DCall yX2_init cX2_init 4 1 (shp 117) (rst 130) [vR 116, vR 4, vR 18, vR 103] (sst 33) (shp 121) (rst 137) (sst 33) := by
  refine dcall_of_sim (by decide +kernel) rfl (Nat.le_of_ble_eq_true rfl) ⟨by decide +kernel, by decide +kernel⟩ ?_
  show GC RX2 cX2_init 4 1 117 130 33 0 [(0, vR 116), (1, vR 4), (2, vR 18), (3, vR 103)] [] _ _ 121 137 33
  refine sim_aload_n 0 rfl dX2_init_0 ?_
  refine sim_objInit w_433 w_33 w_34 (by decide) (Nat.le_of_ble_eq_true rfl) dX2_init_1 ?_
  refine sim_aload_n 0 rfl dX2_init_4 ?_
  refine sim_bipush dX2_init_5 (by decide +kernel) ?_
  refine cs_newarr0 (n := 28) rfl (by decide) w_192 sh_117 (by decide +kernel) dX2_init_7 ?_
  refine cs_putR jc_2 g_RX2_9 rfl (by decide) (fun _ => ⟨rfl, rfl⟩) (by decide +kernel) (by decide +kernel) dX2_init_9 ?_
  refine sim_aload_n 0 rfl dX2_init_12 ?_
  refine sim_bipush dX2_init_13 (by decide +kernel) ?_
  refine cs_newarr0 (n := 28) rfl (by decide) w_192 sh_118 (by decide +kernel) dX2_init_15 ?_
  refine cs_putR jc_2 g_RX2_15 rfl (by decide) (fun _ => ⟨rfl, rfl⟩) (by decide +kernel) (by decide +kernel) dX2_init_17 ?_
  refine sim_aload_n 0 rfl dX2_init_20 ?_
  refine sim_iconst dX2_init_21 (by decide) ?_
  refine cs_putI0 g_RX2_18 (by decide +kernel) (by decide +kernel) dX2_init_22 ?_
  refine sim_aload_n 0 rfl dX2_init_25 ?_
  refine sim_bipush dX2_init_26 (by decide +kernel) ?_
  refine cs_newarr0 (n := 6) rfl (by decide) w_192 sh_119 (by decide +kernel) dX2_init_28 ?_
  refine cs_putR jc_2 g_RX2_22 rfl (by decide) (fun _ => ⟨rfl, rfl⟩) (by decide +kernel) (by decide +kernel) dX2_init_30 ?_
  refine sim_aload_n 0 rfl dX2_init_33 ?_
  refine sim_bipush dX2_init_34 (by decide +kernel) ?_
  refine cs_newarr0 (n := 6) rfl (by decide) w_192 sh_120 (by decide +kernel) dX2_init_36 ?_
  refine cs_putR jc_2 g_RX2_25 rfl (by decide) (fun _ => ⟨rfl, rfl⟩) (by decide +kernel) (by decide +kernel) dX2_init_38 ?_
  refine sim_aload_n 0 rfl dX2_init_41 ?_
  refine sim_aload_n 1 rfl dX2_init_42 ?_
  refine cs_putR jc_2 g_RX2_28 rfl (by decide) (fun _ => ⟨rfl, rfl⟩) (by decide +kernel) (by decide +kernel) dX2_init_43 ?_
  refine sim_aload_n 0 rfl dX2_init_46 ?_
  refine sim_aload_n 2 rfl dX2_init_47 ?_
  refine cs_putR jc_2 g_RX2_32 rfl (by decide) (fun _ => ⟨rfl, rfl⟩) (by decide +kernel) (by decide +kernel) dX2_init_48 ?_
  refine sim_aload_n 0 rfl dX2_init_51 ?_
  refine sim_aload_n 3 rfl dX2_init_52 ?_
  refine cs_putR jc_2 g_RX2_36 rfl (by decide) (fun _ => ⟨rfl, rfl⟩) (by decide +kernel) (by decide +kernel) dX2_init_53 ?_
  exact sim_dret rfl dX2_init_56
set_option maxRecDepth 20000 in
set_option maxHeartbeats 4000000 in
theorem kc_27 : DCall yX1_init cX1_init 2 1 (shp 122) (rst 138) [vR 121, vR 11] (sst 33) (shp 122) (rst 139) (sst 33) := by
  refine dcall_of_sim (by decide +kernel) rfl (Nat.le_of_ble_eq_true rfl) ⟨by decide +kernel, by decide +kernel⟩ ?_
  show GC RX1 cX1_init 2 1 122 138 33 0 [(0, vR 121), (1, vR 11)] [] _ _ 122 139 33
  refine sim_aload_n 0 rfl dX1_init_0 ?_
  refine sim_objInit w_464 w_33 w_34 (by decide) (Nat.le_of_ble_eq_true rfl) dX1_init_1 ?_
  refine sim_aload_n 0 rfl dX1_init_4 ?_
  refine sim_iconst dX1_init_5 (by decide) ?_
  refine cs_putI0 g_RX1_9 (by decide +kernel) (by decide +kernel) dX1_init_6 ?_
  refine sim_aload_n 0 rfl dX1_init_9 ?_
  refine sim_iconst dX1_init_10 (by decide) ?_
  refine cs_putZ0 (by decide) g_RX1_15 (by decide +kernel) (by decide +kernel) dX1_init_11 ?_
  refine sim_aload_n 0 rfl dX1_init_14 ?_
  refine sim_iconst dX1_init_15 (by decide) ?_
  refine cs_putI0 g_RX1_19 (by decide +kernel) (by decide +kernel) dX1_init_16 ?_
  refine sim_aload_n 0 rfl dX1_init_19 ?_
  refine sim_iconst dX1_init_20 (by decide) ?_
  refine cs_putI0 g_RX1_22 (by decide +kernel) (by decide +kernel) dX1_init_21 ?_
  refine sim_aload_n 0 rfl dX1_init_24 ?_
  refine sim_iconst dX1_init_25 (by decide) ?_
  refine cs_putI0 g_RX1_25 (by decide +kernel) (by decide +kernel) dX1_init_26 ?_
  refine sim_aload_n 0 rfl dX1_init_29 ?_
  refine sim_iconst dX1_init_30 (by decide) ?_
  refine cs_putI0 g_RX1_28 (by decide +kernel) (by decide +kernel) dX1_init_31 ?_
  refine sim_aload_n 0 rfl dX1_init_34 ?_
  refine sim_aload_n 1 rfl dX1_init_35 ?_
  refine cs_putR jc_1 g_RX1_31 rfl (by decide) (fun _ => ⟨rfl, rfl⟩) (by decide +kernel) (by decide +kernel) dX1_init_36 ?_
  exact sim_dret rfl dX1_init_39
set_option maxRecDepth 20000 in
set_option maxHeartbeats 4000000 in
theorem kc_28 : DCall yX7_init cX7_init 2 1 (shp 124) (rst 141) [vR 123, vR 4] (sst 33) (shp 130) (rst 148) (sst 33) := by
  refine dcall_of_sim (by decide +kernel) rfl (Nat.le_of_ble_eq_true rfl) ⟨by decide +kernel, by decide +kernel⟩ ?_
  show GC RX7 cX7_init 2 1 124 141 33 0 [(0, vR 123), (1, vR 4)] [] _ _ 130 148 33
  refine sim_aload_n 0 rfl dX7_init_0 ?_
  refine sim_objInit w_198 w_33 w_34 (by decide) (Nat.le_of_ble_eq_true rfl) dX7_init_1 ?_
  refine sim_aload_n 0 rfl dX7_init_4 ?_
  refine sim_bipush dX7_init_5 (by decide +kernel) ?_
  refine cs_newarr0 (n := 28) rfl (by decide) w_192 sh_124 (by decide +kernel) dX7_init_7 ?_
  refine cs_putR jc_7 g_RX7_9 rfl (by decide) (fun _ => ⟨rfl, rfl⟩) (by decide +kernel) (by decide +kernel) dX7_init_9 ?_
  refine sim_aload_n 0 rfl dX7_init_12 ?_
  refine sim_bipush dX7_init_13 (by decide +kernel) ?_
  refine cs_newarr0 (n := 28) rfl (by decide) w_192 sh_125 (by decide +kernel) dX7_init_15 ?_
  refine cs_putR jc_7 g_RX7_15 rfl (by decide) (fun _ => ⟨rfl, rfl⟩) (by decide +kernel) (by decide +kernel) dX7_init_17 ?_
  refine sim_aload_n 0 rfl dX7_init_20 ?_
  refine sim_bipush dX7_init_21 (by decide +kernel) ?_
  refine cs_newarr0 (n := 28) rfl (by decide) w_192 sh_126 (by decide +kernel) dX7_init_23 ?_
  refine cs_putR jc_7 g_RX7_18 rfl (by decide) (fun _ => ⟨rfl, rfl⟩) (by decide +kernel) (by decide +kernel) dX7_init_25 ?_
  refine sim_aload_n 0 rfl dX7_init_28 ?_
  refine sim_iconst dX7_init_29 (by decide) ?_
  refine cs_putI0 g_RX7_21 (by decide +kernel) (by decide +kernel) dX7_init_30 ?_
  refine sim_aload_n 0 rfl dX7_init_33 ?_
  refine sim_bipush dX7_init_34 (by decide +kernel) ?_
  refine cs_newarr0 (n := 28) rfl (by decide) w_192 sh_127 (by decide +kernel) dX7_init_36 ?_
  refine cs_putR jc_7 g_RX7_25 rfl (by decide) (fun _ => ⟨rfl, rfl⟩) (by decide +kernel) (by decide +kernel) dX7_init_38 ?_
  refine sim_aload_n 0 rfl dX7_init_41 ?_
  refine sim_bipush dX7_init_42 (by decide +kernel) ?_
  refine cs_newarr0 (n := 6) rfl (by decide) w_192 sh_128 (by decide +kernel) dX7_init_44 ?_
  refine cs_putR jc_7 g_RX7_28 rfl (by decide) (fun _ => ⟨rfl, rfl⟩) (by decide +kernel) (by decide +kernel) dX7_init_46 ?_
  refine sim_aload_n 0 rfl dX7_init_49 ?_
  refine sim_bipush dX7_init_50 (by decide +kernel) ?_
  refine cs_newarr0 (n := 6) rfl (by decide) w_192 sh_129 (by decide +kernel) dX7_init_52 ?_
  refine cs_putR jc_7 g_RX7_31 rfl (by decide) (fun _ => ⟨rfl, rfl⟩) (by decide +kernel) (by decide +kernel) dX7_init_54 ?_
  refine sim_aload_n 0 rfl dX7_init_57 ?_
  refine sim_aload_n 1 rfl dX7_init_58 ?_
  refine cs_putR jc_7 g_RX7_34 rfl (by decide) (fun _ => ⟨rfl, rfl⟩) (by decide +kernel) (by decide +kernel) dX7_init_59 ?_
  exact sim_dret rfl dX7_init_62
set_option maxRecDepth 20000 in
set_option maxHeartbeats 4000000 in
theorem kc_29 : DCall yX7_init cX7_init 2 1 (shp 131) (rst 149) [vR 130, vR 4] (sst 33) (shp 137) (rst 156) (sst 33) := by
  refine dcall_of_sim (by decide +kernel) rfl (Nat.le_of_ble_eq_true rfl) ⟨by decide +kernel, by decide +kernel⟩ ?_
  show GC RX7 cX7_init 2 1 131 149 33 0 [(0, vR 130), (1, vR 4)] [] _ _ 137 156 33
  refine sim_aload_n 0 rfl dX7_init_0 ?_
  refine sim_objInit w_198 w_33 w_34 (by decide) (Nat.le_of_ble_eq_true rfl) dX7_init_1 ?_
  refine sim_aload_n 0 rfl dX7_init_4 ?_
  refine sim_bipush dX7_init_5 (by decide +kernel) ?_
  refine cs_newarr0 (n := 28) rfl (by decide) w_192 sh_131 (by decide +kernel) dX7_init_7 ?_
  refine cs_putR jc_7 g_RX7_9 rfl (by decide) (fun _ => ⟨rfl, rfl⟩) (by decide +kernel) (by decide +kernel) dX7_init_9 ?_
  refine sim_aload_n 0 rfl dX7_init_12 ?_
  refine sim_bipush dX7_init_13 (by decide +kernel) ?_
  refine cs_newarr0 (n := 28) rfl (by decide) w_192 sh_132 (by decide +kernel) dX7_init_15 ?_
  refine cs_putR jc_7 g_RX7_15 rfl (by decide) (fun _ => ⟨rfl, rfl⟩) (by decide +kernel) (by decide +kernel) dX7_init_17 ?_
  refine sim_aload_n 0 rfl dX7_init_20 ?_
  refine sim_bipush dX7_init_21 (by decide +kernel) ?_
  refine cs_newarr0 (n := 28) rfl (by decide) w_192 sh_133 (by decide +kernel) dX7_init_23 ?_
  refine cs_putR jc_7 g_RX7_18 rfl (by decide) (fun _ => ⟨rfl, rfl⟩) (by decide +kernel) (by decide +kernel) dX7_init_25 ?_
  refine sim_aload_n 0 rfl dX7_init_28 ?_
  refine sim_iconst dX7_init_29 (by decide) ?_
  refine cs_putI0 g_RX7_21 (by decide +kernel) (by decide +kernel) dX7_init_30 ?_
  refine sim_aload_n 0 rfl dX7_init_33 ?_
  refine sim_bipush dX7_init_34 (by decide +kernel) ?_
  refine cs_newarr0 (n := 28) rfl (by decide) w_192 sh_134 (by decide +kernel) dX7_init_36 ?_
  refine cs_putR jc_7 g_RX7_25 rfl (by decide) (fun _ => ⟨rfl, rfl⟩) (by decide +kernel) (by decide +kernel) dX7_init_38 ?_
  refine sim_aload_n 0 rfl dX7_init_41 ?_
  refine sim_bipush dX7_init_42 (by decide +kernel) ?_
  refine cs_newarr0 (n := 6) rfl (by decide) w_192 sh_135 (by decide +kernel) dX7_init_44 ?_
  refine cs_putR jc_7 g_RX7_28 rfl (by decide) (fun _ => ⟨rfl, rfl⟩) (by decide +kernel) (by decide +kernel) dX7_init_46 ?_
  refine sim_aload_n 0 rfl dX7_init_49 ?_
  refine sim_bipush dX7_init_50 (by decide +kernel) ?_
  refine cs_newarr0 (n := 6) rfl (by decide) w_192 sh_136 (by decide +kernel) dX7_init_52 ?_
  refine cs_putR jc_7 g_RX7_31 rfl (by decide) (fun _ => ⟨rfl, rfl⟩) (by decide +kernel) (by decide +kernel) dX7_init_54 ?_
  refine sim_aload_n 0 rfl dX7_init_57 ?_
  refine sim_aload_n 1 rfl dX7_init_58 ?_
  refine cs_putR jc_7 g_RX7_34 rfl (by decide) (fun _ => ⟨rfl, rfl⟩) (by decide +kernel) (by decide +kernel) dX7_init_59 ?_
  exact sim_dret rfl dX7_init_62
set_option maxRecDepth 20000 in
set_option maxHeartbeats 4000000 in
theorem kc_30 : DCall yX7_init cX7_init 2 1 (shp 138) (rst 157) [vR 137, vR 4] (sst 33) (shp 144) (rst 164) (sst 33) := by
  refine dcall_of_sim (by decide +kernel) rfl (Nat.le_of_ble_eq_true rfl) ⟨by decide +kernel, by decide +kernel⟩ ?_
  show GC RX7 cX7_init 2 1 138 157 33 0 [(0, vR 137), (1, vR 4)] [] _ _ 144 164 33
  refine sim_aload_n 0 rfl dX7_init_0 ?_
  refine sim_objInit w_198 w_33 w_34 (by decide) (Nat.le_of_ble_eq_true rfl) dX7_init_1 ?_
  refine sim_aload_n 0 rfl dX7_init_4 ?_
  refine sim_bipush dX7_init_5 (by decide +kernel) ?_
  refine cs_newarr0 (n := 28) rfl (by decide) w_192 sh_138 (by decide +kernel) dX7_init_7 ?_
  refine cs_putR jc_7 g_RX7_9 rfl (by decide) (fun _ => ⟨rfl, rfl⟩) (by decide +kernel) (by decide +kernel) dX7_init_9 ?_
  refine sim_aload_n 0 rfl dX7_init_12 ?_
  refine sim_bipush dX7_init_13 (by decide +kernel) ?_
  refine cs_newarr0 (n := 28) rfl (by decide) w_192 sh_139 (by decide +kernel) dX7_init_15 ?_
  refine cs_putR jc_7 g_RX7_15 rfl (by decide) (fun _ => ⟨rfl, rfl⟩) (by decide +kernel) (by decide +kernel) dX7_init_17 ?_
  refine sim_aload_n 0 rfl dX7_init_20 ?_
  refine sim_bipush dX7_init_21 (by decide +kernel) ?_
  refine cs_newarr0 (n := 28) rfl (by decide) w_192 sh_140 (by decide +kernel) dX7_init_23 ?_
  refine cs_putR jc_7 g_RX7_18 rfl (by decide) (fun _ => ⟨rfl, rfl⟩) (by decide +kernel) (by decide +kernel) dX7_init_25 ?_
  refine sim_aload_n 0 rfl dX7_init_28 ?_
  refine sim_iconst dX7_init_29 (by decide) ?_
  refine cs_putI0 g_RX7_21 (by decide +kernel) (by decide +kernel) dX7_init_30 ?_
  refine sim_aload_n 0 rfl dX7_init_33 ?_
  refine sim_bipush dX7_init_34 (by decide +kernel) ?_
  refine cs_newarr0 (n := 28) rfl (by decide) w_192 sh_141 (by decide +kernel) dX7_init_36 ?_
  refine cs_putR jc_7 g_RX7_25 rfl (by decide) (fun _ => ⟨rfl, rfl⟩) (by decide +kernel) (by decide +kernel) dX7_init_38 ?_
  refine sim_aload_n 0 rfl dX7_init_41 ?_
  refine sim_bipush dX7_init_42 (by decide +kernel) ?_
  refine cs_newarr0 (n := 6) rfl (by decide) w_192 sh_142 (by decide +kernel) dX7_init_44 ?_
  refine cs_putR jc_7 g_RX7_28 rfl (by decide) (fun _ => ⟨rfl, rfl⟩) (by decide +kernel) (by decide +kernel) dX7_init_46 ?_
  refine sim_aload_n 0 rfl dX7_init_49 ?_
  refine sim_bipush dX7_init_50 (by decide +kernel) ?_
  refine cs_newarr0 (n := 6) rfl (by decide) w_192 sh_143 (by decide +kernel) dX7_init_52 ?_
  refine cs_putR jc_7 g_RX7_31 rfl (by decide) (fun _ => ⟨rfl, rfl⟩) (by decide +kernel) (by decide +kernel) dX7_init_54 ?_
  refine sim_aload_n 0 rfl dX7_init_57 ?_
  refine sim_aload_n 1 rfl dX7_init_58 ?_
  refine cs_putR jc_7 g_RX7_34 rfl (by decide) (fun _ => ⟨rfl, rfl⟩) (by decide +kernel) (by decide +kernel) dX7_init_59 ?_
  exact sim_dret rfl dX7_init_62
set_option maxRecDepth 20000 in
set_option maxHeartbeats 4000000 in
theorem kc_31 : DCall yX7_init cX7_init 2 1 (shp 145) (rst 165) [vR 144, vR 4] (sst 33) (shp 151) (rst 172) (sst 33) := by
  refine dcall_of_sim (by decide +kernel) rfl (Nat.le_of_ble_eq_true rfl) ⟨by decide +kernel, by decide +kernel⟩ ?_
  show GC RX7 cX7_init 2 1 145 165 33 0 [(0, vR 144), (1, vR 4)] [] _ _ 151 172 33
  refine sim_aload_n 0 rfl dX7_init_0 ?_
  refine sim_objInit w_198 w_33 w_34 (by decide) (Nat.le_of_ble_eq_true rfl) dX7_init_1 ?_
  refine sim_aload_n 0 rfl dX7_init_4 ?_
  refine sim_bipush dX7_init_5 (by decide +kernel) ?_
  refine cs_newarr0 (n := 28) rfl (by decide) w_192 sh_145 (by decide +kernel) dX7_init_7 ?_
  refine cs_putR jc_7 g_RX7_9 rfl (by decide) (fun _ => ⟨rfl, rfl⟩) (by decide +kernel) (by decide +kernel) dX7_init_9 ?_
  refine sim_aload_n 0 rfl dX7_init_12 ?_
  refine sim_bipush dX7_init_13 (by decide +kernel) ?_
  refine cs_newarr0 (n := 28) rfl (by decide) w_192 sh_146 (by decide +kernel) dX7_init_15 ?_
  refine cs_putR jc_7 g_RX7_15 rfl (by decide) (fun _ => ⟨rfl, rfl⟩) (by decide +kernel) (by decide +kernel) dX7_init_17 ?_
  refine sim_aload_n 0 rfl dX7_init_20 ?_
  refine sim_bipush dX7_init_21 (by decide +kernel) ?_
  refine cs_newarr0 (n := 28) rfl (by decide) w_192 sh_147 (by decide +kernel) dX7_init_23 ?_
  refine cs_putR jc_7 g_RX7_18 rfl (by decide) (fun _ => ⟨rfl, rfl⟩) (by decide +kernel) (by decide +kernel) dX7_init_25 ?_
  refine sim_aload_n 0 rfl dX7_init_28 ?_
  refine sim_iconst dX7_init_29 (by decide) ?_
  refine cs_putI0 g_RX7_21 (by decide +kernel) (by decide +kernel) dX7_init_30 ?_
  refine sim_aload_n 0 rfl dX7_init_33 ?_
  refine sim_bipush dX7_init_34 (by decide +kernel) ?_
  refine cs_newarr0 (n := 28) rfl (by decide) w_192 sh_148 (by decide +kernel) dX7_init_36 ?_
  refine cs_putR jc_7 g_RX7_25 rfl (by decide) (fun _ => ⟨rfl, rfl⟩) (by decide +kernel) (by decide +kernel) dX7_init_38 ?_
  refine sim_aload_n 0 rfl dX7_init_41 ?_
  refine sim_bipush dX7_init_42 (by decide +kernel) ?_
  refine cs_newarr0 (n := 6) rfl (by decide) w_192 sh_149 (by decide +kernel) dX7_init_44 ?_
  refine cs_putR jc_7 g_RX7_28 rfl (by decide) (fun _ => ⟨rfl, rfl⟩) (by decide +kernel) (by decide +kernel) dX7_init_46 ?_
  refine sim_aload_n 0 rfl dX7_init_49 ?_
  refine sim_bipush dX7_init_50 (by decide +kernel) ?_
  refine cs_newarr0 (n := 6) rfl (by decide) w_192 sh_150 (by decide +kernel) dX7_init_52 ?_
  refine cs_putR jc_7 g_RX7_31 rfl (by decide) (fun _ => ⟨rfl, rfl⟩) (by decide +kernel) (by decide +kernel) dX7_init_54 ?_
  refine sim_aload_n 0 rfl dX7_init_57 ?_
  refine sim_aload_n 1 rfl dX7_init_58 ?_
  refine cs_putR jc_7 g_RX7_34 rfl (by decide) (fun _ => ⟨rfl, rfl⟩) (by decide +kernel) (by decide +kernel) dX7_init_59 ?_
  exact sim_dret rfl dX7_init_62
set_option maxRecDepth 20000 in
set_option maxHeartbeats 4000000 in
theorem kc_32 : DCall yX7_init cX7_init 2 1 (shp 152) (rst 173) [vR 151, vR 4] (sst 33) (shp 158) (rst 180) (sst 33) := by
  refine dcall_of_sim (by decide +kernel) rfl (Nat.le_of_ble_eq_true rfl) ⟨by decide +kernel, by decide +kernel⟩ ?_
  show GC RX7 cX7_init 2 1 152 173 33 0 [(0, vR 151), (1, vR 4)] [] _ _ 158 180 33
  refine sim_aload_n 0 rfl dX7_init_0 ?_
  refine sim_objInit w_198 w_33 w_34 (by decide) (Nat.le_of_ble_eq_true rfl) dX7_init_1 ?_
  refine sim_aload_n 0 rfl dX7_init_4 ?_
  refine sim_bipush dX7_init_5 (by decide +kernel) ?_
  refine cs_newarr0 (n := 28) rfl (by decide) w_192 sh_152 (by decide +kernel) dX7_init_7 ?_
  refine cs_putR jc_7 g_RX7_9 rfl (by decide) (fun _ => ⟨rfl, rfl⟩) (by decide +kernel) (by decide +kernel) dX7_init_9 ?_
  refine sim_aload_n 0 rfl dX7_init_12 ?_
  refine sim_bipush dX7_init_13 (by decide +kernel) ?_
  refine cs_newarr0 (n := 28) rfl (by decide) w_192 sh_153 (by decide +kernel) dX7_init_15 ?_
  refine cs_putR jc_7 g_RX7_15 rfl (by decide) (fun _ => ⟨rfl, rfl⟩) (by decide +kernel) (by decide +kernel) dX7_init_17 ?_
  refine sim_aload_n 0 rfl dX7_init_20 ?_
  refine sim_bipush dX7_init_21 (by decide +kernel) ?_
  refine cs_newarr0 (n := 28) rfl (by decide) w_192 sh_154 (by decide +kernel) dX7_init_23 ?_
  refine cs_putR jc_7 g_RX7_18 rfl (by decide) (fun _ => ⟨rfl, rfl⟩) (by decide +kernel) (by decide +kernel) dX7_init_25 ?_
  refine sim_aload_n 0 rfl dX7_init_28 ?_
  refine sim_iconst dX7_init_29 (by decide) ?_
  refine cs_putI0 g_RX7_21 (by decide +kernel) (by decide +kernel) dX7_init_30 ?_
  refine sim_aload_n 0 rfl dX7_init_33 ?_
  refine sim_bipush dX7_init_34 (by decide +kernel) ?_
  refine cs_newarr0 (n := 28) rfl (by decide) w_192 sh_155 (by decide +kernel) dX7_init_36 ?_
  refine cs_putR jc_7 g_RX7_25 rfl (by decide) (fun _ => ⟨rfl, rfl⟩) (by decide +kernel) (by decide +kernel) dX7_init_38 ?_
  refine sim_aload_n 0 rfl dX7_init_41 ?_
  refine sim_bipush dX7_init_42 (by decide +kernel) ?_
  refine cs_newarr0 (n := 6) rfl (by decide) w_192 sh_156 (by decide +kernel) dX7_init_44 ?_
  refine cs_putR jc_7 g_RX7_28 rfl (by decide) (fun _ => ⟨rfl, rfl⟩) (by decide +kernel) (by decide +kernel) dX7_init_46 ?_
  refine sim_aload_n 0 rfl dX7_init_49 ?_
  refine sim_bipush dX7_init_50 (by decide +kernel) ?_
  refine cs_newarr0 (n := 6) rfl (by decide) w_192 sh_157 (by decide +kernel) dX7_init_52 ?_
  refine cs_putR jc_7 g_RX7_31 rfl (by decide) (fun _ => ⟨rfl, rfl⟩) (by decide +kernel) (by decide +kernel) dX7_init_54 ?_
  refine sim_aload_n 0 rfl dX7_init_57 ?_
  refine sim_aload_n 1 rfl dX7_init_58 ?_
  refine cs_putR jc_7 g_RX7_34 rfl (by decide) (fun _ => ⟨rfl, rfl⟩) (by decide +kernel) (by decide +kernel) dX7_init_59 ?_
  exact sim_dret rfl dX7_init_62
set_option maxRecDepth 20000 in
set_option maxHeartbeats 4000000 in
theorem kc_33 : DCall yX7_init cX7_init 2 1 (shp 159) (rst 181) [vR 158, vR 4] (sst 33) (shp 165) (rst 188) (sst 33) := by
  refine dcall_of_sim (by decide +kernel) rfl (Nat.le_of_ble_eq_true rfl) ⟨by decide +kernel, by decide +kernel⟩ ?_
  show GC RX7 cX7_init 2 1 159 181 33 0 [(0, vR 158), (1, vR 4)] [] _ _ 165 188 33
  refine sim_aload_n 0 rfl dX7_init_0 ?_
  refine sim_objInit w_198 w_33 w_34 (by decide) (Nat.le_of_ble_eq_true rfl) dX7_init_1 ?_
  refine sim_aload_n 0 rfl dX7_init_4 ?_
  refine sim_bipush dX7_init_5 (by decide +kernel) ?_
  refine cs_newarr0 (n := 28) rfl (by decide) w_192 sh_159 (by decide +kernel) dX7_init_7 ?_
  refine cs_putR jc_7 g_RX7_9 rfl (by decide) (fun _ => ⟨rfl, rfl⟩) (by decide +kernel) (by decide +kernel) dX7_init_9 ?_
  refine sim_aload_n 0 rfl dX7_init_12 ?_
  refine sim_bipush dX7_init_13 (by decide +kernel) ?_
  refine cs_newarr0 (n := 28) rfl (by decide) w_192 sh_160 (by decide +kernel) dX7_init_15 ?_
  refine cs_putR jc_7 g_RX7_15 rfl (by decide) (fun _ => ⟨rfl, rfl⟩) (by decide +kernel) (by decide +kernel) dX7_init_17 ?_
  refine sim_aload_n 0 rfl dX7_init_20 ?_
  refine sim_bipush dX7_init_21 (by decide +kernel) ?_
  refine cs_newarr0 (n := 28) rfl (by decide) w_192 sh_161 (by decide +kernel) dX7_init_23 ?_
  refine cs_putR jc_7 g_RX7_18 rfl (by decide) (fun _ => ⟨rfl, rfl⟩) (by decide +kernel) (by decide +kernel) dX7_init_25 ?_
  refine sim_aload_n 0 rfl dX7_init_28 ?_
  refine sim_iconst dX7_init_29 (by decide) ?_
  refine cs_putI0 g_RX7_21 (by decide +kernel) (by decide +kernel) dX7_init_30 ?_
  refine sim_aload_n 0 rfl dX7_init_33 ?_
  refine sim_bipush dX7_init_34 (by decide +kernel) ?_
  refine cs_newarr0 (n := 28) rfl (by decide) w_192 sh_162 (by decide +kernel) dX7_init_36 ?_
  refine cs_putR jc_7 g_RX7_25 rfl (by decide) (fun _ => ⟨rfl, rfl⟩) (by decide +kernel) (by decide +kernel) dX7_init_38 ?_
  refine sim_aload_n 0 rfl dX7_init_41 ?_
  refine sim_bipush dX7_init_42 (by decide +kernel) ?_
  refine cs_newarr0 (n := 6) rfl (by decide) w_192 sh_163 (by decide +kernel) dX7_init_44 ?_
  refine cs_putR jc_7 g_RX7_28 rfl (by decide) (fun _ => ⟨rfl, rfl⟩) (by decide +kernel) (by decide +kernel) dX7_init_46 ?_
  refine sim_aload_n 0 rfl dX7_init_49 ?_
  refine sim_bipush dX7_init_50 (by decide +kernel) ?_
  refine cs_newarr0 (n := 6) rfl (by decide) w_192 sh_164 (by decide +kernel) dX7_init_52 ?_
  refine cs_putR jc_7 g_RX7_31 rfl (by decide) (fun _ => ⟨rfl, rfl⟩) (by decide +kernel) (by decide +kernel) dX7_init_54 ?_
  refine sim_aload_n 0 rfl dX7_init_57 ?_
  refine sim_aload_n 1 rfl dX7_init_58 ?_
  refine cs_putR jc_7 g_RX7_34 rfl (by decide) (fun _ => ⟨rfl, rfl⟩) (by decide +kernel) (by decide +kernel) dX7_init_59 ?_
  exact sim_dret rfl dX7_init_62
set_option maxRecDepth 20000 in
set_option maxHeartbeats 4000000 in
theorem kc_34 : DCall yX7_init cX7_init 2 1 (shp 166) (rst 189) [vR 165, vR 4] (sst 33) (shp 172) (rst 196) (sst 33) := by
  refine dcall_of_sim (by decide +kernel) rfl (Nat.le_of_ble_eq_true rfl) ⟨by decide +kernel, by decide +kernel⟩ ?_
  show GC RX7 cX7_init 2 1 166 189 33 0 [(0, vR 165), (1, vR 4)] [] _ _ 172 196 33
  refine sim_aload_n 0 rfl dX7_init_0 ?_
  refine sim_objInit w_198 w_33 w_34 (by decide) (Nat.le_of_ble_eq_true rfl) dX7_init_1 ?_
  refine sim_aload_n 0 rfl dX7_init_4 ?_
  refine sim_bipush dX7_init_5 (by decide +kernel) ?_
  refine cs_newarr0 (n := 28) rfl (by decide) w_192 sh_166 (by decide +kernel) dX7_init_7 ?_
  refine cs_putR jc_7 g_RX7_9 rfl (by decide) (fun _ => ⟨rfl, rfl⟩) (by decide +kernel) (by decide +kernel) dX7_init_9 ?_
  refine sim_aload_n 0 rfl dX7_init_12 ?_
  refine sim_bipush dX7_init_13 (by decide +kernel) ?_
  refine cs_newarr0 (n := 28) rfl (by decide) w_192 sh_167 (by decide +kernel) dX7_init_15 ?_
  refine cs_putR jc_7 g_RX7_15 rfl (by decide) (fun _ => ⟨rfl, rfl⟩) (by decide +kernel) (by decide +kernel) dX7_init_17 ?_
  refine sim_aload_n 0 rfl dX7_init_20 ?_
  refine sim_bipush dX7_init_21 (by decide +kernel) ?_
  refine cs_newarr0 (n := 28) rfl (by decide) w_192 sh_168 (by decide +kernel) dX7_init_23 ?_
  refine cs_putR jc_7 g_RX7_18 rfl (by decide) (fun _ => ⟨rfl, rfl⟩) (by decide +kernel) (by decide +kernel) dX7_init_25 ?_
  refine sim_aload_n 0 rfl dX7_init_28 ?_
  refine sim_iconst dX7_init_29 (by decide) ?_
  refine cs_putI0 g_RX7_21 (by decide +kernel) (by decide +kernel) dX7_init_30 ?_
  refine sim_aload_n 0 rfl dX7_init_33 ?_
  refine sim_bipush dX7_init_34 (by decide +kernel) ?_
  refine cs_newarr0 (n := 28) rfl (by decide) w_192 sh_169 (by decide +kernel) dX7_init_36 ?_
  refine cs_putR jc_7 g_RX7_25 rfl (by decide) (fun _ => ⟨rfl, rfl⟩) (by decide +kernel) (by decide +kernel) dX7_init_38 ?_
  refine sim_aload_n 0 rfl dX7_init_41 ?_
  refine sim_bipush dX7_init_42 (by decide +kernel) ?_
  refine cs_newarr0 (n := 6) rfl (by decide) w_192 sh_170 (by decide +kernel) dX7_init_44 ?_
  refine cs_putR jc_7 g_RX7_28 rfl (by decide) (fun _ => ⟨rfl, rfl⟩) (by decide +kernel) (by decide +kernel) dX7_init_46 ?_
  refine sim_aload_n 0 rfl dX7_init_49 ?_
  refine sim_bipush dX7_init_50 (by decide +kernel) ?_
  refine cs_newarr0 (n := 6) rfl (by decide) w_192 sh_171 (by decide +kernel) dX7_init_52 ?_
  refine cs_putR jc_7 g_RX7_31 rfl (by decide) (fun _ => ⟨rfl, rfl⟩) (by decide +kernel) (by decide +kernel) dX7_init_54 ?_
  refine sim_aload_n 0 rfl dX7_init_57 ?_
  refine sim_aload_n 1 rfl dX7_init_58 ?_
  refine cs_putR jc_7 g_RX7_34 rfl (by decide) (fun _ => ⟨rfl, rfl⟩) (by decide +kernel) (by decide +kernel) dX7_init_59 ?_
  exact sim_dret rfl dX7_init_62
set_option maxRecDepth 20000 in
set_option maxHeartbeats 4000000 in
theorem kc_35 : DCall yX7_init cX7_init 2 1 (shp 173) (rst 197) [vR 172, vR 4] (sst 33) (shp 179) (rst 204) (sst 33) := by
  refine dcall_of_sim (by decide +kernel) rfl (Nat.le_of_ble_eq_true rfl) ⟨by decide +kernel, by decide +kernel⟩ ?_
  show GC RX7 cX7_init 2 1 173 197 33 0 [(0, vR 172), (1, vR 4)] [] _ _ 179 204 33
  refine sim_aload_n 0 rfl dX7_init_0 ?_
  refine sim_objInit w_198 w_33 w_34 (by decide) (Nat.le_of_ble_eq_true rfl) dX7_init_1 ?_
  refine sim_aload_n 0 rfl dX7_init_4 ?_
  refine sim_bipush dX7_init_5 (by decide +kernel) ?_
  refine cs_newarr0 (n := 28) rfl (by decide) w_192 sh_173 (by decide +kernel) dX7_init_7 ?_
  refine cs_putR jc_7 g_RX7_9 rfl (by decide) (fun _ => ⟨rfl, rfl⟩) (by decide +kernel) (by decide +kernel) dX7_init_9 ?_
  refine sim_aload_n 0 rfl dX7_init_12 ?_
  refine sim_bipush dX7_init_13 (by decide +kernel) ?_
  refine cs_newarr0 (n := 28) rfl (by decide) w_192 sh_174 (by decide +kernel) dX7_init_15 ?_
  refine cs_putR jc_7 g_RX7_15 rfl (by decide) (fun _ => ⟨rfl, rfl⟩) (by decide +kernel) (by decide +kernel) dX7_init_17 ?_
  refine sim_aload_n 0 rfl dX7_init_20 ?_
  refine sim_bipush dX7_init_21 (by decide +kernel) ?_
  refine cs_newarr0 (n := 28) rfl (by decide) w_192 sh_175 (by decide +kernel) dX7_init_23 ?_
  refine cs_putR jc_7 g_RX7_18 rfl (by decide) (fun _ => ⟨rfl, rfl⟩) (by decide +kernel) (by decide +kernel) dX7_init_25 ?_
  refine sim_aload_n 0 rfl dX7_init_28 ?_
  refine sim_iconst dX7_init_29 (by decide) ?_
  refine cs_putI0 g_RX7_21 (by decide +kernel) (by decide +kernel) dX7_init_30 ?_
  refine sim_aload_n 0 rfl dX7_init_33 ?_
  refine sim_bipush dX7_init_34 (by decide +kernel) ?_
  refine cs_newarr0 (n := 28) rfl (by decide) w_192 sh_176 (by decide +kernel) dX7_init_36 ?_
  refine cs_putR jc_7 g_RX7_25 rfl (by decide) (fun _ => ⟨rfl, rfl⟩) (by decide +kernel) (by decide +kernel) dX7_init_38 ?_
  refine sim_aload_n 0 rfl dX7_init_41 ?_
  refine sim_bipush dX7_init_42 (by decide +kernel) ?_
  refine cs_newarr0 (n := 6) rfl (by decide) w_192 sh_177 (by decide +kernel) dX7_init_44 ?_
  refine cs_putR jc_7 g_RX7_28 rfl (by decide) (fun _ => ⟨rfl, rfl⟩) (by decide +kernel) (by decide +kernel) dX7_init_46 ?_
  refine sim_aload_n 0 rfl dX7_init_49 ?_
  refine sim_bipush dX7_init_50 (by decide +kernel) ?_
  refine cs_newarr0 (n := 6) rfl (by decide) w_192 sh_178 (by decide +kernel) dX7_init_52 ?_
  refine cs_putR jc_7 g_RX7_31 rfl (by decide) (fun _ => ⟨rfl, rfl⟩) (by decide +kernel) (by decide +kernel) dX7_init_54 ?_
  refine sim_aload_n 0 rfl dX7_init_57 ?_
  refine sim_aload_n 1 rfl dX7_init_58 ?_
  refine cs_putR jc_7 g_RX7_34 rfl (by decide) (fun _ => ⟨rfl, rfl⟩) (by decide +kernel) (by decide +kernel) dX7_init_59 ?_
  exact sim_dret rfl dX7_init_62
set_option maxRecDepth 20000 in
set_option maxHeartbeats 4000000 in
theorem kc_36 : DCall yX11_init cX11_init 2 4 (shp 1) (rst 0) [vR 0] (sst 0) (shp 179) (rst 205) (sst 33) := by
  refine dcall_of_sim (by decide +kernel) rfl (Nat.le_of_ble_eq_true rfl) ⟨by decide +kernel, by decide +kernel⟩ ?_
  show GC RX11 cX11_init 2 4 1 0 0 0 [(0, vR 0)] [] _ _ 179 205 33
  refine sim_aload_n 0 rfl dX11_init_0 ?_
  refine sim_objInit w_32 w_33 w_34 (by decide) (Nat.le_of_ble_eq_true rfl) dX11_init_1 ?_
  refine sim_aload_n 0 rfl dX11_init_4 ?_
  refine sim_sipush dX11_init_5 (by decide +kernel) ?_
  refine cs_newarr1 (n := 940) rfl (by decide) w_98 sh_1 (by decide +kernel) dX11_init_8 ?_
  refine cs_putR jc_11 g_RX11_9 rfl (by decide) (fun _ => ⟨rfl, rfl⟩) (by decide +kernel) (by decide +kernel) dX11_init_10 ?_
  refine sim_aload_n 0 rfl dX11_init_13 ?_
  refine sim_iconst dX11_init_14 (by decide) ?_
  refine cs_putI0 g_RX11_13 (by decide +kernel) (by decide +kernel) dX11_init_15 ?_
  refine sim_aload_n 0 rfl dX11_init_18 ?_
  refine cs_new jc_9 df_9 w_35 w_36 w_2 sh_2 (by decide +kernel) dX11_init_19 ?_
  refine sim_dup rfl dX11_init_22 ?_
  refine sim_aload_n 0 rfl dX11_init_23 ?_
  refine sim_getR (q := 1) g_RX11_9 (by decide +kernel) (by decide +kernel) dX11_init_24 ?_
  refine sim_ctor (Sh1 := shp 3) (ρ1 := rst 2) (σ1 := sst 0) l_RX11_19 w_38 rfl rD_nx rfl ⟨by decide, by decide⟩ (Nat.le_of_ble_eq_true rfl) dX11_init_27 kc_1 (ctor_of (show ctorB 3 3 [(0, vR 0)] [vR 2, vR 0] _ _ = true by decide +kernel)) (as := [vR 1]) (S := [vR 2, vR 0]) rfl ?_
  refine cs_putR jc_11 g_RX11_22 rfl (by decide) (fun _ => ⟨rfl, rfl⟩) (by decide +kernel) (by decide +kernel) dX11_init_30 ?_
  refine sim_aload_n 0 rfl dX11_init_33 ?_
  refine cs_new jc_10 df_10 w_99 w_100 w_3 sh_3 (by decide +kernel) dX11_init_34 ?_
  refine sim_dup rfl dX11_init_37 ?_
  refine sim_ctorN (Sh1 := shp 26) (ρ1 := rst 26) (σ1 := sst 8) (host := "WidowRow") ⟨w_103, w_3, by decide +kernel⟩ w_102 rfl rD_nx (fun _ h => h.1) rfl ⟨by decide, by decide⟩ (Nat.le_of_ble_eq_true rfl) dX11_init_38 kc_6 (ctor_of (show ctorB 4 26 [(0, vR 0)] [vR 3, vR 0] _ _ = true by decide +kernel)) (as := []) (S := [vR 3, vR 0]) rfl ?_
  refine cs_putR jc_11 g_RX11_29 rfl (by decide) (fun _ => ⟨rfl, rfl⟩) (by decide +kernel) (by decide +kernel) dX11_init_41 ?_
  refine sim_aload_n 0 rfl dX11_init_44 ?_
  refine cs_new jc_10 df_10 w_99 w_100 w_3 sh_26 (by decide +kernel) dX11_init_45 ?_
  refine sim_dup rfl dX11_init_48 ?_
  refine sim_ctorN (Sh1 := shp 49) (ρ1 := rst 50) (σ1 := sst 16) (host := "WidowRow") ⟨w_103, w_3, by decide +kernel⟩ w_102 rfl rD_nx (fun _ h => h.1) rfl ⟨by decide, by decide⟩ (Nat.le_of_ble_eq_true rfl) dX11_init_49 kc_11 (ctor_of (show ctorB 27 49 [(0, vR 0)] [vR 26, vR 0] _ _ = true by decide +kernel)) (as := []) (S := [vR 26, vR 0]) rfl ?_
  refine cs_putR jc_11 g_RX11_33 rfl (by decide) (fun _ => ⟨rfl, rfl⟩) (by decide +kernel) (by decide +kernel) dX11_init_52 ?_
  refine sim_aload_n 0 rfl dX11_init_55 ?_
  refine cs_new jc_10 df_10 w_99 w_100 w_3 sh_49 (by decide +kernel) dX11_init_56 ?_
  refine sim_dup rfl dX11_init_59 ?_
  refine sim_ctorN (Sh1 := shp 72) (ρ1 := rst 74) (σ1 := sst 24) (host := "WidowRow") ⟨w_103, w_3, by decide +kernel⟩ w_102 rfl rD_nx (fun _ h => h.1) rfl ⟨by decide, by decide⟩ (Nat.le_of_ble_eq_true rfl) dX11_init_60 kc_16 (ctor_of (show ctorB 50 72 [(0, vR 0)] [vR 49, vR 0] _ _ = true by decide +kernel)) (as := []) (S := [vR 49, vR 0]) rfl ?_
  refine cs_putR jc_11 g_RX11_36 rfl (by decide) (fun _ => ⟨rfl, rfl⟩) (by decide +kernel) (by decide +kernel) dX11_init_63 ?_
  refine sim_aload_n 0 rfl dX11_init_66 ?_
  refine cs_new jc_10 df_10 w_99 w_100 w_3 sh_72 (by decide +kernel) dX11_init_67 ?_
  refine sim_dup rfl dX11_init_70 ?_
  refine sim_ctorN (Sh1 := shp 95) (ρ1 := rst 98) (σ1 := sst 32) (host := "WidowRow") ⟨w_103, w_3, by decide +kernel⟩ w_102 rfl rD_nx (fun _ h => h.1) rfl ⟨by decide, by decide⟩ (Nat.le_of_ble_eq_true rfl) dX11_init_71 kc_21 (ctor_of (show ctorB 73 95 [(0, vR 0)] [vR 72, vR 0] _ _ = true by decide +kernel)) (as := []) (S := [vR 72, vR 0]) rfl ?_
  refine cs_putR jc_11 g_RX11_39 rfl (by decide) (fun _ => ⟨rfl, rfl⟩) (by decide +kernel) (by decide +kernel) dX11_init_74 ?_
  refine sim_aload_n 0 rfl dX11_init_77 ?_
  refine sim_bipush dX11_init_78 (by decide +kernel) ?_
  refine cs_newarr4 (n := 8) rfl (by decide) w_314 sh_95 (by decide +kernel) dX11_init_80 ?_
  refine cs_putR jc_11 g_RX11_44 rfl (by decide) (fun _ => ⟨rfl, rfl⟩) (by decide +kernel) (by decide +kernel) dX11_init_83 ?_
  refine sim_aload_n 0 rfl dX11_init_86 ?_
  refine sim_iconst dX11_init_87 (by decide) ?_
  refine cs_putI0 g_RX11_48 (by decide +kernel) (by decide +kernel) dX11_init_88 ?_
  refine sim_aload_n 0 rfl dX11_init_91 ?_
  refine sim_iconst dX11_init_92 (by decide) ?_
  refine cs_putI0 g_RX11_51 (by decide +kernel) (by decide +kernel) dX11_init_93 ?_
  refine sim_aload_n 0 rfl dX11_init_96 ?_
  refine cs_new jc_7 df_7 w_314 w_194 w_5 sh_96 (by decide +kernel) dX11_init_97 ?_
  refine sim_dup rfl dX11_init_100 ?_
  refine sim_aload_n 0 rfl dX11_init_101 ?_
  refine sim_getR (q := 3) g_RX11_29 (by decide +kernel) (by decide +kernel) dX11_init_102 ?_
  refine sim_getR (q := 4) g_RX11_54 (by decide +kernel) (by decide +kernel) dX11_init_105 ?_
  refine sim_ctor (Sh1 := shp 103) (ρ1 := rst 107) (σ1 := sst 32) l_RX11_58 w_196 rfl rD_nx rfl ⟨by decide, by decide⟩ (Nat.le_of_ble_eq_true rfl) dX11_init_108 kc_22 (ctor_of (show ctorB 97 103 [(0, vR 0)] [vR 96, vR 0] _ _ = true by decide +kernel)) (as := [vR 4]) (S := [vR 96, vR 0]) rfl ?_
  refine cs_putR jc_11 g_RX11_61 rfl (by decide) (fun _ => ⟨rfl, rfl⟩) (by decide +kernel) (by decide +kernel) dX11_init_111 ?_
  refine sim_aload_n 0 rfl dX11_init_114 ?_
  refine sim_ldc (v := 32768) w_317 (by decide +kernel) dX11_init_115 ?_
  refine cs_newarr2 (n := 32768) rfl (by decide) w_191 sh_103 (by decide +kernel) dX11_init_117 ?_
  refine cs_putR jc_11 g_RX11_66 rfl (by decide) (fun _ => ⟨rfl, rfl⟩) (by decide +kernel) (by decide +kernel) dX11_init_119 ?_
  refine sim_aload_n 0 rfl dX11_init_122 ?_
  refine cs_new jc_0 df_0 w_318 w_319 w_8 sh_104 (by decide +kernel) dX11_init_123 ?_
  refine sim_dup rfl dX11_init_126 ?_
  refine sim_aload_n 0 rfl dX11_init_127 ?_
  refine sim_getR (q := 3) g_RX11_29 (by decide +kernel) (by decide +kernel) dX11_init_128 ?_
  refine sim_getR (q := 11) g_RX11_72 (by decide +kernel) (by decide +kernel) dX11_init_131 ?_
  refine sim_aload_n 0 rfl dX11_init_134 ?_
  refine sim_getR (q := 103) g_RX11_66 (by decide +kernel) (by decide +kernel) dX11_init_135 ?_
  refine sim_ctor (Sh1 := shp 107) (ρ1 := rst 114) (σ1 := sst 32) l_RX11_75 w_321 rfl rD_nx rfl ⟨by decide, by decide⟩ (Nat.le_of_ble_eq_true rfl) dX11_init_138 kc_23 (ctor_of (show ctorB 105 107 [(0, vR 0)] [vR 104, vR 0] _ _ = true by decide +kernel)) (as := [vR 11, vR 103]) (S := [vR 104, vR 0]) rfl ?_
  refine cs_putR jc_11 g_RX11_78 rfl (by decide) (fun _ => ⟨rfl, rfl⟩) (by decide +kernel) (by decide +kernel) dX11_init_141 ?_
  refine sim_aload_n 0 rfl dX11_init_144 ?_
  refine cs_new jc_6 df_6 w_348 w_349 w_9 sh_107 (by decide +kernel) dX11_init_145 ?_
  refine sim_dup rfl dX11_init_148 ?_
  refine sim_aload_n 0 rfl dX11_init_149 ?_
  refine sim_getR (q := 3) g_RX11_29 (by decide +kernel) (by decide +kernel) dX11_init_150 ?_
  refine sim_getR (q := 11) g_RX11_72 (by decide +kernel) (by decide +kernel) dX11_init_153 ?_
  refine sim_aload_n 0 rfl dX11_init_156 ?_
  refine sim_getR (q := 103) g_RX11_66 (by decide +kernel) (by decide +kernel) dX11_init_157 ?_
  refine sim_ctor (Sh1 := shp 114) (ρ1 := rst 124) (σ1 := sst 32) l_RX11_84 w_351 rfl rD_nx rfl ⟨by decide, by decide⟩ (Nat.le_of_ble_eq_true rfl) dX11_init_160 kc_24 (ctor_of (show ctorB 108 114 [(0, vR 0)] [vR 107, vR 0] _ _ = true by decide +kernel)) (as := [vR 11, vR 103]) (S := [vR 107, vR 0]) rfl ?_
  refine cs_putR jc_11 g_RX11_85 rfl (by decide) (fun _ => ⟨rfl, rfl⟩) (by decide +kernel) (by decide +kernel) dX11_init_163 ?_
  refine sim_aload_n 0 rfl dX11_init_166 ?_
  refine cs_new jc_4 df_4 w_396 w_397 w_10 sh_114 (by decide +kernel) dX11_init_167 ?_
  refine sim_dup rfl dX11_init_170 ?_
  refine sim_aload_n 0 rfl dX11_init_171 ?_
  refine sim_getR (q := 3) g_RX11_29 (by decide +kernel) (by decide +kernel) dX11_init_172 ?_
  refine sim_getR (q := 11) g_RX11_72 (by decide +kernel) (by decide +kernel) dX11_init_175 ?_
  refine sim_aload_n 0 rfl dX11_init_178 ?_
  refine sim_getR (q := 103) g_RX11_66 (by decide +kernel) (by decide +kernel) dX11_init_179 ?_
  refine sim_ctor (Sh1 := shp 116) (ρ1 := rst 129) (σ1 := sst 33) l_RX11_91 w_399 rfl rD_nx rfl ⟨by decide, by decide⟩ (Nat.le_of_ble_eq_true rfl) dX11_init_182 kc_25 (ctor_of (show ctorB 115 116 [(0, vR 0)] [vR 114, vR 0] _ _ = true by decide +kernel)) (as := [vR 11, vR 103]) (S := [vR 114, vR 0]) rfl ?_
  refine cs_putR jc_11 g_RX11_92 rfl (by decide) (fun _ => ⟨rfl, rfl⟩) (by decide +kernel) (by decide +kernel) dX11_init_185 ?_
  refine sim_aload_n 0 rfl dX11_init_188 ?_
  refine cs_new jc_2 df_2 w_428 w_429 w_11 sh_116 (by decide +kernel) dX11_init_189 ?_
  refine sim_dup rfl dX11_init_192 ?_
  refine sim_aload_n 0 rfl dX11_init_193 ?_
  refine sim_getR (q := 3) g_RX11_29 (by decide +kernel) (by decide +kernel) dX11_init_194 ?_
  refine sim_getR (q := 4) g_RX11_54 (by decide +kernel) (by decide +kernel) dX11_init_197 ?_
  refine sim_aload_n 0 rfl dX11_init_200 ?_
  refine sim_getR (q := 3) g_RX11_29 (by decide +kernel) (by decide +kernel) dX11_init_201 ?_
  refine sim_getR (q := 18) g_RX11_98 (by decide +kernel) (by decide +kernel) dX11_init_204 ?_
  refine sim_aload_n 0 rfl dX11_init_207 ?_
  refine sim_getR (q := 103) g_RX11_66 (by decide +kernel) (by decide +kernel) dX11_init_208 ?_
  refine sim_ctor (Sh1 := shp 121) (ρ1 := rst 137) (σ1 := sst 33) l_RX11_102 w_431 rfl rD_nx rfl ⟨by decide, by decide⟩ (Nat.le_of_ble_eq_true rfl) dX11_init_211 kc_26 (ctor_of (show ctorB 117 121 [(0, vR 0)] [vR 116, vR 0] _ _ = true by decide +kernel)) (as := [vR 4, vR 18, vR 103]) (S := [vR 116, vR 0]) rfl ?_
  refine cs_putR jc_11 g_RX11_105 rfl (by decide) (fun _ => ⟨rfl, rfl⟩) (by decide +kernel) (by decide +kernel) dX11_init_214 ?_
  refine sim_aload_n 0 rfl dX11_init_217 ?_
  refine cs_new jc_1 df_1 w_459 w_460 w_12 sh_121 (by decide +kernel) dX11_init_218 ?_
  refine sim_dup rfl dX11_init_221 ?_
  refine sim_aload_n 0 rfl dX11_init_222 ?_
  refine sim_getR (q := 3) g_RX11_29 (by decide +kernel) (by decide +kernel) dX11_init_223 ?_
  refine sim_getR (q := 11) g_RX11_72 (by decide +kernel) (by decide +kernel) dX11_init_226 ?_
  refine sim_ctor (Sh1 := shp 122) (ρ1 := rst 139) (σ1 := sst 33) l_RX11_111 w_462 rfl rD_nx rfl ⟨by decide, by decide⟩ (Nat.le_of_ble_eq_true rfl) dX11_init_229 kc_27 (ctor_of (show ctorB 122 122 [(0, vR 0)] [vR 121, vR 0] _ _ = true by decide +kernel)) (as := [vR 11]) (S := [vR 121, vR 0]) rfl ?_
  refine cs_putR jc_11 g_RX11_114 rfl (by decide) (fun _ => ⟨rfl, rfl⟩) (by decide +kernel) (by decide +kernel) dX11_init_232 ?_
  refine sim_aload_n 0 rfl dX11_init_235 ?_
  refine sim_bipush dX11_init_236 (by decide +kernel) ?_
  refine cs_newarr1 (n := 112) rfl (by decide) w_98 sh_122 (by decide +kernel) dX11_init_238 ?_
  refine cs_putR jc_11 g_RX11_118 rfl (by decide) (fun _ => ⟨rfl, rfl⟩) (by decide +kernel) (by decide +kernel) dX11_init_240 ?_
  refine sim_aload_n 0 rfl dX11_init_243 ?_
  refine sim_iconst dX11_init_244 (by decide) ?_
  refine cs_putI0 g_RX11_121 (by decide +kernel) (by decide +kernel) dX11_init_245 ?_
  refine sim_iconst dX11_init_248 (by decide) ?_
  refine cs_istore [(1, vI 0), (0, vR 0)] rfl (by decide) dX11_init_249 ?_
  refine sim_iload_n 0 rfl dX11_init_250 ?_
  refine sim_bipush dX11_init_251 (by decide +kernel) ?_
  refine cs_icmp_f (tgt := 282) (by decide) dX11_init_253 (by decide) ?_
  refine sim_aload_n 1 rfl dX11_init_256 ?_
  refine sim_getR (q := 95) g_RX11_44 (by decide +kernel) (by decide +kernel) dX11_init_257 ?_
  refine sim_iload_n 0 rfl dX11_init_260 ?_
  refine cs_new jc_7 df_7 w_314 w_194 w_5 sh_123 (by decide +kernel) dX11_init_261 ?_
  refine sim_dup rfl dX11_init_264 ?_
  refine sim_aload_n 1 rfl dX11_init_265 ?_
  refine sim_getR (q := 3) g_RX11_29 (by decide +kernel) (by decide +kernel) dX11_init_266 ?_
  refine sim_getR (q := 4) g_RX11_54 (by decide +kernel) (by decide +kernel) dX11_init_269 ?_
  refine sim_ctor (Sh1 := shp 130) (ρ1 := rst 148) (σ1 := sst 33) l_RX11_58 w_196 rfl rD_nx rfl ⟨by decide, by decide⟩ (Nat.le_of_ble_eq_true rfl) dX11_init_272 kc_28 (ctor_of (show ctorB 124 130 [(1, vI 0), (0, vR 0)] [vR 123, vI 0, vR 95] _ _ = true by decide +kernel)) (as := [vR 4]) (S := [vR 123, vI 0, vR 95]) rfl ?_
  refine cs_aastore (n := 8) (j := 0) (by decide +kernel) rfl (by decide) (by decide +kernel) (by decide +kernel) dX11_init_275 ?_
  refine cs_iinc (z := 1) (by decide +kernel) 0 rfl [(1, vI 1), (0, vR 0)] rfl (by decide) dX11_init_276 ?_
  refine sim_goto (tgt := 250) dX11_init_279 (by decide) ?_
  refine sim_iload_n 0 rfl dX11_init_250 ?_
  refine sim_bipush dX11_init_251 (by decide +kernel) ?_
  refine cs_icmp_f (tgt := 282) (by decide) dX11_init_253 (by decide) ?_
  refine sim_aload_n 1 rfl dX11_init_256 ?_
  refine sim_getR (q := 95) g_RX11_44 (by decide +kernel) (by decide +kernel) dX11_init_257 ?_
  refine sim_iload_n 0 rfl dX11_init_260 ?_
  refine cs_new jc_7 df_7 w_314 w_194 w_5 sh_130 (by decide +kernel) dX11_init_261 ?_
  refine sim_dup rfl dX11_init_264 ?_
  refine sim_aload_n 1 rfl dX11_init_265 ?_
  refine sim_getR (q := 3) g_RX11_29 (by decide +kernel) (by decide +kernel) dX11_init_266 ?_
  refine sim_getR (q := 4) g_RX11_54 (by decide +kernel) (by decide +kernel) dX11_init_269 ?_
  refine sim_ctor (Sh1 := shp 137) (ρ1 := rst 156) (σ1 := sst 33) l_RX11_58 w_196 rfl rD_nx rfl ⟨by decide, by decide⟩ (Nat.le_of_ble_eq_true rfl) dX11_init_272 kc_29 (ctor_of (show ctorB 131 137 [(1, vI 1), (0, vR 0)] [vR 130, vI 1, vR 95] _ _ = true by decide +kernel)) (as := [vR 4]) (S := [vR 130, vI 1, vR 95]) rfl ?_
  refine cs_aastore (n := 8) (j := 1) (by decide +kernel) rfl (by decide) (by decide +kernel) (by decide +kernel) dX11_init_275 ?_
  refine cs_iinc (z := 2) (by decide +kernel) 0 rfl [(1, vI 2), (0, vR 0)] rfl (by decide) dX11_init_276 ?_
  refine sim_goto (tgt := 250) dX11_init_279 (by decide) ?_
  refine sim_iload_n 0 rfl dX11_init_250 ?_
  refine sim_bipush dX11_init_251 (by decide +kernel) ?_
  refine cs_icmp_f (tgt := 282) (by decide) dX11_init_253 (by decide) ?_
  refine sim_aload_n 1 rfl dX11_init_256 ?_
  refine sim_getR (q := 95) g_RX11_44 (by decide +kernel) (by decide +kernel) dX11_init_257 ?_
  refine sim_iload_n 0 rfl dX11_init_260 ?_
  refine cs_new jc_7 df_7 w_314 w_194 w_5 sh_137 (by decide +kernel) dX11_init_261 ?_
  refine sim_dup rfl dX11_init_264 ?_
  refine sim_aload_n 1 rfl dX11_init_265 ?_
  refine sim_getR (q := 3) g_RX11_29 (by decide +kernel) (by decide +kernel) dX11_init_266 ?_
  refine sim_getR (q := 4) g_RX11_54 (by decide +kernel) (by decide +kernel) dX11_init_269 ?_
  refine sim_ctor (Sh1 := shp 144) (ρ1 := rst 164) (σ1 := sst 33) l_RX11_58 w_196 rfl rD_nx rfl ⟨by decide, by decide⟩ (Nat.le_of_ble_eq_true rfl) dX11_init_272 kc_30 (ctor_of (show ctorB 138 144 [(1, vI 2), (0, vR 0)] [vR 137, vI 2, vR 95] _ _ = true by decide +kernel)) (as := [vR 4]) (S := [vR 137, vI 2, vR 95]) rfl ?_
  refine cs_aastore (n := 8) (j := 2) (by decide +kernel) rfl (by decide) (by decide +kernel) (by decide +kernel) dX11_init_275 ?_
  refine cs_iinc (z := 3) (by decide +kernel) 0 rfl [(1, vI 3), (0, vR 0)] rfl (by decide) dX11_init_276 ?_
  refine sim_goto (tgt := 250) dX11_init_279 (by decide) ?_
  refine sim_iload_n 0 rfl dX11_init_250 ?_
  refine sim_bipush dX11_init_251 (by decide +kernel) ?_
  refine cs_icmp_f (tgt := 282) (by decide) dX11_init_253 (by decide) ?_
  refine sim_aload_n 1 rfl dX11_init_256 ?_
  refine sim_getR (q := 95) g_RX11_44 (by decide +kernel) (by decide +kernel) dX11_init_257 ?_
  refine sim_iload_n 0 rfl dX11_init_260 ?_
  refine cs_new jc_7 df_7 w_314 w_194 w_5 sh_144 (by decide +kernel) dX11_init_261 ?_
  refine sim_dup rfl dX11_init_264 ?_
  refine sim_aload_n 1 rfl dX11_init_265 ?_
  refine sim_getR (q := 3) g_RX11_29 (by decide +kernel) (by decide +kernel) dX11_init_266 ?_
  refine sim_getR (q := 4) g_RX11_54 (by decide +kernel) (by decide +kernel) dX11_init_269 ?_
  refine sim_ctor (Sh1 := shp 151) (ρ1 := rst 172) (σ1 := sst 33) l_RX11_58 w_196 rfl rD_nx rfl ⟨by decide, by decide⟩ (Nat.le_of_ble_eq_true rfl) dX11_init_272 kc_31 (ctor_of (show ctorB 145 151 [(1, vI 3), (0, vR 0)] [vR 144, vI 3, vR 95] _ _ = true by decide +kernel)) (as := [vR 4]) (S := [vR 144, vI 3, vR 95]) rfl ?_
  refine cs_aastore (n := 8) (j := 3) (by decide +kernel) rfl (by decide) (by decide +kernel) (by decide +kernel) dX11_init_275 ?_
  refine cs_iinc (z := 4) (by decide +kernel) 0 rfl [(1, vI 4), (0, vR 0)] rfl (by decide) dX11_init_276 ?_
  refine sim_goto (tgt := 250) dX11_init_279 (by decide) ?_
  refine sim_iload_n 0 rfl dX11_init_250 ?_
  refine sim_bipush dX11_init_251 (by decide +kernel) ?_
  refine cs_icmp_f (tgt := 282) (by decide) dX11_init_253 (by decide) ?_
  refine sim_aload_n 1 rfl dX11_init_256 ?_
  refine sim_getR (q := 95) g_RX11_44 (by decide +kernel) (by decide +kernel) dX11_init_257 ?_
  refine sim_iload_n 0 rfl dX11_init_260 ?_
  refine cs_new jc_7 df_7 w_314 w_194 w_5 sh_151 (by decide +kernel) dX11_init_261 ?_
  refine sim_dup rfl dX11_init_264 ?_
  refine sim_aload_n 1 rfl dX11_init_265 ?_
  refine sim_getR (q := 3) g_RX11_29 (by decide +kernel) (by decide +kernel) dX11_init_266 ?_
  refine sim_getR (q := 4) g_RX11_54 (by decide +kernel) (by decide +kernel) dX11_init_269 ?_
  refine sim_ctor (Sh1 := shp 158) (ρ1 := rst 180) (σ1 := sst 33) l_RX11_58 w_196 rfl rD_nx rfl ⟨by decide, by decide⟩ (Nat.le_of_ble_eq_true rfl) dX11_init_272 kc_32 (ctor_of (show ctorB 152 158 [(1, vI 4), (0, vR 0)] [vR 151, vI 4, vR 95] _ _ = true by decide +kernel)) (as := [vR 4]) (S := [vR 151, vI 4, vR 95]) rfl ?_
  refine cs_aastore (n := 8) (j := 4) (by decide +kernel) rfl (by decide) (by decide +kernel) (by decide +kernel) dX11_init_275 ?_
  refine cs_iinc (z := 5) (by decide +kernel) 0 rfl [(1, vI 5), (0, vR 0)] rfl (by decide) dX11_init_276 ?_
  refine sim_goto (tgt := 250) dX11_init_279 (by decide) ?_
  refine sim_iload_n 0 rfl dX11_init_250 ?_
  refine sim_bipush dX11_init_251 (by decide +kernel) ?_
  refine cs_icmp_f (tgt := 282) (by decide) dX11_init_253 (by decide) ?_
  refine sim_aload_n 1 rfl dX11_init_256 ?_
  refine sim_getR (q := 95) g_RX11_44 (by decide +kernel) (by decide +kernel) dX11_init_257 ?_
  refine sim_iload_n 0 rfl dX11_init_260 ?_
  refine cs_new jc_7 df_7 w_314 w_194 w_5 sh_158 (by decide +kernel) dX11_init_261 ?_
  refine sim_dup rfl dX11_init_264 ?_
  refine sim_aload_n 1 rfl dX11_init_265 ?_
  refine sim_getR (q := 3) g_RX11_29 (by decide +kernel) (by decide +kernel) dX11_init_266 ?_
  refine sim_getR (q := 4) g_RX11_54 (by decide +kernel) (by decide +kernel) dX11_init_269 ?_
  refine sim_ctor (Sh1 := shp 165) (ρ1 := rst 188) (σ1 := sst 33) l_RX11_58 w_196 rfl rD_nx rfl ⟨by decide, by decide⟩ (Nat.le_of_ble_eq_true rfl) dX11_init_272 kc_33 (ctor_of (show ctorB 159 165 [(1, vI 5), (0, vR 0)] [vR 158, vI 5, vR 95] _ _ = true by decide +kernel)) (as := [vR 4]) (S := [vR 158, vI 5, vR 95]) rfl ?_
  refine cs_aastore (n := 8) (j := 5) (by decide +kernel) rfl (by decide) (by decide +kernel) (by decide +kernel) dX11_init_275 ?_
  refine cs_iinc (z := 6) (by decide +kernel) 0 rfl [(1, vI 6), (0, vR 0)] rfl (by decide) dX11_init_276 ?_
  refine sim_goto (tgt := 250) dX11_init_279 (by decide) ?_
  refine sim_iload_n 0 rfl dX11_init_250 ?_
  refine sim_bipush dX11_init_251 (by decide +kernel) ?_
  refine cs_icmp_f (tgt := 282) (by decide) dX11_init_253 (by decide) ?_
  refine sim_aload_n 1 rfl dX11_init_256 ?_
  refine sim_getR (q := 95) g_RX11_44 (by decide +kernel) (by decide +kernel) dX11_init_257 ?_
  refine sim_iload_n 0 rfl dX11_init_260 ?_
  refine cs_new jc_7 df_7 w_314 w_194 w_5 sh_165 (by decide +kernel) dX11_init_261 ?_
  refine sim_dup rfl dX11_init_264 ?_
  refine sim_aload_n 1 rfl dX11_init_265 ?_
  refine sim_getR (q := 3) g_RX11_29 (by decide +kernel) (by decide +kernel) dX11_init_266 ?_
  refine sim_getR (q := 4) g_RX11_54 (by decide +kernel) (by decide +kernel) dX11_init_269 ?_
  refine sim_ctor (Sh1 := shp 172) (ρ1 := rst 196) (σ1 := sst 33) l_RX11_58 w_196 rfl rD_nx rfl ⟨by decide, by decide⟩ (Nat.le_of_ble_eq_true rfl) dX11_init_272 kc_34 (ctor_of (show ctorB 166 172 [(1, vI 6), (0, vR 0)] [vR 165, vI 6, vR 95] _ _ = true by decide +kernel)) (as := [vR 4]) (S := [vR 165, vI 6, vR 95]) rfl ?_
  refine cs_aastore (n := 8) (j := 6) (by decide +kernel) rfl (by decide) (by decide +kernel) (by decide +kernel) dX11_init_275 ?_
  refine cs_iinc (z := 7) (by decide +kernel) 0 rfl [(1, vI 7), (0, vR 0)] rfl (by decide) dX11_init_276 ?_
  refine sim_goto (tgt := 250) dX11_init_279 (by decide) ?_
  refine sim_iload_n 0 rfl dX11_init_250 ?_
  refine sim_bipush dX11_init_251 (by decide +kernel) ?_
  refine cs_icmp_f (tgt := 282) (by decide) dX11_init_253 (by decide) ?_
  refine sim_aload_n 1 rfl dX11_init_256 ?_
  refine sim_getR (q := 95) g_RX11_44 (by decide +kernel) (by decide +kernel) dX11_init_257 ?_
  refine sim_iload_n 0 rfl dX11_init_260 ?_
  refine cs_new jc_7 df_7 w_314 w_194 w_5 sh_172 (by decide +kernel) dX11_init_261 ?_
  refine sim_dup rfl dX11_init_264 ?_
  refine sim_aload_n 1 rfl dX11_init_265 ?_
  refine sim_getR (q := 3) g_RX11_29 (by decide +kernel) (by decide +kernel) dX11_init_266 ?_
  refine sim_getR (q := 4) g_RX11_54 (by decide +kernel) (by decide +kernel) dX11_init_269 ?_
  refine sim_ctor (Sh1 := shp 179) (ρ1 := rst 204) (σ1 := sst 33) l_RX11_58 w_196 rfl rD_nx rfl ⟨by decide, by decide⟩ (Nat.le_of_ble_eq_true rfl) dX11_init_272 kc_35 (ctor_of (show ctorB 173 179 [(1, vI 7), (0, vR 0)] [vR 172, vI 7, vR 95] _ _ = true by decide +kernel)) (as := [vR 4]) (S := [vR 172, vI 7, vR 95]) rfl ?_
  refine cs_aastore (n := 8) (j := 7) (by decide +kernel) rfl (by decide) (by decide +kernel) (by decide +kernel) dX11_init_275 ?_
  refine cs_iinc (z := 8) (by decide +kernel) 0 rfl [(1, vI 8), (0, vR 0)] rfl (by decide) dX11_init_276 ?_
  refine sim_goto (tgt := 250) dX11_init_279 (by decide) ?_
  refine sim_iload_n 0 rfl dX11_init_250 ?_
  refine sim_bipush dX11_init_251 (by decide +kernel) ?_
  refine cs_icmp_t (tgt := 282) (by decide) dX11_init_253 (by decide) ?_
  exact sim_dret rfl dX11_init_282
set_option maxRecDepth 20000 in
set_option maxHeartbeats 4000000 in
theorem kc_37 : DCall yX12_init cX12_init 1 1 (shp 180) (rst 205) [vR 179] (sst 33) (shp 203) (rst 228) (sst 37) := by
  refine dcall_of_sim (by decide +kernel) rfl (Nat.le_of_ble_eq_true rfl) ⟨by decide +kernel, by decide +kernel⟩ ?_
  show GC RX12 cX12_init 1 1 180 205 33 0 [(0, vR 179)] [] _ _ 203 228 37
  refine sim_aload_n 0 rfl dX12_init_0 ?_
  refine sim_objInit w_1480 w_33 w_34 (by decide) (Nat.le_of_ble_eq_true rfl) dX12_init_1 ?_
  refine sim_aload_n 0 rfl dX12_init_4 ?_
  refine sim_sipush dX12_init_5 (by decide +kernel) ?_
  refine cs_newarr0 (n := 940) rfl (by decide) w_192 sh_180 (by decide +kernel) dX12_init_8 ?_
  refine cs_putR jc_12 g_RX12_7 rfl (by decide) (fun _ => ⟨rfl, rfl⟩) (by decide +kernel) (by decide +kernel) dX12_init_10 ?_
  refine sim_aload_n 0 rfl dX12_init_13 ?_
  refine sim_sipush dX12_init_14 (by decide +kernel) ?_
  refine cs_newarr0 (n := 448) rfl (by decide) w_192 sh_181 (by decide +kernel) dX12_init_17 ?_
  refine cs_putR jc_12 g_RX12_13 rfl (by decide) (fun _ => ⟨rfl, rfl⟩) (by decide +kernel) (by decide +kernel) dX12_init_19 ?_
  refine sim_aload_n 0 rfl dX12_init_22 ?_
  refine sim_sipush dX12_init_23 (by decide +kernel) ?_
  refine cs_newarr0 (n := 192) rfl (by decide) w_192 sh_182 (by decide +kernel) dX12_init_26 ?_
  refine cs_putR jc_12 g_RX12_16 rfl (by decide) (fun _ => ⟨rfl, rfl⟩) (by decide +kernel) (by decide +kernel) dX12_init_28 ?_
  refine sim_aload_n 0 rfl dX12_init_31 ?_
  refine sim_sipush dX12_init_32 (by decide +kernel) ?_
  refine cs_newarr0 (n := 896) rfl (by decide) w_192 sh_183 (by decide +kernel) dX12_init_35 ?_
  refine cs_putR jc_12 g_RX12_19 rfl (by decide) (fun _ => ⟨rfl, rfl⟩) (by decide +kernel) (by decide +kernel) dX12_init_37 ?_
  refine sim_aload_n 0 rfl dX12_init_40 ?_
  refine sim_sipush dX12_init_41 (by decide +kernel) ?_
  refine cs_newarr0 (n := 1000) rfl (by decide) w_192 sh_184 (by decide +kernel) dX12_init_44 ?_
  refine cs_putR jc_12 g_RX12_22 rfl (by decide) (fun _ => ⟨rfl, rfl⟩) (by decide +kernel) (by decide +kernel) dX12_init_46 ?_
  refine sim_aload_n 0 rfl dX12_init_49 ?_
  refine sim_bipush dX12_init_50 (by decide +kernel) ?_
  refine cs_newarr2 (n := 6) rfl (by decide) w_191 sh_185 (by decide +kernel) dX12_init_52 ?_
  refine cs_putR jc_12 g_RX12_25 rfl (by decide) (fun _ => ⟨rfl, rfl⟩) (by decide +kernel) (by decide +kernel) dX12_init_54 ?_
  refine sim_aload_n 0 rfl dX12_init_57 ?_
  refine sim_bipush dX12_init_58 (by decide +kernel) ?_
  refine cs_newarr2 (n := 6) rfl (by decide) w_191 sh_186 (by decide +kernel) dX12_init_60 ?_
  refine cs_putR jc_12 g_RX12_29 rfl (by decide) (fun _ => ⟨rfl, rfl⟩) (by decide +kernel) (by decide +kernel) dX12_init_62 ?_
  refine sim_aload_n 0 rfl dX12_init_65 ?_
  refine sim_bipush dX12_init_66 (by decide +kernel) ?_
  refine cs_newarr2 (n := 12) rfl (by decide) w_191 sh_187 (by decide +kernel) dX12_init_68 ?_
  refine cs_putR jc_12 g_RX12_32 rfl (by decide) (fun _ => ⟨rfl, rfl⟩) (by decide +kernel) (by decide +kernel) dX12_init_70 ?_
  refine sim_aload_n 0 rfl dX12_init_73 ?_
  refine sim_iconst dX12_init_74 (by decide) ?_
  refine cs_newarr3 (n := 2) rfl (by decide) w_1640 sh_188 (by decide +kernel) dX12_init_75 ?_
  refine cs_putR jc_12 g_RX12_35 rfl (by decide) (fun _ => ⟨rfl, rfl⟩) (by decide +kernel) (by decide +kernel) dX12_init_77 ?_
  refine sim_aload_n 0 rfl dX12_init_80 ?_
  refine sim_bipush dX12_init_81 (by decide +kernel) ?_
  refine cs_newarr0 (n := 28) rfl (by decide) w_192 sh_189 (by decide +kernel) dX12_init_83 ?_
  refine cs_putR jc_12 g_RX12_39 rfl (by decide) (fun _ => ⟨rfl, rfl⟩) (by decide +kernel) (by decide +kernel) dX12_init_85 ?_
  refine sim_aload_n 0 rfl dX12_init_88 ?_
  refine sim_sipush dX12_init_89 (by decide +kernel) ?_
  refine cs_newarr0 (n := 28672) rfl (by decide) w_192 sh_190 (by decide +kernel) dX12_init_92 ?_
  refine cs_putR jc_12 g_RX12_42 rfl (by decide) (fun _ => ⟨rfl, rfl⟩) (by decide +kernel) (by decide +kernel) dX12_init_94 ?_
  refine sim_aload_n 0 rfl dX12_init_97 ?_
  refine sim_bipush dX12_init_98 (by decide +kernel) ?_
  refine cs_newarr0 (n := 12) rfl (by decide) w_192 sh_191 (by decide +kernel) dX12_init_100 ?_
  refine cs_putR jc_12 g_RX12_45 rfl (by decide) (fun _ => ⟨rfl, rfl⟩) (by decide +kernel) (by decide +kernel) dX12_init_102 ?_
  refine sim_aload_n 0 rfl dX12_init_105 ?_
  refine sim_sipush dX12_init_106 (by decide +kernel) ?_
  refine cs_newarr0 (n := 28672) rfl (by decide) w_192 sh_192 (by decide +kernel) dX12_init_109 ?_
  refine cs_putR jc_12 g_RX12_48 rfl (by decide) (fun _ => ⟨rfl, rfl⟩) (by decide +kernel) (by decide +kernel) dX12_init_111 ?_
  refine sim_aload_n 0 rfl dX12_init_114 ?_
  refine sim_ldc (v := 495616) w_1481 (by decide +kernel) dX12_init_115 ?_
  refine cs_newarr0 (n := 495616) rfl (by decide) w_192 sh_193 (by decide +kernel) dX12_init_117 ?_
  refine cs_putR jc_12 g_RX12_52 rfl (by decide) (fun _ => ⟨rfl, rfl⟩) (by decide +kernel) (by decide +kernel) dX12_init_119 ?_
  refine sim_aload_n 0 rfl dX12_init_122 ?_
  refine sim_bipush dX12_init_123 (by decide +kernel) ?_
  refine cs_newarr0 (n := 10) rfl (by decide) w_192 sh_194 (by decide +kernel) dX12_init_125 ?_
  refine cs_putR jc_12 g_RX12_55 rfl (by decide) (fun _ => ⟨rfl, rfl⟩) (by decide +kernel) (by decide +kernel) dX12_init_127 ?_
  refine sim_aload_n 0 rfl dX12_init_130 ?_
  refine sim_iconst dX12_init_131 (by decide) ?_
  refine cs_putI g_RX12_58 (by decide +kernel) (by decide +kernel) dX12_init_132 ?_
  refine sim_aload_n 0 rfl dX12_init_135 ?_
  refine sim_bipush dX12_init_136 (by decide +kernel) ?_
  refine cs_newarr0 (n := 125) rfl (by decide) w_192 sh_195 (by decide +kernel) dX12_init_138 ?_
  refine cs_putR jc_12 g_RX12_62 rfl (by decide) (fun _ => ⟨rfl, rfl⟩) (by decide +kernel) (by decide +kernel) dX12_init_140 ?_
  refine sim_aload_n 0 rfl dX12_init_143 ?_
  refine sim_bipush dX12_init_144 (by decide +kernel) ?_
  refine cs_newarr0 (n := 120) rfl (by decide) w_192 sh_196 (by decide +kernel) dX12_init_146 ?_
  refine cs_putR jc_12 g_RX12_65 rfl (by decide) (fun _ => ⟨rfl, rfl⟩) (by decide +kernel) (by decide +kernel) dX12_init_148 ?_
  refine sim_aload_n 0 rfl dX12_init_151 ?_
  refine sim_bipush dX12_init_152 (by decide +kernel) ?_
  refine cs_newarr0 (n := 14) rfl (by decide) w_192 sh_197 (by decide +kernel) dX12_init_154 ?_
  refine cs_putR jc_12 g_RX12_68 rfl (by decide) (fun _ => ⟨rfl, rfl⟩) (by decide +kernel) (by decide +kernel) dX12_init_156 ?_
  refine sim_aload_n 0 rfl dX12_init_159 ?_
  refine sim_ldc (v := 32768) w_1482 (by decide +kernel) dX12_init_160 ?_
  refine cs_newarr2 (n := 32768) rfl (by decide) w_191 sh_198 (by decide +kernel) dX12_init_162 ?_
  refine cs_putR jc_12 g_RX12_72 rfl (by decide) (fun _ => ⟨rfl, rfl⟩) (by decide +kernel) (by decide +kernel) dX12_init_164 ?_
  refine sim_aload_n 0 rfl dX12_init_167 ?_
  refine sim_ldc (v := 32768) w_1482 (by decide +kernel) dX12_init_168 ?_
  refine cs_newarr2 (n := 32768) rfl (by decide) w_191 sh_199 (by decide +kernel) dX12_init_170 ?_
  refine cs_putR jc_12 g_RX12_75 rfl (by decide) (fun _ => ⟨rfl, rfl⟩) (by decide +kernel) (by decide +kernel) dX12_init_172 ?_
  refine sim_aload_n 0 rfl dX12_init_175 ?_
  refine sim_bipush dX12_init_176 (by decide +kernel) ?_
  refine cs_newarr0 (n := 7) rfl (by decide) w_192 sh_200 (by decide +kernel) dX12_init_178 ?_
  refine cs_putR jc_12 g_RX12_78 rfl (by decide) (fun _ => ⟨rfl, rfl⟩) (by decide +kernel) (by decide +kernel) dX12_init_180 ?_
  refine sim_aload_n 0 rfl dX12_init_183 ?_
  refine sim_iconst dX12_init_184 (by decide) ?_
  refine cs_newarr0 (n := 3) rfl (by decide) w_192 sh_201 (by decide +kernel) dX12_init_185 ?_
  refine sim_dup rfl dX12_init_187 ?_
  refine sim_iconst dX12_init_188 (by decide) ?_
  refine sim_iconst dX12_init_189 (by decide) ?_
  refine cs_iastore (n := 3) (j := 0) (by decide +kernel) rfl (by decide) (by decide +kernel) dX12_init_190 ?_
  refine sim_dup rfl dX12_init_191 ?_
  refine sim_iconst dX12_init_192 (by decide) ?_
  refine sim_iconst dX12_init_193 (by decide) ?_
  refine cs_iastore (n := 3) (j := 1) (by decide +kernel) rfl (by decide) (by decide +kernel) dX12_init_194 ?_
  refine sim_dup rfl dX12_init_195 ?_
  refine sim_iconst dX12_init_196 (by decide) ?_
  refine sim_iconst dX12_init_197 (by decide) ?_
  refine cs_iastore (n := 3) (j := 2) (by decide +kernel) rfl (by decide) (by decide +kernel) dX12_init_198 ?_
  refine cs_putR jc_12 g_RX12_81 rfl (by decide) (fun _ => ⟨rfl, rfl⟩) (by decide +kernel) (by decide +kernel) dX12_init_199 ?_
  refine sim_aload_n 0 rfl dX12_init_202 ?_
  refine sim_sipush dX12_init_203 (by decide +kernel) ?_
  refine cs_newarr0 (n := 240) rfl (by decide) w_192 sh_202 (by decide +kernel) dX12_init_206 ?_
  refine cs_putR jc_12 g_RX12_84 rfl (by decide) (fun _ => ⟨rfl, rfl⟩) (by decide +kernel) (by decide +kernel) dX12_init_208 ?_
  exact sim_dret rfl dX12_init_211
