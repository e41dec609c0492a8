theorem dX7_copyFrom_0 : decode cX7_copyFrom 0 = .ok (.aload_n 0, 1) := by decide +kernel
theorem dX7_copyFrom_1 : decode cX7_copyFrom 1 = .ok (.aload_n 1, 1) := by decide +kernel
theorem dX7_copyFrom_2 : decode cX7_copyFrom 2 = .ok (.getfield 21, 3) := by decide +kernel
theorem dX7_copyFrom_5 : decode cX7_copyFrom 5 = .ok (.putfield 21, 3) := by decide +kernel
theorem dX7_copyFrom_8 : decode cX7_copyFrom 8 = .ok (.aload_n 1, 1) := by decide +kernel
theorem dX7_copyFrom_9 : decode cX7_copyFrom 9 = .ok (.getfield 9, 3) := by decide +kernel
theorem dX7_copyFrom_12 : decode cX7_copyFrom 12 = .ok (.iconst 0, 1) := by decide +kernel
theorem dX7_copyFrom_13 : decode cX7_copyFrom 13 = .ok (.aload_n 0, 1) := by decide +kernel
theorem dX7_copyFrom_14 : decode cX7_copyFrom 14 = .ok (.getfield 9, 3) := by decide +kernel
theorem dX7_copyFrom_17 : decode cX7_copyFrom 17 = .ok (.iconst 0, 1) := by decide +kernel
theorem dX7_copyFrom_18 : decode cX7_copyFrom 18 = .ok (.bipush 28, 2) := by decide +kernel
theorem dX7_copyFrom_20 : decode cX7_copyFrom 20 = .ok (.invokestatic 49, 3) := by decide +kernel
theorem dX7_copyFrom_23 : decode cX7_copyFrom 23 = .ok (.aload_n 1, 1) := by decide +kernel
theorem dX7_copyFrom_24 : decode cX7_copyFrom 24 = .ok (.getfield 15, 3) := by decide +kernel
theorem dX7_copyFrom_27 : decode cX7_copyFrom 27 = .ok (.iconst 0, 1) := by decide +kernel
theorem dX7_copyFrom_28 : decode cX7_copyFrom 28 = .ok (.aload_n 0, 1) := by decide +kernel
theorem dX7_copyFrom_29 : decode cX7_copyFrom 29 = .ok (.getfield 15, 3) := by decide +kernel
theorem dX7_copyFrom_32 : decode cX7_copyFrom 32 = .ok (.iconst 0, 1) := by decide +kernel
theorem dX7_copyFrom_33 : decode cX7_copyFrom 33 = .ok (.bipush 28, 2) := by decide +kernel
theorem dX7_copyFrom_35 : decode cX7_copyFrom 35 = .ok (.invokestatic 49, 3) := by decide +kernel
theorem dX7_copyFrom_38 : decode cX7_copyFrom 38 = .ok (.aload_n 1, 1) := by decide +kernel
theorem dX7_copyFrom_39 : decode cX7_copyFrom 39 = .ok (.getfield 18, 3) := by decide +kernel
theorem dX7_copyFrom_42 : decode cX7_copyFrom 42 = .ok (.iconst 0, 1) := by decide +kernel
theorem dX7_copyFrom_43 : decode cX7_copyFrom 43 = .ok (.aload_n 0, 1) := by decide +kernel
theorem dX7_copyFrom_44 : decode cX7_copyFrom 44 = .ok (.getfield 18, 3) := by decide +kernel
theorem dX7_copyFrom_47 : decode cX7_copyFrom 47 = .ok (.iconst 0, 1) := by decide +kernel
theorem dX7_copyFrom_48 : decode cX7_copyFrom 48 = .ok (.bipush 28, 2) := by decide +kernel
theorem dX7_copyFrom_50 : decode cX7_copyFrom 50 = .ok (.invokestatic 49, 3) := by decide +kernel
theorem dX7_copyFrom_53 : decode cX7_copyFrom 53 = .ok (.aload_n 1, 1) := by decide +kernel
theorem dX7_copyFrom_54 : decode cX7_copyFrom 54 = .ok (.getfield 25, 3) := by decide +kernel
theorem dX7_copyFrom_57 : decode cX7_copyFrom 57 = .ok (.iconst 0, 1) := by decide +kernel
theorem dX7_copyFrom_58 : decode cX7_copyFrom 58 = .ok (.aload_n 0, 1) := by decide +kernel
theorem dX7_copyFrom_59 : decode cX7_copyFrom 59 = .ok (.getfield 25, 3) := by decide +kernel
theorem dX7_copyFrom_62 : decode cX7_copyFrom 62 = .ok (.iconst 0, 1) := by decide +kernel
theorem dX7_copyFrom_63 : decode cX7_copyFrom 63 = .ok (.bipush 28, 2) := by decide +kernel
theorem dX7_copyFrom_65 : decode cX7_copyFrom 65 = .ok (.invokestatic 49, 3) := by decide +kernel
theorem dX7_copyFrom_68 : decode cX7_copyFrom 68 = .ok (.aload_n 1, 1) := by decide +kernel
theorem dX7_copyFrom_69 : decode cX7_copyFrom 69 = .ok (.getfield 28, 3) := by decide +kernel
theorem dX7_copyFrom_72 : decode cX7_copyFrom 72 = .ok (.iconst 0, 1) := by decide +kernel
theorem dX7_copyFrom_73 : decode cX7_copyFrom 73 = .ok (.aload_n 0, 1) := by decide +kernel
theorem dX7_copyFrom_74 : decode cX7_copyFrom 74 = .ok (.getfield 28, 3) := by decide +kernel
theorem dX7_copyFrom_77 : decode cX7_copyFrom 77 = .ok (.iconst 0, 1) := by decide +kernel
theorem dX7_copyFrom_78 : decode cX7_copyFrom 78 = .ok (.bipush 6, 2) := by decide +kernel
theorem dX7_copyFrom_80 : decode cX7_copyFrom 80 = .ok (.invokestatic 49, 3) := by decide +kernel
theorem dX7_copyFrom_83 : decode cX7_copyFrom 83 = .ok (.aload_n 1, 1) := by decide +kernel
theorem dX7_copyFrom_84 : decode cX7_copyFrom 84 = .ok (.getfield 31, 3) := by decide +kernel
theorem dX7_copyFrom_87 : decode cX7_copyFrom 87 = .ok (.iconst 0, 1) := by decide +kernel
theorem dX7_copyFrom_88 : decode cX7_copyFrom 88 = .ok (.aload_n 0, 1) := by decide +kernel
theorem dX7_copyFrom_89 : decode cX7_copyFrom 89 = .ok (.getfield 31, 3) := by decide +kernel
theorem dX7_copyFrom_92 : decode cX7_copyFrom 92 = .ok (.iconst 0, 1) := by decide +kernel
theorem dX7_copyFrom_93 : decode cX7_copyFrom 93 = .ok (.bipush 6, 2) := by decide +kernel
theorem dX7_copyFrom_95 : decode cX7_copyFrom 95 = .ok (.invokestatic 49, 3) := by decide +kernel
theorem dX7_copyFrom_98 : decode cX7_copyFrom 98 = .ok (.return_, 1) := by decide +kernel
def f_Row_copyFrom  (p : Nat) (ip : Nat) (q : Nat) (iq : Nat)  (σ : JSg) : Option (JSg) :=
  lt_ (sp σ p 4 (σ q 4)) fun s1 => lt_ (acp s1 (q + 1) 0 (p + 1) 0 28) fun s2 => lt_ (acp s2 (q + 2) 0 (p + 2) 0 28) fun s3 => lt_ (acp s3 (q + 3) 0 (p + 3) 0 28) fun s4 => lt_ (acp s4 (q + 4) 0 (p + 4) 0 28) fun s5 => lt_ (acp s5 (q + 5) 0 (p + 5) 0 6) fun s6 => lt_ (acp s6 (q + 6) 0 (p + 6) 0 6) fun s7 => some s7
set_option maxRecDepth 20000 in
set_option maxHeartbeats 4000000 in
theorem k_Row_copyFrom (Sh : JSh) (ρ : JRo)  (p : Nat) (ip : Nat) (q : Nat) (iq : Nat) (hp : LRow Sh ρ p ip) (hip : LIsl Sh ρ ip) (hq : LRow Sh ρ q iq) (hiq : LIsl Sh ρ iq)  (σ : JSg) : Call yX7_copyFrom cX7_copyFrom 2 none 1 Sh ρ [vR p, vR q] σ dVm (f_Row_copyFrom p ip q iq σ) := by
  refine call_of_sim (by decide +kernel) (Nat.le_of_ble_eq_true rfl) ?_
  show Sim RX7 cX7_copyFrom 2 none 1 Sh ρ 0 [(0, vR p), (1, vR q)] [] σ dVm (f_Row_copyFrom p ip q iq σ)
  unfold f_Row_copyFrom
  refine sim_aload_n 0 rfl dX7_copyFrom_0 ?_
  refine sim_aload_n 1 rfl dX7_copyFrom_1 ?_
  refine sim_getI g_RX7_21 (LRow_o hq) dX7_copyFrom_2 ?_
  refine sim_putI g_RX7_21 (LRow_o hp) dX7_copyFrom_5 (fun s1 => ?_)
  refine sim_aload_n 1 rfl dX7_copyFrom_8 ?_
  refine sim_getR g_RX7_9 (LRow_o hq) (LRow_r1 hq) dX7_copyFrom_9 ?_
  refine sim_iconst dX7_copyFrom_12 (by decide) ?_
  refine sim_aload_n 0 rfl dX7_copyFrom_13 ?_
  refine sim_getR g_RX7_9 (LRow_o hp) (LRow_r1 hp) dX7_copyFrom_14 ?_
  refine sim_iconst dX7_copyFrom_17 (by decide) ?_
  refine sim_bipush dX7_copyFrom_18 (by decide +kernel) ?_
  refine sim_acpIK (a := 0) (b := 0) (n := 28) (LRow_a1 hq) (LRow_a1 hp) rfl rfl rfl (by decide) w_789 w_783 w_782 w_21 (by decide) (Nat.le_of_ble_eq_true rfl) dX7_copyFrom_20 (fun s2 => ?_)
  refine sim_aload_n 1 rfl dX7_copyFrom_23 ?_
  refine sim_getR g_RX7_15 (LRow_o hq) (LRow_r2 hq) dX7_copyFrom_24 ?_
  refine sim_iconst dX7_copyFrom_27 (by decide) ?_
  refine sim_aload_n 0 rfl dX7_copyFrom_28 ?_
  refine sim_getR g_RX7_15 (LRow_o hp) (LRow_r2 hp) dX7_copyFrom_29 ?_
  refine sim_iconst dX7_copyFrom_32 (by decide) ?_
  refine sim_bipush dX7_copyFrom_33 (by decide +kernel) ?_
  refine sim_acpIK (a := 0) (b := 0) (n := 28) (LRow_a2 hq) (LRow_a2 hp) rfl rfl rfl (by decide) w_789 w_783 w_782 w_21 (by decide) (Nat.le_of_ble_eq_true rfl) dX7_copyFrom_35 (fun s3 => ?_)
  refine sim_aload_n 1 rfl dX7_copyFrom_38 ?_
  refine sim_getR g_RX7_18 (LRow_o hq) (LRow_r3 hq) dX7_copyFrom_39 ?_
  refine sim_iconst dX7_copyFrom_42 (by decide) ?_
  refine sim_aload_n 0 rfl dX7_copyFrom_43 ?_
  refine sim_getR g_RX7_18 (LRow_o hp) (LRow_r3 hp) dX7_copyFrom_44 ?_
  refine sim_iconst dX7_copyFrom_47 (by decide) ?_
  refine sim_bipush dX7_copyFrom_48 (by decide +kernel) ?_
  refine sim_acpIK (a := 0) (b := 0) (n := 28) (LRow_a3 hq) (LRow_a3 hp) rfl rfl rfl (by decide) w_789 w_783 w_782 w_21 (by decide) (Nat.le_of_ble_eq_true rfl) dX7_copyFrom_50 (fun s4 => ?_)
  refine sim_aload_n 1 rfl dX7_copyFrom_53 ?_
  refine sim_getR g_RX7_25 (LRow_o hq) (LRow_r5 hq) dX7_copyFrom_54 ?_
  refine sim_iconst dX7_copyFrom_57 (by decide) ?_
  refine sim_aload_n 0 rfl dX7_copyFrom_58 ?_
  refine sim_getR g_RX7_25 (LRow_o hp) (LRow_r5 hp) dX7_copyFrom_59 ?_
  refine sim_iconst dX7_copyFrom_62 (by decide) ?_
  refine sim_bipush dX7_copyFrom_63 (by decide +kernel) ?_
  refine sim_acpIK (a := 0) (b := 0) (n := 28) (LRow_a5 hq) (LRow_a5 hp) rfl rfl rfl (by decide) w_789 w_783 w_782 w_21 (by decide) (Nat.le_of_ble_eq_true rfl) dX7_copyFrom_65 (fun s5 => ?_)
  refine sim_aload_n 1 rfl dX7_copyFrom_68 ?_
  refine sim_getR g_RX7_28 (LRow_o hq) (LRow_r6 hq) dX7_copyFrom_69 ?_
  refine sim_iconst dX7_copyFrom_72 (by decide) ?_
  refine sim_aload_n 0 rfl dX7_copyFrom_73 ?_
  refine sim_getR g_RX7_28 (LRow_o hp) (LRow_r6 hp) dX7_copyFrom_74 ?_
  refine sim_iconst dX7_copyFrom_77 (by decide) ?_
  refine sim_bipush dX7_copyFrom_78 (by decide +kernel) ?_
  refine sim_acpIK (a := 0) (b := 0) (n := 6) (LRow_a6 hq) (LRow_a6 hp) rfl rfl rfl (by decide) w_789 w_783 w_782 w_21 (by decide) (Nat.le_of_ble_eq_true rfl) dX7_copyFrom_80 (fun s6 => ?_)
  refine sim_aload_n 1 rfl dX7_copyFrom_83 ?_
  refine sim_getR g_RX7_31 (LRow_o hq) (LRow_r7 hq) dX7_copyFrom_84 ?_
  refine sim_iconst dX7_copyFrom_87 (by decide) ?_
  refine sim_aload_n 0 rfl dX7_copyFrom_88 ?_
  refine sim_getR g_RX7_31 (LRow_o hp) (LRow_r7 hp) dX7_copyFrom_89 ?_
  refine sim_iconst dX7_copyFrom_92 (by decide) ?_
  refine sim_bipush dX7_copyFrom_93 (by decide +kernel) ?_
  refine sim_acpIK (a := 0) (b := 0) (n := 6) (LRow_a7 hq) (LRow_a7 hp) rfl rfl rfl (by decide) w_789 w_783 w_782 w_21 (by decide) (Nat.le_of_ble_eq_true rfl) dX7_copyFrom_95 (fun s7 => ?_)
  exact sim_vret rfl rfl dX7_copyFrom_98
theorem dX5_copyFrom_0 : decode cX5_copyFrom 0 = .ok (.aload_n 0, 1) := by decide +kernel
theorem dX5_copyFrom_1 : decode cX5_copyFrom 1 = .ok (.aload_n 1, 1) := by decide +kernel
theorem dX5_copyFrom_2 : decode cX5_copyFrom 2 = .ok (.getfield 11, 3) := by decide +kernel
theorem dX5_copyFrom_5 : decode cX5_copyFrom 5 = .ok (.putfield 11, 3) := by decide +kernel
theorem dX5_copyFrom_8 : decode cX5_copyFrom 8 = .ok (.aload_n 0, 1) := by decide +kernel
theorem dX5_copyFrom_9 : decode cX5_copyFrom 9 = .ok (.aload_n 1, 1) := by decide +kernel
theorem dX5_copyFrom_10 : decode cX5_copyFrom 10 = .ok (.getfield 15, 3) := by decide +kernel
theorem dX5_copyFrom_13 : decode cX5_copyFrom 13 = .ok (.putfield 15, 3) := by decide +kernel
theorem dX5_copyFrom_16 : decode cX5_copyFrom 16 = .ok (.aload_n 0, 1) := by decide +kernel
theorem dX5_copyFrom_17 : decode cX5_copyFrom 17 = .ok (.aload_n 1, 1) := by decide +kernel
theorem dX5_copyFrom_18 : decode cX5_copyFrom 18 = .ok (.getfield 22, 3) := by decide +kernel
theorem dX5_copyFrom_21 : decode cX5_copyFrom 21 = .ok (.putfield 22, 3) := by decide +kernel
theorem dX5_copyFrom_24 : decode cX5_copyFrom 24 = .ok (.aload_n 1, 1) := by decide +kernel
theorem dX5_copyFrom_25 : decode cX5_copyFrom 25 = .ok (.getfield 18, 3) := by decide +kernel
theorem dX5_copyFrom_28 : decode cX5_copyFrom 28 = .ok (.iconst 0, 1) := by decide +kernel
theorem dX5_copyFrom_29 : decode cX5_copyFrom 29 = .ok (.aload_n 0, 1) := by decide +kernel
theorem dX5_copyFrom_30 : decode cX5_copyFrom 30 = .ok (.getfield 18, 3) := by decide +kernel
theorem dX5_copyFrom_33 : decode cX5_copyFrom 33 = .ok (.iconst 0, 1) := by decide +kernel
theorem dX5_copyFrom_34 : decode cX5_copyFrom 34 = .ok (.bipush 6, 2) := by decide +kernel
theorem dX5_copyFrom_36 : decode cX5_copyFrom 36 = .ok (.invokestatic 34, 3) := by decide +kernel
theorem dX5_copyFrom_39 : decode cX5_copyFrom 39 = .ok (.aload_n 1, 1) := by decide +kernel
theorem dX5_copyFrom_40 : decode cX5_copyFrom 40 = .ok (.getfield 25, 3) := by decide +kernel
theorem dX5_copyFrom_43 : decode cX5_copyFrom 43 = .ok (.iconst 0, 1) := by decide +kernel
theorem dX5_copyFrom_44 : decode cX5_copyFrom 44 = .ok (.aload_n 0, 1) := by decide +kernel
theorem dX5_copyFrom_45 : decode cX5_copyFrom 45 = .ok (.getfield 25, 3) := by decide +kernel
theorem dX5_copyFrom_48 : decode cX5_copyFrom 48 = .ok (.iconst 0, 1) := by decide +kernel
theorem dX5_copyFrom_49 : decode cX5_copyFrom 49 = .ok (.bipush 6, 2) := by decide +kernel
theorem dX5_copyFrom_51 : decode cX5_copyFrom 51 = .ok (.invokestatic 34, 3) := by decide +kernel
theorem dX5_copyFrom_54 : decode cX5_copyFrom 54 = .ok (.return_, 1) := by decide +kernel
def f_Mem_copyFrom  (p : Nat) (q : Nat)  (σ : JSg) : Option (JSg) :=
  lt_ (sp σ p 0 (σ q 0)) fun s1 => lt_ (sp s1 p 1 (s1 q 1)) fun s2 => lt_ (sp s2 p 3 (s2 q 3)) fun s3 => lt_ (acp s3 (q + 1) 0 (p + 1) 0 6) fun s4 => lt_ (acp s4 (q + 2) 0 (p + 2) 0 6) fun s5 => some s5
set_option maxRecDepth 20000 in
set_option maxHeartbeats 4000000 in
theorem k_Mem_copyFrom (Sh : JSh) (ρ : JRo)  (p : Nat) (q : Nat) (hp : LMem Sh ρ p) (hq : LMem Sh ρ q)  (σ : JSg) : Call yX5_copyFrom cX5_copyFrom 2 none 1 Sh ρ [vR p, vR q] σ dVm (f_Mem_copyFrom p q σ) := by
  refine call_of_sim (by decide +kernel) (Nat.le_of_ble_eq_true rfl) ?_
  show Sim RX5 cX5_copyFrom 2 none 1 Sh ρ 0 [(0, vR p), (1, vR q)] [] σ dVm (f_Mem_copyFrom p q σ)
  unfold f_Mem_copyFrom
  refine sim_aload_n 0 rfl dX5_copyFrom_0 ?_
  refine sim_aload_n 1 rfl dX5_copyFrom_1 ?_
  refine sim_getI g_RX5_11 (LMem_o hq) dX5_copyFrom_2 ?_
  refine sim_putI g_RX5_11 (LMem_o hp) dX5_copyFrom_5 (fun s1 => ?_)
  refine sim_aload_n 0 rfl dX5_copyFrom_8 ?_
  refine sim_aload_n 1 rfl dX5_copyFrom_9 ?_
  refine sim_getI g_RX5_15 (LMem_o hq) dX5_copyFrom_10 ?_
  refine sim_putI g_RX5_15 (LMem_o hp) dX5_copyFrom_13 (fun s2 => ?_)
  refine sim_aload_n 0 rfl dX5_copyFrom_16 ?_
  refine sim_aload_n 1 rfl dX5_copyFrom_17 ?_
  refine sim_getI g_RX5_22 (LMem_o hq) dX5_copyFrom_18 ?_
  refine sim_putI g_RX5_22 (LMem_o hp) dX5_copyFrom_21 (fun s3 => ?_)
  refine sim_aload_n 1 rfl dX5_copyFrom_24 ?_
  refine sim_getR g_RX5_18 (LMem_o hq) (LMem_r2 hq) dX5_copyFrom_25 ?_
  refine sim_iconst dX5_copyFrom_28 (by decide) ?_
  refine sim_aload_n 0 rfl dX5_copyFrom_29 ?_
  refine sim_getR g_RX5_18 (LMem_o hp) (LMem_r2 hp) dX5_copyFrom_30 ?_
  refine sim_iconst dX5_copyFrom_33 (by decide) ?_
  refine sim_bipush dX5_copyFrom_34 (by decide +kernel) ?_
  refine sim_acpIK (a := 0) (b := 0) (n := 6) (LMem_a2 hq) (LMem_a2 hp) rfl rfl rfl (by decide) w_1195 w_783 w_782 w_21 (by decide) (Nat.le_of_ble_eq_true rfl) dX5_copyFrom_36 (fun s4 => ?_)
  refine sim_aload_n 1 rfl dX5_copyFrom_39 ?_
  refine sim_getR g_RX5_25 (LMem_o hq) (LMem_r4 hq) dX5_copyFrom_40 ?_
  refine sim_iconst dX5_copyFrom_43 (by decide) ?_
  refine sim_aload_n 0 rfl dX5_copyFrom_44 ?_
  refine sim_getR g_RX5_25 (LMem_o hp) (LMem_r4 hp) dX5_copyFrom_45 ?_
  refine sim_iconst dX5_copyFrom_48 (by decide) ?_
  refine sim_bipush dX5_copyFrom_49 (by decide +kernel) ?_
  refine sim_acpIK (a := 0) (b := 0) (n := 6) (LMem_a4 hq) (LMem_a4 hp) rfl rfl rfl (by decide) w_1195 w_783 w_782 w_21 (by decide) (Nat.le_of_ble_eq_true rfl) dX5_copyFrom_51 (fun s5 => ?_)
  exact sim_vret rfl rfl dX5_copyFrom_54
theorem dX8_copyFrom_0 : decode cX8_copyFrom 0 = .ok (.aload_n 0, 1) := by decide +kernel
theorem dX8_copyFrom_1 : decode cX8_copyFrom 1 = .ok (.aload_n 1, 1) := by decide +kernel
theorem dX8_copyFrom_2 : decode cX8_copyFrom 2 = .ok (.getfield 11, 3) := by decide +kernel
theorem dX8_copyFrom_5 : decode cX8_copyFrom 5 = .ok (.putfield 11, 3) := by decide +kernel
theorem dX8_copyFrom_8 : decode cX8_copyFrom 8 = .ok (.aload_n 0, 1) := by decide +kernel
theorem dX8_copyFrom_9 : decode cX8_copyFrom 9 = .ok (.aload_n 1, 1) := by decide +kernel
theorem dX8_copyFrom_10 : decode cX8_copyFrom 10 = .ok (.getfield 15, 3) := by decide +kernel
theorem dX8_copyFrom_13 : decode cX8_copyFrom 13 = .ok (.putfield 15, 3) := by decide +kernel
theorem dX8_copyFrom_16 : decode cX8_copyFrom 16 = .ok (.aload_n 1, 1) := by decide +kernel
theorem dX8_copyFrom_17 : decode cX8_copyFrom 17 = .ok (.getfield 18, 3) := by decide +kernel
theorem dX8_copyFrom_20 : decode cX8_copyFrom 20 = .ok (.iconst 0, 1) := by decide +kernel
theorem dX8_copyFrom_21 : decode cX8_copyFrom 21 = .ok (.aload_n 0, 1) := by decide +kernel
theorem dX8_copyFrom_22 : decode cX8_copyFrom 22 = .ok (.getfield 18, 3) := by decide +kernel
theorem dX8_copyFrom_25 : decode cX8_copyFrom 25 = .ok (.iconst 0, 1) := by decide +kernel
theorem dX8_copyFrom_26 : decode cX8_copyFrom 26 = .ok (.bipush 40, 2) := by decide +kernel
theorem dX8_copyFrom_28 : decode cX8_copyFrom 28 = .ok (.invokestatic 31, 3) := by decide +kernel
theorem dX8_copyFrom_31 : decode cX8_copyFrom 31 = .ok (.aload_n 1, 1) := by decide +kernel
theorem dX8_copyFrom_32 : decode cX8_copyFrom 32 = .ok (.getfield 22, 3) := by decide +kernel
theorem dX8_copyFrom_35 : decode cX8_copyFrom 35 = .ok (.iconst 0, 1) := by decide +kernel
theorem dX8_copyFrom_36 : decode cX8_copyFrom 36 = .ok (.aload_n 0, 1) := by decide +kernel
theorem dX8_copyFrom_37 : decode cX8_copyFrom 37 = .ok (.getfield 22, 3) := by decide +kernel
theorem dX8_copyFrom_40 : decode cX8_copyFrom 40 = .ok (.iconst 0, 1) := by decide +kernel
theorem dX8_copyFrom_41 : decode cX8_copyFrom 41 = .ok (.bipush 40, 2) := by decide +kernel
theorem dX8_copyFrom_43 : decode cX8_copyFrom 43 = .ok (.invokestatic 31, 3) := by decide +kernel
theorem dX8_copyFrom_46 : decode cX8_copyFrom 46 = .ok (.aload_n 1, 1) := by decide +kernel
theorem dX8_copyFrom_47 : decode cX8_copyFrom 47 = .ok (.getfield 25, 3) := by decide +kernel
theorem dX8_copyFrom_50 : decode cX8_copyFrom 50 = .ok (.iconst 0, 1) := by decide +kernel
theorem dX8_copyFrom_51 : decode cX8_copyFrom 51 = .ok (.aload_n 0, 1) := by decide +kernel
theorem dX8_copyFrom_52 : decode cX8_copyFrom 52 = .ok (.getfield 25, 3) := by decide +kernel
theorem dX8_copyFrom_55 : decode cX8_copyFrom 55 = .ok (.iconst 0, 1) := by decide +kernel
theorem dX8_copyFrom_56 : decode cX8_copyFrom 56 = .ok (.bipush 40, 2) := by decide +kernel
theorem dX8_copyFrom_58 : decode cX8_copyFrom 58 = .ok (.invokestatic 31, 3) := by decide +kernel
theorem dX8_copyFrom_61 : decode cX8_copyFrom 61 = .ok (.return_, 1) := by decide +kernel
def f_Sen_copyFrom  (p : Nat) (q : Nat)  (σ : JSg) : Option (JSg) :=
  lt_ (sp σ p 0 (σ q 0)) fun s1 => lt_ (sp s1 p 1 (s1 q 1)) fun s2 => lt_ (acp s2 (q + 1) 0 (p + 1) 0 40) fun s3 => lt_ (acp s3 (q + 2) 0 (p + 2) 0 40) fun s4 => lt_ (acp s4 (q + 3) 0 (p + 3) 0 40) fun s5 => some s5
set_option maxRecDepth 20000 in
set_option maxHeartbeats 4000000 in
theorem k_Sen_copyFrom (Sh : JSh) (ρ : JRo)  (p : Nat) (q : Nat) (hp : LSen Sh ρ p) (hq : LSen Sh ρ q)  (σ : JSg) : Call yX8_copyFrom cX8_copyFrom 2 none 1 Sh ρ [vR p, vR q] σ dVm (f_Sen_copyFrom p q σ) := by
  refine call_of_sim (by decide +kernel) (Nat.le_of_ble_eq_true rfl) ?_
  show Sim RX8 cX8_copyFrom 2 none 1 Sh ρ 0 [(0, vR p), (1, vR q)] [] σ dVm (f_Sen_copyFrom p q σ)
  unfold f_Sen_copyFrom
  refine sim_aload_n 0 rfl dX8_copyFrom_0 ?_
  refine sim_aload_n 1 rfl dX8_copyFrom_1 ?_
  refine sim_getI g_RX8_11 (LSen_o hq) dX8_copyFrom_2 ?_
  refine sim_putI g_RX8_11 (LSen_o hp) dX8_copyFrom_5 (fun s1 => ?_)
  refine sim_aload_n 0 rfl dX8_copyFrom_8 ?_
  refine sim_aload_n 1 rfl dX8_copyFrom_9 ?_
  refine sim_getI g_RX8_15 (LSen_o hq) dX8_copyFrom_10 ?_
  refine sim_putI g_RX8_15 (LSen_o hp) dX8_copyFrom_13 (fun s2 => ?_)
  refine sim_aload_n 1 rfl dX8_copyFrom_16 ?_
  refine sim_getR g_RX8_18 (LSen_o hq) (LSen_r2 hq) dX8_copyFrom_17 ?_
  refine sim_iconst dX8_copyFrom_20 (by decide) ?_
  refine sim_aload_n 0 rfl dX8_copyFrom_21 ?_
  refine sim_getR g_RX8_18 (LSen_o hp) (LSen_r2 hp) dX8_copyFrom_22 ?_
  refine sim_iconst dX8_copyFrom_25 (by decide) ?_
  refine sim_bipush dX8_copyFrom_26 (by decide +kernel) ?_
  refine sim_acpIK (a := 0) (b := 0) (n := 40) (LSen_a2 hq) (LSen_a2 hp) rfl rfl rfl (by decide) w_1350 w_783 w_782 w_21 (by decide) (Nat.le_of_ble_eq_true rfl) dX8_copyFrom_28 (fun s3 => ?_)
  refine sim_aload_n 1 rfl dX8_copyFrom_31 ?_
  refine sim_getR g_RX8_22 (LSen_o hq) (LSen_r3 hq) dX8_copyFrom_32 ?_
  refine sim_iconst dX8_copyFrom_35 (by decide) ?_
  refine sim_aload_n 0 rfl dX8_copyFrom_36 ?_
  refine sim_getR g_RX8_22 (LSen_o hp) (LSen_r3 hp) dX8_copyFrom_37 ?_
  refine sim_iconst dX8_copyFrom_40 (by decide) ?_
  refine sim_bipush dX8_copyFrom_41 (by decide +kernel) ?_
  refine sim_acpIK (a := 0) (b := 0) (n := 40) (LSen_a3 hq) (LSen_a3 hp) rfl rfl rfl (by decide) w_1350 w_783 w_782 w_21 (by decide) (Nat.le_of_ble_eq_true rfl) dX8_copyFrom_43 (fun s4 => ?_)
  refine sim_aload_n 1 rfl dX8_copyFrom_46 ?_
  refine sim_getR g_RX8_25 (LSen_o hq) (LSen_r4 hq) dX8_copyFrom_47 ?_
  refine sim_iconst dX8_copyFrom_50 (by decide) ?_
  refine sim_aload_n 0 rfl dX8_copyFrom_51 ?_
  refine sim_getR g_RX8_25 (LSen_o hp) (LSen_r4 hp) dX8_copyFrom_52 ?_
  refine sim_iconst dX8_copyFrom_55 (by decide) ?_
  refine sim_bipush dX8_copyFrom_56 (by decide +kernel) ?_
  refine sim_acpIK (a := 0) (b := 0) (n := 40) (LSen_a4 hq) (LSen_a4 hp) rfl rfl rfl (by decide) w_1350 w_783 w_782 w_21 (by decide) (Nat.le_of_ble_eq_true rfl) dX8_copyFrom_58 (fun s5 => ?_)
  exact sim_vret rfl rfl dX8_copyFrom_61
theorem dX10_copyFrom_0 : decode cX10_copyFrom 0 = .ok (.aload_n 0, 1) := by decide +kernel
theorem dX10_copyFrom_1 : decode cX10_copyFrom 1 = .ok (.getfield 10, 3) := by decide +kernel
theorem dX10_copyFrom_4 : decode cX10_copyFrom 4 = .ok (.aload_n 1, 1) := by decide +kernel
theorem dX10_copyFrom_5 : decode cX10_copyFrom 5 = .ok (.getfield 10, 3) := by decide +kernel
theorem dX10_copyFrom_8 : decode cX10_copyFrom 8 = .ok (.invokevirtual 43, 3) := by decide +kernel
theorem dX10_copyFrom_11 : decode cX10_copyFrom 11 = .ok (.aload_n 0, 1) := by decide +kernel
theorem dX10_copyFrom_12 : decode cX10_copyFrom 12 = .ok (.getfield 21, 3) := by decide +kernel
theorem dX10_copyFrom_15 : decode cX10_copyFrom 15 = .ok (.aload_n 1, 1) := by decide +kernel
theorem dX10_copyFrom_16 : decode cX10_copyFrom 16 = .ok (.getfield 21, 3) := by decide +kernel
theorem dX10_copyFrom_19 : decode cX10_copyFrom 19 = .ok (.invokevirtual 46, 3) := by decide +kernel
theorem dX10_copyFrom_22 : decode cX10_copyFrom 22 = .ok (.aload_n 0, 1) := by decide +kernel
theorem dX10_copyFrom_23 : decode cX10_copyFrom 23 = .ok (.getfield 28, 3) := by decide +kernel
theorem dX10_copyFrom_26 : decode cX10_copyFrom 26 = .ok (.aload_n 1, 1) := by decide +kernel
theorem dX10_copyFrom_27 : decode cX10_copyFrom 27 = .ok (.getfield 28, 3) := by decide +kernel
theorem dX10_copyFrom_30 : decode cX10_copyFrom 30 = .ok (.invokevirtual 49, 3) := by decide +kernel
theorem dX10_copyFrom_33 : decode cX10_copyFrom 33 = .ok (.aload_n 0, 1) := by decide +kernel
theorem dX10_copyFrom_34 : decode cX10_copyFrom 34 = .ok (.getfield 35, 3) := by decide +kernel
theorem dX10_copyFrom_37 : decode cX10_copyFrom 37 = .ok (.aload_n 1, 1) := by decide +kernel
theorem dX10_copyFrom_38 : decode cX10_copyFrom 38 = .ok (.getfield 35, 3) := by decide +kernel
theorem dX10_copyFrom_41 : decode cX10_copyFrom 41 = .ok (.invokevirtual 52, 3) := by decide +kernel
theorem dX10_copyFrom_44 : decode cX10_copyFrom 44 = .ok (.return_, 1) := by decide +kernel
def f_Wld_copyFrom  (p : Nat) (q : Nat)  (σ : JSg) : Option (JSg) :=
  bd1 (f_Isl_copyFrom (p + 1) (q + 1) σ) fun s1 => bd1 (f_Row_copyFrom (p + 8) (p + 1) (q + 8) (q + 1) s1) fun s2 => bd1 (f_Mem_copyFrom (p + 15) (q + 15) s2) fun s3 => bd1 (f_Sen_copyFrom (p + 18) (q + 18) s3) fun s4 => some s4
set_option maxRecDepth 20000 in
set_option maxHeartbeats 4000000 in
theorem k_Wld_copyFrom (Sh : JSh) (ρ : JRo)  (p : Nat) (q : Nat) (hp : LWld Sh ρ p) (hq : LWld Sh ρ q)  (σ : JSg) : Call yX10_copyFrom cX10_copyFrom 2 none 2 Sh ρ [vR p, vR q] σ dVm (f_Wld_copyFrom p q σ) := by
  refine call_of_sim (by decide +kernel) (Nat.le_of_ble_eq_true rfl) ?_
  show Sim RX10 cX10_copyFrom 2 none 2 Sh ρ 0 [(0, vR p), (1, vR q)] [] σ dVm (f_Wld_copyFrom p q σ)
  unfold f_Wld_copyFrom
  refine sim_aload_n 0 rfl dX10_copyFrom_0 ?_
  refine sim_getR g_RX10_10 (LWld_o hp) (LWld_r0 hp) dX10_copyFrom_1 ?_
  refine sim_aload_n 1 rfl dX10_copyFrom_4 ?_
  refine sim_getR g_RX10_10 (LWld_o hq) (LWld_r0 hq) dX10_copyFrom_5 ?_
  refine sim_callVVm v_RX10_43 (LIsl_o (LWld_isl hp)) dX10_copyFrom_8 (k_Isl_copyFrom Sh ρ (p + 1) (q + 1) (LWld_isl hp) (LWld_isl hq) σ) rfl ⟨by decide, by decide⟩ (S := []) rfl (Nat.le_of_ble_eq_true rfl) (fun s1 => ?_)
  refine sim_aload_n 0 rfl dX10_copyFrom_11 ?_
  refine sim_getR g_RX10_21 (LWld_o hp) (LWld_r1 hp) dX10_copyFrom_12 ?_
  refine sim_aload_n 1 rfl dX10_copyFrom_15 ?_
  refine sim_getR g_RX10_21 (LWld_o hq) (LWld_r1 hq) dX10_copyFrom_16 ?_
  refine sim_callVVm v_RX10_46 (LRow_o (LWld_row hp)) dX10_copyFrom_19 (k_Row_copyFrom Sh ρ (p + 8) (p + 1) (q + 8) (q + 1) (LWld_row hp) (LWld_isl hp) (LWld_row hq) (LWld_isl hq) s1) rfl ⟨by decide, by decide⟩ (S := []) rfl (Nat.le_of_ble_eq_true rfl) (fun s2 => ?_)
  refine sim_aload_n 0 rfl dX10_copyFrom_22 ?_
  refine sim_getR g_RX10_28 (LWld_o hp) (LWld_r2 hp) dX10_copyFrom_23 ?_
  refine sim_aload_n 1 rfl dX10_copyFrom_26 ?_
  refine sim_getR g_RX10_28 (LWld_o hq) (LWld_r2 hq) dX10_copyFrom_27 ?_
  refine sim_callVVm v_RX10_49 (LMem_o (LWld_mem hp)) dX10_copyFrom_30 (k_Mem_copyFrom Sh ρ (p + 15) (q + 15) (LWld_mem hp) (LWld_mem hq) s2) rfl ⟨by decide, by decide⟩ (S := []) rfl (Nat.le_of_ble_eq_true rfl) (fun s3 => ?_)
  refine sim_aload_n 0 rfl dX10_copyFrom_33 ?_
  refine sim_getR g_RX10_35 (LWld_o hp) (LWld_r3 hp) dX10_copyFrom_34 ?_
  refine sim_aload_n 1 rfl dX10_copyFrom_37 ?_
  refine sim_getR g_RX10_35 (LWld_o hq) (LWld_r3 hq) dX10_copyFrom_38 ?_
  refine sim_callVVm v_RX10_52 (LSen_o (LWld_sen hp)) dX10_copyFrom_41 (k_Sen_copyFrom Sh ρ (p + 18) (q + 18) (LWld_sen hp) (LWld_sen hq) s3) rfl ⟨by decide, by decide⟩ (S := []) rfl (Nat.le_of_ble_eq_true rfl) (fun s4 => ?_)
  exact sim_vret rfl rfl dX10_copyFrom_44
theorem dX11_restore_0 : decode cX11_restore 0 = .ok (.iload_n 1, 1) := by decide +kernel
theorem dX11_restore_1 : decode cX11_restore 1 = .ok (.invokestatic 361, 3) := by decide +kernel
theorem dX11_restore_4 : decode cX11_restore 4 = .ok (.ifCond .ne 5, 3) := by decide +kernel
theorem dX11_restore_7 : decode cX11_restore 7 = .ok (.iconst 0, 1) := by decide +kernel
theorem dX11_restore_8 : decode cX11_restore 8 = .ok (.ireturn, 1) := by decide +kernel
theorem dX11_restore_9 : decode cX11_restore 9 = .ok (.iload_n 1, 1) := by decide +kernel
theorem dX11_restore_10 : decode cX11_restore 10 = .ok (.ifCond .ne 10, 3) := by decide +kernel
theorem dX11_restore_13 : decode cX11_restore 13 = .ok (.aload_n 0, 1) := by decide +kernel
theorem dX11_restore_14 : decode cX11_restore 14 = .ok (.getfield 36, 3) := by decide +kernel
theorem dX11_restore_17 : decode cX11_restore 17 = .ok (.goto 7, 3) := by decide +kernel
theorem dX11_restore_20 : decode cX11_restore 20 = .ok (.aload_n 0, 1) := by decide +kernel
theorem dX11_restore_21 : decode cX11_restore 21 = .ok (.getfield 39, 3) := by decide +kernel
theorem dX11_restore_24 : decode cX11_restore 24 = .ok (.astore_n 2, 1) := by decide +kernel
theorem dX11_restore_25 : decode cX11_restore 25 = .ok (.aload_n 2, 1) := by decide +kernel
theorem dX11_restore_26 : decode cX11_restore 26 = .ok (.getfield 367, 3) := by decide +kernel
theorem dX11_restore_29 : decode cX11_restore 29 = .ok (.ifCond .ne 5, 3) := by decide +kernel
theorem dX11_restore_32 : decode cX11_restore 32 = .ok (.iconst 0, 1) := by decide +kernel
theorem dX11_restore_33 : decode cX11_restore 33 = .ok (.ireturn, 1) := by decide +kernel
theorem dX11_restore_34 : decode cX11_restore 34 = .ok (.aload_n 0, 1) := by decide +kernel
theorem dX11_restore_35 : decode cX11_restore 35 = .ok (.getfield 29, 3) := by decide +kernel
theorem dX11_restore_38 : decode cX11_restore 38 = .ok (.aload_n 2, 1) := by decide +kernel
theorem dX11_restore_39 : decode cX11_restore 39 = .ok (.invokevirtual 364, 3) := by decide +kernel
theorem dX11_restore_42 : decode cX11_restore 42 = .ok (.aload_n 0, 1) := by decide +kernel
theorem dX11_restore_43 : decode cX11_restore 43 = .ok (.iconst 0, 1) := by decide +kernel
theorem dX11_restore_44 : decode cX11_restore 44 = .ok (.putfield 48, 3) := by decide +kernel
theorem dX11_restore_47 : decode cX11_restore 47 = .ok (.iconst 1, 1) := by decide +kernel
theorem dX11_restore_48 : decode cX11_restore 48 = .ok (.ireturn, 1) := by decide +kernel
def f_W_restore   (a1 : Int) (σ : JSg) : Option (Int × JSg) :=
  bd1 (f_W_isPlace a1 σ) fun r1 => if r1 = 0 then (some (0, σ)) else (if a1 = 0 then (if (σ 49 4) = 0 then (some (0, σ)) else (bd1 (f_Wld_copyFrom 3 49 σ) fun s4 => lt_ (sp s4 0 8 0) fun s5 => some (1, s5))) else (if (σ 72 4) = 0 then (some (0, σ)) else (bd1 (f_Wld_copyFrom 3 72 σ) fun s2 => lt_ (sp s2 0 8 0) fun s3 => some (1, s3))))
set_option maxRecDepth 20000 in
set_option maxHeartbeats 4000000 in
theorem k_W_restore     (a1 : Int) (σ : JSg) : Call yX11_restore cX11_restore 3 (some .boolean) 3 SH RHO [vR 0, vI a1] σ dIm (f_W_restore a1 σ) := by
  refine call_of_sim (by decide +kernel) (Nat.le_of_ble_eq_true rfl) ?_
  show Sim RX11 cX11_restore 3 (some .boolean) 3 SH RHO 0 [(0, vR 0), (1, vI a1)] [] σ dIm (f_W_restore a1 σ)
  unfold f_W_restore
  refine sim_iload_n 1 rfl dX11_restore_0 ?_
  refine sim_callSIp s_RX11_361 dX11_restore_1 (k_W_isPlace SH RHO a1 σ) rfl ⟨by decide, by decide⟩ (S := []) rfl (Nat.le_of_ble_eq_true rfl) (fun r1 => ?_)
  refine sim_if_ne (tgt := 9) dX11_restore_4 (by decide) ?_ ?_
  · refine sim_iload_n 1 rfl dX11_restore_9 ?_
    refine sim_if_ne (tgt := 20) dX11_restore_10 (by decide) ?_ ?_
    · refine sim_aload_n 0 rfl dX11_restore_20 ?_
      refine sim_getR g_RX11_39 sh_0 rh_0_6 dX11_restore_21 ?_
      refine sim_astore_n [(2, vR 72), (0, vR 0), (1, vI a1)] rfl (by decide) dX11_restore_24 ?_
      refine sim_aload_n 0 rfl dX11_restore_25 ?_
      refine sim_getZ g_RX11_367 (LWld_o lay_72) dX11_restore_26 ?_
      refine sim_if_ne (tgt := 34) dX11_restore_29 (by decide) ?_ ?_
      · refine sim_aload_n 1 rfl dX11_restore_34 ?_
        refine sim_getR g_RX11_29 sh_0 rh_0_3 dX11_restore_35 ?_
        refine sim_aload_n 0 rfl dX11_restore_38 ?_
        refine sim_callVVm v_RX11_364 (LWld_o lay_3) dX11_restore_39 (k_Wld_copyFrom SH RHO 3 72 lay_3 lay_72 σ) rfl ⟨by decide, by decide⟩ (S := []) rfl (Nat.le_of_ble_eq_true rfl) (fun s2 => ?_)
        refine sim_aload_n 1 rfl dX11_restore_42 ?_
        refine sim_iconst dX11_restore_43 (by decide) ?_
        refine sim_putI g_RX11_48 sh_0 dX11_restore_44 (fun s3 => ?_)
        refine sim_iconst dX11_restore_47 (by decide) ?_
        exact sim_zret (Or.inr rfl) rfl rfl dX11_restore_48
      · refine sim_iconst dX11_restore_32 (by decide) ?_
        exact sim_zret (Or.inl rfl) rfl rfl dX11_restore_33
    · refine sim_aload_n 0 rfl dX11_restore_13 ?_
      refine sim_getR g_RX11_36 sh_0 rh_0_5 dX11_restore_14 ?_
      refine sim_goto (tgt := 24) dX11_restore_17 (by decide) ?_
      refine sim_astore_n [(2, vR 49), (0, vR 0), (1, vI a1)] rfl (by decide) dX11_restore_24 ?_
      refine sim_aload_n 0 rfl dX11_restore_25 ?_
      refine sim_getZ g_RX11_367 (LWld_o lay_49) dX11_restore_26 ?_
      refine sim_if_ne (tgt := 34) dX11_restore_29 (by decide) ?_ ?_
      · refine sim_aload_n 1 rfl dX11_restore_34 ?_
        refine sim_getR g_RX11_29 sh_0 rh_0_3 dX11_restore_35 ?_
        refine sim_aload_n 0 rfl dX11_restore_38 ?_
        refine sim_callVVm v_RX11_364 (LWld_o lay_3) dX11_restore_39 (k_Wld_copyFrom SH RHO 3 49 lay_3 lay_49 σ) rfl ⟨by decide, by decide⟩ (S := []) rfl (Nat.le_of_ble_eq_true rfl) (fun s4 => ?_)
        refine sim_aload_n 1 rfl dX11_restore_42 ?_
        refine sim_iconst dX11_restore_43 (by decide) ?_
        refine sim_putI g_RX11_48 sh_0 dX11_restore_44 (fun s5 => ?_)
        refine sim_iconst dX11_restore_47 (by decide) ?_
        exact sim_zret (Or.inr rfl) rfl rfl dX11_restore_48
      · refine sim_iconst dX11_restore_32 (by decide) ?_
        exact sim_zret (Or.inl rfl) rfl rfl dX11_restore_33
  · refine sim_iconst dX11_restore_7 (by decide) ?_
    exact sim_zret (Or.inl rfl) rfl rfl dX11_restore_8
theorem dX11_image_0 : decode cX11_image 0 = .ok (.iload_n 1, 1) := by decide +kernel
theorem dX11_image_1 : decode cX11_image 1 = .ok (.invokestatic 361, 3) := by decide +kernel
theorem dX11_image_4 : decode cX11_image 4 = .ok (.ifCond .ne 5, 3) := by decide +kernel
theorem dX11_image_7 : decode cX11_image 7 = .ok (.iconst 0, 1) := by decide +kernel
theorem dX11_image_8 : decode cX11_image 8 = .ok (.ireturn, 1) := by decide +kernel
theorem dX11_image_9 : decode cX11_image 9 = .ok (.iload_n 1, 1) := by decide +kernel
theorem dX11_image_10 : decode cX11_image 10 = .ok (.ifCond .ne 10, 3) := by decide +kernel
theorem dX11_image_13 : decode cX11_image 13 = .ok (.aload_n 0, 1) := by decide +kernel
theorem dX11_image_14 : decode cX11_image 14 = .ok (.getfield 36, 3) := by decide +kernel
theorem dX11_image_17 : decode cX11_image 17 = .ok (.goto 7, 3) := by decide +kernel
theorem dX11_image_20 : decode cX11_image 20 = .ok (.aload_n 0, 1) := by decide +kernel
theorem dX11_image_21 : decode cX11_image 21 = .ok (.getfield 39, 3) := by decide +kernel
theorem dX11_image_24 : decode cX11_image 24 = .ok (.astore_n 2, 1) := by decide +kernel
theorem dX11_image_25 : decode cX11_image 25 = .ok (.aload_n 2, 1) := by decide +kernel
theorem dX11_image_26 : decode cX11_image 26 = .ok (.aload_n 0, 1) := by decide +kernel
theorem dX11_image_27 : decode cX11_image 27 = .ok (.getfield 29, 3) := by decide +kernel
theorem dX11_image_30 : decode cX11_image 30 = .ok (.invokevirtual 364, 3) := by decide +kernel
theorem dX11_image_33 : decode cX11_image 33 = .ok (.aload_n 2, 1) := by decide +kernel
theorem dX11_image_34 : decode cX11_image 34 = .ok (.iconst 1, 1) := by decide +kernel
theorem dX11_image_35 : decode cX11_image 35 = .ok (.putfield 367, 3) := by decide +kernel
theorem dX11_image_38 : decode cX11_image 38 = .ok (.iconst 1, 1) := by decide +kernel
theorem dX11_image_39 : decode cX11_image 39 = .ok (.ireturn, 1) := by decide +kernel
def f_W_image   (a1 : Int) (σ : JSg) : Option (Int × JSg) :=
  bd1 (f_W_isPlace a1 σ) fun r1 => if r1 = 0 then (some (0, σ)) else (if a1 = 0 then (bd1 (f_Wld_copyFrom 49 3 σ) fun s4 => lt_ (sp s4 49 4 1) fun s5 => some (1, s5)) else (bd1 (f_Wld_copyFrom 72 3 σ) fun s2 => lt_ (sp s2 72 4 1) fun s3 => some (1, s3)))
set_option maxRecDepth 20000 in
set_option maxHeartbeats 4000000 in
theorem k_W_image     (a1 : Int) (σ : JSg) : Call yX11_image cX11_image 3 (some .boolean) 3 SH RHO [vR 0, vI a1] σ dIm (f_W_image a1 σ) := by
  refine call_of_sim (by decide +kernel) (Nat.le_of_ble_eq_true rfl) ?_
  show Sim RX11 cX11_image 3 (some .boolean) 3 SH RHO 0 [(0, vR 0), (1, vI a1)] [] σ dIm (f_W_image a1 σ)
  unfold f_W_image
  refine sim_iload_n 1 rfl dX11_image_0 ?_
  refine sim_callSIp s_RX11_361 dX11_image_1 (k_W_isPlace SH RHO a1 σ) rfl ⟨by decide, by decide⟩ (S := []) rfl (Nat.le_of_ble_eq_true rfl) (fun r1 => ?_)
  refine sim_if_ne (tgt := 9) dX11_image_4 (by decide) ?_ ?_
  · refine sim_iload_n 1 rfl dX11_image_9 ?_
    refine sim_if_ne (tgt := 20) dX11_image_10 (by decide) ?_ ?_
    · refine sim_aload_n 0 rfl dX11_image_20 ?_
      refine sim_getR g_RX11_39 sh_0 rh_0_6 dX11_image_21 ?_
      refine sim_astore_n [(2, vR 72), (0, vR 0), (1, vI a1)] rfl (by decide) dX11_image_24 ?_
      refine sim_aload_n 0 rfl dX11_image_25 ?_
      refine sim_aload_n 1 rfl dX11_image_26 ?_
      refine sim_getR g_RX11_29 sh_0 rh_0_3 dX11_image_27 ?_
      refine sim_callVVm v_RX11_364 (LWld_o lay_72) dX11_image_30 (k_Wld_copyFrom SH RHO 72 3 lay_72 lay_3 σ) rfl ⟨by decide, by decide⟩ (S := []) rfl (Nat.le_of_ble_eq_true rfl) (fun s2 => ?_)
      refine sim_aload_n 0 rfl dX11_image_33 ?_
      refine sim_iconst dX11_image_34 (by decide) ?_
      refine sim_putZ (Or.inr rfl) g_RX11_367 (LWld_o lay_72) dX11_image_35 (fun s3 => ?_)
      refine sim_iconst dX11_image_38 (by decide) ?_
      exact sim_zret (Or.inr rfl) rfl rfl dX11_image_39
    · refine sim_aload_n 0 rfl dX11_image_13 ?_
      refine sim_getR g_RX11_36 sh_0 rh_0_5 dX11_image_14 ?_
      refine sim_goto (tgt := 24) dX11_image_17 (by decide) ?_
      refine sim_astore_n [(2, vR 49), (0, vR 0), (1, vI a1)] rfl (by decide) dX11_image_24 ?_
      refine sim_aload_n 0 rfl dX11_image_25 ?_
      refine sim_aload_n 1 rfl dX11_image_26 ?_
      refine sim_getR g_RX11_29 sh_0 rh_0_3 dX11_image_27 ?_
      refine sim_callVVm v_RX11_364 (LWld_o lay_49) dX11_image_30 (k_Wld_copyFrom SH RHO 49 3 lay_49 lay_3 σ) rfl ⟨by decide, by decide⟩ (S := []) rfl (Nat.le_of_ble_eq_true rfl) (fun s4 => ?_)
      refine sim_aload_n 0 rfl dX11_image_33 ?_
      refine sim_iconst dX11_image_34 (by decide) ?_
      refine sim_putZ (Or.inr rfl) g_RX11_367 (LWld_o lay_49) dX11_image_35 (fun s5 => ?_)
      refine sim_iconst dX11_image_38 (by decide) ?_
      exact sim_zret (Or.inr rfl) rfl rfl dX11_image_39
  · refine sim_iconst dX11_image_7 (by decide) ?_
    exact sim_zret (Or.inl rfl) rfl rfl dX11_image_8
theorem dX7_placeOf_0 : decode cX7_placeOf 0 = .ok (.iconst 0, 1) := by decide +kernel
theorem dX7_placeOf_1 : decode cX7_placeOf 1 = .ok (.istore_n 2, 1) := by decide +kernel
theorem dX7_placeOf_2 : decode cX7_placeOf 2 = .ok (.iload_n 2, 1) := by decide +kernel
theorem dX7_placeOf_3 : decode cX7_placeOf 3 = .ok (.aload_n 0, 1) := by decide +kernel
theorem dX7_placeOf_4 : decode cX7_placeOf 4 = .ok (.getfield 21, 3) := by decide +kernel
theorem dX7_placeOf_7 : decode cX7_placeOf 7 = .ok (.if_icmp .ge 23, 3) := by decide +kernel
theorem dX7_placeOf_10 : decode cX7_placeOf 10 = .ok (.aload_n 0, 1) := by decide +kernel
theorem dX7_placeOf_11 : decode cX7_placeOf 11 = .ok (.getfield 18, 3) := by decide +kernel
theorem dX7_placeOf_14 : decode cX7_placeOf 14 = .ok (.iload_n 2, 1) := by decide +kernel
theorem dX7_placeOf_15 : decode cX7_placeOf 15 = .ok (.iaload, 1) := by decide +kernel
theorem dX7_placeOf_16 : decode cX7_placeOf 16 = .ok (.iload_n 1, 1) := by decide +kernel
theorem dX7_placeOf_17 : decode cX7_placeOf 17 = .ok (.if_icmp .ne 7, 3) := by decide +kernel
theorem dX7_placeOf_20 : decode cX7_placeOf 20 = .ok (.iload_n 2, 1) := by decide +kernel
theorem dX7_placeOf_21 : decode cX7_placeOf 21 = .ok (.iconst 1, 1) := by decide +kernel
theorem dX7_placeOf_22 : decode cX7_placeOf 22 = .ok (.iadd, 1) := by decide +kernel
theorem dX7_placeOf_23 : decode cX7_placeOf 23 = .ok (.ireturn, 1) := by decide +kernel
theorem dX7_placeOf_24 : decode cX7_placeOf 24 = .ok (.iinc 2 1, 3) := by decide +kernel
theorem dX7_placeOf_27 : decode cX7_placeOf 27 = .ok (.goto (-25), 3) := by decide +kernel
theorem dX7_placeOf_30 : decode cX7_placeOf 30 = .ok (.iconst 0, 1) := by decide +kernel
theorem dX7_placeOf_31 : decode cX7_placeOf 31 = .ok (.ireturn, 1) := by decide +kernel
def f_Row_placeOf (n : Nat) (p : Nat) (ip : Nat) (a1 : Int) (σ : JSg) : Option (Int) :=
  lt_ 0 fun v1 => wh1 n (fun rc2 (x3 : Int) => if x3 < (σ p 4) then (chk (0 ≤ x3 ∧ x3 < 28) <| if (σ (p + 3) x3.toNat) = a1 then (some (w32 (x3 + 1))) else (lt_ (w32 (x3 + 1)) fun v4 => rc2 v4)) else (some 0)) v1
set_option maxRecDepth 20000 in
set_option maxHeartbeats 4000000 in
theorem k_Row_placeOf (Sh : JSh) (ρ : JRo) (n : Nat) (p : Nat) (ip : Nat) (hp : LRow Sh ρ p ip) (hip : LIsl Sh ρ ip) (a1 : Int) (σ : JSg) : Call yX7_placeOf cX7_placeOf 3 (some .int) 0 Sh ρ [vR p, vI a1] σ (dIp σ) (f_Row_placeOf n p ip a1 σ) := by
  refine call_of_sim (by decide +kernel) (Nat.le_of_ble_eq_true rfl) ?_
  show Sim RX7 cX7_placeOf 3 (some .int) 0 Sh ρ 0 [(0, vR p), (1, vI a1)] [] σ (dIp σ) (f_Row_placeOf n p ip a1 σ)
  unfold f_Row_placeOf
  refine sim_iconst dX7_placeOf_0 (by decide) ?_
  refine sim_istore_n (fun v1 => [(2, vI v1), (0, vR p), (1, vI a1)]) (fun _ => rfl) (by decide) dX7_placeOf_1 (fun v1 => ?_)
  refine sim_sub [1, 2, 0] (L' := [(0, vR p), (1, vI a1), (2, vI v1)]) rfl ?_
  refine sim_wh1 (fun (x3 : Int) => [(0, vR p), (1, vI a1), (2, vI x3)]) (fun (x3 : Int) => σ) ?_ n v1
  intro rc2 hrc2 x3
  refine sim_iload_n 2 rfl dX7_placeOf_2 ?_
  refine sim_aload_n 0 rfl dX7_placeOf_3 ?_
  refine sim_getI g_RX7_21 (LRow_o hp) dX7_placeOf_4 ?_
  refine sim_icmp_ge (tgt := 30) dX7_placeOf_7 (by decide) ?_ ?_
  · refine sim_iconst dX7_placeOf_30 (by decide) ?_
    exact sim_iret rfl rfl dX7_placeOf_31
  · refine sim_aload_n 0 rfl dX7_placeOf_10 ?_
    refine sim_getR g_RX7_18 (LRow_o hp) (LRow_r3 hp) dX7_placeOf_11 ?_
    refine sim_iload_n 2 rfl dX7_placeOf_14 ?_
    refine sim_iaload (LRow_a3 hp) rfl dX7_placeOf_15 ?_
    refine sim_iload_n 1 rfl dX7_placeOf_16 ?_
    refine sim_icmp_ne (tgt := 24) dX7_placeOf_17 (by decide) ?_ ?_
    · refine sim_iinc 2 rfl (fun v4 => [(2, vI v4), (0, vR p), (1, vI a1)]) (fun _ => rfl) (by decide) dX7_placeOf_24 (fun v4 => ?_)
      refine sim_goto (tgt := 2) dX7_placeOf_27 (by decide) ?_
      exact sim_sub [1, 2, 0] rfl (hrc2 v4)
    · refine sim_iload_n 2 rfl dX7_placeOf_20 ?_
      refine sim_iconst dX7_placeOf_21 (by decide) ?_
      refine sim_iadd dX7_placeOf_22 ?_
      exact sim_iret rfl rfl dX7_placeOf_23
theorem dX8_isAsTold_0 : decode cX8_isAsTold 0 = .ok (.aload_n 0, 1) := by decide +kernel
theorem dX8_isAsTold_1 : decode cX8_isAsTold 1 = .ok (.getfield 22, 3) := by decide +kernel
theorem dX8_isAsTold_4 : decode cX8_isAsTold 4 = .ok (.iload_n 2, 1) := by decide +kernel
theorem dX8_isAsTold_5 : decode cX8_isAsTold 5 = .ok (.iaload, 1) := by decide +kernel
theorem dX8_isAsTold_6 : decode cX8_isAsTold 6 = .ok (.bipush 60, 2) := by decide +kernel
theorem dX8_isAsTold_8 : decode cX8_isAsTold 8 = .ok (.if_icmp .ne 19, 3) := by decide +kernel
theorem dX8_isAsTold_11 : decode cX8_isAsTold 11 = .ok (.iload_n 1, 1) := by decide +kernel
theorem dX8_isAsTold_12 : decode cX8_isAsTold 12 = .ok (.aload_n 0, 1) := by decide +kernel
theorem dX8_isAsTold_13 : decode cX8_isAsTold 13 = .ok (.getfield 25, 3) := by decide +kernel
theorem dX8_isAsTold_16 : decode cX8_isAsTold 16 = .ok (.iload_n 2, 1) := by decide +kernel
theorem dX8_isAsTold_17 : decode cX8_isAsTold 17 = .ok (.iaload, 1) := by decide +kernel
theorem dX8_isAsTold_18 : decode cX8_isAsTold 18 = .ok (.if_icmp .ge 7, 3) := by decide +kernel
theorem dX8_isAsTold_21 : decode cX8_isAsTold 21 = .ok (.iconst 1, 1) := by decide +kernel
theorem dX8_isAsTold_22 : decode cX8_isAsTold 22 = .ok (.goto 4, 3) := by decide +kernel
theorem dX8_isAsTold_25 : decode cX8_isAsTold 25 = .ok (.iconst 0, 1) := by decide +kernel
theorem dX8_isAsTold_26 : decode cX8_isAsTold 26 = .ok (.ireturn, 1) := by decide +kernel
theorem dX8_isAsTold_27 : decode cX8_isAsTold 27 = .ok (.aload_n 0, 1) := by decide +kernel
theorem dX8_isAsTold_28 : decode cX8_isAsTold 28 = .ok (.getfield 22, 3) := by decide +kernel
theorem dX8_isAsTold_31 : decode cX8_isAsTold 31 = .ok (.iload_n 2, 1) := by decide +kernel
theorem dX8_isAsTold_32 : decode cX8_isAsTold 32 = .ok (.iaload, 1) := by decide +kernel
theorem dX8_isAsTold_33 : decode cX8_isAsTold 33 = .ok (.bipush 61, 2) := by decide +kernel
theorem dX8_isAsTold_35 : decode cX8_isAsTold 35 = .ok (.if_icmp .ne 21, 3) := by decide +kernel
theorem dX8_isAsTold_38 : decode cX8_isAsTold 38 = .ok (.iload_n 1, 1) := by decide +kernel
theorem dX8_isAsTold_39 : decode cX8_isAsTold 39 = .ok (.aload_n 0, 1) := by decide +kernel
theorem dX8_isAsTold_40 : decode cX8_isAsTold 40 = .ok (.getfield 25, 3) := by decide +kernel
theorem dX8_isAsTold_43 : decode cX8_isAsTold 43 = .ok (.iload_n 2, 1) := by decide +kernel
theorem dX8_isAsTold_44 : decode cX8_isAsTold 44 = .ok (.iaload, 1) := by decide +kernel
theorem dX8_isAsTold_45 : decode cX8_isAsTold 45 = .ok (.if_icmp .ne 7, 3) := by decide +kernel
theorem dX8_isAsTold_48 : decode cX8_isAsTold 48 = .ok (.iconst 1, 1) := by decide +kernel
theorem dX8_isAsTold_49 : decode cX8_isAsTold 49 = .ok (.goto 22, 3) := by decide +kernel
theorem dX8_isAsTold_52 : decode cX8_isAsTold 52 = .ok (.iconst 0, 1) := by decide +kernel
theorem dX8_isAsTold_53 : decode cX8_isAsTold 53 = .ok (.goto 18, 3) := by decide +kernel
theorem dX8_isAsTold_56 : decode cX8_isAsTold 56 = .ok (.iload_n 1, 1) := by decide +kernel
theorem dX8_isAsTold_57 : decode cX8_isAsTold 57 = .ok (.aload_n 0, 1) := by decide +kernel
theorem dX8_isAsTold_58 : decode cX8_isAsTold 58 = .ok (.getfield 25, 3) := by decide +kernel
theorem dX8_isAsTold_61 : decode cX8_isAsTold 61 = .ok (.iload_n 2, 1) := by decide +kernel
theorem dX8_isAsTold_62 : decode cX8_isAsTold 62 = .ok (.iaload, 1) := by decide +kernel
theorem dX8_isAsTold_63 : decode cX8_isAsTold 63 = .ok (.if_icmp .le 7, 3) := by decide +kernel
theorem dX8_isAsTold_66 : decode cX8_isAsTold 66 = .ok (.iconst 1, 1) := by decide +kernel
theorem dX8_isAsTold_67 : decode cX8_isAsTold 67 = .ok (.goto 4, 3) := by decide +kernel
theorem dX8_isAsTold_70 : decode cX8_isAsTold 70 = .ok (.iconst 0, 1) := by decide +kernel
theorem dX8_isAsTold_71 : decode cX8_isAsTold 71 = .ok (.ireturn, 1) := by decide +kernel
def f_Sen_isAsTold  (p : Nat) (a1 : Int) (a2 : Int) (σ : JSg) : Option (Int) :=
  chk (0 ≤ a2 ∧ a2 < 40) <| if (σ (p + 2) a2.toNat) = 60 then (chk (0 ≤ a2 ∧ a2 < 40) <| if a1 < (σ (p + 3) a2.toNat) then (some 1) else (some 0)) else (chk (0 ≤ a2 ∧ a2 < 40) <| if (σ (p + 2) a2.toNat) = 61 then (chk (0 ≤ a2 ∧ a2 < 40) <| if a1 = (σ (p + 3) a2.toNat) then (some 1) else (some 0)) else (chk (0 ≤ a2 ∧ a2 < 40) <| if (σ (p + 3) a2.toNat) < a1 then (some 1) else (some 0)))
set_option maxRecDepth 20000 in
set_option maxHeartbeats 4000000 in
theorem k_Sen_isAsTold (Sh : JSh) (ρ : JRo)  (p : Nat) (hp : LSen Sh ρ p) (a1 : Int) (a2 : Int) (σ : JSg) : Call yX8_isAsTold cX8_isAsTold 3 (some .boolean) 0 Sh ρ [vR p, vI a1, vI a2] σ (dIp σ) (f_Sen_isAsTold p a1 a2 σ) := by
  refine call_of_sim (by decide +kernel) (Nat.le_of_ble_eq_true rfl) ?_
  show Sim RX8 cX8_isAsTold 3 (some .boolean) 0 Sh ρ 0 [(0, vR p), (1, vI a1), (2, vI a2)] [] σ (dIp σ) (f_Sen_isAsTold p a1 a2 σ)
  unfold f_Sen_isAsTold
  refine sim_aload_n 0 rfl dX8_isAsTold_0 ?_
  refine sim_getR g_RX8_22 (LSen_o hp) (LSen_r3 hp) dX8_isAsTold_1 ?_
  refine sim_iload_n 2 rfl dX8_isAsTold_4 ?_
  refine sim_iaload (LSen_a3 hp) rfl dX8_isAsTold_5 ?_
  refine sim_bipush dX8_isAsTold_6 (by decide +kernel) ?_
  refine sim_icmp_ne (tgt := 27) dX8_isAsTold_8 (by decide) ?_ ?_
  · refine sim_aload_n 0 rfl dX8_isAsTold_27 ?_
    refine sim_getR g_RX8_22 (LSen_o hp) (LSen_r3 hp) dX8_isAsTold_28 ?_
    refine sim_iload_n 2 rfl dX8_isAsTold_31 ?_
    refine sim_iaload (LSen_a3 hp) rfl dX8_isAsTold_32 ?_
    refine sim_bipush dX8_isAsTold_33 (by decide +kernel) ?_
    refine sim_icmp_ne (tgt := 56) dX8_isAsTold_35 (by decide) ?_ ?_
    · refine sim_iload_n 1 rfl dX8_isAsTold_56 ?_
      refine sim_aload_n 0 rfl dX8_isAsTold_57 ?_
      refine sim_getR g_RX8_25 (LSen_o hp) (LSen_r4 hp) dX8_isAsTold_58 ?_
      refine sim_iload_n 2 rfl dX8_isAsTold_61 ?_
      refine sim_iaload (LSen_a4 hp) rfl dX8_isAsTold_62 ?_
      refine sim_icmp_le (tgt := 70) dX8_isAsTold_63 (by decide) ?_ ?_
      · refine sim_iconst dX8_isAsTold_70 (by decide) ?_
        exact sim_zret (Or.inl rfl) rfl rfl dX8_isAsTold_71
      · refine sim_iconst dX8_isAsTold_66 (by decide) ?_
        refine sim_goto (tgt := 71) dX8_isAsTold_67 (by decide) ?_
        exact sim_zret (Or.inr rfl) rfl rfl dX8_isAsTold_71
    · refine sim_iload_n 1 rfl dX8_isAsTold_38 ?_
      refine sim_aload_n 0 rfl dX8_isAsTold_39 ?_
      refine sim_getR g_RX8_25 (LSen_o hp) (LSen_r4 hp) dX8_isAsTold_40 ?_
      refine sim_iload_n 2 rfl dX8_isAsTold_43 ?_
      refine sim_iaload (LSen_a4 hp) rfl dX8_isAsTold_44 ?_
      refine sim_icmp_ne (tgt := 52) dX8_isAsTold_45 (by decide) ?_ ?_
      · refine sim_iconst dX8_isAsTold_52 (by decide) ?_
        refine sim_goto (tgt := 71) dX8_isAsTold_53 (by decide) ?_
        exact sim_zret (Or.inl rfl) rfl rfl dX8_isAsTold_71
      · refine sim_iconst dX8_isAsTold_48 (by decide) ?_
        refine sim_goto (tgt := 71) dX8_isAsTold_49 (by decide) ?_
        exact sim_zret (Or.inr rfl) rfl rfl dX8_isAsTold_71
  · refine sim_iload_n 1 rfl dX8_isAsTold_11 ?_
    refine sim_aload_n 0 rfl dX8_isAsTold_12 ?_
    refine sim_getR g_RX8_25 (LSen_o hp) (LSen_r4 hp) dX8_isAsTold_13 ?_
    refine sim_iload_n 2 rfl dX8_isAsTold_16 ?_
    refine sim_iaload (LSen_a4 hp) rfl dX8_isAsTold_17 ?_
    refine sim_icmp_ge (tgt := 25) dX8_isAsTold_18 (by decide) ?_ ?_
    · refine sim_iconst dX8_isAsTold_25 (by decide) ?_
      exact sim_zret (Or.inl rfl) rfl rfl dX8_isAsTold_26
    · refine sim_iconst dX8_isAsTold_21 (by decide) ?_
      refine sim_goto (tgt := 26) dX8_isAsTold_22 (by decide) ?_
      exact sim_zret (Or.inr rfl) rfl rfl dX8_isAsTold_26
theorem dX7_lastAt_0 : decode cX7_lastAt 0 = .ok (.iload_n 1, 1) := by decide +kernel
theorem dX7_lastAt_1 : decode cX7_lastAt 1 = .ok (.ifCond .eq 10, 3) := by decide +kernel
theorem dX7_lastAt_4 : decode cX7_lastAt 4 = .ok (.aload_n 0, 1) := by decide +kernel
theorem dX7_lastAt_5 : decode cX7_lastAt 5 = .ok (.getfield 21, 3) := by decide +kernel
theorem dX7_lastAt_8 : decode cX7_lastAt 8 = .ok (.ifCond .ne 12, 3) := by decide +kernel
theorem dX7_lastAt_11 : decode cX7_lastAt 11 = .ok (.aload_n 0, 1) := by decide +kernel
theorem dX7_lastAt_12 : decode cX7_lastAt 12 = .ok (.getfield 18, 3) := by decide +kernel
theorem dX7_lastAt_15 : decode cX7_lastAt 15 = .ok (.iconst 0, 1) := by decide +kernel
theorem dX7_lastAt_16 : decode cX7_lastAt 16 = .ok (.iaload, 1) := by decide +kernel
theorem dX7_lastAt_17 : decode cX7_lastAt 17 = .ok (.goto 14, 3) := by decide +kernel
theorem dX7_lastAt_20 : decode cX7_lastAt 20 = .ok (.aload_n 0, 1) := by decide +kernel
theorem dX7_lastAt_21 : decode cX7_lastAt 21 = .ok (.getfield 18, 3) := by decide +kernel
theorem dX7_lastAt_24 : decode cX7_lastAt 24 = .ok (.aload_n 0, 1) := by decide +kernel
theorem dX7_lastAt_25 : decode cX7_lastAt 25 = .ok (.getfield 21, 3) := by decide +kernel
theorem dX7_lastAt_28 : decode cX7_lastAt 28 = .ok (.iconst 1, 1) := by decide +kernel
theorem dX7_lastAt_29 : decode cX7_lastAt 29 = .ok (.isub, 1) := by decide +kernel
theorem dX7_lastAt_30 : decode cX7_lastAt 30 = .ok (.iaload, 1) := by decide +kernel
theorem dX7_lastAt_31 : decode cX7_lastAt 31 = .ok (.ireturn, 1) := by decide +kernel
def f_Row_lastAt  (p : Nat) (ip : Nat) (a1 : Int) (σ : JSg) : Option (Int) :=
  jn0 (some (σ (p + 3) 0)) fun j1 => if a1 = 0 then (j1) else (if (σ p 4) = 0 then (j1) else (chk (0 ≤ (w32 ((σ p 4) - 1)) ∧ (w32 ((σ p 4) - 1)) < 28) <| some (σ (p + 3) (w32 ((σ p 4) - 1)).toNat)))
set_option maxRecDepth 20000 in
set_option maxHeartbeats 4000000 in
theorem k_Row_lastAt (Sh : JSh) (ρ : JRo)  (p : Nat) (ip : Nat) (hp : LRow Sh ρ p ip) (hip : LIsl Sh ρ ip) (a1 : Int) (σ : JSg) : Call yX7_lastAt cX7_lastAt 2 (some .int) 0 Sh ρ [vR p, vI a1] σ (dIp σ) (f_Row_lastAt p ip a1 σ) := by
  refine call_of_sim (by decide +kernel) (Nat.le_of_ble_eq_true rfl) ?_
  show Sim RX7 cX7_lastAt 2 (some .int) 0 Sh ρ 0 [(0, vR p), (1, vI a1)] [] σ (dIp σ) (f_Row_lastAt p ip a1 σ)
  unfold f_Row_lastAt
  refine sim_iload_n 1 rfl dX7_lastAt_0 ?_
  refine sim_jn0 (pc' := 11) ([(0, vR p)]) ([]) (σ) ?_ (fun j1 hj1 => ?_)
  · refine sim_aload_n 0 rfl dX7_lastAt_11 ?_
    refine sim_getR g_RX7_18 (LRow_o hp) (LRow_r3 hp) dX7_lastAt_12 ?_
    refine sim_iconst dX7_lastAt_15 (by decide) ?_
    refine sim_ialoadK (j := 0) (LRow_a3 hp) rfl (by decide) dX7_lastAt_16 ?_
    refine sim_goto (tgt := 31) dX7_lastAt_17 (by decide) ?_
    exact sim_iret rfl rfl dX7_lastAt_31
  refine sim_if_eq (tgt := 11) dX7_lastAt_1 (by decide) ?_ ?_
  · exact sim_sub [0] rfl (hj1 )
  · refine sim_aload_n 0 rfl dX7_lastAt_4 ?_
    refine sim_getI g_RX7_21 (LRow_o hp) dX7_lastAt_5 ?_
    refine sim_if_ne (tgt := 20) dX7_lastAt_8 (by decide) ?_ ?_
    · refine sim_aload_n 0 rfl dX7_lastAt_20 ?_
      refine sim_getR g_RX7_18 (LRow_o hp) (LRow_r3 hp) dX7_lastAt_21 ?_
      refine sim_aload_n 0 rfl dX7_lastAt_24 ?_
      refine sim_getI g_RX7_21 (LRow_o hp) dX7_lastAt_25 ?_
      refine sim_iconst dX7_lastAt_28 (by decide) ?_
      refine sim_isub dX7_lastAt_29 ?_
      refine sim_iaload (LRow_a3 hp) rfl dX7_lastAt_30 ?_
      exact sim_iret rfl rfl dX7_lastAt_31
    · exact sim_sub [0] rfl (hj1 )
theorem dX7_sideOf_0 : decode cX7_sideOf 0 = .ok (.iload_n 2, 1) := by decide +kernel
theorem dX7_sideOf_1 : decode cX7_sideOf 1 = .ok (.aload_n 0, 1) := by decide +kernel
theorem dX7_sideOf_2 : decode cX7_sideOf 2 = .ok (.getfield 25, 3) := by decide +kernel
theorem dX7_sideOf_5 : decode cX7_sideOf 5 = .ok (.iload_n 1, 1) := by decide +kernel
theorem dX7_sideOf_6 : decode cX7_sideOf 6 = .ok (.iaload, 1) := by decide +kernel
theorem dX7_sideOf_7 : decode cX7_sideOf 7 = .ok (.if_icmp .ne 15, 3) := by decide +kernel
theorem dX7_sideOf_10 : decode cX7_sideOf 10 = .ok (.aload_n 0, 1) := by decide +kernel
theorem dX7_sideOf_11 : decode cX7_sideOf 11 = .ok (.getfield 34, 3) := by decide +kernel
theorem dX7_sideOf_14 : decode cX7_sideOf 14 = .ok (.getfield 69, 3) := by decide +kernel
theorem dX7_sideOf_17 : decode cX7_sideOf 17 = .ok (.iload_n 1, 1) := by decide +kernel
theorem dX7_sideOf_18 : decode cX7_sideOf 18 = .ok (.iaload, 1) := by decide +kernel
theorem dX7_sideOf_19 : decode cX7_sideOf 19 = .ok (.goto 12, 3) := by decide +kernel
theorem dX7_sideOf_22 : decode cX7_sideOf 22 = .ok (.aload_n 0, 1) := by decide +kernel
theorem dX7_sideOf_23 : decode cX7_sideOf 23 = .ok (.getfield 34, 3) := by decide +kernel
theorem dX7_sideOf_26 : decode cX7_sideOf 26 = .ok (.getfield 72, 3) := by decide +kernel
theorem dX7_sideOf_29 : decode cX7_sideOf 29 = .ok (.iload_n 1, 1) := by decide +kernel
theorem dX7_sideOf_30 : decode cX7_sideOf 30 = .ok (.iaload, 1) := by decide +kernel
theorem dX7_sideOf_31 : decode cX7_sideOf 31 = .ok (.ireturn, 1) := by decide +kernel
def f_Row_sideOf  (p : Nat) (ip : Nat) (a1 : Int) (a2 : Int) (σ : JSg) : Option (Int) :=
  chk (0 ≤ a1 ∧ a1 < 28) <| if a2 = (σ (p + 4) a1.toNat) then (chk (0 ≤ a1 ∧ a1 < 28) <| some (σ (ip + 2) a1.toNat)) else (chk (0 ≤ a1 ∧ a1 < 28) <| some (σ (ip + 3) a1.toNat))
set_option maxRecDepth 20000 in
set_option maxHeartbeats 4000000 in
theorem k_Row_sideOf (Sh : JSh) (ρ : JRo)  (p : Nat) (ip : Nat) (hp : LRow Sh ρ p ip) (hip : LIsl Sh ρ ip) (a1 : Int) (a2 : Int) (σ : JSg) : Call yX7_sideOf cX7_sideOf 3 (some .int) 0 Sh ρ [vR p, vI a1, vI a2] σ (dIp σ) (f_Row_sideOf p ip a1 a2 σ) := by
  refine call_of_sim (by decide +kernel) (Nat.le_of_ble_eq_true rfl) ?_
  show Sim RX7 cX7_sideOf 3 (some .int) 0 Sh ρ 0 [(0, vR p), (1, vI a1), (2, vI a2)] [] σ (dIp σ) (f_Row_sideOf p ip a1 a2 σ)
  unfold f_Row_sideOf
  refine sim_iload_n 2 rfl dX7_sideOf_0 ?_
  refine sim_aload_n 0 rfl dX7_sideOf_1 ?_
  refine sim_getR g_RX7_25 (LRow_o hp) (LRow_r5 hp) dX7_sideOf_2 ?_
  refine sim_iload_n 1 rfl dX7_sideOf_5 ?_
  refine sim_iaload (LRow_a5 hp) rfl dX7_sideOf_6 ?_
  refine sim_icmp_ne (tgt := 22) dX7_sideOf_7 (by decide) ?_ ?_
  · refine sim_aload_n 0 rfl dX7_sideOf_22 ?_
    refine sim_getR g_RX7_34 (LRow_o hp) (LRow_r0 hp) dX7_sideOf_23 ?_
    refine sim_getR g_RX7_72 (LIsl_o hip) (LIsl_r9 hip) dX7_sideOf_26 ?_
    refine sim_iload_n 1 rfl dX7_sideOf_29 ?_
    refine sim_iaload (LIsl_a9 hip) rfl dX7_sideOf_30 ?_
    exact sim_iret rfl rfl dX7_sideOf_31
  · refine sim_aload_n 0 rfl dX7_sideOf_10 ?_
    refine sim_getR g_RX7_34 (LRow_o hp) (LRow_r0 hp) dX7_sideOf_11 ?_
    refine sim_getR g_RX7_69 (LIsl_o hip) (LIsl_r8 hip) dX7_sideOf_14 ?_
    refine sim_iload_n 1 rfl dX7_sideOf_17 ?_
    refine sim_iaload (LIsl_a8 hip) rfl dX7_sideOf_18 ?_
    refine sim_goto (tgt := 31) dX7_sideOf_19 (by decide) ?_
    exact sim_iret rfl rfl dX7_sideOf_31
theorem dX7_outer_0 : decode cX7_outer 0 = .ok (.aload_n 0, 1) := by decide +kernel
theorem dX7_outer_1 : decode cX7_outer 1 = .ok (.getfield 21, 3) := by decide +kernel
theorem dX7_outer_4 : decode cX7_outer 4 = .ok (.ifCond .ne 7, 3) := by decide +kernel
theorem dX7_outer_7 : decode cX7_outer 7 = .ok (.iconst (-1), 1) := by decide +kernel
theorem dX7_outer_8 : decode cX7_outer 8 = .ok (.goto 13, 3) := by decide +kernel
theorem dX7_outer_11 : decode cX7_outer 11 = .ok (.aload_n 0, 1) := by decide +kernel
theorem dX7_outer_12 : decode cX7_outer 12 = .ok (.aload_n 0, 1) := by decide +kernel
theorem dX7_outer_13 : decode cX7_outer 13 = .ok (.iload_n 1, 1) := by decide +kernel
theorem dX7_outer_14 : decode cX7_outer 14 = .ok (.invokevirtual 66, 3) := by decide +kernel
theorem dX7_outer_17 : decode cX7_outer 17 = .ok (.iload_n 1, 1) := by decide +kernel
theorem dX7_outer_18 : decode cX7_outer 18 = .ok (.invokevirtual 75, 3) := by decide +kernel
theorem dX7_outer_21 : decode cX7_outer 21 = .ok (.ireturn, 1) := by decide +kernel
def f_Row_outer  (p : Nat) (ip : Nat) (a1 : Int) (σ : JSg) : Option (Int) :=
  if (σ p 4) = 0 then (some (-1)) else (bd1 (f_Row_lastAt p ip a1 σ) fun r1 => bd1 (f_Row_sideOf p ip r1 a1 σ) fun r2 => some r2)
set_option maxRecDepth 20000 in
set_option maxHeartbeats 4000000 in
theorem k_Row_outer (Sh : JSh) (ρ : JRo)  (p : Nat) (ip : Nat) (hp : LRow Sh ρ p ip) (hip : LIsl Sh ρ ip) (a1 : Int) (σ : JSg) : Call yX7_outer cX7_outer 2 (some .int) 1 Sh ρ [vR p, vI a1] σ (dIp σ) (f_Row_outer p ip a1 σ) := by
  refine call_of_sim (by decide +kernel) (Nat.le_of_ble_eq_true rfl) ?_
  show Sim RX7 cX7_outer 2 (some .int) 1 Sh ρ 0 [(0, vR p), (1, vI a1)] [] σ (dIp σ) (f_Row_outer p ip a1 σ)
  unfold f_Row_outer
  refine sim_aload_n 0 rfl dX7_outer_0 ?_
  refine sim_getI g_RX7_21 (LRow_o hp) dX7_outer_1 ?_
  refine sim_if_ne (tgt := 11) dX7_outer_4 (by decide) ?_ ?_
  · refine sim_aload_n 0 rfl dX7_outer_11 ?_
    refine sim_aload_n 0 rfl dX7_outer_12 ?_
    refine sim_iload_n 1 rfl dX7_outer_13 ?_
    refine sim_callVIp v_RX7_66 (LRow_o hp) dX7_outer_14 (k_Row_lastAt Sh ρ p ip hp hip a1 σ) rfl ⟨by decide, by decide⟩ (S := [vR p]) rfl (Nat.le_of_ble_eq_true rfl) (fun r1 => ?_)
    refine sim_iload_n 1 rfl dX7_outer_17 ?_
    refine sim_callVIp v_RX7_75 (LRow_o hp) dX7_outer_18 (k_Row_sideOf Sh ρ p ip hp hip r1 a1 σ) rfl ⟨by decide, by decide⟩ (S := []) rfl (Nat.le_of_ble_eq_true rfl) (fun r2 => ?_)
    exact sim_iret rfl rfl dX7_outer_21
  · refine sim_iconst dX7_outer_7 (by decide) ?_
    refine sim_goto (tgt := 21) dX7_outer_8 (by decide) ?_
    exact sim_iret rfl rfl dX7_outer_21
theorem dX3_fit_0 : decode cX3_fit 0 = .ok (.iload_n 1, 1) := by decide +kernel
theorem dX3_fit_1 : decode cX3_fit 1 = .ok (.ifCond .lt 36, 3) := by decide +kernel
theorem dX3_fit_4 : decode cX3_fit 4 = .ok (.iload_n 1, 1) := by decide +kernel
theorem dX3_fit_5 : decode cX3_fit 5 = .ok (.bipush 7, 2) := by decide +kernel
theorem dX3_fit_7 : decode cX3_fit 7 = .ok (.if_icmp .ge 30, 3) := by decide +kernel
theorem dX3_fit_10 : decode cX3_fit 10 = .ok (.iload_n 2, 1) := by decide +kernel
theorem dX3_fit_11 : decode cX3_fit 11 = .ok (.ifCond .lt 26, 3) := by decide +kernel
theorem dX3_fit_14 : decode cX3_fit 14 = .ok (.iload_n 2, 1) := by decide +kernel
theorem dX3_fit_15 : decode cX3_fit 15 = .ok (.bipush 7, 2) := by decide +kernel
theorem dX3_fit_17 : decode cX3_fit 17 = .ok (.if_icmp .ge 20, 3) := by decide +kernel
theorem dX3_fit_20 : decode cX3_fit 20 = .ok (.aload_n 0, 1) := by decide +kernel
theorem dX3_fit_21 : decode cX3_fit 21 = .ok (.getfield 51, 3) := by decide +kernel
theorem dX3_fit_24 : decode cX3_fit 24 = .ok (.iload_n 1, 1) := by decide +kernel
theorem dX3_fit_25 : decode cX3_fit 25 = .ok (.iaload, 1) := by decide +kernel
theorem dX3_fit_26 : decode cX3_fit 26 = .ok (.iload_n 2, 1) := by decide +kernel
theorem dX3_fit_27 : decode cX3_fit 27 = .ok (.ishr, 1) := by decide +kernel
theorem dX3_fit_28 : decode cX3_fit 28 = .ok (.iconst 1, 1) := by decide +kernel
theorem dX3_fit_29 : decode cX3_fit 29 = .ok (.iand, 1) := by decide +kernel
theorem dX3_fit_30 : decode cX3_fit 30 = .ok (.ifCond .eq 7, 3) := by decide +kernel
theorem dX3_fit_33 : decode cX3_fit 33 = .ok (.iconst 1, 1) := by decide +kernel
theorem dX3_fit_34 : decode cX3_fit 34 = .ok (.goto 4, 3) := by decide +kernel
theorem dX3_fit_37 : decode cX3_fit 37 = .ok (.iconst 0, 1) := by decide +kernel
theorem dX3_fit_38 : decode cX3_fit 38 = .ok (.ireturn, 1) := by decide +kernel
def f_Isl_fit  (p : Nat) (a1 : Int) (a2 : Int) (σ : JSg) : Option (Int) :=
  if a1 < 0 then (some 0) else (if a1 < 7 then (if a2 < 0 then (some 0) else (if a2 < 7 then (chk (0 ≤ a1 ∧ a1 < 7) <| if (an32 (sr32 (σ (p + 6) a1.toNat) a2) 1) = 0 then (some 0) else (some 1)) else (some 0))) else (some 0))
set_option maxRecDepth 20000 in
set_option maxHeartbeats 4000000 in
theorem k_Isl_fit (Sh : JSh) (ρ : JRo)  (p : Nat) (hp : LIsl Sh ρ p) (a1 : Int) (a2 : Int) (σ : JSg) : Call yX3_fit cX3_fit 3 (some .boolean) 0 Sh ρ [vR p, vI a1, vI a2] σ (dIp σ) (f_Isl_fit p a1 a2 σ) := by
  refine call_of_sim (by decide +kernel) (Nat.le_of_ble_eq_true rfl) ?_
  show Sim RX3 cX3_fit 3 (some .boolean) 0 Sh ρ 0 [(0, vR p), (1, vI a1), (2, vI a2)] [] σ (dIp σ) (f_Isl_fit p a1 a2 σ)
  unfold f_Isl_fit
  refine sim_iload_n 1 rfl dX3_fit_0 ?_
  refine sim_if_lt (tgt := 37) dX3_fit_1 (by decide) ?_ ?_
  · refine sim_iconst dX3_fit_37 (by decide) ?_
    exact sim_zret (Or.inl rfl) rfl rfl dX3_fit_38
  · refine sim_iload_n 1 rfl dX3_fit_4 ?_
    refine sim_bipush dX3_fit_5 (by decide +kernel) ?_
    refine sim_icmp_ge (tgt := 37) dX3_fit_7 (by decide) ?_ ?_
    · refine sim_iconst dX3_fit_37 (by decide) ?_
      exact sim_zret (Or.inl rfl) rfl rfl dX3_fit_38
    · refine sim_iload_n 2 rfl dX3_fit_10 ?_
      refine sim_if_lt (tgt := 37) dX3_fit_11 (by decide) ?_ ?_
      · refine sim_iconst dX3_fit_37 (by decide) ?_
        exact sim_zret (Or.inl rfl) rfl rfl dX3_fit_38
      · refine sim_iload_n 2 rfl dX3_fit_14 ?_
        refine sim_bipush dX3_fit_15 (by decide +kernel) ?_
        refine sim_icmp_ge (tgt := 37) dX3_fit_17 (by decide) ?_ ?_
        · refine sim_iconst dX3_fit_37 (by decide) ?_
          exact sim_zret (Or.inl rfl) rfl rfl dX3_fit_38
        · refine sim_aload_n 0 rfl dX3_fit_20 ?_
          refine sim_getR g_RX3_51 (LIsl_o hp) (LIsl_r12 hp) dX3_fit_21 ?_
          refine sim_iload_n 1 rfl dX3_fit_24 ?_
          refine sim_iaload (LIsl_a12 hp) rfl dX3_fit_25 ?_
          refine sim_iload_n 2 rfl dX3_fit_26 ?_
          refine sim_ishr dX3_fit_27 ?_
          refine sim_iconst dX3_fit_28 (by decide) ?_
          refine sim_iand dX3_fit_29 ?_
          refine sim_if_eq (tgt := 37) dX3_fit_30 (by decide) ?_ ?_
          · refine sim_iconst dX3_fit_37 (by decide) ?_
            exact sim_zret (Or.inl rfl) rfl rfl dX3_fit_38
          · refine sim_iconst dX3_fit_33 (by decide) ?_
            refine sim_goto (tgt := 38) dX3_fit_34 (by decide) ?_
            exact sim_zret (Or.inr rfl) rfl rfl dX3_fit_38
theorem dX7_goesTo_0 : decode cX7_goesTo 0 = .ok (.aload_n 0, 1) := by decide +kernel
theorem dX7_goesTo_1 : decode cX7_goesTo 1 = .ok (.iload_n 2, 1) := by decide +kernel
theorem dX7_goesTo_2 : decode cX7_goesTo 2 = .ok (.invokevirtual 82, 3) := by decide +kernel
theorem dX7_goesTo_5 : decode cX7_goesTo 5 = .ok (.istore_n 3, 1) := by decide +kernel
theorem dX7_goesTo_6 : decode cX7_goesTo 6 = .ok (.aload_n 0, 1) := by decide +kernel
theorem dX7_goesTo_7 : decode cX7_goesTo 7 = .ok (.getfield 21, 3) := by decide +kernel
theorem dX7_goesTo_10 : decode cX7_goesTo 10 = .ok (.ifCond .eq 43, 3) := by decide +kernel
theorem dX7_goesTo_13 : decode cX7_goesTo 13 = .ok (.aload_n 0, 1) := by decide +kernel
theorem dX7_goesTo_14 : decode cX7_goesTo 14 = .ok (.getfield 34, 3) := by decide +kernel
theorem dX7_goesTo_17 : decode cX7_goesTo 17 = .ok (.aload_n 0, 1) := by decide +kernel
theorem dX7_goesTo_18 : decode cX7_goesTo 18 = .ok (.getfield 34, 3) := by decide +kernel
theorem dX7_goesTo_21 : decode cX7_goesTo 21 = .ok (.getfield 69, 3) := by decide +kernel
theorem dX7_goesTo_24 : decode cX7_goesTo 24 = .ok (.iload_n 1, 1) := by decide +kernel
theorem dX7_goesTo_25 : decode cX7_goesTo 25 = .ok (.iaload, 1) := by decide +kernel
theorem dX7_goesTo_26 : decode cX7_goesTo 26 = .ok (.iload_n 3, 1) := by decide +kernel
theorem dX7_goesTo_27 : decode cX7_goesTo 27 = .ok (.invokevirtual 79, 3) := by decide +kernel
theorem dX7_goesTo_30 : decode cX7_goesTo 30 = .ok (.ifCond .ne 23, 3) := by decide +kernel
theorem dX7_goesTo_33 : decode cX7_goesTo 33 = .ok (.aload_n 0, 1) := by decide +kernel
theorem dX7_goesTo_34 : decode cX7_goesTo 34 = .ok (.getfield 34, 3) := by decide +kernel
theorem dX7_goesTo_37 : decode cX7_goesTo 37 = .ok (.aload_n 0, 1) := by decide +kernel
theorem dX7_goesTo_38 : decode cX7_goesTo 38 = .ok (.getfield 34, 3) := by decide +kernel
theorem dX7_goesTo_41 : decode cX7_goesTo 41 = .ok (.getfield 72, 3) := by decide +kernel
theorem dX7_goesTo_44 : decode cX7_goesTo 44 = .ok (.iload_n 1, 1) := by decide +kernel
theorem dX7_goesTo_45 : decode cX7_goesTo 45 = .ok (.iaload, 1) := by decide +kernel
theorem dX7_goesTo_46 : decode cX7_goesTo 46 = .ok (.iload_n 3, 1) := by decide +kernel
theorem dX7_goesTo_47 : decode cX7_goesTo 47 = .ok (.invokevirtual 79, 3) := by decide +kernel
theorem dX7_goesTo_50 : decode cX7_goesTo 50 = .ok (.ifCond .eq 7, 3) := by decide +kernel
theorem dX7_goesTo_53 : decode cX7_goesTo 53 = .ok (.iconst 1, 1) := by decide +kernel
theorem dX7_goesTo_54 : decode cX7_goesTo 54 = .ok (.goto 4, 3) := by decide +kernel
theorem dX7_goesTo_57 : decode cX7_goesTo 57 = .ok (.iconst 0, 1) := by decide +kernel
theorem dX7_goesTo_58 : decode cX7_goesTo 58 = .ok (.ireturn, 1) := by decide +kernel
def f_Row_goesTo  (p : Nat) (ip : Nat) (a1 : Int) (a2 : Int) (σ : JSg) : Option (Int) :=
  bd1 (f_Row_outer p ip a2 σ) fun r1 => lt_ r1 fun v2 => jn0 (some 1) fun j3 => if (σ p 4) = 0 then (j3) else (chk (0 ≤ a1 ∧ a1 < 28) <| bd1 (f_Isl_fit ip (σ (ip + 2) a1.toNat) v2 σ) fun r4 => if r4 = 0 then (chk (0 ≤ a1 ∧ a1 < 28) <| bd1 (f_Isl_fit ip (σ (ip + 3) a1.toNat) v2 σ) fun r5 => if r5 = 0 then (some 0) else (j3)) else (j3))
set_option maxRecDepth 20000 in
set_option maxHeartbeats 4000000 in
theorem k_Row_goesTo (Sh : JSh) (ρ : JRo)  (p : Nat) (ip : Nat) (hp : LRow Sh ρ p ip) (hip : LIsl Sh ρ ip) (a1 : Int) (a2 : Int) (σ : JSg) : Call yX7_goesTo cX7_goesTo 4 (some .boolean) 2 Sh ρ [vR p, vI a1, vI a2] σ (dIp σ) (f_Row_goesTo p ip a1 a2 σ) := by
  refine call_of_sim (by decide +kernel) (Nat.le_of_ble_eq_true rfl) ?_
  show Sim RX7 cX7_goesTo 4 (some .boolean) 2 Sh ρ 0 [(0, vR p), (1, vI a1), (2, vI a2)] [] σ (dIp σ) (f_Row_goesTo p ip a1 a2 σ)
  unfold f_Row_goesTo
  refine sim_aload_n 0 rfl dX7_goesTo_0 ?_
  refine sim_iload_n 2 rfl dX7_goesTo_1 ?_
  refine sim_callVIp v_RX7_82 (LRow_o hp) dX7_goesTo_2 (k_Row_outer Sh ρ p ip hp hip a2 σ) rfl ⟨by decide, by decide⟩ (S := []) rfl (Nat.le_of_ble_eq_true rfl) (fun r1 => ?_)
  refine sim_istore_n (fun v2 => [(3, vI v2), (0, vR p), (1, vI a1), (2, vI a2)]) (fun _ => rfl) (by decide) dX7_goesTo_5 (fun v2 => ?_)
  refine sim_aload_n 1 rfl dX7_goesTo_6 ?_
  refine sim_getI g_RX7_21 (LRow_o hp) dX7_goesTo_7 ?_
  refine sim_jn0 (pc' := 53) ([]) ([]) (σ) ?_ (fun j3 hj3 => ?_)
  · refine sim_iconst dX7_goesTo_53 (by decide) ?_
    refine sim_goto (tgt := 58) dX7_goesTo_54 (by decide) ?_
    exact sim_zret (Or.inr rfl) rfl rfl dX7_goesTo_58
  refine sim_if_eq (tgt := 53) dX7_goesTo_10 (by decide) ?_ ?_
  · exact sim_sub [] rfl (hj3 )
  · refine sim_aload_n 1 rfl dX7_goesTo_13 ?_
    refine sim_getR g_RX7_34 (LRow_o hp) (LRow_r0 hp) dX7_goesTo_14 ?_
    refine sim_aload_n 1 rfl dX7_goesTo_17 ?_
    refine sim_getR g_RX7_34 (LRow_o hp) (LRow_r0 hp) dX7_goesTo_18 ?_
    refine sim_getR g_RX7_69 (LIsl_o hip) (LIsl_r8 hip) dX7_goesTo_21 ?_
    refine sim_iload_n 2 rfl dX7_goesTo_24 ?_
    refine sim_iaload (LIsl_a8 hip) rfl dX7_goesTo_25 ?_
    refine sim_iload_n 0 rfl dX7_goesTo_26 ?_
    refine sim_callVIp v_RX7_79 (LIsl_o hip) dX7_goesTo_27 (k_Isl_fit Sh ρ ip hip (σ (ip + 2) a1.toNat) v2 σ) rfl ⟨by decide, by decide⟩ (S := []) rfl (Nat.le_of_ble_eq_true rfl) (fun r4 => ?_)
    refine sim_if_ne (tgt := 53) dX7_goesTo_30 (by decide) ?_ ?_
    · exact sim_sub [] rfl (hj3 )
    · refine sim_aload_n 1 rfl dX7_goesTo_33 ?_
      refine sim_getR g_RX7_34 (LRow_o hp) (LRow_r0 hp) dX7_goesTo_34 ?_
      refine sim_aload_n 1 rfl dX7_goesTo_37 ?_
      refine sim_getR g_RX7_34 (LRow_o hp) (LRow_r0 hp) dX7_goesTo_38 ?_
      refine sim_getR g_RX7_72 (LIsl_o hip) (LIsl_r9 hip) dX7_goesTo_41 ?_
      refine sim_iload_n 2 rfl dX7_goesTo_44 ?_
      refine sim_iaload (LIsl_a9 hip) rfl dX7_goesTo_45 ?_
      refine sim_iload_n 0 rfl dX7_goesTo_46 ?_
      refine sim_callVIp v_RX7_79 (LIsl_o hip) dX7_goesTo_47 (k_Isl_fit Sh ρ ip hip (σ (ip + 3) a1.toNat) v2 σ) rfl ⟨by decide, by decide⟩ (S := []) rfl (Nat.le_of_ble_eq_true rfl) (fun r5 => ?_)
      refine sim_if_eq (tgt := 57) dX7_goesTo_50 (by decide) ?_ ?_
      · refine sim_iconst dX7_goesTo_57 (by decide) ?_
        exact sim_zret (Or.inl rfl) rfl rfl dX7_goesTo_58
      · exact sim_sub [] rfl (hj3 )
theorem dX8_isTrue_0 : decode cX8_isTrue 0 = .ok (.aload_n 1, 1) := by decide +kernel
theorem dX8_isTrue_1 : decode cX8_isTrue 1 = .ok (.getfield 100, 3) := by decide +kernel
theorem dX8_isTrue_4 : decode cX8_isTrue 4 = .ok (.getfield 113, 3) := by decide +kernel
theorem dX8_isTrue_7 : decode cX8_isTrue 7 = .ok (.iload_n 2, 1) := by decide +kernel
theorem dX8_isTrue_8 : decode cX8_isTrue 8 = .ok (.iaload, 1) := by decide +kernel
theorem dX8_isTrue_9 : decode cX8_isTrue 9 = .ok (.istore 4, 2) := by decide +kernel
theorem dX8_isTrue_11 : decode cX8_isTrue 11 = .ok (.aload_n 1, 1) := by decide +kernel
theorem dX8_isTrue_12 : decode cX8_isTrue 12 = .ok (.getfield 100, 3) := by decide +kernel
theorem dX8_isTrue_15 : decode cX8_isTrue 15 = .ok (.getfield 116, 3) := by decide +kernel
theorem dX8_isTrue_18 : decode cX8_isTrue 18 = .ok (.iload_n 2, 1) := by decide +kernel
theorem dX8_isTrue_19 : decode cX8_isTrue 19 = .ok (.iaload, 1) := by decide +kernel
theorem dX8_isTrue_20 : decode cX8_isTrue 20 = .ok (.istore 5, 2) := by decide +kernel
theorem dX8_isTrue_22 : decode cX8_isTrue 22 = .ok (.aload_n 0, 1) := by decide +kernel
theorem dX8_isTrue_23 : decode cX8_isTrue 23 = .ok (.getfield 18, 3) := by decide +kernel
theorem dX8_isTrue_26 : decode cX8_isTrue 26 = .ok (.iload_n 3, 1) := by decide +kernel
theorem dX8_isTrue_27 : decode cX8_isTrue 27 = .ok (.iaload, 1) := by decide +kernel
theorem dX8_isTrue_28 : decode cX8_isTrue 28 = .ok (.tableswitch 196 12 20 #[52, 65, 81, 96, 117, 148, 159, 172, 185], 52) := by decide +kernel
theorem dX8_isTrue_80 : decode cX8_isTrue 80 = .ok (.iload 4, 2) := by decide +kernel
theorem dX8_isTrue_82 : decode cX8_isTrue 82 = .ok (.iload 5, 2) := by decide +kernel
theorem dX8_isTrue_84 : decode cX8_isTrue 84 = .ok (.if_icmp .ne 7, 3) := by decide +kernel
theorem dX8_isTrue_87 : decode cX8_isTrue 87 = .ok (.iconst 1, 1) := by decide +kernel
theorem dX8_isTrue_88 : decode cX8_isTrue 88 = .ok (.goto 4, 3) := by decide +kernel
theorem dX8_isTrue_91 : decode cX8_isTrue 91 = .ok (.iconst 0, 1) := by decide +kernel
theorem dX8_isTrue_92 : decode cX8_isTrue 92 = .ok (.ireturn, 1) := by decide +kernel
theorem dX8_isTrue_93 : decode cX8_isTrue 93 = .ok (.aload_n 1, 1) := by decide +kernel
theorem dX8_isTrue_94 : decode cX8_isTrue 94 = .ok (.getfield 119, 3) := by decide +kernel
theorem dX8_isTrue_97 : decode cX8_isTrue 97 = .ok (.iload_n 2, 1) := by decide +kernel
theorem dX8_isTrue_98 : decode cX8_isTrue 98 = .ok (.iaload, 1) := by decide +kernel
theorem dX8_isTrue_99 : decode cX8_isTrue 99 = .ok (.iconst 2, 1) := by decide +kernel
theorem dX8_isTrue_100 : decode cX8_isTrue 100 = .ok (.if_icmp .ne 7, 3) := by decide +kernel
theorem dX8_isTrue_103 : decode cX8_isTrue 103 = .ok (.iconst 1, 1) := by decide +kernel
theorem dX8_isTrue_104 : decode cX8_isTrue 104 = .ok (.goto 4, 3) := by decide +kernel
theorem dX8_isTrue_107 : decode cX8_isTrue 107 = .ok (.iconst 0, 1) := by decide +kernel
theorem dX8_isTrue_108 : decode cX8_isTrue 108 = .ok (.ireturn, 1) := by decide +kernel
theorem dX8_isTrue_109 : decode cX8_isTrue 109 = .ok (.aload_n 1, 1) := by decide +kernel
theorem dX8_isTrue_110 : decode cX8_isTrue 110 = .ok (.getfield 119, 3) := by decide +kernel
theorem dX8_isTrue_113 : decode cX8_isTrue 113 = .ok (.iload_n 2, 1) := by decide +kernel
theorem dX8_isTrue_114 : decode cX8_isTrue 114 = .ok (.iaload, 1) := by decide +kernel
theorem dX8_isTrue_115 : decode cX8_isTrue 115 = .ok (.ifCond .ne 7, 3) := by decide +kernel
theorem dX8_isTrue_118 : decode cX8_isTrue 118 = .ok (.iconst 1, 1) := by decide +kernel
theorem dX8_isTrue_119 : decode cX8_isTrue 119 = .ok (.goto 4, 3) := by decide +kernel
theorem dX8_isTrue_122 : decode cX8_isTrue 122 = .ok (.iconst 0, 1) := by decide +kernel
theorem dX8_isTrue_123 : decode cX8_isTrue 123 = .ok (.ireturn, 1) := by decide +kernel
theorem dX8_isTrue_124 : decode cX8_isTrue 124 = .ok (.aload_n 1, 1) := by decide +kernel
theorem dX8_isTrue_125 : decode cX8_isTrue 125 = .ok (.getfield 122, 3) := by decide +kernel
theorem dX8_isTrue_128 : decode cX8_isTrue 128 = .ok (.iload_n 2, 1) := by decide +kernel
theorem dX8_isTrue_129 : decode cX8_isTrue 129 = .ok (.iaload, 1) := by decide +kernel
theorem dX8_isTrue_130 : decode cX8_isTrue 130 = .ok (.aload_n 0, 1) := by decide +kernel
theorem dX8_isTrue_131 : decode cX8_isTrue 131 = .ok (.getfield 25, 3) := by decide +kernel
theorem dX8_isTrue_134 : decode cX8_isTrue 134 = .ok (.iload_n 3, 1) := by decide +kernel
theorem dX8_isTrue_135 : decode cX8_isTrue 135 = .ok (.iaload, 1) := by decide +kernel
theorem dX8_isTrue_136 : decode cX8_isTrue 136 = .ok (.if_icmp .ne 7, 3) := by decide +kernel
theorem dX8_isTrue_139 : decode cX8_isTrue 139 = .ok (.iconst 1, 1) := by decide +kernel
theorem dX8_isTrue_140 : decode cX8_isTrue 140 = .ok (.goto 4, 3) := by decide +kernel
theorem dX8_isTrue_143 : decode cX8_isTrue 143 = .ok (.iconst 0, 1) := by decide +kernel
theorem dX8_isTrue_144 : decode cX8_isTrue 144 = .ok (.ireturn, 1) := by decide +kernel
theorem dX8_isTrue_145 : decode cX8_isTrue 145 = .ok (.aload_n 1, 1) := by decide +kernel
theorem dX8_isTrue_146 : decode cX8_isTrue 146 = .ok (.getfield 125, 3) := by decide +kernel
theorem dX8_isTrue_149 : decode cX8_isTrue 149 = .ok (.ifCond .le 25, 3) := by decide +kernel
theorem dX8_isTrue_152 : decode cX8_isTrue 152 = .ok (.aload_n 1, 1) := by decide +kernel
theorem dX8_isTrue_153 : decode cX8_isTrue 153 = .ok (.iload_n 2, 1) := by decide +kernel
theorem dX8_isTrue_154 : decode cX8_isTrue 154 = .ok (.iconst 0, 1) := by decide +kernel
theorem dX8_isTrue_155 : decode cX8_isTrue 155 = .ok (.invokevirtual 128, 3) := by decide +kernel
theorem dX8_isTrue_158 : decode cX8_isTrue 158 = .ok (.ifCond .ne 12, 3) := by decide +kernel
theorem dX8_isTrue_161 : decode cX8_isTrue 161 = .ok (.aload_n 1, 1) := by decide +kernel
theorem dX8_isTrue_162 : decode cX8_isTrue 162 = .ok (.iload_n 2, 1) := by decide +kernel
theorem dX8_isTrue_163 : decode cX8_isTrue 163 = .ok (.iconst 1, 1) := by decide +kernel
theorem dX8_isTrue_164 : decode cX8_isTrue 164 = .ok (.invokevirtual 128, 3) := by decide +kernel
theorem dX8_isTrue_167 : decode cX8_isTrue 167 = .ok (.ifCond .eq 7, 3) := by decide +kernel
theorem dX8_isTrue_170 : decode cX8_isTrue 170 = .ok (.iconst 1, 1) := by decide +kernel
theorem dX8_isTrue_171 : decode cX8_isTrue 171 = .ok (.goto 4, 3) := by decide +kernel
theorem dX8_isTrue_174 : decode cX8_isTrue 174 = .ok (.iconst 0, 1) := by decide +kernel
theorem dX8_isTrue_175 : decode cX8_isTrue 175 = .ok (.ireturn, 1) := by decide +kernel
theorem dX8_isTrue_176 : decode cX8_isTrue 176 = .ok (.aload_n 0, 1) := by decide +kernel
theorem dX8_isTrue_177 : decode cX8_isTrue 177 = .ok (.iload 4, 2) := by decide +kernel
theorem dX8_isTrue_179 : decode cX8_isTrue 179 = .ok (.iload 5, 2) := by decide +kernel
theorem dX8_isTrue_181 : decode cX8_isTrue 181 = .ok (.iadd, 1) := by decide +kernel
theorem dX8_isTrue_182 : decode cX8_isTrue 182 = .ok (.iload_n 3, 1) := by decide +kernel
theorem dX8_isTrue_183 : decode cX8_isTrue 183 = .ok (.invokevirtual 132, 3) := by decide +kernel
theorem dX8_isTrue_186 : decode cX8_isTrue 186 = .ok (.ireturn, 1) := by decide +kernel
theorem dX8_isTrue_187 : decode cX8_isTrue 187 = .ok (.aload_n 0, 1) := by decide +kernel
theorem dX8_isTrue_188 : decode cX8_isTrue 188 = .ok (.iload 4, 2) := by decide +kernel
theorem dX8_isTrue_190 : decode cX8_isTrue 190 = .ok (.iload 5, 2) := by decide +kernel
theorem dX8_isTrue_192 : decode cX8_isTrue 192 = .ok (.invokestatic 135, 3) := by decide +kernel
theorem dX8_isTrue_195 : decode cX8_isTrue 195 = .ok (.iload_n 3, 1) := by decide +kernel
theorem dX8_isTrue_196 : decode cX8_isTrue 196 = .ok (.invokevirtual 132, 3) := by decide +kernel
theorem dX8_isTrue_199 : decode cX8_isTrue 199 = .ok (.ireturn, 1) := by decide +kernel
theorem dX8_isTrue_200 : decode cX8_isTrue 200 = .ok (.aload_n 0, 1) := by decide +kernel
theorem dX8_isTrue_201 : decode cX8_isTrue 201 = .ok (.iload 4, 2) := by decide +kernel
theorem dX8_isTrue_203 : decode cX8_isTrue 203 = .ok (.iload 5, 2) := by decide +kernel
theorem dX8_isTrue_205 : decode cX8_isTrue 205 = .ok (.invokestatic 141, 3) := by decide +kernel
theorem dX8_isTrue_208 : decode cX8_isTrue 208 = .ok (.iload_n 3, 1) := by decide +kernel
theorem dX8_isTrue_209 : decode cX8_isTrue 209 = .ok (.invokevirtual 132, 3) := by decide +kernel
theorem dX8_isTrue_212 : decode cX8_isTrue 212 = .ok (.ireturn, 1) := by decide +kernel
theorem dX8_isTrue_213 : decode cX8_isTrue 213 = .ok (.aload_n 0, 1) := by decide +kernel
theorem dX8_isTrue_214 : decode cX8_isTrue 214 = .ok (.aload_n 1, 1) := by decide +kernel
theorem dX8_isTrue_215 : decode cX8_isTrue 215 = .ok (.iload_n 2, 1) := by decide +kernel
theorem dX8_isTrue_216 : decode cX8_isTrue 216 = .ok (.invokevirtual 144, 3) := by decide +kernel
theorem dX8_isTrue_219 : decode cX8_isTrue 219 = .ok (.iload_n 3, 1) := by decide +kernel
theorem dX8_isTrue_220 : decode cX8_isTrue 220 = .ok (.invokevirtual 132, 3) := by decide +kernel
theorem dX8_isTrue_223 : decode cX8_isTrue 223 = .ok (.ireturn, 1) := by decide +kernel
theorem dX8_isTrue_224 : decode cX8_isTrue 224 = .ok (.iconst 0, 1) := by decide +kernel
theorem dX8_isTrue_225 : decode cX8_isTrue 225 = .ok (.ireturn, 1) := by decide +kernel
def f_Sen_isTrue (n : Nat) (p : Nat) (q : Nat) (iq : Nat) (a2 : Int) (a3 : Int) (σ : JSg) : Option (Int) :=
  chk (0 ≤ a2 ∧ a2 < 28) <| lt_ (σ (iq + 2) a2.toNat) fun v1 => chk (0 ≤ a2 ∧ a2 < 28) <| lt_ (σ (iq + 3) a2.toNat) fun v2 => chk (0 ≤ a3 ∧ a3 < 40) <| sw_ (σ (p + 1) a3.toNat) 12 [if v1 = v2 then (some 1) else (some 0), chk (0 ≤ a2 ∧ a2 < 28) <| if (σ (q + 2) a2.toNat) = 2 then (some 1) else (some 0), chk (0 ≤ a2 ∧ a2 < 28) <| if (σ (q + 2) a2.toNat) = 0 then (some 1) else (some 0), chk (0 ≤ a2 ∧ a2 < 28) <| chk (0 ≤ a3 ∧ a3 < 40) <| if (σ (q + 1) a2.toNat) = (σ (p + 3) a3.toNat) then (some 1) else (some 0), if 0 < (σ q 4) then (bd1 (f_Row_goesTo q iq a2 0 σ) fun r3 => jn0 (some 1) fun j4 => if r3 = 0 then (bd1 (f_Row_goesTo q iq a2 1 σ) fun r5 => if r5 = 0 then (some 0) else (j4)) else (j4)) else (some 0), bd1 (f_Sen_isAsTold p (w32 (v1 + v2)) a3 σ) fun r6 => chk (r6 = 0 ∨ r6 = 1) <| some r6, bd1 (f_Sen_isAsTold p (max v1 v2) a3 σ) fun r7 => chk (r7 = 0 ∨ r7 = 1) <| some r7, bd1 (f_Sen_isAsTold p (min v1 v2) a3 σ) fun r8 => chk (r8 = 0 ∨ r8 = 1) <| some r8, bd1 (f_Row_placeOf n q iq a2 σ) fun r9 => bd1 (f_Sen_isAsTold p r9 a3 σ) fun r10 => chk (r10 = 0 ∨ r10 = 1) <| some r10] (some 0)
set_option maxRecDepth 20000 in
set_option maxHeartbeats 4000000 in
theorem k_Sen_isTrue (Sh : JSh) (ρ : JRo) (n : Nat) (p : Nat) (q : Nat) (iq : Nat) (hp : LSen Sh ρ p) (hq : LRow Sh ρ q iq) (hiq : LIsl Sh ρ iq) (a2 : Int) (a3 : Int) (σ : JSg) : Call yX8_isTrue cX8_isTrue 6 (some .boolean) 3 Sh ρ [vR p, vR q, vI a2, vI a3] σ (dIp σ) (f_Sen_isTrue n p q iq a2 a3 σ) := by
  refine call_of_sim (by decide +kernel) (Nat.le_of_ble_eq_true rfl) ?_
  show Sim RX8 cX8_isTrue 6 (some .boolean) 3 Sh ρ 0 [(0, vR p), (1, vR q), (2, vI a2), (3, vI a3)] [] σ (dIp σ) (f_Sen_isTrue n p q iq a2 a3 σ)
  unfold f_Sen_isTrue
  refine sim_aload_n 1 rfl dX8_isTrue_0 ?_
  refine sim_getR g_RX8_100 (LRow_o hq) (LRow_r0 hq) dX8_isTrue_1 ?_
  refine sim_getR g_RX8_113 (LIsl_o hiq) (LIsl_r8 hiq) dX8_isTrue_4 ?_
  refine sim_iload_n 2 rfl dX8_isTrue_7 ?_
  refine sim_iaload (LIsl_a8 hiq) rfl dX8_isTrue_8 ?_
  refine sim_istore (fun v1 => [(4, vI v1), (0, vR p), (1, vR q), (2, vI a2), (3, vI a3)]) (fun _ => rfl) (by decide) dX8_isTrue_9 (fun v1 => ?_)
  refine sim_aload_n 2 rfl dX8_isTrue_11 ?_
  refine sim_getR g_RX8_100 (LRow_o hq) (LRow_r0 hq) dX8_isTrue_12 ?_
  refine sim_getR g_RX8_116 (LIsl_o hiq) (LIsl_r9 hiq) dX8_isTrue_15 ?_
  refine sim_iload_n 3 rfl dX8_isTrue_18 ?_
  refine sim_iaload (LIsl_a9 hiq) rfl dX8_isTrue_19 ?_
  refine sim_istore (fun v2 => [(5, vI v2), (4, vI v1), (0, vR p), (1, vR q), (2, vI a2), (3, vI a3)]) (fun _ => rfl) (by decide) dX8_isTrue_20 (fun v2 => ?_)
  refine sim_aload_n 2 rfl dX8_isTrue_22 ?_
  refine sim_getR g_RX8_18 (LSen_o hp) (LSen_r2 hp) dX8_isTrue_23 ?_
  refine sim_iload_n 5 rfl dX8_isTrue_26 ?_
  refine sim_iaload (LSen_a2 hp) rfl dX8_isTrue_27 ?_
  refine sim_tsw2 (td := 224) [80, 93, 109, 124, 145, 176, 187, 200, 213] dX8_isTrue_28 (by decide) (by decide) (tsw_of (by decide +kernel)) ⟨?_, ?_, ?_, ?_, ?_, ?_, ?_, ?_, ?_, trivial⟩ ?_
  · refine sim_iload 1 rfl dX8_isTrue_80 ?_
    refine sim_iload 0 rfl dX8_isTrue_82 ?_
    refine sim_icmp_ne (tgt := 91) dX8_isTrue_84 (by decide) ?_ ?_
    · refine sim_iconst dX8_isTrue_91 (by decide) ?_
      exact sim_zret (Or.inl rfl) rfl rfl dX8_isTrue_92
    · refine sim_iconst dX8_isTrue_87 (by decide) ?_
      refine sim_goto (tgt := 92) dX8_isTrue_88 (by decide) ?_
      exact sim_zret (Or.inr rfl) rfl rfl dX8_isTrue_92
  · refine sim_aload_n 3 rfl dX8_isTrue_93 ?_
    refine sim_getR g_RX8_119 (LRow_o hq) (LRow_r2 hq) dX8_isTrue_94 ?_
    refine sim_iload_n 4 rfl dX8_isTrue_97 ?_
    refine sim_iaload (LRow_a2 hq) rfl dX8_isTrue_98 ?_
    refine sim_iconst dX8_isTrue_99 (by decide) ?_
    refine sim_icmp_ne (tgt := 107) dX8_isTrue_100 (by decide) ?_ ?_
    · refine sim_iconst dX8_isTrue_107 (by decide) ?_
      exact sim_zret (Or.inl rfl) rfl rfl dX8_isTrue_108
    · refine sim_iconst dX8_isTrue_103 (by decide) ?_
      refine sim_goto (tgt := 108) dX8_isTrue_104 (by decide) ?_
      exact sim_zret (Or.inr rfl) rfl rfl dX8_isTrue_108
  · refine sim_aload_n 3 rfl dX8_isTrue_109 ?_
    refine sim_getR g_RX8_119 (LRow_o hq) (LRow_r2 hq) dX8_isTrue_110 ?_
    refine sim_iload_n 4 rfl dX8_isTrue_113 ?_
    refine sim_iaload (LRow_a2 hq) rfl dX8_isTrue_114 ?_
    refine sim_if_ne (tgt := 122) dX8_isTrue_115 (by decide) ?_ ?_
    · refine sim_iconst dX8_isTrue_122 (by decide) ?_
      exact sim_zret (Or.inl rfl) rfl rfl dX8_isTrue_123
    · refine sim_iconst dX8_isTrue_118 (by decide) ?_
      refine sim_goto (tgt := 123) dX8_isTrue_119 (by decide) ?_
      exact sim_zret (Or.inr rfl) rfl rfl dX8_isTrue_123
  · refine sim_aload_n 3 rfl dX8_isTrue_124 ?_
    refine sim_getR g_RX8_122 (LRow_o hq) (LRow_r1 hq) dX8_isTrue_125 ?_
    refine sim_iload_n 4 rfl dX8_isTrue_128 ?_
    refine sim_iaload (LRow_a1 hq) rfl dX8_isTrue_129 ?_
    refine sim_aload_n 2 rfl dX8_isTrue_130 ?_
    refine sim_getR g_RX8_25 (LSen_o hp) (LSen_r4 hp) dX8_isTrue_131 ?_
    refine sim_iload_n 5 rfl dX8_isTrue_134 ?_
    refine sim_iaload (LSen_a4 hp) rfl dX8_isTrue_135 ?_
    refine sim_icmp_ne (tgt := 143) dX8_isTrue_136 (by decide) ?_ ?_
    · refine sim_iconst dX8_isTrue_143 (by decide) ?_
      exact sim_zret (Or.inl rfl) rfl rfl dX8_isTrue_144
    · refine sim_iconst dX8_isTrue_139 (by decide) ?_
      refine sim_goto (tgt := 144) dX8_isTrue_140 (by decide) ?_
      exact sim_zret (Or.inr rfl) rfl rfl dX8_isTrue_144
  · refine sim_aload_n 3 rfl dX8_isTrue_145 ?_
    refine sim_getI g_RX8_125 (LRow_o hq) dX8_isTrue_146 ?_
    refine sim_if_le (tgt := 174) dX8_isTrue_149 (by decide) ?_ ?_
    · refine sim_iconst dX8_isTrue_174 (by decide) ?_
      exact sim_zret (Or.inl rfl) rfl rfl dX8_isTrue_175
    · refine sim_aload_n 3 rfl dX8_isTrue_152 ?_
      refine sim_iload_n 4 rfl dX8_isTrue_153 ?_
      refine sim_iconst dX8_isTrue_154 (by decide) ?_
      refine sim_callVIp v_RX8_128 (LRow_o hq) dX8_isTrue_155 (k_Row_goesTo Sh ρ q iq hq hiq a2 0 σ) rfl ⟨by decide, by decide⟩ (S := []) rfl (Nat.le_of_ble_eq_true rfl) (fun r3 => ?_)
      refine sim_jn0 (pc' := 170) ([]) ([]) (σ) ?_ (fun j4 hj4 => ?_)
      · refine sim_iconst dX8_isTrue_170 (by decide) ?_
        refine sim_goto (tgt := 175) dX8_isTrue_171 (by decide) ?_
        exact sim_zret (Or.inr rfl) rfl rfl dX8_isTrue_175
      refine sim_if_ne (tgt := 170) dX8_isTrue_158 (by decide) ?_ ?_
      · exact sim_sub [] rfl (hj4 )
      · refine sim_aload_n 3 rfl dX8_isTrue_161 ?_
        refine sim_iload_n 4 rfl dX8_isTrue_162 ?_
        refine sim_iconst dX8_isTrue_163 (by decide) ?_
        refine sim_callVIp v_RX8_128 (LRow_o hq) dX8_isTrue_164 (k_Row_goesTo Sh ρ q iq hq hiq a2 1 σ) rfl ⟨by decide, by decide⟩ (S := []) rfl (Nat.le_of_ble_eq_true rfl) (fun r5 => ?_)
        refine sim_if_eq (tgt := 174) dX8_isTrue_167 (by decide) ?_ ?_
        · refine sim_iconst dX8_isTrue_174 (by decide) ?_
          exact sim_zret (Or.inl rfl) rfl rfl dX8_isTrue_175
        · exact sim_sub [] rfl (hj4 )
  · refine sim_aload_n 2 rfl dX8_isTrue_176 ?_
    refine sim_iload 1 rfl dX8_isTrue_177 ?_
    refine sim_iload 0 rfl dX8_isTrue_179 ?_
    refine sim_iadd dX8_isTrue_181 ?_
    refine sim_iload_n 5 rfl dX8_isTrue_182 ?_
    refine sim_callVIp v_RX8_132 (LSen_o hp) dX8_isTrue_183 (k_Sen_isAsTold Sh ρ p hp (w32 (v1 + v2)) a3 σ) rfl ⟨by decide, by decide⟩ (S := []) rfl (Nat.le_of_ble_eq_true rfl) (fun r6 => ?_)
    exact sim_zretc rfl rfl dX8_isTrue_186
  · refine sim_aload_n 2 rfl dX8_isTrue_187 ?_
    refine sim_iload 1 rfl dX8_isTrue_188 ?_
    refine sim_iload 0 rfl dX8_isTrue_190 ?_
    refine sim_mmax w_1372 w_618 w_14 w_619 (by decide) (Nat.le_of_ble_eq_true rfl) dX8_isTrue_192 ?_
    refine sim_iload_n 5 rfl dX8_isTrue_195 ?_
    refine sim_callVIp v_RX8_132 (LSen_o hp) dX8_isTrue_196 (k_Sen_isAsTold Sh ρ p hp (max v1 v2) a3 σ) rfl ⟨by decide, by decide⟩ (S := []) rfl (Nat.le_of_ble_eq_true rfl) (fun r7 => ?_)
    exact sim_zretc rfl rfl dX8_isTrue_199
  · refine sim_aload_n 2 rfl dX8_isTrue_200 ?_
    refine sim_iload 1 rfl dX8_isTrue_201 ?_
    refine sim_iload 0 rfl dX8_isTrue_203 ?_
    refine sim_mmin w_1373 w_574 w_14 w_575 (by decide) (Nat.le_of_ble_eq_true rfl) dX8_isTrue_205 ?_
    refine sim_iload_n 5 rfl dX8_isTrue_208 ?_
    refine sim_callVIp v_RX8_132 (LSen_o hp) dX8_isTrue_209 (k_Sen_isAsTold Sh ρ p hp (min v1 v2) a3 σ) rfl ⟨by decide, by decide⟩ (S := []) rfl (Nat.le_of_ble_eq_true rfl) (fun r8 => ?_)
    exact sim_zretc rfl rfl dX8_isTrue_212
  · refine sim_aload_n 2 rfl dX8_isTrue_213 ?_
    refine sim_aload_n 3 rfl dX8_isTrue_214 ?_
    refine sim_iload_n 4 rfl dX8_isTrue_215 ?_
    refine sim_callVIp v_RX8_144 (LRow_o hq) dX8_isTrue_216 (k_Row_placeOf Sh ρ n q iq hq hiq a2 σ) rfl ⟨by decide, by decide⟩ (S := [vR p]) rfl (Nat.le_of_ble_eq_true rfl) (fun r9 => ?_)
    refine sim_iload_n 5 rfl dX8_isTrue_219 ?_
    refine sim_callVIp v_RX8_132 (LSen_o hp) dX8_isTrue_220 (k_Sen_isAsTold Sh ρ p hp r9 a3 σ) rfl ⟨by decide, by decide⟩ (S := []) rfl (Nat.le_of_ble_eq_true rfl) (fun r10 => ?_)
    exact sim_zretc rfl rfl dX8_isTrue_223
  · refine sim_iconst dX8_isTrue_224 (by decide) ?_
    exact sim_zret (Or.inl rfl) rfl rfl dX8_isTrue_225
theorem dX8_trueOfPart_0 : decode cX8_trueOfPart 0 = .ok (.iconst 0, 1) := by decide +kernel
theorem dX8_trueOfPart_1 : decode cX8_trueOfPart 1 = .ok (.istore_n 3, 1) := by decide +kernel
theorem dX8_trueOfPart_2 : decode cX8_trueOfPart 2 = .ok (.iconst 0, 1) := by decide +kernel
theorem dX8_trueOfPart_3 : decode cX8_trueOfPart 3 = .ok (.istore 4, 2) := by decide +kernel
theorem dX8_trueOfPart_5 : decode cX8_trueOfPart 5 = .ok (.iload 4, 2) := by decide +kernel
theorem dX8_trueOfPart_7 : decode cX8_trueOfPart 7 = .ok (.aload_n 1, 1) := by decide +kernel
theorem dX8_trueOfPart_8 : decode cX8_trueOfPart 8 = .ok (.getfield 100, 3) := by decide +kernel
theorem dX8_trueOfPart_11 : decode cX8_trueOfPart 11 = .ok (.getfield 106, 3) := by decide +kernel
theorem dX8_trueOfPart_14 : decode cX8_trueOfPart 14 = .ok (.if_icmp .ge 27, 3) := by decide +kernel
theorem dX8_trueOfPart_17 : decode cX8_trueOfPart 17 = .ok (.aload_n 0, 1) := by decide +kernel
theorem dX8_trueOfPart_18 : decode cX8_trueOfPart 18 = .ok (.aload_n 1, 1) := by decide +kernel
theorem dX8_trueOfPart_19 : decode cX8_trueOfPart 19 = .ok (.iload 4, 2) := by decide +kernel
theorem dX8_trueOfPart_21 : decode cX8_trueOfPart 21 = .ok (.iload_n 2, 1) := by decide +kernel
theorem dX8_trueOfPart_22 : decode cX8_trueOfPart 22 = .ok (.invokevirtual 109, 3) := by decide +kernel
theorem dX8_trueOfPart_25 : decode cX8_trueOfPart 25 = .ok (.ifCond .eq 10, 3) := by decide +kernel
theorem dX8_trueOfPart_28 : decode cX8_trueOfPart 28 = .ok (.iload_n 3, 1) := by decide +kernel
theorem dX8_trueOfPart_29 : decode cX8_trueOfPart 29 = .ok (.iconst 1, 1) := by decide +kernel
theorem dX8_trueOfPart_30 : decode cX8_trueOfPart 30 = .ok (.iload 4, 2) := by decide +kernel
theorem dX8_trueOfPart_32 : decode cX8_trueOfPart 32 = .ok (.ishl, 1) := by decide +kernel
theorem dX8_trueOfPart_33 : decode cX8_trueOfPart 33 = .ok (.ior, 1) := by decide +kernel
theorem dX8_trueOfPart_34 : decode cX8_trueOfPart 34 = .ok (.istore_n 3, 1) := by decide +kernel
theorem dX8_trueOfPart_35 : decode cX8_trueOfPart 35 = .ok (.iinc 4 1, 3) := by decide +kernel
theorem dX8_trueOfPart_38 : decode cX8_trueOfPart 38 = .ok (.goto (-33), 3) := by decide +kernel
theorem dX8_trueOfPart_41 : decode cX8_trueOfPart 41 = .ok (.iload_n 3, 1) := by decide +kernel
theorem dX8_trueOfPart_42 : decode cX8_trueOfPart 42 = .ok (.ireturn, 1) := by decide +kernel
def f_Sen_trueOfPart (n : Nat) (p : Nat) (q : Nat) (iq : Nat) (a2 : Int) (σ : JSg) : Option (Int) :=
  lt_ 0 fun v1 => lt_ 0 fun v2 => wh2 n (fun rc3 (x4 : Int) (x5 : Int) => if x5 < (σ iq 2) then (bd1 (f_Sen_isTrue n p q iq x5 a2 σ) fun r6 => jn1 (fun (y8 : Int) => lt_ (w32 (x5 + 1)) fun v9 => rc3 y8 v9) fun j7 => if r6 = 0 then (j7 x4) else (lt_ (or32 x4 (sl32 1 x5)) fun v10 => j7 v10)) else (some x4)) v1 v2
set_option maxRecDepth 20000 in
set_option maxHeartbeats 4000000 in
theorem k_Sen_trueOfPart (Sh : JSh) (ρ : JRo) (n : Nat) (p : Nat) (q : Nat) (iq : Nat) (hp : LSen Sh ρ p) (hq : LRow Sh ρ q iq) (hiq : LIsl Sh ρ iq) (a2 : Int) (σ : JSg) : Call yX8_trueOfPart cX8_trueOfPart 5 (some .int) 4 Sh ρ [vR p, vR q, vI a2] σ (dIp σ) (f_Sen_trueOfPart n p q iq a2 σ) := by
  refine call_of_sim (by decide +kernel) (Nat.le_of_ble_eq_true rfl) ?_
  show Sim RX8 cX8_trueOfPart 5 (some .int) 4 Sh ρ 0 [(0, vR p), (1, vR q), (2, vI a2)] [] σ (dIp σ) (f_Sen_trueOfPart n p q iq a2 σ)
  unfold f_Sen_trueOfPart
  refine sim_iconst dX8_trueOfPart_0 (by decide) ?_
  refine sim_istore_n (fun v1 => [(3, vI v1), (0, vR p), (1, vR q), (2, vI a2)]) (fun _ => rfl) (by decide) dX8_trueOfPart_1 (fun v1 => ?_)
  refine sim_iconst dX8_trueOfPart_2 (by decide) ?_
  refine sim_istore (fun v2 => [(4, vI v2), (3, vI v1), (0, vR p), (1, vR q), (2, vI a2)]) (fun _ => rfl) (by decide) dX8_trueOfPart_3 (fun v2 => ?_)
  refine sim_sub [2, 3, 4, 1, 0] (L' := [(0, vR p), (1, vR q), (2, vI a2), (3, vI v1), (4, vI v2)]) rfl ?_
  refine sim_wh2 (fun (x4 : Int) (x5 : Int) => [(0, vR p), (1, vR q), (2, vI a2), (3, vI x4), (4, vI x5)]) (fun (x4 : Int) (x5 : Int) => σ) ?_ n v1 v2
  intro rc3 hrc3 x4 x5
  refine sim_iload 4 rfl dX8_trueOfPart_5 ?_
  refine sim_aload_n 1 rfl dX8_trueOfPart_7 ?_
  refine sim_getR g_RX8_100 (LRow_o hq) (LRow_r0 hq) dX8_trueOfPart_8 ?_
  refine sim_getI g_RX8_106 (LIsl_o hiq) dX8_trueOfPart_11 ?_
  refine sim_icmp_ge (tgt := 41) dX8_trueOfPart_14 (by decide) ?_ ?_
  · refine sim_iload_n 3 rfl dX8_trueOfPart_41 ?_
    exact sim_iret rfl rfl dX8_trueOfPart_42
  · refine sim_aload_n 0 rfl dX8_trueOfPart_17 ?_
    refine sim_aload_n 1 rfl dX8_trueOfPart_18 ?_
    refine sim_iload 4 rfl dX8_trueOfPart_19 ?_
    refine sim_iload_n 2 rfl dX8_trueOfPart_21 ?_
    refine sim_callVIp v_RX8_109 (LSen_o hp) dX8_trueOfPart_22 (k_Sen_isTrue Sh ρ n p q iq hp hq hiq x5 a2 σ) rfl ⟨by decide, by decide⟩ (S := []) rfl (Nat.le_of_ble_eq_true rfl) (fun r6 => ?_)
    refine sim_jn1 (pc' := 35) (fun (y8 : Int) => [(0, vR p), (1, vR q), (2, vI a2), (3, vI y8), (4, vI x5)]) (fun (y8 : Int) => []) (fun (y8 : Int) => σ) ?_ (fun j7 hj7 => ?_)
    · intro y8
      refine sim_iinc 4 rfl (fun v9 => [(4, vI v9), (0, vR p), (1, vR q), (2, vI a2), (3, vI y8)]) (fun _ => rfl) (by decide) dX8_trueOfPart_35 (fun v9 => ?_)
      refine sim_goto (tgt := 5) dX8_trueOfPart_38 (by decide) ?_
      exact sim_sub [1, 2, 3, 4, 0] rfl (hrc3 y8 v9)
    refine sim_if_eq (tgt := 35) dX8_trueOfPart_25 (by decide) ?_ ?_
    · exact sim_sub [0, 1, 2, 3, 4] rfl (hj7 x4)
    · refine sim_iload_n 3 rfl dX8_trueOfPart_28 ?_
      refine sim_iconst dX8_trueOfPart_29 (by decide) ?_
      refine sim_iload 4 rfl dX8_trueOfPart_30 ?_
      refine sim_ishl dX8_trueOfPart_32 ?_
      refine sim_ior dX8_trueOfPart_33 ?_
      refine sim_istore_n (fun v10 => [(3, vI v10), (0, vR p), (1, vR q), (2, vI a2), (4, vI x5)]) (fun _ => rfl) (by decide) dX8_trueOfPart_34 (fun v10 => ?_)
      exact sim_sub [1, 2, 3, 0, 4] rfl (hj7 v10)
theorem dX8_trueOf_0 : decode cX8_trueOf 0 = .ok (.iconst 0, 1) := by decide +kernel
theorem dX8_trueOf_1 : decode cX8_trueOf 1 = .ok (.istore_n 2, 1) := by decide +kernel
theorem dX8_trueOf_2 : decode cX8_trueOf 2 = .ok (.iconst 0, 1) := by decide +kernel
theorem dX8_trueOf_3 : decode cX8_trueOf 3 = .ok (.istore_n 3, 1) := by decide +kernel
theorem dX8_trueOf_4 : decode cX8_trueOf 4 = .ok (.iload_n 3, 1) := by decide +kernel
theorem dX8_trueOf_5 : decode cX8_trueOf 5 = .ok (.aload_n 0, 1) := by decide +kernel
theorem dX8_trueOf_6 : decode cX8_trueOf 6 = .ok (.getfield 15, 3) := by decide +kernel
theorem dX8_trueOf_9 : decode cX8_trueOf 9 = .ok (.if_icmp .ge 145, 3) := by decide +kernel
theorem dX8_trueOf_12 : decode cX8_trueOf 12 = .ok (.aload_n 0, 1) := by decide +kernel
theorem dX8_trueOf_13 : decode cX8_trueOf 13 = .ok (.getfield 18, 3) := by decide +kernel
theorem dX8_trueOf_16 : decode cX8_trueOf 16 = .ok (.iload_n 3, 1) := by decide +kernel
theorem dX8_trueOf_17 : decode cX8_trueOf 17 = .ok (.iaload, 1) := by decide +kernel
theorem dX8_trueOf_18 : decode cX8_trueOf 18 = .ok (.bipush 11, 2) := by decide +kernel
theorem dX8_trueOf_20 : decode cX8_trueOf 20 = .ok (.if_icmp .ne 29, 3) := by decide +kernel
theorem dX8_trueOf_23 : decode cX8_trueOf 23 = .ok (.iload_n 2, 1) := by decide +kernel
theorem dX8_trueOf_24 : decode cX8_trueOf 24 = .ok (.iconst 1, 1) := by decide +kernel
theorem dX8_trueOf_25 : decode cX8_trueOf 25 = .ok (.if_icmp .lt 24, 3) := by decide +kernel
theorem dX8_trueOf_28 : decode cX8_trueOf 28 = .ok (.aload_n 0, 1) := by decide +kernel
theorem dX8_trueOf_29 : decode cX8_trueOf 29 = .ok (.getfield 28, 3) := by decide +kernel
theorem dX8_trueOf_32 : decode cX8_trueOf 32 = .ok (.iload_n 2, 1) := by decide +kernel
theorem dX8_trueOf_33 : decode cX8_trueOf 33 = .ok (.iconst 1, 1) := by decide +kernel
theorem dX8_trueOf_34 : decode cX8_trueOf 34 = .ok (.isub, 1) := by decide +kernel
theorem dX8_trueOf_35 : decode cX8_trueOf 35 = .ok (.aload_n 0, 1) := by decide +kernel
theorem dX8_trueOf_36 : decode cX8_trueOf 36 = .ok (.getfield 28, 3) := by decide +kernel
theorem dX8_trueOf_39 : decode cX8_trueOf 39 = .ok (.iload_n 2, 1) := by decide +kernel
theorem dX8_trueOf_40 : decode cX8_trueOf 40 = .ok (.iconst 1, 1) := by decide +kernel
theorem dX8_trueOf_41 : decode cX8_trueOf 41 = .ok (.isub, 1) := by decide +kernel
theorem dX8_trueOf_42 : decode cX8_trueOf 42 = .ok (.iaload, 1) := by decide +kernel
theorem dX8_trueOf_43 : decode cX8_trueOf 43 = .ok (.iconst (-1), 1) := by decide +kernel
theorem dX8_trueOf_44 : decode cX8_trueOf 44 = .ok (.ixor, 1) := by decide +kernel
theorem dX8_trueOf_45 : decode cX8_trueOf 45 = .ok (.iastore, 1) := by decide +kernel
theorem dX8_trueOf_46 : decode cX8_trueOf 46 = .ok (.goto 102, 3) := by decide +kernel
theorem dX8_trueOf_49 : decode cX8_trueOf 49 = .ok (.aload_n 0, 1) := by decide +kernel
theorem dX8_trueOf_50 : decode cX8_trueOf 50 = .ok (.getfield 18, 3) := by decide +kernel
theorem dX8_trueOf_53 : decode cX8_trueOf 53 = .ok (.iload_n 3, 1) := by decide +kernel
theorem dX8_trueOf_54 : decode cX8_trueOf 54 = .ok (.iaload, 1) := by decide +kernel
theorem dX8_trueOf_55 : decode cX8_trueOf 55 = .ok (.bipush 10, 2) := by decide +kernel
theorem dX8_trueOf_57 : decode cX8_trueOf 57 = .ok (.if_icmp .ne 31, 3) := by decide +kernel
theorem dX8_trueOf_60 : decode cX8_trueOf 60 = .ok (.iload_n 2, 1) := by decide +kernel
theorem dX8_trueOf_61 : decode cX8_trueOf 61 = .ok (.iconst 2, 1) := by decide +kernel
theorem dX8_trueOf_62 : decode cX8_trueOf 62 = .ok (.if_icmp .lt 26, 3) := by decide +kernel
theorem dX8_trueOf_65 : decode cX8_trueOf 65 = .ok (.iinc 2 (-1), 3) := by decide +kernel
theorem dX8_trueOf_68 : decode cX8_trueOf 68 = .ok (.aload_n 0, 1) := by decide +kernel
theorem dX8_trueOf_69 : decode cX8_trueOf 69 = .ok (.getfield 28, 3) := by decide +kernel
theorem dX8_trueOf_72 : decode cX8_trueOf 72 = .ok (.iload_n 2, 1) := by decide +kernel
theorem dX8_trueOf_73 : decode cX8_trueOf 73 = .ok (.iconst 1, 1) := by decide +kernel
theorem dX8_trueOf_74 : decode cX8_trueOf 74 = .ok (.isub, 1) := by decide +kernel
theorem dX8_trueOf_75 : decode cX8_trueOf 75 = .ok (.dup2, 1) := by decide +kernel
theorem dX8_trueOf_76 : decode cX8_trueOf 76 = .ok (.iaload, 1) := by decide +kernel
theorem dX8_trueOf_77 : decode cX8_trueOf 77 = .ok (.aload_n 0, 1) := by decide +kernel
theorem dX8_trueOf_78 : decode cX8_trueOf 78 = .ok (.getfield 28, 3) := by decide +kernel
theorem dX8_trueOf_81 : decode cX8_trueOf 81 = .ok (.iload_n 2, 1) := by decide +kernel
theorem dX8_trueOf_82 : decode cX8_trueOf 82 = .ok (.iaload, 1) := by decide +kernel
theorem dX8_trueOf_83 : decode cX8_trueOf 83 = .ok (.iand, 1) := by decide +kernel
theorem dX8_trueOf_84 : decode cX8_trueOf 84 = .ok (.iastore, 1) := by decide +kernel
theorem dX8_trueOf_85 : decode cX8_trueOf 85 = .ok (.goto 63, 3) := by decide +kernel
theorem dX8_trueOf_88 : decode cX8_trueOf 88 = .ok (.aload_n 0, 1) := by decide +kernel
theorem dX8_trueOf_89 : decode cX8_trueOf 89 = .ok (.getfield 18, 3) := by decide +kernel
theorem dX8_trueOf_92 : decode cX8_trueOf 92 = .ok (.iload_n 3, 1) := by decide +kernel
theorem dX8_trueOf_93 : decode cX8_trueOf 93 = .ok (.iaload, 1) := by decide +kernel
theorem dX8_trueOf_94 : decode cX8_trueOf 94 = .ok (.bipush 9, 2) := by decide +kernel
theorem dX8_trueOf_96 : decode cX8_trueOf 96 = .ok (.if_icmp .ne 31, 3) := by decide +kernel
theorem dX8_trueOf_99 : decode cX8_trueOf 99 = .ok (.iload_n 2, 1) := by decide +kernel
theorem dX8_trueOf_100 : decode cX8_trueOf 100 = .ok (.iconst 2, 1) := by decide +kernel
theorem dX8_trueOf_101 : decode cX8_trueOf 101 = .ok (.if_icmp .lt 26, 3) := by decide +kernel
theorem dX8_trueOf_104 : decode cX8_trueOf 104 = .ok (.iinc 2 (-1), 3) := by decide +kernel
theorem dX8_trueOf_107 : decode cX8_trueOf 107 = .ok (.aload_n 0, 1) := by decide +kernel
theorem dX8_trueOf_108 : decode cX8_trueOf 108 = .ok (.getfield 28, 3) := by decide +kernel
theorem dX8_trueOf_111 : decode cX8_trueOf 111 = .ok (.iload_n 2, 1) := by decide +kernel
theorem dX8_trueOf_112 : decode cX8_trueOf 112 = .ok (.iconst 1, 1) := by decide +kernel
theorem dX8_trueOf_113 : decode cX8_trueOf 113 = .ok (.isub, 1) := by decide +kernel
theorem dX8_trueOf_114 : decode cX8_trueOf 114 = .ok (.dup2, 1) := by decide +kernel
theorem dX8_trueOf_115 : decode cX8_trueOf 115 = .ok (.iaload, 1) := by decide +kernel
theorem dX8_trueOf_116 : decode cX8_trueOf 116 = .ok (.aload_n 0, 1) := by decide +kernel
theorem dX8_trueOf_117 : decode cX8_trueOf 117 = .ok (.getfield 28, 3) := by decide +kernel
theorem dX8_trueOf_120 : decode cX8_trueOf 120 = .ok (.iload_n 2, 1) := by decide +kernel
theorem dX8_trueOf_121 : decode cX8_trueOf 121 = .ok (.iaload, 1) := by decide +kernel
theorem dX8_trueOf_122 : decode cX8_trueOf 122 = .ok (.ior, 1) := by decide +kernel
theorem dX8_trueOf_123 : decode cX8_trueOf 123 = .ok (.iastore, 1) := by decide +kernel
theorem dX8_trueOf_124 : decode cX8_trueOf 124 = .ok (.goto 24, 3) := by decide +kernel
theorem dX8_trueOf_127 : decode cX8_trueOf 127 = .ok (.iload_n 2, 1) := by decide +kernel
theorem dX8_trueOf_128 : decode cX8_trueOf 128 = .ok (.bipush 20, 2) := by decide +kernel
theorem dX8_trueOf_130 : decode cX8_trueOf 130 = .ok (.if_icmp .ge 18, 3) := by decide +kernel
theorem dX8_trueOf_133 : decode cX8_trueOf 133 = .ok (.aload_n 0, 1) := by decide +kernel
theorem dX8_trueOf_134 : decode cX8_trueOf 134 = .ok (.getfield 28, 3) := by decide +kernel
theorem dX8_trueOf_137 : decode cX8_trueOf 137 = .ok (.iload_n 2, 1) := by decide +kernel
theorem dX8_trueOf_138 : decode cX8_trueOf 138 = .ok (.aload_n 0, 1) := by decide +kernel
theorem dX8_trueOf_139 : decode cX8_trueOf 139 = .ok (.aload_n 1, 1) := by decide +kernel
theorem dX8_trueOf_140 : decode cX8_trueOf 140 = .ok (.iload_n 3, 1) := by decide +kernel
theorem dX8_trueOf_141 : decode cX8_trueOf 141 = .ok (.invokevirtual 96, 3) := by decide +kernel
theorem dX8_trueOf_144 : decode cX8_trueOf 144 = .ok (.iastore, 1) := by decide +kernel
theorem dX8_trueOf_145 : decode cX8_trueOf 145 = .ok (.iinc 2 1, 3) := by decide +kernel
theorem dX8_trueOf_148 : decode cX8_trueOf 148 = .ok (.iinc 3 1, 3) := by decide +kernel
theorem dX8_trueOf_151 : decode cX8_trueOf 151 = .ok (.goto (-147), 3) := by decide +kernel
theorem dX8_trueOf_154 : decode cX8_trueOf 154 = .ok (.aload_n 0, 1) := by decide +kernel
theorem dX8_trueOf_155 : decode cX8_trueOf 155 = .ok (.getfield 28, 3) := by decide +kernel
theorem dX8_trueOf_158 : decode cX8_trueOf 158 = .ok (.iconst 0, 1) := by decide +kernel
theorem dX8_trueOf_159 : decode cX8_trueOf 159 = .ok (.iaload, 1) := by decide +kernel
theorem dX8_trueOf_160 : decode cX8_trueOf 160 = .ok (.ireturn, 1) := by decide +kernel
def f_Sen_trueOf (n : Nat) (p : Nat) (q : Nat) (iq : Nat)  (σ : JSg) : Option (Int × JSg) :=
  lt_ 0 fun v1 => lt_ 0 fun v2 => wh3 n (fun rc3 (x4 : Int) (x5 : Int) (s6 : JSg) => if x5 < (s6 p 1) then (chk (0 ≤ x5 ∧ x5 < 40) <| jn2 (fun (y8 : Int) (s9 : JSg) => lt_ (w32 (x5 + 1)) fun v10 => rc3 y8 v10 s9) fun j7 => jn0 (chk (0 ≤ x5 ∧ x5 < 40) <| jn0 (chk (0 ≤ x5 ∧ x5 < 40) <| jn0 (if x4 < 20 then (bd1 (f_Sen_trueOfPart n p q iq x5 s6) fun r14 => chk (0 ≤ x4 ∧ x4 < 20) <| lt_ (sp s6 (p + 4) x4.toNat r14) fun s15 => lt_ (w32 (x4 + 1)) fun v16 => j7 v16 s15) else (j7 x4 s6)) fun j13 => if (s6 (p + 1) x5.toNat) = 9 then (if x4 < 2 then (j13) else (lt_ (w32 (x4 + (-1))) fun v17 => chk (0 ≤ (w32 (v17 - 1)) ∧ (w32 (v17 - 1)) < 20) <| chk (0 ≤ v17 ∧ v17 < 20) <| chk (0 ≤ (w32 (v17 - 1)) ∧ (w32 (v17 - 1)) < 20) <| lt_ (sp s6 (p + 4) (w32 (v17 - 1)).toNat (or32 (s6 (p + 4) (w32 (v17 - 1)).toNat) (s6 (p + 4) v17.toNat))) fun s18 => j7 v17 s18)) else (j13)) fun j12 => if (s6 (p + 1) x5.toNat) = 10 then (if x4 < 2 then (j12) else (lt_ (w32 (x4 + (-1))) fun v19 => chk (0 ≤ (w32 (v19 - 1)) ∧ (w32 (v19 - 1)) < 20) <| chk (0 ≤ v19 ∧ v19 < 20) <| chk (0 ≤ (w32 (v19 - 1)) ∧ (w32 (v19 - 1)) < 20) <| lt_ (sp s6 (p + 4) (w32 (v19 - 1)).toNat (an32 (s6 (p + 4) (w32 (v19 - 1)).toNat) (s6 (p + 4) v19.toNat))) fun s20 => j7 v19 s20)) else (j12)) fun j11 => if (s6 (p + 1) x5.toNat) = 11 then (if x4 < 1 then (j11) else (chk (0 ≤ (w32 (x4 - 1)) ∧ (w32 (x4 - 1)) < 20) <| chk (0 ≤ (w32 (x4 - 1)) ∧ (w32 (x4 - 1)) < 20) <| lt_ (sp s6 (p + 4) (w32 (x4 - 1)).toNat (xr32 (s6 (p + 4) (w32 (x4 - 1)).toNat) (-1))) fun s21 => j7 x4 s21)) else (j11)) else (some (s6 (p + 4) 0, s6))) v1 v2 (σ)
set_option maxRecDepth 20000 in
set_option maxHeartbeats 4000000 in
theorem k_Sen_trueOf (Sh : JSh) (ρ : JRo) (n : Nat) (p : Nat) (q : Nat) (iq : Nat) (hp : LSen Sh ρ p) (hq : LRow Sh ρ q iq) (hiq : LIsl Sh ρ iq)  (σ : JSg) : Call yX8_trueOf cX8_trueOf 4 (some .int) 5 Sh ρ [vR p, vR q] σ dIm (f_Sen_trueOf n p q iq σ) := by
  refine call_of_sim (by decide +kernel) (Nat.le_of_ble_eq_true rfl) ?_
  show Sim RX8 cX8_trueOf 4 (some .int) 5 Sh ρ 0 [(0, vR p), (1, vR q)] [] σ dIm (f_Sen_trueOf n p q iq σ)
  unfold f_Sen_trueOf
  refine sim_iconst dX8_trueOf_0 (by decide) ?_
  refine sim_istore_n (fun v1 => [(2, vI v1), (0, vR p), (1, vR q)]) (fun _ => rfl) (by decide) dX8_trueOf_1 (fun v1 => ?_)
  refine sim_iconst dX8_trueOf_2 (by decide) ?_
  refine sim_istore_n (fun v2 => [(3, vI v2), (2, vI v1), (0, vR p), (1, vR q)]) (fun _ => rfl) (by decide) dX8_trueOf_3 (fun v2 => ?_)
  refine sim_sub [2, 3, 1, 0] (L' := [(0, vR p), (1, vR q), (2, vI v1), (3, vI v2)]) rfl ?_
  refine sim_wh3 (fun (x4 : Int) (x5 : Int) (s6 : JSg) => [(0, vR p), (1, vR q), (2, vI x4), (3, vI x5)]) (fun (x4 : Int) (x5 : Int) (s6 : JSg) => s6) ?_ n v1 v2 (σ)
  intro rc3 hrc3 x4 x5 s6
  refine sim_iload_n 3 rfl dX8_trueOf_4 ?_
  refine sim_aload_n 0 rfl dX8_trueOf_5 ?_
  refine sim_getI g_RX8_15 (LSen_o hp) dX8_trueOf_6 ?_
  refine sim_icmp_ge (tgt := 154) dX8_trueOf_9 (by decide) ?_ ?_
  · refine sim_aload_n 0 rfl dX8_trueOf_154 ?_
    refine sim_getR g_RX8_28 (LSen_o hp) (LSen_r5 hp) dX8_trueOf_155 ?_
    refine sim_iconst dX8_trueOf_158 (by decide) ?_
    refine sim_ialoadK (j := 0) (LSen_a5 hp) rfl (by decide) dX8_trueOf_159 ?_
    exact sim_iret rfl rfl dX8_trueOf_160
  · refine sim_aload_n 0 rfl dX8_trueOf_12 ?_
    refine sim_getR g_RX8_18 (LSen_o hp) (LSen_r2 hp) dX8_trueOf_13 ?_
    refine sim_iload_n 3 rfl dX8_trueOf_16 ?_
    refine sim_iaload (LSen_a2 hp) rfl dX8_trueOf_17 ?_
    refine sim_bipush dX8_trueOf_18 (by decide +kernel) ?_
    refine sim_jn2 (pc' := 148) (fun (y8 : Int) (s9 : JSg) => [(0, vR p), (1, vR q), (2, vI y8), (3, vI x5)]) (fun (y8 : Int) (s9 : JSg) => []) (fun (y8 : Int) (s9 : JSg) => s9) ?_ (fun j7 hj7 => ?_)
    · intro y8 s9
      refine sim_iinc 3 rfl (fun v10 => [(3, vI v10), (0, vR p), (1, vR q), (2, vI y8)]) (fun _ => rfl) (by decide) dX8_trueOf_148 (fun v10 => ?_)
      refine sim_goto (tgt := 4) dX8_trueOf_151 (by decide) ?_
      exact sim_sub [1, 2, 3, 0] rfl (hrc3 y8 v10 s9)
    refine sim_jn0 (pc' := 49) ([(0, vR p), (1, vR q), (2, vI x4), (3, vI x5)]) ([]) (s6) ?_ (fun j11 hj11 => ?_)
    · refine sim_aload_n 0 rfl dX8_trueOf_49 ?_
      refine sim_getR g_RX8_18 (LSen_o hp) (LSen_r2 hp) dX8_trueOf_50 ?_
      refine sim_iload_n 3 rfl dX8_trueOf_53 ?_
      refine sim_iaload (LSen_a2 hp) rfl dX8_trueOf_54 ?_
      refine sim_bipush dX8_trueOf_55 (by decide +kernel) ?_
      refine sim_jn0 (pc' := 88) ([(0, vR p), (1, vR q), (2, vI x4), (3, vI x5)]) ([]) (s6) ?_ (fun j12 hj12 => ?_)
      · refine sim_aload_n 0 rfl dX8_trueOf_88 ?_
        refine sim_getR g_RX8_18 (LSen_o hp) (LSen_r2 hp) dX8_trueOf_89 ?_
        refine sim_iload_n 3 rfl dX8_trueOf_92 ?_
        refine sim_iaload (LSen_a2 hp) rfl dX8_trueOf_93 ?_
        refine sim_bipush dX8_trueOf_94 (by decide +kernel) ?_
        refine sim_jn0 (pc' := 127) ([(0, vR p), (1, vR q), (2, vI x4), (3, vI x5)]) ([]) (s6) ?_ (fun j13 hj13 => ?_)
        · refine sim_iload_n 2 rfl dX8_trueOf_127 ?_
          refine sim_bipush dX8_trueOf_128 (by decide +kernel) ?_
          refine sim_icmp_ge (tgt := 148) dX8_trueOf_130 (by decide) ?_ ?_
          · exact sim_sub [0, 1, 2, 3] rfl (hj7 x4 s6)
          · refine sim_aload_n 0 rfl dX8_trueOf_133 ?_
            refine sim_getR g_RX8_28 (LSen_o hp) (LSen_r5 hp) dX8_trueOf_134 ?_
            refine sim_iload_n 2 rfl dX8_trueOf_137 ?_
            refine sim_aload_n 0 rfl dX8_trueOf_138 ?_
            refine sim_aload_n 1 rfl dX8_trueOf_139 ?_
            refine sim_iload_n 3 rfl dX8_trueOf_140 ?_
            refine sim_callVIp v_RX8_96 (LSen_o hp) dX8_trueOf_141 (k_Sen_trueOfPart Sh ρ n p q iq hp hq hiq x5 s6) rfl ⟨by decide, by decide⟩ (S := [vI x4, vR (p + 4)]) rfl (Nat.le_of_ble_eq_true rfl) (fun r14 => ?_)
            refine sim_iastore (LSen_a5 hp) rfl dX8_trueOf_144 (fun s15 => ?_)
            refine sim_iinc 2 rfl (fun v16 => [(2, vI v16), (0, vR p), (1, vR q), (3, vI x5)]) (fun _ => rfl) (by decide) dX8_trueOf_145 (fun v16 => ?_)
            exact sim_sub [1, 2, 0, 3] rfl (hj7 v16 s15)
        refine sim_icmp_ne (tgt := 127) dX8_trueOf_96 (by decide) ?_ ?_
        · exact sim_sub [0, 1, 2, 3] rfl (hj13 )
        · refine sim_iload_n 2 rfl dX8_trueOf_99 ?_
          refine sim_iconst dX8_trueOf_100 (by decide) ?_
          refine sim_icmp_lt (tgt := 127) dX8_trueOf_101 (by decide) ?_ ?_
          · exact sim_sub [0, 1, 2, 3] rfl (hj13 )
          · refine sim_iinc 2 rfl (fun v17 => [(2, vI v17), (0, vR p), (1, vR q), (3, vI x5)]) (fun _ => rfl) (by decide) dX8_trueOf_104 (fun v17 => ?_)
            refine sim_aload_n 1 rfl dX8_trueOf_107 ?_
            refine sim_getR g_RX8_28 (LSen_o hp) (LSen_r5 hp) dX8_trueOf_108 ?_
            refine sim_iload_n 0 rfl dX8_trueOf_111 ?_
            refine sim_iconst dX8_trueOf_112 (by decide) ?_
            refine sim_isub dX8_trueOf_113 ?_
            refine sim_dup2 rfl rfl dX8_trueOf_114 ?_
            refine sim_iaload (LSen_a5 hp) rfl dX8_trueOf_115 ?_
            refine sim_aload_n 1 rfl dX8_trueOf_116 ?_
            refine sim_getR g_RX8_28 (LSen_o hp) (LSen_r5 hp) dX8_trueOf_117 ?_
            refine sim_iload_n 0 rfl dX8_trueOf_120 ?_
            refine sim_iaload (LSen_a5 hp) rfl dX8_trueOf_121 ?_
            refine sim_ior dX8_trueOf_122 ?_
            refine sim_iastore (LSen_a5 hp) rfl dX8_trueOf_123 (fun s18 => ?_)
            refine sim_goto (tgt := 148) dX8_trueOf_124 (by decide) ?_
            exact sim_sub [1, 2, 0, 3] rfl (hj7 v17 s18)
      refine sim_icmp_ne (tgt := 88) dX8_trueOf_57 (by decide) ?_ ?_
      · exact sim_sub [0, 1, 2, 3] rfl (hj12 )
      · refine sim_iload_n 2 rfl dX8_trueOf_60 ?_
        refine sim_iconst dX8_trueOf_61 (by decide) ?_
        refine sim_icmp_lt (tgt := 88) dX8_trueOf_62 (by decide) ?_ ?_
        · exact sim_sub [0, 1, 2, 3] rfl (hj12 )
        · refine sim_iinc 2 rfl (fun v19 => [(2, vI v19), (0, vR p), (1, vR q), (3, vI x5)]) (fun _ => rfl) (by decide) dX8_trueOf_65 (fun v19 => ?_)
          refine sim_aload_n 1 rfl dX8_trueOf_68 ?_
          refine sim_getR g_RX8_28 (LSen_o hp) (LSen_r5 hp) dX8_trueOf_69 ?_
          refine sim_iload_n 0 rfl dX8_trueOf_72 ?_
          refine sim_iconst dX8_trueOf_73 (by decide) ?_
          refine sim_isub dX8_trueOf_74 ?_
          refine sim_dup2 rfl rfl dX8_trueOf_75 ?_
          refine sim_iaload (LSen_a5 hp) rfl dX8_trueOf_76 ?_
          refine sim_aload_n 1 rfl dX8_trueOf_77 ?_
          refine sim_getR g_RX8_28 (LSen_o hp) (LSen_r5 hp) dX8_trueOf_78 ?_
          refine sim_iload_n 0 rfl dX8_trueOf_81 ?_
          refine sim_iaload (LSen_a5 hp) rfl dX8_trueOf_82 ?_
          refine sim_iand dX8_trueOf_83 ?_
          refine sim_iastore (LSen_a5 hp) rfl dX8_trueOf_84 (fun s20 => ?_)
          refine sim_goto (tgt := 148) dX8_trueOf_85 (by decide) ?_
          exact sim_sub [1, 2, 0, 3] rfl (hj7 v19 s20)
    refine sim_icmp_ne (tgt := 49) dX8_trueOf_20 (by decide) ?_ ?_
    · exact sim_sub [0, 1, 2, 3] rfl (hj11 )
    · refine sim_iload_n 2 rfl dX8_trueOf_23 ?_
      refine sim_iconst dX8_trueOf_24 (by decide) ?_
      refine sim_icmp_lt (tgt := 49) dX8_trueOf_25 (by decide) ?_ ?_
      · exact sim_sub [0, 1, 2, 3] rfl (hj11 )
      · refine sim_aload_n 0 rfl dX8_trueOf_28 ?_
        refine sim_getR g_RX8_28 (LSen_o hp) (LSen_r5 hp) dX8_trueOf_29 ?_
        refine sim_iload_n 2 rfl dX8_trueOf_32 ?_
        refine sim_iconst dX8_trueOf_33 (by decide) ?_
        refine sim_isub dX8_trueOf_34 ?_
        refine sim_aload_n 0 rfl dX8_trueOf_35 ?_
        refine sim_getR g_RX8_28 (LSen_o hp) (LSen_r5 hp) dX8_trueOf_36 ?_
        refine sim_iload_n 2 rfl dX8_trueOf_39 ?_
        refine sim_iconst dX8_trueOf_40 (by decide) ?_
        refine sim_isub dX8_trueOf_41 ?_
        refine sim_iaload (LSen_a5 hp) rfl dX8_trueOf_42 ?_
        refine sim_iconst dX8_trueOf_43 (by decide) ?_
        refine sim_ixor dX8_trueOf_44 ?_
        refine sim_iastore (LSen_a5 hp) rfl dX8_trueOf_45 (fun s21 => ?_)
        refine sim_goto (tgt := 148) dX8_trueOf_46 (by decide) ?_
        exact sim_sub [0, 1, 2, 3] rfl (hj7 x4 s21)
theorem dX11_said_0 : decode cX11_said 0 = .ok (.aload_n 0, 1) := by decide +kernel
theorem dX11_said_1 : decode cX11_said 1 = .ok (.getfield 29, 3) := by decide +kernel
theorem dX11_said_4 : decode cX11_said 4 = .ok (.getfield 346, 3) := by decide +kernel
theorem dX11_said_7 : decode cX11_said 7 = .ok (.getfield 354, 3) := by decide +kernel
theorem dX11_said_10 : decode cX11_said 10 = .ok (.ifCond .ne 5, 3) := by decide +kernel
theorem dX11_said_13 : decode cX11_said 13 = .ok (.iconst (-1), 1) := by decide +kernel
theorem dX11_said_14 : decode cX11_said 14 = .ok (.ireturn, 1) := by decide +kernel
theorem dX11_said_15 : decode cX11_said 15 = .ok (.aload_n 0, 1) := by decide +kernel
theorem dX11_said_16 : decode cX11_said 16 = .ok (.getfield 29, 3) := by decide +kernel
theorem dX11_said_19 : decode cX11_said 19 = .ok (.getfield 346, 3) := by decide +kernel
theorem dX11_said_22 : decode cX11_said 22 = .ok (.aload_n 0, 1) := by decide +kernel
theorem dX11_said_23 : decode cX11_said 23 = .ok (.getfield 29, 3) := by decide +kernel
theorem dX11_said_26 : decode cX11_said 26 = .ok (.getfield 72, 3) := by decide +kernel
theorem dX11_said_29 : decode cX11_said 29 = .ok (.invokevirtual 357, 3) := by decide +kernel
theorem dX11_said_32 : decode cX11_said 32 = .ok (.istore_n 2, 1) := by decide +kernel
theorem dX11_said_33 : decode cX11_said 33 = .ok (.iconst 0, 1) := by decide +kernel
theorem dX11_said_34 : decode cX11_said 34 = .ok (.istore_n 3, 1) := by decide +kernel
theorem dX11_said_35 : decode cX11_said 35 = .ok (.iconst 0, 1) := by decide +kernel
theorem dX11_said_36 : decode cX11_said 36 = .ok (.istore 4, 2) := by decide +kernel
theorem dX11_said_38 : decode cX11_said 38 = .ok (.iload 4, 2) := by decide +kernel
theorem dX11_said_40 : decode cX11_said 40 = .ok (.aload_n 0, 1) := by decide +kernel
theorem dX11_said_41 : decode cX11_said 41 = .ok (.getfield 29, 3) := by decide +kernel
theorem dX11_said_44 : decode cX11_said 44 = .ok (.getfield 54, 3) := by decide +kernel
theorem dX11_said_47 : decode cX11_said 47 = .ok (.getfield 279, 3) := by decide +kernel
theorem dX11_said_50 : decode cX11_said 50 = .ok (.if_icmp .ge 29, 3) := by decide +kernel
theorem dX11_said_53 : decode cX11_said 53 = .ok (.iload_n 2, 1) := by decide +kernel
theorem dX11_said_54 : decode cX11_said 54 = .ok (.iload 4, 2) := by decide +kernel
theorem dX11_said_56 : decode cX11_said 56 = .ok (.ishr, 1) := by decide +kernel
theorem dX11_said_57 : decode cX11_said 57 = .ok (.iconst 1, 1) := by decide +kernel
theorem dX11_said_58 : decode cX11_said 58 = .ok (.iand, 1) := by decide +kernel
theorem dX11_said_59 : decode cX11_said 59 = .ok (.ifCond .eq 14, 3) := by decide +kernel
theorem dX11_said_62 : decode cX11_said 62 = .ok (.iload_n 3, 1) := by decide +kernel
theorem dX11_said_63 : decode cX11_said 63 = .ok (.iload_n 1, 1) := by decide +kernel
theorem dX11_said_64 : decode cX11_said 64 = .ok (.if_icmp .ne 6, 3) := by decide +kernel
theorem dX11_said_67 : decode cX11_said 67 = .ok (.iload 4, 2) := by decide +kernel
theorem dX11_said_69 : decode cX11_said 69 = .ok (.ireturn, 1) := by decide +kernel
theorem dX11_said_70 : decode cX11_said 70 = .ok (.iinc 3 1, 3) := by decide +kernel
theorem dX11_said_73 : decode cX11_said 73 = .ok (.iinc 4 1, 3) := by decide +kernel
theorem dX11_said_76 : decode cX11_said 76 = .ok (.goto (-38), 3) := by decide +kernel
theorem dX11_said_79 : decode cX11_said 79 = .ok (.iload_n 1, 1) := by decide +kernel
theorem dX11_said_80 : decode cX11_said 80 = .ok (.iconst (-1), 1) := by decide +kernel
theorem dX11_said_81 : decode cX11_said 81 = .ok (.if_icmp .ne 7, 3) := by decide +kernel
theorem dX11_said_84 : decode cX11_said 84 = .ok (.iload_n 3, 1) := by decide +kernel
theorem dX11_said_85 : decode cX11_said 85 = .ok (.goto 4, 3) := by decide +kernel
theorem dX11_said_88 : decode cX11_said 88 = .ok (.iconst (-1), 1) := by decide +kernel
theorem dX11_said_89 : decode cX11_said 89 = .ok (.ireturn, 1) := by decide +kernel
def f_W_said (n : Nat)  (a1 : Int) (σ : JSg) : Option (Int × JSg) :=
  if (σ 21 0) = 0 then (some ((-1), σ)) else (bd2 (f_Sen_trueOf n 21 11 4 σ) fun r1 s2 => lt_ r1 fun v3 => lt_ 0 fun v4 => lt_ 0 fun v5 => wh2 n (fun rc6 (x7 : Int) (x8 : Int) => if x8 < (s2 4 2) then (jn1 (fun (y10 : Int) => lt_ (w32 (x8 + 1)) fun v11 => rc6 y10 v11) fun j9 => if (an32 (sr32 v3 x8) 1) = 0 then (j9 x7) else (if x7 = a1 then (some (x8, s2)) else (lt_ (w32 (x7 + 1)) fun v12 => j9 v12))) else (if a1 = (-1) then (some (x7, s2)) else (some ((-1), s2)))) v4 v5)
set_option maxRecDepth 20000 in
set_option maxHeartbeats 4000000 in
theorem k_W_said  (n : Nat)   (a1 : Int) (σ : JSg) : Call yX11_said cX11_said 5 (some .int) 6 SH RHO [vR 0, vI a1] σ dIm (f_W_said n a1 σ) := by
  refine call_of_sim (by decide +kernel) (Nat.le_of_ble_eq_true rfl) ?_
  show Sim RX11 cX11_said 5 (some .int) 6 SH RHO 0 [(0, vR 0), (1, vI a1)] [] σ dIm (f_W_said n a1 σ)
  unfold f_W_said
  refine sim_aload_n 0 rfl dX11_said_0 ?_
  refine sim_getR g_RX11_29 sh_0 rh_0_3 dX11_said_1 ?_
  refine sim_getR g_RX11_346 (LWld_o lay_3) rh_3_3 dX11_said_4 ?_
  refine sim_getI g_RX11_354 (LSen_o lay_21) dX11_said_7 ?_
  refine sim_if_ne (tgt := 15) dX11_said_10 (by decide) ?_ ?_
  · refine sim_aload_n 0 rfl dX11_said_15 ?_
    refine sim_getR g_RX11_29 sh_0 rh_0_3 dX11_said_16 ?_
    refine sim_getR g_RX11_346 (LWld_o lay_3) rh_3_3 dX11_said_19 ?_
    refine sim_aload_n 0 rfl dX11_said_22 ?_
    refine sim_getR g_RX11_29 sh_0 rh_0_3 dX11_said_23 ?_
    refine sim_getR g_RX11_72 (LWld_o lay_3) rh_3_1 dX11_said_26 ?_
    refine sim_callVIm v_RX11_357 (LSen_o lay_21) dX11_said_29 (k_Sen_trueOf SH RHO n 21 11 4 lay_21 lay_11 lay_4 σ) rfl ⟨by decide, by decide⟩ (S := []) rfl (Nat.le_of_ble_eq_true rfl) (fun r1 s2 => ?_)
    refine sim_istore_n (fun v3 => [(2, vI v3), (0, vR 0), (1, vI a1)]) (fun _ => rfl) (by decide) dX11_said_32 (fun v3 => ?_)
    refine sim_iconst dX11_said_33 (by decide) ?_
    refine sim_istore_n (fun v4 => [(3, vI v4), (2, vI v3), (0, vR 0), (1, vI a1)]) (fun _ => rfl) (by decide) dX11_said_34 (fun v4 => ?_)
    refine sim_iconst dX11_said_35 (by decide) ?_
    refine sim_istore (fun v5 => [(4, vI v5), (3, vI v4), (2, vI v3), (0, vR 0), (1, vI a1)]) (fun _ => rfl) (by decide) dX11_said_36 (fun v5 => ?_)
    refine sim_sub [3, 4, 2, 1, 0] (L' := [(0, vR 0), (1, vI a1), (2, vI v3), (3, vI v4), (4, vI v5)]) rfl ?_
    refine sim_wh2 (fun (x7 : Int) (x8 : Int) => [(0, vR 0), (1, vI a1), (2, vI v3), (3, vI x7), (4, vI x8)]) (fun (x7 : Int) (x8 : Int) => s2) ?_ n v4 v5
    intro rc6 hrc6 x7 x8
    refine sim_iload 4 rfl dX11_said_38 ?_
    refine sim_aload_n 0 rfl dX11_said_40 ?_
    refine sim_getR g_RX11_29 sh_0 rh_0_3 dX11_said_41 ?_
    refine sim_getR g_RX11_54 (LWld_o lay_3) rh_3_0 dX11_said_44 ?_
    refine sim_getI g_RX11_279 (LIsl_o lay_4) dX11_said_47 ?_
    refine sim_icmp_ge (tgt := 79) dX11_said_50 (by decide) ?_ ?_
    · refine sim_iload_n 1 rfl dX11_said_79 ?_
      refine sim_iconst dX11_said_80 (by decide) ?_
      refine sim_icmp_ne (tgt := 88) dX11_said_81 (by decide) ?_ ?_
      · refine sim_iconst dX11_said_88 (by decide) ?_
        exact sim_iret rfl rfl dX11_said_89
      · refine sim_iload_n 3 rfl dX11_said_84 ?_
        refine sim_goto (tgt := 89) dX11_said_85 (by decide) ?_
        exact sim_iret rfl rfl dX11_said_89
    · refine sim_iload_n 2 rfl dX11_said_53 ?_
      refine sim_iload 4 rfl dX11_said_54 ?_
      refine sim_ishr dX11_said_56 ?_
      refine sim_iconst dX11_said_57 (by decide) ?_
      refine sim_iand dX11_said_58 ?_
      refine sim_jn1 (pc' := 73) (fun (y10 : Int) => [(0, vR 0), (1, vI a1), (2, vI v3), (3, vI y10), (4, vI x8)]) (fun (y10 : Int) => []) (fun (y10 : Int) => s2) ?_ (fun j9 hj9 => ?_)
      · intro y10
        refine sim_iinc 4 rfl (fun v11 => [(4, vI v11), (0, vR 0), (1, vI a1), (2, vI v3), (3, vI y10)]) (fun _ => rfl) (by decide) dX11_said_73 (fun v11 => ?_)
        refine sim_goto (tgt := 38) dX11_said_76 (by decide) ?_
        exact sim_sub [1, 2, 3, 4, 0] rfl (hrc6 y10 v11)
      refine sim_if_eq (tgt := 73) dX11_said_59 (by decide) ?_ ?_
      · exact sim_sub [0, 1, 2, 3, 4] rfl (hj9 x7)
      · refine sim_iload_n 3 rfl dX11_said_62 ?_
        refine sim_iload_n 1 rfl dX11_said_63 ?_
        refine sim_icmp_ne (tgt := 70) dX11_said_64 (by decide) ?_ ?_
        · refine sim_iinc 3 rfl (fun v12 => [(3, vI v12), (0, vR 0), (1, vI a1), (2, vI v3), (4, vI x8)]) (fun _ => rfl) (by decide) dX11_said_70 (fun v12 => ?_)
          exact sim_sub [1, 2, 3, 0, 4] rfl (hj9 v12)
        · refine sim_iload 4 rfl dX11_said_67 ?_
          exact sim_iret rfl rfl dX11_said_69
  · refine sim_iconst dX11_said_13 (by decide) ?_
    exact sim_iret rfl rfl dX11_said_14
theorem dX8_clear_0 : decode cX8_clear 0 = .ok (.aload_n 0, 1) := by decide +kernel
theorem dX8_clear_1 : decode cX8_clear 1 = .ok (.iconst 0, 1) := by decide +kernel
theorem dX8_clear_2 : decode cX8_clear 2 = .ok (.putfield 11, 3) := by decide +kernel
theorem dX8_clear_5 : decode cX8_clear 5 = .ok (.aload_n 0, 1) := by decide +kernel
theorem dX8_clear_6 : decode cX8_clear 6 = .ok (.iconst 0, 1) := by decide +kernel
theorem dX8_clear_7 : decode cX8_clear 7 = .ok (.putfield 15, 3) := by decide +kernel
theorem dX8_clear_10 : decode cX8_clear 10 = .ok (.return_, 1) := by decide +kernel
def f_Sen_clear  (p : Nat)  (σ : JSg) : Option (JSg) :=
  lt_ (sp σ p 0 0) fun s1 => lt_ (sp s1 p 1 0) fun s2 => some s2
set_option maxRecDepth 20000 in
set_option maxHeartbeats 4000000 in
theorem k_Sen_clear (Sh : JSh) (ρ : JRo)  (p : Nat) (hp : LSen Sh ρ p)  (σ : JSg) : Call yX8_clear cX8_clear 1 none 0 Sh ρ [vR p] σ dVm (f_Sen_clear p σ) := by
  refine call_of_sim (by decide +kernel) (Nat.le_of_ble_eq_true rfl) ?_
  show Sim RX8 cX8_clear 1 none 0 Sh ρ 0 [(0, vR p)] [] σ dVm (f_Sen_clear p σ)
  unfold f_Sen_clear
  refine sim_aload_n 0 rfl dX8_clear_0 ?_
  refine sim_iconst dX8_clear_1 (by decide) ?_
  refine sim_putI g_RX8_11 (LSen_o hp) dX8_clear_2 (fun s1 => ?_)
  refine sim_aload_n 0 rfl dX8_clear_5 ?_
  refine sim_iconst dX8_clear_6 (by decide) ?_
  refine sim_putI g_RX8_15 (LSen_o hp) dX8_clear_7 (fun s2 => ?_)
  exact sim_vret rfl rfl dX8_clear_10
theorem dX9_isSign_0 : decode cX9_isSign 0 = .ok (.aload_n 0, 1) := by decide +kernel
theorem dX9_isSign_1 : decode cX9_isSign 1 = .ok (.getfield 21, 3) := by decide +kernel
theorem dX9_isSign_4 : decode cX9_isSign 4 = .ok (.iconst 5, 1) := by decide +kernel
theorem dX9_isSign_5 : decode cX9_isSign 5 = .ok (.if_icmp .ne 15, 3) := by decide +kernel
theorem dX9_isSign_8 : decode cX9_isSign 8 = .ok (.aload_n 0, 1) := by decide +kernel
theorem dX9_isSign_9 : decode cX9_isSign 9 = .ok (.getfield 37, 3) := by decide +kernel
theorem dX9_isSign_12 : decode cX9_isSign 12 = .ok (.iload_n 1, 1) := by decide +kernel
theorem dX9_isSign_13 : decode cX9_isSign 13 = .ok (.if_icmp .ne 7, 3) := by decide +kernel
theorem dX9_isSign_16 : decode cX9_isSign 16 = .ok (.iconst 1, 1) := by decide +kernel
theorem dX9_isSign_17 : decode cX9_isSign 17 = .ok (.goto 4, 3) := by decide +kernel
theorem dX9_isSign_20 : decode cX9_isSign 20 = .ok (.iconst 0, 1) := by decide +kernel
theorem dX9_isSign_21 : decode cX9_isSign 21 = .ok (.ireturn, 1) := by decide +kernel
def f_Tok_isSign   (a1 : Int) (σ : JSg) : Option (Int) :=
  if (σ 2 4) = 5 then (if (σ 2 9) = a1 then (some 1) else (some 0)) else (some 0)
set_option maxRecDepth 20000 in
set_option maxHeartbeats 4000000 in
theorem k_Tok_isSign     (a1 : Int) (σ : JSg) : Call yX9_isSign cX9_isSign 2 (some .boolean) 0 SH RHO [vR 2, vI a1] σ (dIp σ) (f_Tok_isSign a1 σ) := by
  refine call_of_sim (by decide +kernel) (Nat.le_of_ble_eq_true rfl) ?_
  show Sim RX9 cX9_isSign 2 (some .boolean) 0 SH RHO 0 [(0, vR 2), (1, vI a1)] [] σ (dIp σ) (f_Tok_isSign a1 σ)
  unfold f_Tok_isSign
  refine sim_aload_n 0 rfl dX9_isSign_0 ?_
  refine sim_getI g_RX9_21 sh_2 dX9_isSign_1 ?_
  refine sim_iconst dX9_isSign_4 (by decide) ?_
  refine sim_icmp_ne (tgt := 20) dX9_isSign_5 (by decide) ?_ ?_
  · refine sim_iconst dX9_isSign_20 (by decide) ?_
    exact sim_zret (Or.inl rfl) rfl rfl dX9_isSign_21
  · refine sim_aload_n 0 rfl dX9_isSign_8 ?_
    refine sim_getI g_RX9_37 sh_2 dX9_isSign_9 ?_
    refine sim_iload_n 1 rfl dX9_isSign_12 ?_
    refine sim_icmp_ne (tgt := 20) dX9_isSign_13 (by decide) ?_ ?_
    · refine sim_iconst dX9_isSign_20 (by decide) ?_
      exact sim_zret (Or.inl rfl) rfl rfl dX9_isSign_21
    · refine sim_iconst dX9_isSign_16 (by decide) ?_
      refine sim_goto (tgt := 21) dX9_isSign_17 (by decide) ?_
      exact sim_zret (Or.inr rfl) rfl rfl dX9_isSign_21
theorem dX9_fail_0 : decode cX9_fail 0 = .ok (.aload_n 0, 1) := by decide +kernel
theorem dX9_fail_1 : decode cX9_fail 1 = .ok (.iload_n 1, 1) := by decide +kernel
theorem dX9_fail_2 : decode cX9_fail 2 = .ok (.putfield 46, 3) := by decide +kernel
theorem dX9_fail_5 : decode cX9_fail 5 = .ok (.aload_n 0, 1) := by decide +kernel
theorem dX9_fail_6 : decode cX9_fail 6 = .ok (.aload_n 0, 1) := by decide +kernel
theorem dX9_fail_7 : decode cX9_fail 7 = .ok (.getfield 24, 3) := by decide +kernel
theorem dX9_fail_10 : decode cX9_fail 10 = .ok (.putfield 49, 3) := by decide +kernel
theorem dX9_fail_13 : decode cX9_fail 13 = .ok (.iconst 0, 1) := by decide +kernel
theorem dX9_fail_14 : decode cX9_fail 14 = .ok (.ireturn, 1) := by decide +kernel
def f_Tok_fail   (a1 : Int) (σ : JSg) : Option (Int × JSg) :=
  lt_ (sp σ 2 12 a1) fun s1 => lt_ (sp s1 2 13 (s1 2 5)) fun s2 => some (0, s2)
set_option maxRecDepth 20000 in
set_option maxHeartbeats 4000000 in
theorem k_Tok_fail     (a1 : Int) (σ : JSg) : Call yX9_fail cX9_fail 2 (some .boolean) 0 SH RHO [vR 2, vI a1] σ dIm (f_Tok_fail a1 σ) := by
  refine call_of_sim (by decide +kernel) (Nat.le_of_ble_eq_true rfl) ?_
  show Sim RX9 cX9_fail 2 (some .boolean) 0 SH RHO 0 [(0, vR 2), (1, vI a1)] [] σ dIm (f_Tok_fail a1 σ)
  unfold f_Tok_fail
  refine sim_aload_n 0 rfl dX9_fail_0 ?_
  refine sim_iload_n 1 rfl dX9_fail_1 ?_
  refine sim_putI g_RX9_46 sh_2 dX9_fail_2 (fun s1 => ?_)
  refine sim_aload_n 0 rfl dX9_fail_5 ?_
  refine sim_aload_n 0 rfl dX9_fail_6 ?_
  refine sim_getI g_RX9_24 sh_2 dX9_fail_7 ?_
  refine sim_putI g_RX9_49 sh_2 dX9_fail_10 (fun s2 => ?_)
  refine sim_iconst dX9_fail_13 (by decide) ?_
  exact sim_zret (Or.inl rfl) rfl rfl dX9_fail_14
theorem dX9_numberTo_0 : decode cX9_numberTo 0 = .ok (.aload_n 0, 1) := by decide +kernel
theorem dX9_numberTo_1 : decode cX9_numberTo 1 = .ok (.getfield 21, 3) := by decide +kernel
theorem dX9_numberTo_4 : decode cX9_numberTo 4 = .ok (.iconst 4, 1) := by decide +kernel
theorem dX9_numberTo_5 : decode cX9_numberTo 5 = .ok (.if_icmp .eq 11, 3) := by decide +kernel
theorem dX9_numberTo_8 : decode cX9_numberTo 8 = .ok (.aload_n 0, 1) := by decide +kernel
theorem dX9_numberTo_9 : decode cX9_numberTo 9 = .ok (.iconst 1, 1) := by decide +kernel
theorem dX9_numberTo_10 : decode cX9_numberTo 10 = .ok (.invokevirtual 95, 3) := by decide +kernel
theorem dX9_numberTo_13 : decode cX9_numberTo 13 = .ok (.pop, 1) := by decide +kernel
theorem dX9_numberTo_14 : decode cX9_numberTo 14 = .ok (.iconst (-1), 1) := by decide +kernel
theorem dX9_numberTo_15 : decode cX9_numberTo 15 = .ok (.ireturn, 1) := by decide +kernel
theorem dX9_numberTo_16 : decode cX9_numberTo 16 = .ok (.aload_n 0, 1) := by decide +kernel
theorem dX9_numberTo_17 : decode cX9_numberTo 17 = .ok (.getfield 34, 3) := by decide +kernel
theorem dX9_numberTo_20 : decode cX9_numberTo 20 = .ok (.iload_n 1, 1) := by decide +kernel
theorem dX9_numberTo_21 : decode cX9_numberTo 21 = .ok (.if_icmp .le 11, 3) := by decide +kernel
theorem dX9_numberTo_24 : decode cX9_numberTo 24 = .ok (.aload_n 0, 1) := by decide +kernel
theorem dX9_numberTo_25 : decode cX9_numberTo 25 = .ok (.iconst 2, 1) := by decide +kernel
theorem dX9_numberTo_26 : decode cX9_numberTo 26 = .ok (.invokevirtual 95, 3) := by decide +kernel
theorem dX9_numberTo_29 : decode cX9_numberTo 29 = .ok (.pop, 1) := by decide +kernel
theorem dX9_numberTo_30 : decode cX9_numberTo 30 = .ok (.iconst (-1), 1) := by decide +kernel
theorem dX9_numberTo_31 : decode cX9_numberTo 31 = .ok (.ireturn, 1) := by decide +kernel
theorem dX9_numberTo_32 : decode cX9_numberTo 32 = .ok (.aload_n 0, 1) := by decide +kernel
theorem dX9_numberTo_33 : decode cX9_numberTo 33 = .ok (.getfield 34, 3) := by decide +kernel
theorem dX9_numberTo_36 : decode cX9_numberTo 36 = .ok (.ireturn, 1) := by decide +kernel
def f_Tok_numberTo   (a1 : Int) (σ : JSg) : Option (Int × JSg) :=
  if (σ 2 4) = 4 then (if a1 < (σ 2 8) then (bd2 (f_Tok_fail 2 σ) fun r1 s2 => some ((-1), s2)) else (some (σ 2 8, σ))) else (bd2 (f_Tok_fail 1 σ) fun r3 s4 => some ((-1), s4))
set_option maxRecDepth 20000 in
set_option maxHeartbeats 4000000 in
theorem k_Tok_numberTo     (a1 : Int) (σ : JSg) : Call yX9_numberTo cX9_numberTo 2 (some .int) 1 SH RHO [vR 2, vI a1] σ dIm (f_Tok_numberTo a1 σ) := by
  refine call_of_sim (by decide +kernel) (Nat.le_of_ble_eq_true rfl) ?_
  show Sim RX9 cX9_numberTo 2 (some .int) 1 SH RHO 0 [(0, vR 2), (1, vI a1)] [] σ dIm (f_Tok_numberTo a1 σ)
  unfold f_Tok_numberTo
  refine sim_aload_n 0 rfl dX9_numberTo_0 ?_
  refine sim_getI g_RX9_21 sh_2 dX9_numberTo_1 ?_
  refine sim_iconst dX9_numberTo_4 (by decide) ?_
  refine sim_icmp_eq (tgt := 16) dX9_numberTo_5 (by decide) ?_ ?_
  · refine sim_aload_n 0 rfl dX9_numberTo_16 ?_
    refine sim_getI g_RX9_34 sh_2 dX9_numberTo_17 ?_
    refine sim_iload_n 1 rfl dX9_numberTo_20 ?_
    refine sim_icmp_le (tgt := 32) dX9_numberTo_21 (by decide) ?_ ?_
    · refine sim_aload_n 0 rfl dX9_numberTo_32 ?_
      refine sim_getI g_RX9_34 sh_2 dX9_numberTo_33 ?_
      exact sim_iret rfl rfl dX9_numberTo_36
    · refine sim_aload_n 0 rfl dX9_numberTo_24 ?_
      refine sim_iconst dX9_numberTo_25 (by decide) ?_
      refine sim_callVIm v_RX9_95 sh_2 dX9_numberTo_26 (k_Tok_fail 2 σ) rfl ⟨by decide, by decide⟩ (S := []) rfl (Nat.le_of_ble_eq_true rfl) (fun r1 s2 => ?_)
      refine sim_pop rfl dX9_numberTo_29 ?_
      refine sim_iconst dX9_numberTo_30 (by decide) ?_
      exact sim_iret rfl rfl dX9_numberTo_31
  · refine sim_aload_n 0 rfl dX9_numberTo_8 ?_
    refine sim_iconst dX9_numberTo_9 (by decide) ?_
    refine sim_callVIm v_RX9_95 sh_2 dX9_numberTo_10 (k_Tok_fail 1 σ) rfl ⟨by decide, by decide⟩ (S := []) rfl (Nat.le_of_ble_eq_true rfl) (fun r3 s4 => ?_)
    refine sim_pop rfl dX9_numberTo_13 ?_
    refine sim_iconst dX9_numberTo_14 (by decide) ?_
    exact sim_iret rfl rfl dX9_numberTo_15
theorem dX8_add_0 : decode cX8_add 0 = .ok (.aload_n 0, 1) := by decide +kernel
theorem dX8_add_1 : decode cX8_add 1 = .ok (.getfield 15, 3) := by decide +kernel
theorem dX8_add_4 : decode cX8_add 4 = .ok (.bipush 40, 2) := by decide +kernel
theorem dX8_add_6 : decode cX8_add 6 = .ok (.if_icmp .ge 43, 3) := by decide +kernel
theorem dX8_add_9 : decode cX8_add 9 = .ok (.aload_n 0, 1) := by decide +kernel
theorem dX8_add_10 : decode cX8_add 10 = .ok (.getfield 18, 3) := by decide +kernel
theorem dX8_add_13 : decode cX8_add 13 = .ok (.aload_n 0, 1) := by decide +kernel
theorem dX8_add_14 : decode cX8_add 14 = .ok (.getfield 15, 3) := by decide +kernel
theorem dX8_add_17 : decode cX8_add 17 = .ok (.iload_n 1, 1) := by decide +kernel
theorem dX8_add_18 : decode cX8_add 18 = .ok (.iastore, 1) := by decide +kernel
theorem dX8_add_19 : decode cX8_add 19 = .ok (.aload_n 0, 1) := by decide +kernel
theorem dX8_add_20 : decode cX8_add 20 = .ok (.getfield 22, 3) := by decide +kernel
theorem dX8_add_23 : decode cX8_add 23 = .ok (.aload_n 0, 1) := by decide +kernel
theorem dX8_add_24 : decode cX8_add 24 = .ok (.getfield 15, 3) := by decide +kernel
theorem dX8_add_27 : decode cX8_add 27 = .ok (.iload_n 2, 1) := by decide +kernel
theorem dX8_add_28 : decode cX8_add 28 = .ok (.iastore, 1) := by decide +kernel
theorem dX8_add_29 : decode cX8_add 29 = .ok (.aload_n 0, 1) := by decide +kernel
theorem dX8_add_30 : decode cX8_add 30 = .ok (.getfield 25, 3) := by decide +kernel
theorem dX8_add_33 : decode cX8_add 33 = .ok (.aload_n 0, 1) := by decide +kernel
theorem dX8_add_34 : decode cX8_add 34 = .ok (.getfield 15, 3) := by decide +kernel
theorem dX8_add_37 : decode cX8_add 37 = .ok (.iload_n 3, 1) := by decide +kernel
theorem dX8_add_38 : decode cX8_add 38 = .ok (.iastore, 1) := by decide +kernel
theorem dX8_add_39 : decode cX8_add 39 = .ok (.aload_n 0, 1) := by decide +kernel
theorem dX8_add_40 : decode cX8_add 40 = .ok (.dup, 1) := by decide +kernel
theorem dX8_add_41 : decode cX8_add 41 = .ok (.getfield 15, 3) := by decide +kernel
theorem dX8_add_44 : decode cX8_add 44 = .ok (.iconst 1, 1) := by decide +kernel
theorem dX8_add_45 : decode cX8_add 45 = .ok (.iadd, 1) := by decide +kernel
theorem dX8_add_46 : decode cX8_add 46 = .ok (.putfield 15, 3) := by decide +kernel
theorem dX8_add_49 : decode cX8_add 49 = .ok (.iconst 1, 1) := by decide +kernel
theorem dX8_add_50 : decode cX8_add 50 = .ok (.ireturn, 1) := by decide +kernel
def f_Sen_add  (p : Nat) (a1 : Int) (a2 : Int) (a3 : Int) (σ : JSg) : Option (Int × JSg) :=
  if (σ p 1) < 40 then (chk (0 ≤ (σ p 1) ∧ (σ p 1) < 40) <| lt_ (sp σ (p + 1) (σ p 1).toNat a1) fun s1 => chk (0 ≤ (s1 p 1) ∧ (s1 p 1) < 40) <| lt_ (sp s1 (p + 2) (s1 p 1).toNat a2) fun s2 => chk (0 ≤ (s2 p 1) ∧ (s2 p 1) < 40) <| lt_ (sp s2 (p + 3) (s2 p 1).toNat a3) fun s3 => lt_ (sp s3 p 1 (w32 ((s3 p 1) + 1))) fun s4 => some (1, s4)) else (some (1, σ))
set_option maxRecDepth 20000 in
set_option maxHeartbeats 4000000 in
theorem k_Sen_add (Sh : JSh) (ρ : JRo)  (p : Nat) (hp : LSen Sh ρ p) (a1 : Int) (a2 : Int) (a3 : Int) (σ : JSg) : Call yX8_add cX8_add 4 (some .boolean) 0 Sh ρ [vR p, vI a1, vI a2, vI a3] σ dIm (f_Sen_add p a1 a2 a3 σ) := by
  refine call_of_sim (by decide +kernel) (Nat.le_of_ble_eq_true rfl) ?_
  show Sim RX8 cX8_add 4 (some .boolean) 0 Sh ρ 0 [(0, vR p), (1, vI a1), (2, vI a2), (3, vI a3)] [] σ dIm (f_Sen_add p a1 a2 a3 σ)
  unfold f_Sen_add
  refine sim_aload_n 0 rfl dX8_add_0 ?_
  refine sim_getI g_RX8_15 (LSen_o hp) dX8_add_1 ?_
  refine sim_bipush dX8_add_4 (by decide +kernel) ?_
  refine sim_icmp_ge (tgt := 49) dX8_add_6 (by decide) ?_ ?_
  · refine sim_iconst dX8_add_49 (by decide) ?_
    exact sim_zret (Or.inr rfl) rfl rfl dX8_add_50
  · refine sim_aload_n 0 rfl dX8_add_9 ?_
    refine sim_getR g_RX8_18 (LSen_o hp) (LSen_r2 hp) dX8_add_10 ?_
    refine sim_aload_n 0 rfl dX8_add_13 ?_
    refine sim_getI g_RX8_15 (LSen_o hp) dX8_add_14 ?_
    refine sim_iload_n 1 rfl dX8_add_17 ?_
    refine sim_iastore (LSen_a2 hp) rfl dX8_add_18 (fun s1 => ?_)
    refine sim_aload_n 0 rfl dX8_add_19 ?_
    refine sim_getR g_RX8_22 (LSen_o hp) (LSen_r3 hp) dX8_add_20 ?_
    refine sim_aload_n 0 rfl dX8_add_23 ?_
    refine sim_getI g_RX8_15 (LSen_o hp) dX8_add_24 ?_
    refine sim_iload_n 2 rfl dX8_add_27 ?_
    refine sim_iastore (LSen_a3 hp) rfl dX8_add_28 (fun s2 => ?_)
    refine sim_aload_n 0 rfl dX8_add_29 ?_
    refine sim_getR g_RX8_25 (LSen_o hp) (LSen_r4 hp) dX8_add_30 ?_
    refine sim_aload_n 0 rfl dX8_add_33 ?_
    refine sim_getI g_RX8_15 (LSen_o hp) dX8_add_34 ?_
    refine sim_iload_n 3 rfl dX8_add_37 ?_
    refine sim_iastore (LSen_a4 hp) rfl dX8_add_38 (fun s3 => ?_)
    refine sim_aload_n 0 rfl dX8_add_39 ?_
    refine sim_dup rfl dX8_add_40 ?_
    refine sim_getI g_RX8_15 (LSen_o hp) dX8_add_41 ?_
    refine sim_iconst dX8_add_44 (by decide) ?_
    refine sim_iadd dX8_add_45 ?_
    refine sim_putI g_RX8_15 (LSen_o hp) dX8_add_46 (fun s4 => ?_)
    refine sim_iconst dX8_add_49 (by decide) ?_
    exact sim_zret (Or.inr rfl) rfl rfl dX8_add_50
theorem dX8_readMeasure_0 : decode cX8_readMeasure 0 = .ok (.aload_n 1, 1) := by decide +kernel
theorem dX8_readMeasure_1 : decode cX8_readMeasure 1 = .ok (.bipush 60, 2) := by decide +kernel
theorem dX8_readMeasure_3 : decode cX8_readMeasure 3 = .ok (.invokevirtual 69, 3) := by decide +kernel
theorem dX8_readMeasure_6 : decode cX8_readMeasure 6 = .ok (.ifCond .ne 27, 3) := by decide +kernel
theorem dX8_readMeasure_9 : decode cX8_readMeasure 9 = .ok (.aload_n 1, 1) := by decide +kernel
theorem dX8_readMeasure_10 : decode cX8_readMeasure 10 = .ok (.bipush 61, 2) := by decide +kernel
theorem dX8_readMeasure_12 : decode cX8_readMeasure 12 = .ok (.invokevirtual 69, 3) := by decide +kernel
theorem dX8_readMeasure_15 : decode cX8_readMeasure 15 = .ok (.ifCond .ne 18, 3) := by decide +kernel
theorem dX8_readMeasure_18 : decode cX8_readMeasure 18 = .ok (.aload_n 1, 1) := by decide +kernel
theorem dX8_readMeasure_19 : decode cX8_readMeasure 19 = .ok (.bipush 62, 2) := by decide +kernel
theorem dX8_readMeasure_21 : decode cX8_readMeasure 21 = .ok (.invokevirtual 69, 3) := by decide +kernel
theorem dX8_readMeasure_24 : decode cX8_readMeasure 24 = .ok (.ifCond .ne 9, 3) := by decide +kernel
theorem dX8_readMeasure_27 : decode cX8_readMeasure 27 = .ok (.aload_n 1, 1) := by decide +kernel
theorem dX8_readMeasure_28 : decode cX8_readMeasure 28 = .ok (.iconst 1, 1) := by decide +kernel
theorem dX8_readMeasure_29 : decode cX8_readMeasure 29 = .ok (.invokevirtual 49, 3) := by decide +kernel
theorem dX8_readMeasure_32 : decode cX8_readMeasure 32 = .ok (.ireturn, 1) := by decide +kernel
theorem dX8_readMeasure_33 : decode cX8_readMeasure 33 = .ok (.aload_n 1, 1) := by decide +kernel
theorem dX8_readMeasure_34 : decode cX8_readMeasure 34 = .ok (.getfield 90, 3) := by decide +kernel
theorem dX8_readMeasure_37 : decode cX8_readMeasure 37 = .ok (.istore_n 3, 1) := by decide +kernel
theorem dX8_readMeasure_38 : decode cX8_readMeasure 38 = .ok (.aload_n 1, 1) := by decide +kernel
theorem dX8_readMeasure_39 : decode cX8_readMeasure 39 = .ok (.invokevirtual 59, 3) := by decide +kernel
theorem dX8_readMeasure_42 : decode cX8_readMeasure 42 = .ok (.aload_n 1, 1) := by decide +kernel
theorem dX8_readMeasure_43 : decode cX8_readMeasure 43 = .ok (.sipush 999, 3) := by decide +kernel
theorem dX8_readMeasure_46 : decode cX8_readMeasure 46 = .ok (.invokevirtual 92, 3) := by decide +kernel
theorem dX8_readMeasure_49 : decode cX8_readMeasure 49 = .ok (.istore 4, 2) := by decide +kernel
theorem dX8_readMeasure_51 : decode cX8_readMeasure 51 = .ok (.iload 4, 2) := by decide +kernel
theorem dX8_readMeasure_53 : decode cX8_readMeasure 53 = .ok (.iconst (-1), 1) := by decide +kernel
theorem dX8_readMeasure_54 : decode cX8_readMeasure 54 = .ok (.if_icmp .ne 5, 3) := by decide +kernel
theorem dX8_readMeasure_57 : decode cX8_readMeasure 57 = .ok (.iconst 0, 1) := by decide +kernel
theorem dX8_readMeasure_58 : decode cX8_readMeasure 58 = .ok (.ireturn, 1) := by decide +kernel
theorem dX8_readMeasure_59 : decode cX8_readMeasure 59 = .ok (.aload_n 1, 1) := by decide +kernel
theorem dX8_readMeasure_60 : decode cX8_readMeasure 60 = .ok (.invokevirtual 59, 3) := by decide +kernel
theorem dX8_readMeasure_63 : decode cX8_readMeasure 63 = .ok (.aload_n 0, 1) := by decide +kernel
theorem dX8_readMeasure_64 : decode cX8_readMeasure 64 = .ok (.iload_n 2, 1) := by decide +kernel
theorem dX8_readMeasure_65 : decode cX8_readMeasure 65 = .ok (.iload_n 3, 1) := by decide +kernel
theorem dX8_readMeasure_66 : decode cX8_readMeasure 66 = .ok (.iload 4, 2) := by decide +kernel
theorem dX8_readMeasure_68 : decode cX8_readMeasure 68 = .ok (.invokevirtual 62, 3) := by decide +kernel
theorem dX8_readMeasure_71 : decode cX8_readMeasure 71 = .ok (.ireturn, 1) := by decide +kernel
def f_Sen_readMeasure (n : Nat) (p : Nat) (a2 : Int) (σ : JSg) : Option (Int × JSg) :=
  bd1 (f_Tok_isSign 60 σ) fun r1 => jn0 (lt_ (σ 2 9) fun v3 => bd1 (f_Tok_step n σ) fun s4 => bd2 (f_Tok_numberTo 999 s4) fun r5 s6 => lt_ r5 fun v7 => if v7 = (-1) then (some (0, s6)) else (bd1 (f_Tok_step n s6) fun s8 => bd2 (f_Sen_add p a2 v3 v7 s8) fun r9 s10 => chk (r9 = 0 ∨ r9 = 1) <| some (r9, s10))) fun j2 => if r1 = 0 then (bd1 (f_Tok_isSign 61 σ) fun r11 => if r11 = 0 then (bd1 (f_Tok_isSign 62 σ) fun r12 => if r12 = 0 then (bd2 (f_Tok_fail 1 σ) fun r13 s14 => chk (r13 = 0 ∨ r13 = 1) <| some (r13, s14)) else (j2)) else (j2)) else (j2)
set_option maxRecDepth 20000 in
set_option maxHeartbeats 4000000 in
theorem k_Sen_readMeasure  (n : Nat) (p : Nat) (hp : LSen SH RHO p) (a2 : Int) (σ : JSg) : Call yX8_readMeasure cX8_readMeasure 5 (some .boolean) 8 SH RHO [vR p, vR 2, vI a2] σ dIm (f_Sen_readMeasure n p a2 σ) := by
  refine call_of_sim (by decide +kernel) (Nat.le_of_ble_eq_true rfl) ?_
  show Sim RX8 cX8_readMeasure 5 (some .boolean) 8 SH RHO 0 [(0, vR p), (1, vR 2), (2, vI a2)] [] σ dIm (f_Sen_readMeasure n p a2 σ)
  unfold f_Sen_readMeasure
  refine sim_aload_n 1 rfl dX8_readMeasure_0 ?_
  refine sim_bipush dX8_readMeasure_1 (by decide +kernel) ?_
  refine sim_callVIp v_RX8_69 sh_2 dX8_readMeasure_3 (k_Tok_isSign 60 σ) rfl ⟨by decide, by decide⟩ (S := []) rfl (Nat.le_of_ble_eq_true rfl) (fun r1 => ?_)
  refine sim_jn0 (pc' := 33) ([(0, vR p), (1, vR 2), (2, vI a2)]) ([]) (σ) ?_ (fun j2 hj2 => ?_)
  · refine sim_aload_n 1 rfl dX8_readMeasure_33 ?_
    refine sim_getI g_RX8_90 sh_2 dX8_readMeasure_34 ?_
    refine sim_istore_n (fun v3 => [(3, vI v3), (0, vR p), (1, vR 2), (2, vI a2)]) (fun _ => rfl) (by decide) dX8_readMeasure_37 (fun v3 => ?_)
    refine sim_aload_n 2 rfl dX8_readMeasure_38 ?_
    refine sim_callVVm v_RX8_59 sh_2 dX8_readMeasure_39 (k_Tok_step n σ) rfl ⟨by decide, by decide⟩ (S := []) rfl (Nat.le_of_ble_eq_true rfl) (fun s4 => ?_)
    refine sim_aload_n 2 rfl dX8_readMeasure_42 ?_
    refine sim_sipush dX8_readMeasure_43 (by decide +kernel) ?_
    refine sim_callVIm v_RX8_92 sh_2 dX8_readMeasure_46 (k_Tok_numberTo 999 s4) rfl ⟨by decide, by decide⟩ (S := []) rfl (Nat.le_of_ble_eq_true rfl) (fun r5 s6 => ?_)
    refine sim_istore (fun v7 => [(4, vI v7), (3, vI v3), (0, vR p), (1, vR 2), (2, vI a2)]) (fun _ => rfl) (by decide) dX8_readMeasure_49 (fun v7 => ?_)
    refine sim_iload 0 rfl dX8_readMeasure_51 ?_
    refine sim_iconst dX8_readMeasure_53 (by decide) ?_
    refine sim_icmp_ne (tgt := 59) dX8_readMeasure_54 (by decide) ?_ ?_
    · refine sim_aload_n 3 rfl dX8_readMeasure_59 ?_
      refine sim_callVVm v_RX8_59 sh_2 dX8_readMeasure_60 (k_Tok_step n s6) rfl ⟨by decide, by decide⟩ (S := []) rfl (Nat.le_of_ble_eq_true rfl) (fun s8 => ?_)
      refine sim_aload_n 2 rfl dX8_readMeasure_63 ?_
      refine sim_iload_n 4 rfl dX8_readMeasure_64 ?_
      refine sim_iload_n 1 rfl dX8_readMeasure_65 ?_
      refine sim_iload 0 rfl dX8_readMeasure_66 ?_
      refine sim_callVIm v_RX8_62 (LSen_o hp) dX8_readMeasure_68 (k_Sen_add SH RHO p hp a2 v3 v7 s8) rfl ⟨by decide, by decide⟩ (S := []) rfl (Nat.le_of_ble_eq_true rfl) (fun r9 s10 => ?_)
      exact sim_zretc rfl rfl dX8_readMeasure_71
    · refine sim_iconst dX8_readMeasure_57 (by decide) ?_
      exact sim_zret (Or.inl rfl) rfl rfl dX8_readMeasure_58
  refine sim_if_ne (tgt := 33) dX8_readMeasure_6 (by decide) ?_ ?_
  · exact sim_sub [0, 1, 2] rfl (hj2 )
  · refine sim_aload_n 1 rfl dX8_readMeasure_9 ?_
    refine sim_bipush dX8_readMeasure_10 (by decide +kernel) ?_
    refine sim_callVIp v_RX8_69 sh_2 dX8_readMeasure_12 (k_Tok_isSign 61 σ) rfl ⟨by decide, by decide⟩ (S := []) rfl (Nat.le_of_ble_eq_true rfl) (fun r11 => ?_)
    refine sim_if_ne (tgt := 33) dX8_readMeasure_15 (by decide) ?_ ?_
    · exact sim_sub [0, 1, 2] rfl (hj2 )
    · refine sim_aload_n 1 rfl dX8_readMeasure_18 ?_
      refine sim_bipush dX8_readMeasure_19 (by decide +kernel) ?_
      refine sim_callVIp v_RX8_69 sh_2 dX8_readMeasure_21 (k_Tok_isSign 62 σ) rfl ⟨by decide, by decide⟩ (S := []) rfl (Nat.le_of_ble_eq_true rfl) (fun r12 => ?_)
      refine sim_if_ne (tgt := 33) dX8_readMeasure_24 (by decide) ?_ ?_
      · exact sim_sub [0, 1, 2] rfl (hj2 )
      · refine sim_aload_n 1 rfl dX8_readMeasure_27 ?_
        refine sim_iconst dX8_readMeasure_28 (by decide) ?_
        refine sim_callVIm v_RX8_49 sh_2 dX8_readMeasure_29 (k_Tok_fail 1 σ) rfl ⟨by decide, by decide⟩ (S := []) rfl (Nat.le_of_ble_eq_true rfl) (fun r13 s14 => ?_)
        exact sim_zretc rfl rfl dX8_readMeasure_32
theorem dX9_isName_0 : decode cX9_isName 0 = .ok (.aload_n 0, 1) := by decide +kernel
theorem dX9_isName_1 : decode cX9_isName 1 = .ok (.getfield 21, 3) := by decide +kernel
theorem dX9_isName_4 : decode cX9_isName 4 = .ok (.iconst 3, 1) := by decide +kernel
theorem dX9_isName_5 : decode cX9_isName 5 = .ok (.if_icmp .ne 14, 3) := by decide +kernel
theorem dX9_isName_8 : decode cX9_isName 8 = .ok (.aload_n 0, 1) := by decide +kernel
theorem dX9_isName_9 : decode cX9_isName 9 = .ok (.getfield 27, 3) := by decide +kernel
theorem dX9_isName_12 : decode cX9_isName 12 = .ok (.ifCond .ne 7, 3) := by decide +kernel
theorem dX9_isName_15 : decode cX9_isName 15 = .ok (.iconst 1, 1) := by decide +kernel
theorem dX9_isName_16 : decode cX9_isName 16 = .ok (.goto 4, 3) := by decide +kernel
theorem dX9_isName_19 : decode cX9_isName 19 = .ok (.iconst 0, 1) := by decide +kernel
theorem dX9_isName_20 : decode cX9_isName 20 = .ok (.ireturn, 1) := by decide +kernel
def f_Tok_isName    (σ : JSg) : Option (Int) :=
  if (σ 2 4) = 3 then (if (σ 2 6) = 0 then (some 1) else (some 0)) else (some 0)
set_option maxRecDepth 20000 in
set_option maxHeartbeats 4000000 in
theorem k_Tok_isName      (σ : JSg) : Call yX9_isName cX9_isName 1 (some .boolean) 0 SH RHO [vR 2] σ (dIp σ) (f_Tok_isName  σ) := by
  refine call_of_sim (by decide +kernel) (Nat.le_of_ble_eq_true rfl) ?_
  show Sim RX9 cX9_isName 1 (some .boolean) 0 SH RHO 0 [(0, vR 2)] [] σ (dIp σ) (f_Tok_isName  σ)
  unfold f_Tok_isName
  refine sim_aload_n 0 rfl dX9_isName_0 ?_
  refine sim_getI g_RX9_21 sh_2 dX9_isName_1 ?_
  refine sim_iconst dX9_isName_4 (by decide) ?_
  refine sim_icmp_ne (tgt := 19) dX9_isName_5 (by decide) ?_ ?_
  · refine sim_iconst dX9_isName_19 (by decide) ?_
    exact sim_zret (Or.inl rfl) rfl rfl dX9_isName_20
  · refine sim_aload_n 0 rfl dX9_isName_8 ?_
    refine sim_getI g_RX9_27 sh_2 dX9_isName_9 ?_
    refine sim_if_ne (tgt := 19) dX9_isName_12 (by decide) ?_ ?_
    · refine sim_iconst dX9_isName_19 (by decide) ?_
      exact sim_zret (Or.inl rfl) rfl rfl dX9_isName_20
    · refine sim_iconst dX9_isName_15 (by decide) ?_
      refine sim_goto (tgt := 20) dX9_isName_16 (by decide) ?_
      exact sim_zret (Or.inr rfl) rfl rfl dX9_isName_20
theorem dX3_widowNamed_0 : decode cX3_widowNamed 0 = .ok (.iconst 0, 1) := by decide +kernel
theorem dX3_widowNamed_1 : decode cX3_widowNamed 1 = .ok (.istore_n 3, 1) := by decide +kernel
theorem dX3_widowNamed_2 : decode cX3_widowNamed 2 = .ok (.iload_n 3, 1) := by decide +kernel
theorem dX3_widowNamed_3 : decode cX3_widowNamed 3 = .ok (.aload_n 0, 1) := by decide +kernel
theorem dX3_widowNamed_4 : decode cX3_widowNamed 4 = .ok (.getfield 15, 3) := by decide +kernel
theorem dX3_widowNamed_7 : decode cX3_widowNamed 7 = .ok (.if_icmp .ge 22, 3) := by decide +kernel
theorem dX3_widowNamed_10 : decode cX3_widowNamed 10 = .ok (.aload_n 0, 1) := by decide +kernel
theorem dX3_widowNamed_11 : decode cX3_widowNamed 11 = .ok (.getfield 34, 3) := by decide +kernel
theorem dX3_widowNamed_14 : decode cX3_widowNamed 14 = .ok (.iload_n 3, 1) := by decide +kernel
theorem dX3_widowNamed_15 : decode cX3_widowNamed 15 = .ok (.laload, 1) := by decide +kernel
theorem dX3_widowNamed_16 : decode cX3_widowNamed 16 = .ok (.lload_n 1, 1) := by decide +kernel
theorem dX3_widowNamed_17 : decode cX3_widowNamed 17 = .ok (.lcmp, 1) := by decide +kernel
theorem dX3_widowNamed_18 : decode cX3_widowNamed 18 = .ok (.ifCond .ne 5, 3) := by decide +kernel
theorem dX3_widowNamed_21 : decode cX3_widowNamed 21 = .ok (.iload_n 3, 1) := by decide +kernel
theorem dX3_widowNamed_22 : decode cX3_widowNamed 22 = .ok (.ireturn, 1) := by decide +kernel
theorem dX3_widowNamed_23 : decode cX3_widowNamed 23 = .ok (.iinc 3 1, 3) := by decide +kernel
theorem dX3_widowNamed_26 : decode cX3_widowNamed 26 = .ok (.goto (-24), 3) := by decide +kernel
theorem dX3_widowNamed_29 : decode cX3_widowNamed 29 = .ok (.iconst (-1), 1) := by decide +kernel
theorem dX3_widowNamed_30 : decode cX3_widowNamed 30 = .ok (.ireturn, 1) := by decide +kernel
def f_Isl_widowNamed (n : Nat) (p : Nat) (a1 : Int) (σ : JSg) : Option (Int) :=
  lt_ 0 fun v1 => wh1 n (fun rc2 (x3 : Int) => if x3 < (σ p 1) then (chk (0 ≤ x3 ∧ x3 < 6) <| if (cmpL (σ (p + 1) x3.toNat) a1) = 0 then (some x3) else (lt_ (w32 (x3 + 1)) fun v4 => rc2 v4)) else (some (-1))) v1
set_option maxRecDepth 20000 in
set_option maxHeartbeats 4000000 in
theorem k_Isl_widowNamed (Sh : JSh) (ρ : JRo) (n : Nat) (p : Nat) (hp : LIsl Sh ρ p) (a1 : Int) (σ : JSg) : Call yX3_widowNamed cX3_widowNamed 4 (some .int) 0 Sh ρ [vR p, vL a1] σ (dIp σ) (f_Isl_widowNamed n p a1 σ) := by
  refine call_of_sim (by decide +kernel) (Nat.le_of_ble_eq_true rfl) ?_
  show Sim RX3 cX3_widowNamed 4 (some .int) 0 Sh ρ 0 [(0, vR p), (1, vL a1)] [] σ (dIp σ) (f_Isl_widowNamed n p a1 σ)
  unfold f_Isl_widowNamed
  refine sim_iconst dX3_widowNamed_0 (by decide) ?_
  refine sim_istore_n (fun v1 => [(3, vI v1), (0, vR p), (1, vL a1)]) (fun _ => rfl) (by decide) dX3_widowNamed_1 (fun v1 => ?_)
  refine sim_sub [1, 2, 0] (L' := [(0, vR p), (1, vL a1), (3, vI v1)]) rfl ?_
  refine sim_wh1 (fun (x3 : Int) => [(0, vR p), (1, vL a1), (3, vI x3)]) (fun (x3 : Int) => σ) ?_ n v1
  intro rc2 hrc2 x3
  refine sim_iload_n 2 rfl dX3_widowNamed_2 ?_
  refine sim_aload_n 0 rfl dX3_widowNamed_3 ?_
  refine sim_getI g_RX3_15 (LIsl_o hp) dX3_widowNamed_4 ?_
  refine sim_icmp_ge (tgt := 29) dX3_widowNamed_7 (by decide) ?_ ?_
  · refine sim_iconst dX3_widowNamed_29 (by decide) ?_
    exact sim_iret rfl rfl dX3_widowNamed_30
  · refine sim_aload_n 0 rfl dX3_widowNamed_10 ?_
    refine sim_getR g_RX3_34 (LIsl_o hp) (LIsl_r7 hp) dX3_widowNamed_11 ?_
    refine sim_iload_n 2 rfl dX3_widowNamed_14 ?_
    refine sim_laload (LIsl_a7 hp) rfl dX3_widowNamed_15 ?_
    refine sim_lload_n 1 rfl dX3_widowNamed_16 ?_
    refine sim_lcmp dX3_widowNamed_17 ?_
    refine sim_if_ne (tgt := 23) dX3_widowNamed_18 (by decide) ?_ ?_
    · refine sim_iinc 2 rfl (fun v4 => [(3, vI v4), (0, vR p), (1, vL a1)]) (fun _ => rfl) (by decide) dX3_widowNamed_23 (fun v4 => ?_)
      refine sim_goto (tgt := 2) dX3_widowNamed_26 (by decide) ?_
      exact sim_sub [1, 2, 0] rfl (hrc2 v4)
    · refine sim_iload_n 2 rfl dX3_widowNamed_21 ?_
      exact sim_iret rfl rfl dX3_widowNamed_22
theorem dX3_widowHere_0 : decode cX3_widowHere 0 = .ok (.aload_n 1, 1) := by decide +kernel
theorem dX3_widowHere_1 : decode cX3_widowHere 1 = .ok (.invokevirtual 110, 3) := by decide +kernel
theorem dX3_widowHere_4 : decode cX3_widowHere 4 = .ok (.ifCond .ne 11, 3) := by decide +kernel
theorem dX3_widowHere_7 : decode cX3_widowHere 7 = .ok (.aload_n 1, 1) := by decide +kernel
theorem dX3_widowHere_8 : decode cX3_widowHere 8 = .ok (.iconst 1, 1) := by decide +kernel
theorem dX3_widowHere_9 : decode cX3_widowHere 9 = .ok (.invokevirtual 103, 3) := by decide +kernel
theorem dX3_widowHere_12 : decode cX3_widowHere 12 = .ok (.pop, 1) := by decide +kernel
theorem dX3_widowHere_13 : decode cX3_widowHere 13 = .ok (.iconst (-1), 1) := by decide +kernel
theorem dX3_widowHere_14 : decode cX3_widowHere 14 = .ok (.ireturn, 1) := by decide +kernel
theorem dX3_widowHere_15 : decode cX3_widowHere 15 = .ok (.aload_n 0, 1) := by decide +kernel
theorem dX3_widowHere_16 : decode cX3_widowHere 16 = .ok (.aload_n 1, 1) := by decide +kernel
theorem dX3_widowHere_17 : decode cX3_widowHere 17 = .ok (.getfield 114, 3) := by decide +kernel
theorem dX3_widowHere_20 : decode cX3_widowHere 20 = .ok (.invokevirtual 118, 3) := by decide +kernel
theorem dX3_widowHere_23 : decode cX3_widowHere 23 = .ok (.istore_n 2, 1) := by decide +kernel
theorem dX3_widowHere_24 : decode cX3_widowHere 24 = .ok (.iload_n 2, 1) := by decide +kernel
theorem dX3_widowHere_25 : decode cX3_widowHere 25 = .ok (.iconst (-1), 1) := by decide +kernel
theorem dX3_widowHere_26 : decode cX3_widowHere 26 = .ok (.if_icmp .ne 9, 3) := by decide +kernel
theorem dX3_widowHere_29 : decode cX3_widowHere 29 = .ok (.aload_n 1, 1) := by decide +kernel
theorem dX3_widowHere_30 : decode cX3_widowHere 30 = .ok (.iconst 3, 1) := by decide +kernel
theorem dX3_widowHere_31 : decode cX3_widowHere 31 = .ok (.invokevirtual 103, 3) := by decide +kernel
theorem dX3_widowHere_34 : decode cX3_widowHere 34 = .ok (.pop, 1) := by decide +kernel
theorem dX3_widowHere_35 : decode cX3_widowHere 35 = .ok (.iload_n 2, 1) := by decide +kernel
theorem dX3_widowHere_36 : decode cX3_widowHere 36 = .ok (.ireturn, 1) := by decide +kernel
def f_Isl_widowHere (n : Nat) (p : Nat)  (σ : JSg) : Option (Int × JSg) :=
  bd1 (f_Tok_isName σ) fun r1 => if r1 = 0 then (bd2 (f_Tok_fail 1 σ) fun r6 s7 => some ((-1), s7)) else (bd1 (f_Isl_widowNamed n p (σ 2 7) σ) fun r2 => lt_ r2 fun v3 => if v3 = (-1) then (bd2 (f_Tok_fail 3 σ) fun r4 s5 => some (v3, s5)) else (some (v3, σ)))
set_option maxRecDepth 20000 in
set_option maxHeartbeats 4000000 in
theorem k_Isl_widowHere  (n : Nat) (p : Nat) (hp : LIsl SH RHO p)  (σ : JSg) : Call yX3_widowHere cX3_widowHere 3 (some .int) 1 SH RHO [vR p, vR 2] σ dIm (f_Isl_widowHere n p σ) := by
  refine call_of_sim (by decide +kernel) (Nat.le_of_ble_eq_true rfl) ?_
  show Sim RX3 cX3_widowHere 3 (some .int) 1 SH RHO 0 [(0, vR p), (1, vR 2)] [] σ dIm (f_Isl_widowHere n p σ)
  unfold f_Isl_widowHere
  refine sim_aload_n 1 rfl dX3_widowHere_0 ?_
  refine sim_callVIp v_RX3_110 sh_2 dX3_widowHere_1 (k_Tok_isName σ) rfl ⟨by decide, by decide⟩ (S := []) rfl (Nat.le_of_ble_eq_true rfl) (fun r1 => ?_)
  refine sim_if_ne (tgt := 15) dX3_widowHere_4 (by decide) ?_ ?_
  · refine sim_aload_n 0 rfl dX3_widowHere_15 ?_
    refine sim_aload_n 1 rfl dX3_widowHere_16 ?_
    refine sim_getL g_RX3_114 sh_2 dX3_widowHere_17 ?_
    refine sim_callVIp v_RX3_118 (LIsl_o hp) dX3_widowHere_20 (k_Isl_widowNamed SH RHO n p hp (σ 2 7) σ) rfl ⟨by decide, by decide⟩ (S := []) rfl (Nat.le_of_ble_eq_true rfl) (fun r2 => ?_)
    refine sim_istore_n (fun v3 => [(2, vI v3), (0, vR p), (1, vR 2)]) (fun _ => rfl) (by decide) dX3_widowHere_23 (fun v3 => ?_)
    refine sim_iload_n 0 rfl dX3_widowHere_24 ?_
    refine sim_iconst dX3_widowHere_25 (by decide) ?_
    refine sim_icmp_ne (tgt := 35) dX3_widowHere_26 (by decide) ?_ ?_
    · refine sim_iload_n 0 rfl dX3_widowHere_35 ?_
      exact sim_iret rfl rfl dX3_widowHere_36
    · refine sim_aload_n 2 rfl dX3_widowHere_29 ?_
      refine sim_iconst dX3_widowHere_30 (by decide) ?_
      refine sim_callVIm v_RX3_103 sh_2 dX3_widowHere_31 (k_Tok_fail 3 σ) rfl ⟨by decide, by decide⟩ (S := []) rfl (Nat.le_of_ble_eq_true rfl) (fun r4 s5 => ?_)
      refine sim_pop rfl dX3_widowHere_34 ?_
      refine sim_iload_n 0 rfl dX3_widowHere_35 ?_
      exact sim_iret rfl rfl dX3_widowHere_36
  · refine sim_aload_n 1 rfl dX3_widowHere_7 ?_
    refine sim_iconst dX3_widowHere_8 (by decide) ?_
    refine sim_callVIm v_RX3_103 sh_2 dX3_widowHere_9 (k_Tok_fail 1 σ) rfl ⟨by decide, by decide⟩ (S := []) rfl (Nat.le_of_ble_eq_true rfl) (fun r6 s7 => ?_)
    refine sim_pop rfl dX3_widowHere_12 ?_
    refine sim_iconst dX3_widowHere_13 (by decide) ?_
    exact sim_iret rfl rfl dX3_widowHere_14
theorem dX8_readOf_0 : decode cX8_readOf 0 = .ok (.aload_n 2, 1) := by decide +kernel
theorem dX8_readOf_1 : decode cX8_readOf 1 = .ok (.aload_n 1, 1) := by decide +kernel
theorem dX8_readOf_2 : decode cX8_readOf 2 = .ok (.invokevirtual 84, 3) := by decide +kernel
theorem dX8_readOf_5 : decode cX8_readOf 5 = .ok (.istore_n 3, 1) := by decide +kernel
theorem dX8_readOf_6 : decode cX8_readOf 6 = .ok (.iload_n 3, 1) := by decide +kernel
theorem dX8_readOf_7 : decode cX8_readOf 7 = .ok (.iconst (-1), 1) := by decide +kernel
theorem dX8_readOf_8 : decode cX8_readOf 8 = .ok (.if_icmp .ne 5, 3) := by decide +kernel
theorem dX8_readOf_11 : decode cX8_readOf 11 = .ok (.iconst 0, 1) := by decide +kernel
theorem dX8_readOf_12 : decode cX8_readOf 12 = .ok (.ireturn, 1) := by decide +kernel
theorem dX8_readOf_13 : decode cX8_readOf 13 = .ok (.aload_n 1, 1) := by decide +kernel
theorem dX8_readOf_14 : decode cX8_readOf 14 = .ok (.invokevirtual 59, 3) := by decide +kernel
theorem dX8_readOf_17 : decode cX8_readOf 17 = .ok (.aload_n 0, 1) := by decide +kernel
theorem dX8_readOf_18 : decode cX8_readOf 18 = .ok (.bipush 15, 2) := by decide +kernel
theorem dX8_readOf_20 : decode cX8_readOf 20 = .ok (.iconst 0, 1) := by decide +kernel
theorem dX8_readOf_21 : decode cX8_readOf 21 = .ok (.iload_n 3, 1) := by decide +kernel
theorem dX8_readOf_22 : decode cX8_readOf 22 = .ok (.invokevirtual 62, 3) := by decide +kernel
theorem dX8_readOf_25 : decode cX8_readOf 25 = .ok (.ireturn, 1) := by decide +kernel
def f_Sen_readOf (n : Nat) (p : Nat) (q : Nat)  (σ : JSg) : Option (Int × JSg) :=
  bd2 (f_Isl_widowHere n q σ) fun r1 s2 => lt_ r1 fun v3 => if v3 = (-1) then (some (0, s2)) else (bd1 (f_Tok_step n s2) fun s4 => bd2 (f_Sen_add p 15 0 v3 s4) fun r5 s6 => chk (r5 = 0 ∨ r5 = 1) <| some (r5, s6))
set_option maxRecDepth 20000 in
set_option maxHeartbeats 4000000 in
theorem k_Sen_readOf  (n : Nat) (p : Nat) (q : Nat) (hp : LSen SH RHO p) (hq : LIsl SH RHO q)  (σ : JSg) : Call yX8_readOf cX8_readOf 4 (some .boolean) 8 SH RHO [vR p, vR 2, vR q] σ dIm (f_Sen_readOf n p q σ) := by
  refine call_of_sim (by decide +kernel) (Nat.le_of_ble_eq_true rfl) ?_
  show Sim RX8 cX8_readOf 4 (some .boolean) 8 SH RHO 0 [(0, vR p), (1, vR 2), (2, vR q)] [] σ dIm (f_Sen_readOf n p q σ)
  unfold f_Sen_readOf
  refine sim_aload_n 2 rfl dX8_readOf_0 ?_
  refine sim_aload_n 1 rfl dX8_readOf_1 ?_
  refine sim_callVIm v_RX8_84 (LIsl_o hq) dX8_readOf_2 (k_Isl_widowHere n q hq σ) rfl ⟨by decide, by decide⟩ (S := []) rfl (Nat.le_of_ble_eq_true rfl) (fun r1 s2 => ?_)
  refine sim_istore_n (fun v3 => [(3, vI v3), (0, vR p), (1, vR 2), (2, vR q)]) (fun _ => rfl) (by decide) dX8_readOf_5 (fun v3 => ?_)
  refine sim_iload_n 0 rfl dX8_readOf_6 ?_
  refine sim_iconst dX8_readOf_7 (by decide) ?_
  refine sim_icmp_ne (tgt := 13) dX8_readOf_8 (by decide) ?_ ?_
  · refine sim_aload_n 2 rfl dX8_readOf_13 ?_
    refine sim_callVVm v_RX8_59 sh_2 dX8_readOf_14 (k_Tok_step n s2) rfl ⟨by decide, by decide⟩ (S := []) rfl (Nat.le_of_ble_eq_true rfl) (fun s4 => ?_)
    refine sim_aload_n 1 rfl dX8_readOf_17 ?_
    refine sim_bipush dX8_readOf_18 (by decide +kernel) ?_
    refine sim_iconst dX8_readOf_20 (by decide) ?_
    refine sim_iload_n 0 rfl dX8_readOf_21 ?_
    refine sim_callVIm v_RX8_62 (LSen_o hp) dX8_readOf_22 (k_Sen_add SH RHO p hp 15 0 v3 s4) rfl ⟨by decide, by decide⟩ (S := []) rfl (Nat.le_of_ble_eq_true rfl) (fun r5 s6 => ?_)
    exact sim_zretc rfl rfl dX8_readOf_25
  · refine sim_iconst dX8_readOf_11 (by decide) ?_
    exact sim_zret (Or.inl rfl) rfl rfl dX8_readOf_12
theorem dX9_passes_0 : decode cX9_passes 0 = .ok (.aload_n 0, 1) := by decide +kernel
theorem dX9_passes_1 : decode cX9_passes 1 = .ok (.iload_n 1, 1) := by decide +kernel
theorem dX9_passes_2 : decode cX9_passes 2 = .ok (.invokevirtual 91, 3) := by decide +kernel
theorem dX9_passes_5 : decode cX9_passes 5 = .ok (.ifCond .ne 9, 3) := by decide +kernel
theorem dX9_passes_8 : decode cX9_passes 8 = .ok (.aload_n 0, 1) := by decide +kernel
theorem dX9_passes_9 : decode cX9_passes 9 = .ok (.iconst 1, 1) := by decide +kernel
theorem dX9_passes_10 : decode cX9_passes 10 = .ok (.invokevirtual 95, 3) := by decide +kernel
theorem dX9_passes_13 : decode cX9_passes 13 = .ok (.ireturn, 1) := by decide +kernel
theorem dX9_passes_14 : decode cX9_passes 14 = .ok (.aload_n 0, 1) := by decide +kernel
theorem dX9_passes_15 : decode cX9_passes 15 = .ok (.invokevirtual 62, 3) := by decide +kernel
theorem dX9_passes_18 : decode cX9_passes 18 = .ok (.iconst 1, 1) := by decide +kernel
theorem dX9_passes_19 : decode cX9_passes 19 = .ok (.ireturn, 1) := by decide +kernel
def f_Tok_passes (n : Nat)  (a1 : Int) (σ : JSg) : Option (Int × JSg) :=
  bd1 (f_Tok_isSign a1 σ) fun r1 => if r1 = 0 then (bd2 (f_Tok_fail 1 σ) fun r3 s4 => chk (r3 = 0 ∨ r3 = 1) <| some (r3, s4)) else (bd1 (f_Tok_step n σ) fun s2 => some (1, s2))
set_option maxRecDepth 20000 in
set_option maxHeartbeats 4000000 in
theorem k_Tok_passes  (n : Nat)   (a1 : Int) (σ : JSg) : Call yX9_passes cX9_passes 2 (some .boolean) 8 SH RHO [vR 2, vI a1] σ dIm (f_Tok_passes n a1 σ) := by
  refine call_of_sim (by decide +kernel) (Nat.le_of_ble_eq_true rfl) ?_
  show Sim RX9 cX9_passes 2 (some .boolean) 8 SH RHO 0 [(0, vR 2), (1, vI a1)] [] σ dIm (f_Tok_passes n a1 σ)
  unfold f_Tok_passes
  refine sim_aload_n 0 rfl dX9_passes_0 ?_
  refine sim_iload_n 1 rfl dX9_passes_1 ?_
  refine sim_callVIp v_RX9_91 sh_2 dX9_passes_2 (k_Tok_isSign a1 σ) rfl ⟨by decide, by decide⟩ (S := []) rfl (Nat.le_of_ble_eq_true rfl) (fun r1 => ?_)
  refine sim_if_ne (tgt := 14) dX9_passes_5 (by decide) ?_ ?_
  · refine sim_aload_n 0 rfl dX9_passes_14 ?_
    refine sim_callVVm v_RX9_62 sh_2 dX9_passes_15 (k_Tok_step n σ) rfl ⟨by decide, by decide⟩ (S := []) rfl (Nat.le_of_ble_eq_true rfl) (fun s2 => ?_)
    refine sim_iconst dX9_passes_18 (by decide) ?_
    exact sim_zret (Or.inr rfl) rfl rfl dX9_passes_19
  · refine sim_aload_n 0 rfl dX9_passes_8 ?_
    refine sim_iconst dX9_passes_9 (by decide) ?_
    refine sim_callVIm v_RX9_95 sh_2 dX9_passes_10 (k_Tok_fail 1 σ) rfl ⟨by decide, by decide⟩ (S := []) rfl (Nat.le_of_ble_eq_true rfl) (fun r3 s4 => ?_)
    exact sim_zretc rfl rfl dX9_passes_13
