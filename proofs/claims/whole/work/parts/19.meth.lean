theorem dX2_widowsFor_0 : decode cX2_widowsFor 0 = .ok (.iconst 1, 1) := by decide +kernel
theorem dX2_widowsFor_1 : decode cX2_widowsFor 1 = .ok (.aload_n 0, 1) := by decide +kernel
theorem dX2_widowsFor_2 : decode cX2_widowsFor 2 = .ok (.getfield 28, 3) := by decide +kernel
theorem dX2_widowsFor_5 : decode cX2_widowsFor 5 = .ok (.getfield 73, 3) := by decide +kernel
theorem dX2_widowsFor_8 : decode cX2_widowsFor 8 = .ok (.iload_n 1, 1) := by decide +kernel
theorem dX2_widowsFor_9 : decode cX2_widowsFor 9 = .ok (.iaload, 1) := by decide +kernel
theorem dX2_widowsFor_10 : decode cX2_widowsFor 10 = .ok (.ishl, 1) := by decide +kernel
theorem dX2_widowsFor_11 : decode cX2_widowsFor 11 = .ok (.iconst 1, 1) := by decide +kernel
theorem dX2_widowsFor_12 : decode cX2_widowsFor 12 = .ok (.aload_n 0, 1) := by decide +kernel
theorem dX2_widowsFor_13 : decode cX2_widowsFor 13 = .ok (.getfield 28, 3) := by decide +kernel
theorem dX2_widowsFor_16 : decode cX2_widowsFor 16 = .ok (.getfield 76, 3) := by decide +kernel
theorem dX2_widowsFor_19 : decode cX2_widowsFor 19 = .ok (.iload_n 1, 1) := by decide +kernel
theorem dX2_widowsFor_20 : decode cX2_widowsFor 20 = .ok (.iaload, 1) := by decide +kernel
theorem dX2_widowsFor_21 : decode cX2_widowsFor 21 = .ok (.ishl, 1) := by decide +kernel
theorem dX2_widowsFor_22 : decode cX2_widowsFor 22 = .ok (.ior, 1) := by decide +kernel
theorem dX2_widowsFor_23 : decode cX2_widowsFor 23 = .ok (.istore_n 2, 1) := by decide +kernel
theorem dX2_widowsFor_24 : decode cX2_widowsFor 24 = .ok (.iconst 0, 1) := by decide +kernel
theorem dX2_widowsFor_25 : decode cX2_widowsFor 25 = .ok (.istore_n 3, 1) := by decide +kernel
theorem dX2_widowsFor_26 : decode cX2_widowsFor 26 = .ok (.iconst 0, 1) := by decide +kernel
theorem dX2_widowsFor_27 : decode cX2_widowsFor 27 = .ok (.istore 4, 2) := by decide +kernel
theorem dX2_widowsFor_29 : decode cX2_widowsFor 29 = .ok (.iload 4, 2) := by decide +kernel
theorem dX2_widowsFor_31 : decode cX2_widowsFor 31 = .ok (.aload_n 0, 1) := by decide +kernel
theorem dX2_widowsFor_32 : decode cX2_widowsFor 32 = .ok (.getfield 28, 3) := by decide +kernel
theorem dX2_widowsFor_35 : decode cX2_widowsFor 35 = .ok (.getfield 67, 3) := by decide +kernel
theorem dX2_widowsFor_38 : decode cX2_widowsFor 38 = .ok (.if_icmp .ge 31, 3) := by decide +kernel
theorem dX2_widowsFor_41 : decode cX2_widowsFor 41 = .ok (.aload_n 0, 1) := by decide +kernel
theorem dX2_widowsFor_42 : decode cX2_widowsFor 42 = .ok (.getfield 32, 3) := by decide +kernel
theorem dX2_widowsFor_45 : decode cX2_widowsFor 45 = .ok (.getfield 79, 3) := by decide +kernel
theorem dX2_widowsFor_48 : decode cX2_widowsFor 48 = .ok (.iload 4, 2) := by decide +kernel
theorem dX2_widowsFor_50 : decode cX2_widowsFor 50 = .ok (.iaload, 1) := by decide +kernel
theorem dX2_widowsFor_51 : decode cX2_widowsFor 51 = .ok (.iload_n 2, 1) := by decide +kernel
theorem dX2_widowsFor_52 : decode cX2_widowsFor 52 = .ok (.iand, 1) := by decide +kernel
theorem dX2_widowsFor_53 : decode cX2_widowsFor 53 = .ok (.ifCond .ne 10, 3) := by decide +kernel
theorem dX2_widowsFor_56 : decode cX2_widowsFor 56 = .ok (.iload_n 3, 1) := by decide +kernel
theorem dX2_widowsFor_57 : decode cX2_widowsFor 57 = .ok (.iconst 1, 1) := by decide +kernel
theorem dX2_widowsFor_58 : decode cX2_widowsFor 58 = .ok (.iload 4, 2) := by decide +kernel
theorem dX2_widowsFor_60 : decode cX2_widowsFor 60 = .ok (.ishl, 1) := by decide +kernel
theorem dX2_widowsFor_61 : decode cX2_widowsFor 61 = .ok (.ior, 1) := by decide +kernel
theorem dX2_widowsFor_62 : decode cX2_widowsFor 62 = .ok (.istore_n 3, 1) := by decide +kernel
theorem dX2_widowsFor_63 : decode cX2_widowsFor 63 = .ok (.iinc 4 1, 3) := by decide +kernel
theorem dX2_widowsFor_66 : decode cX2_widowsFor 66 = .ok (.goto (-37), 3) := by decide +kernel
theorem dX2_widowsFor_69 : decode cX2_widowsFor 69 = .ok (.iload_n 3, 1) := by decide +kernel
theorem dX2_widowsFor_70 : decode cX2_widowsFor 70 = .ok (.ireturn, 1) := by decide +kernel
def f_Dlr_widowsFor (n : Nat)  (a1 : Int) (σ : JSg) : Option (Int) :=
  chk (0 ≤ a1 ∧ a1 < 28) <| chk (0 ≤ a1 ∧ a1 < 28) <| lt_ (or32 (sl32 1 (σ 6 a1.toNat)) (sl32 1 (σ 7 a1.toNat))) fun v1 => lt_ 0 fun v2 => lt_ 0 fun v3 => wh2 n (fun rc4 (x5 : Int) (x6 : Int) => if x6 < (σ 4 1) then (chk (0 ≤ x6 ∧ x6 < 6) <| jn1 (fun (y8 : Int) => lt_ (w32 (x6 + 1)) fun v9 => rc4 y8 v9) fun j7 => if (an32 (σ 20 x6.toNat) v1) = 0 then (lt_ (or32 x5 (sl32 1 x6)) fun v10 => j7 v10) else (j7 x5)) else (some x5)) v2 v3
set_option maxRecDepth 20000 in
set_option maxHeartbeats 4000000 in
theorem k_Dlr_widowsFor  (n : Nat)   (a1 : Int) (σ : JSg) : Call yX2_widowsFor cX2_widowsFor 5 (some .int) 0 SH RHO [vR 116, vI a1] σ (dIp σ) (f_Dlr_widowsFor n a1 σ) := by
  refine call_of_sim (by decide +kernel) (Nat.le_of_ble_eq_true rfl) ?_
  show Sim RX2 cX2_widowsFor 5 (some .int) 0 SH RHO 0 [(0, vR 116), (1, vI a1)] [] σ (dIp σ) (f_Dlr_widowsFor n a1 σ)
  unfold f_Dlr_widowsFor
  refine sim_iconst dX2_widowsFor_0 (by decide) ?_
  refine sim_aload_n 0 rfl dX2_widowsFor_1 ?_
  refine sim_getR g_RX2_28 sh_116 rh_116_0 dX2_widowsFor_2 ?_
  refine sim_getR g_RX2_73 (LIsl_o lay_4) rh_4_8 dX2_widowsFor_5 ?_
  refine sim_iload_n 1 rfl dX2_widowsFor_8 ?_
  refine sim_iaload sh_6 rfl dX2_widowsFor_9 ?_
  refine sim_ishl dX2_widowsFor_10 ?_
  refine sim_iconst dX2_widowsFor_11 (by decide) ?_
  refine sim_aload_n 0 rfl dX2_widowsFor_12 ?_
  refine sim_getR g_RX2_28 sh_116 rh_116_0 dX2_widowsFor_13 ?_
  refine sim_getR g_RX2_76 (LIsl_o lay_4) rh_4_9 dX2_widowsFor_16 ?_
  refine sim_iload_n 1 rfl dX2_widowsFor_19 ?_
  refine sim_iaload sh_7 rfl dX2_widowsFor_20 ?_
  refine sim_ishl dX2_widowsFor_21 ?_
  refine sim_ior dX2_widowsFor_22 ?_
  refine sim_istore_n (fun v1 => [(2, vI v1), (0, vR 116), (1, vI a1)]) (fun _ => rfl) (by decide) dX2_widowsFor_23 (fun v1 => ?_)
  refine sim_iconst dX2_widowsFor_24 (by decide) ?_
  refine sim_istore_n (fun v2 => [(3, vI v2), (2, vI v1), (0, vR 116), (1, vI a1)]) (fun _ => rfl) (by decide) dX2_widowsFor_25 (fun v2 => ?_)
  refine sim_iconst dX2_widowsFor_26 (by decide) ?_
  refine sim_istore (fun v3 => [(4, vI v3), (3, vI v2), (2, vI v1), (0, vR 116), (1, vI a1)]) (fun _ => rfl) (by decide) dX2_widowsFor_27 (fun v3 => ?_)
  refine sim_sub [3, 2, 1, 0] (L' := [(0, vR 116), (2, vI v1), (3, vI v2), (4, vI v3)]) rfl ?_
  refine sim_wh2 (fun (x5 : Int) (x6 : Int) => [(0, vR 116), (2, vI v1), (3, vI x5), (4, vI x6)]) (fun (x5 : Int) (x6 : Int) => σ) ?_ n v2 v3
  intro rc4 hrc4 x5 x6
  refine sim_iload 3 rfl dX2_widowsFor_29 ?_
  refine sim_aload_n 0 rfl dX2_widowsFor_31 ?_
  refine sim_getR g_RX2_28 sh_116 rh_116_0 dX2_widowsFor_32 ?_
  refine sim_getI g_RX2_67 (LIsl_o lay_4) dX2_widowsFor_35 ?_
  refine sim_icmp_ge (tgt := 69) dX2_widowsFor_38 (by decide) ?_ ?_
  · refine sim_iload_n 2 rfl dX2_widowsFor_69 ?_
    exact sim_iret rfl rfl dX2_widowsFor_70
  · refine sim_aload_n 0 rfl dX2_widowsFor_41 ?_
    refine sim_getR g_RX2_32 sh_116 rh_116_1 dX2_widowsFor_42 ?_
    refine sim_getR g_RX2_79 (LMem_o lay_18) rh_18_4 dX2_widowsFor_45 ?_
    refine sim_iload 3 rfl dX2_widowsFor_48 ?_
    refine sim_iaload sh_20 rfl dX2_widowsFor_50 ?_
    refine sim_iload_n 1 rfl dX2_widowsFor_51 ?_
    refine sim_iand dX2_widowsFor_52 ?_
    refine sim_jn1 (pc' := 63) (fun (y8 : Int) => [(0, vR 116), (2, vI v1), (3, vI y8), (4, vI x6)]) (fun (y8 : Int) => []) (fun (y8 : Int) => σ) ?_ (fun j7 hj7 => ?_)
    · intro y8
      refine sim_iinc 3 rfl (fun v9 => [(4, vI v9), (0, vR 116), (2, vI v1), (3, vI y8)]) (fun _ => rfl) (by decide) dX2_widowsFor_63 (fun v9 => ?_)
      refine sim_goto (tgt := 29) dX2_widowsFor_66 (by decide) ?_
      exact sim_sub [1, 2, 3, 0] rfl (hrc4 y8 v9)
    refine sim_if_ne (tgt := 63) dX2_widowsFor_53 (by decide) ?_ ?_
    · exact sim_sub [0, 1, 2, 3] rfl (hj7 x5)
    · refine sim_iload_n 2 rfl dX2_widowsFor_56 ?_
      refine sim_iconst dX2_widowsFor_57 (by decide) ?_
      refine sim_iload 3 rfl dX2_widowsFor_58 ?_
      refine sim_ishl dX2_widowsFor_60 ?_
      refine sim_ior dX2_widowsFor_61 ?_
      refine sim_istore_n (fun v10 => [(3, vI v10), (0, vR 116), (2, vI v1), (4, vI x6)]) (fun _ => rfl) (by decide) dX2_widowsFor_62 (fun v10 => ?_)
      exact sim_sub [1, 2, 0, 3] rfl (hj7 v10)
theorem dX2_dealtTo_0 : decode cX2_dealtTo 0 = .ok (.iconst 0, 1) := by decide +kernel
theorem dX2_dealtTo_1 : decode cX2_dealtTo 1 = .ok (.istore_n 2, 1) := by decide +kernel
theorem dX2_dealtTo_2 : decode cX2_dealtTo 2 = .ok (.iconst 0, 1) := by decide +kernel
theorem dX2_dealtTo_3 : decode cX2_dealtTo 3 = .ok (.istore_n 3, 1) := by decide +kernel
theorem dX2_dealtTo_4 : decode cX2_dealtTo 4 = .ok (.iload_n 3, 1) := by decide +kernel
theorem dX2_dealtTo_5 : decode cX2_dealtTo 5 = .ok (.aload_n 0, 1) := by decide +kernel
theorem dX2_dealtTo_6 : decode cX2_dealtTo 6 = .ok (.getfield 28, 3) := by decide +kernel
theorem dX2_dealtTo_9 : decode cX2_dealtTo 9 = .ok (.getfield 67, 3) := by decide +kernel
theorem dX2_dealtTo_12 : decode cX2_dealtTo 12 = .ok (.if_icmp .ge 33, 3) := by decide +kernel
theorem dX2_dealtTo_15 : decode cX2_dealtTo 15 = .ok (.iload_n 2, 1) := by decide +kernel
theorem dX2_dealtTo_16 : decode cX2_dealtTo 16 = .ok (.iload_n 1, 1) := by decide +kernel
theorem dX2_dealtTo_17 : decode cX2_dealtTo 17 = .ok (.iload_n 3, 1) := by decide +kernel
theorem dX2_dealtTo_18 : decode cX2_dealtTo 18 = .ok (.ishr, 1) := by decide +kernel
theorem dX2_dealtTo_19 : decode cX2_dealtTo 19 = .ok (.iconst 1, 1) := by decide +kernel
theorem dX2_dealtTo_20 : decode cX2_dealtTo 20 = .ok (.iand, 1) := by decide +kernel
theorem dX2_dealtTo_21 : decode cX2_dealtTo 21 = .ok (.ifCond .eq 15, 3) := by decide +kernel
theorem dX2_dealtTo_24 : decode cX2_dealtTo 24 = .ok (.aload_n 0, 1) := by decide +kernel
theorem dX2_dealtTo_25 : decode cX2_dealtTo 25 = .ok (.getfield 32, 3) := by decide +kernel
theorem dX2_dealtTo_28 : decode cX2_dealtTo 28 = .ok (.getfield 82, 3) := by decide +kernel
theorem dX2_dealtTo_31 : decode cX2_dealtTo 31 = .ok (.iload_n 3, 1) := by decide +kernel
theorem dX2_dealtTo_32 : decode cX2_dealtTo 32 = .ok (.iaload, 1) := by decide +kernel
theorem dX2_dealtTo_33 : decode cX2_dealtTo 33 = .ok (.goto 4, 3) := by decide +kernel
theorem dX2_dealtTo_36 : decode cX2_dealtTo 36 = .ok (.iconst 0, 1) := by decide +kernel
theorem dX2_dealtTo_37 : decode cX2_dealtTo 37 = .ok (.iadd, 1) := by decide +kernel
theorem dX2_dealtTo_38 : decode cX2_dealtTo 38 = .ok (.istore_n 2, 1) := by decide +kernel
theorem dX2_dealtTo_39 : decode cX2_dealtTo 39 = .ok (.iinc 3 1, 3) := by decide +kernel
theorem dX2_dealtTo_42 : decode cX2_dealtTo 42 = .ok (.goto (-38), 3) := by decide +kernel
theorem dX2_dealtTo_45 : decode cX2_dealtTo 45 = .ok (.iload_n 2, 1) := by decide +kernel
theorem dX2_dealtTo_46 : decode cX2_dealtTo 46 = .ok (.ireturn, 1) := by decide +kernel
def f_Dlr_dealtTo (n : Nat)  (a1 : Int) (σ : JSg) : Option (Int) :=
  lt_ 0 fun v1 => lt_ 0 fun v2 => wh2 n (fun rc3 (x4 : Int) (x5 : Int) => if x5 < (σ 4 1) then (jn1 (fun (u7 : Int) => lt_ (w32 (x4 + u7)) fun v8 => lt_ (w32 (x5 + 1)) fun v9 => rc3 v8 v9) fun j6 => if (an32 (sr32 a1 x5) 1) = 0 then (j6 0) else (chk (0 ≤ x5 ∧ x5 < 6) <| j6 (σ 19 x5.toNat))) else (some x4)) v1 v2
set_option maxRecDepth 20000 in
set_option maxHeartbeats 4000000 in
theorem k_Dlr_dealtTo  (n : Nat)   (a1 : Int) (σ : JSg) : Call yX2_dealtTo cX2_dealtTo 4 (some .int) 0 SH RHO [vR 116, vI a1] σ (dIp σ) (f_Dlr_dealtTo n a1 σ) := by
  refine call_of_sim (by decide +kernel) (Nat.le_of_ble_eq_true rfl) ?_
  show Sim RX2 cX2_dealtTo 4 (some .int) 0 SH RHO 0 [(0, vR 116), (1, vI a1)] [] σ (dIp σ) (f_Dlr_dealtTo n a1 σ)
  unfold f_Dlr_dealtTo
  refine sim_iconst dX2_dealtTo_0 (by decide) ?_
  refine sim_istore_n (fun v1 => [(2, vI v1), (0, vR 116), (1, vI a1)]) (fun _ => rfl) (by decide) dX2_dealtTo_1 (fun v1 => ?_)
  refine sim_iconst dX2_dealtTo_2 (by decide) ?_
  refine sim_istore_n (fun v2 => [(3, vI v2), (2, vI v1), (0, vR 116), (1, vI a1)]) (fun _ => rfl) (by decide) dX2_dealtTo_3 (fun v2 => ?_)
  refine sim_sub [2, 3, 1, 0] (L' := [(0, vR 116), (1, vI a1), (2, vI v1), (3, vI v2)]) rfl ?_
  refine sim_wh2 (fun (x4 : Int) (x5 : Int) => [(0, vR 116), (1, vI a1), (2, vI x4), (3, vI x5)]) (fun (x4 : Int) (x5 : Int) => σ) ?_ n v1 v2
  intro rc3 hrc3 x4 x5
  refine sim_iload_n 3 rfl dX2_dealtTo_4 ?_
  refine sim_aload_n 0 rfl dX2_dealtTo_5 ?_
  refine sim_getR g_RX2_28 sh_116 rh_116_0 dX2_dealtTo_6 ?_
  refine sim_getI g_RX2_67 (LIsl_o lay_4) dX2_dealtTo_9 ?_
  refine sim_icmp_ge (tgt := 45) dX2_dealtTo_12 (by decide) ?_ ?_
  · refine sim_iload_n 2 rfl dX2_dealtTo_45 ?_
    exact sim_iret rfl rfl dX2_dealtTo_46
  · refine sim_iload_n 2 rfl dX2_dealtTo_15 ?_
    refine sim_iload_n 1 rfl dX2_dealtTo_16 ?_
    refine sim_iload_n 3 rfl dX2_dealtTo_17 ?_
    refine sim_ishr dX2_dealtTo_18 ?_
    refine sim_iconst dX2_dealtTo_19 (by decide) ?_
    refine sim_iand dX2_dealtTo_20 ?_
    refine sim_jn1 (pc' := 37) (fun (u7 : Int) => [(0, vR 116), (1, vI a1), (3, vI x5)]) (fun (u7 : Int) => [vI u7, vI x4]) (fun (u7 : Int) => σ) ?_ (fun j6 hj6 => ?_)
    · intro u7
      refine sim_iadd dX2_dealtTo_37 ?_
      refine sim_istore_n (fun v8 => [(2, vI v8), (0, vR 116), (1, vI a1), (3, vI x5)]) (fun _ => rfl) (by decide) dX2_dealtTo_38 (fun v8 => ?_)
      refine sim_iinc 3 rfl (fun v9 => [(3, vI v9), (2, vI v8), (0, vR 116), (1, vI a1)]) (fun _ => rfl) (by decide) dX2_dealtTo_39 (fun v9 => ?_)
      refine sim_goto (tgt := 4) dX2_dealtTo_42 (by decide) ?_
      exact sim_sub [2, 3, 1, 0] rfl (hrc3 v8 v9)
    refine sim_if_eq (tgt := 36) dX2_dealtTo_21 (by decide) ?_ ?_
    · refine sim_iconst dX2_dealtTo_36 (by decide) ?_
      exact sim_sub [0, 1, 3] rfl (hj6 0)
    · refine sim_aload_n 0 rfl dX2_dealtTo_24 ?_
      refine sim_getR g_RX2_32 sh_116 rh_116_1 dX2_dealtTo_25 ?_
      refine sim_getR g_RX2_82 (LMem_o lay_18) rh_18_2 dX2_dealtTo_28 ?_
      refine sim_iload_n 3 rfl dX2_dealtTo_31 ?_
      refine sim_iaload sh_19 rfl dX2_dealtTo_32 ?_
      refine sim_goto (tgt := 37) dX2_dealtTo_33 (by decide) ?_
      exact sim_sub [0, 1, 3] rfl (hj6 (σ 19 x5.toNat))
theorem dX2_gather_0 : decode cX2_gather 0 = .ok (.aload_n 0, 1) := by decide +kernel
theorem dX2_gather_1 : decode cX2_gather 1 = .ok (.iconst 0, 1) := by decide +kernel
theorem dX2_gather_2 : decode cX2_gather 2 = .ok (.putfield 18, 3) := by decide +kernel
theorem dX2_gather_5 : decode cX2_gather 5 = .ok (.iconst 0, 1) := by decide +kernel
theorem dX2_gather_6 : decode cX2_gather 6 = .ok (.istore_n 1, 1) := by decide +kernel
theorem dX2_gather_7 : decode cX2_gather 7 = .ok (.iload_n 1, 1) := by decide +kernel
theorem dX2_gather_8 : decode cX2_gather 8 = .ok (.aload_n 0, 1) := by decide +kernel
theorem dX2_gather_9 : decode cX2_gather 9 = .ok (.getfield 28, 3) := by decide +kernel
theorem dX2_gather_12 : decode cX2_gather 12 = .ok (.getfield 52, 3) := by decide +kernel
theorem dX2_gather_15 : decode cX2_gather 15 = .ok (.if_icmp .ge 54, 3) := by decide +kernel
theorem dX2_gather_18 : decode cX2_gather 18 = .ok (.aload_n 0, 1) := by decide +kernel
theorem dX2_gather_19 : decode cX2_gather 19 = .ok (.getfield 32, 3) := by decide +kernel
theorem dX2_gather_22 : decode cX2_gather 22 = .ok (.iload_n 1, 1) := by decide +kernel
theorem dX2_gather_23 : decode cX2_gather 23 = .ok (.invokevirtual 57, 3) := by decide +kernel
theorem dX2_gather_26 : decode cX2_gather 26 = .ok (.ifCond .ne 37, 3) := by decide +kernel
theorem dX2_gather_29 : decode cX2_gather 29 = .ok (.aload_n 0, 1) := by decide +kernel
theorem dX2_gather_30 : decode cX2_gather 30 = .ok (.getfield 9, 3) := by decide +kernel
theorem dX2_gather_33 : decode cX2_gather 33 = .ok (.aload_n 0, 1) := by decide +kernel
theorem dX2_gather_34 : decode cX2_gather 34 = .ok (.getfield 18, 3) := by decide +kernel
theorem dX2_gather_37 : decode cX2_gather 37 = .ok (.iload_n 1, 1) := by decide +kernel
theorem dX2_gather_38 : decode cX2_gather 38 = .ok (.iastore, 1) := by decide +kernel
theorem dX2_gather_39 : decode cX2_gather 39 = .ok (.aload_n 0, 1) := by decide +kernel
theorem dX2_gather_40 : decode cX2_gather 40 = .ok (.getfield 15, 3) := by decide +kernel
theorem dX2_gather_43 : decode cX2_gather 43 = .ok (.aload_n 0, 1) := by decide +kernel
theorem dX2_gather_44 : decode cX2_gather 44 = .ok (.getfield 18, 3) := by decide +kernel
theorem dX2_gather_47 : decode cX2_gather 47 = .ok (.aload_n 0, 1) := by decide +kernel
theorem dX2_gather_48 : decode cX2_gather 48 = .ok (.iload_n 1, 1) := by decide +kernel
theorem dX2_gather_49 : decode cX2_gather 49 = .ok (.invokevirtual 63, 3) := by decide +kernel
theorem dX2_gather_52 : decode cX2_gather 52 = .ok (.iastore, 1) := by decide +kernel
theorem dX2_gather_53 : decode cX2_gather 53 = .ok (.aload_n 0, 1) := by decide +kernel
theorem dX2_gather_54 : decode cX2_gather 54 = .ok (.dup, 1) := by decide +kernel
theorem dX2_gather_55 : decode cX2_gather 55 = .ok (.getfield 18, 3) := by decide +kernel
theorem dX2_gather_58 : decode cX2_gather 58 = .ok (.iconst 1, 1) := by decide +kernel
theorem dX2_gather_59 : decode cX2_gather 59 = .ok (.iadd, 1) := by decide +kernel
theorem dX2_gather_60 : decode cX2_gather 60 = .ok (.putfield 18, 3) := by decide +kernel
theorem dX2_gather_63 : decode cX2_gather 63 = .ok (.iinc 1 1, 3) := by decide +kernel
theorem dX2_gather_66 : decode cX2_gather 66 = .ok (.goto (-59), 3) := by decide +kernel
theorem dX2_gather_69 : decode cX2_gather 69 = .ok (.aload_n 0, 1) := by decide +kernel
theorem dX2_gather_70 : decode cX2_gather 70 = .ok (.iconst 1, 1) := by decide +kernel
theorem dX2_gather_71 : decode cX2_gather 71 = .ok (.aload_n 0, 1) := by decide +kernel
theorem dX2_gather_72 : decode cX2_gather 72 = .ok (.getfield 28, 3) := by decide +kernel
theorem dX2_gather_75 : decode cX2_gather 75 = .ok (.getfield 67, 3) := by decide +kernel
theorem dX2_gather_78 : decode cX2_gather 78 = .ok (.ishl, 1) := by decide +kernel
theorem dX2_gather_79 : decode cX2_gather 79 = .ok (.iconst 1, 1) := by decide +kernel
theorem dX2_gather_80 : decode cX2_gather 80 = .ok (.isub, 1) := by decide +kernel
theorem dX2_gather_81 : decode cX2_gather 81 = .ok (.invokevirtual 70, 3) := by decide +kernel
theorem dX2_gather_84 : decode cX2_gather 84 = .ok (.aload_n 0, 1) := by decide +kernel
theorem dX2_gather_85 : decode cX2_gather 85 = .ok (.getfield 18, 3) := by decide +kernel
theorem dX2_gather_88 : decode cX2_gather 88 = .ok (.if_icmp .ne 7, 3) := by decide +kernel
theorem dX2_gather_91 : decode cX2_gather 91 = .ok (.iconst 1, 1) := by decide +kernel
theorem dX2_gather_92 : decode cX2_gather 92 = .ok (.goto 4, 3) := by decide +kernel
theorem dX2_gather_95 : decode cX2_gather 95 = .ok (.iconst 0, 1) := by decide +kernel
theorem dX2_gather_96 : decode cX2_gather 96 = .ok (.ireturn, 1) := by decide +kernel
def f_Dlr_gather (n : Nat)   (σ : JSg) : Option (Int × JSg) :=
  lt_ (sp σ 116 5 0) fun s1 => lt_ 0 fun v2 => wh2 n (fun rc3 (x4 : Int) (s5 : JSg) => if x4 < (s5 4 2) then (bd1 (f_Mem_hasSeen 18 x4 s5) fun r7 => jn1 (fun  (s9 : JSg) => lt_ (w32 (x4 + 1)) fun v10 => rc3 v10 s9) fun j8 => if r7 = 0 then (chk (0 ≤ (s5 116 5) ∧ (s5 116 5) < 28) <| lt_ (sp s5 117 (s5 116 5).toNat x4) fun s11 => bd1 (f_Dlr_widowsFor n x4 s11) fun r12 => chk (0 ≤ (s11 116 5) ∧ (s11 116 5) < 28) <| lt_ (sp s11 118 (s11 116 5).toNat r12) fun s13 => lt_ (sp s13 116 5 (w32 ((s13 116 5) + 1))) fun s14 => j8 s14) else (j8 s5)) else (bd1 (f_Dlr_dealtTo n (w32 ((sl32 1 (s5 4 1)) - 1)) s5) fun r6 => if r6 = (s5 116 5) then (some (1, s5)) else (some (0, s5)))) v2 s1
set_option maxRecDepth 20000 in
set_option maxHeartbeats 4000000 in
theorem k_Dlr_gather  (n : Nat)    (σ : JSg) : Call yX2_gather cX2_gather 2 (some .boolean) 1 SH RHO [vR 116] σ dIm (f_Dlr_gather n σ) := by
  refine call_of_sim (by decide +kernel) (Nat.le_of_ble_eq_true rfl) ?_
  show Sim RX2 cX2_gather 2 (some .boolean) 1 SH RHO 0 [(0, vR 116)] [] σ dIm (f_Dlr_gather n σ)
  unfold f_Dlr_gather
  refine sim_aload_n 0 rfl dX2_gather_0 ?_
  refine sim_iconst dX2_gather_1 (by decide) ?_
  refine sim_putI g_RX2_18 sh_116 dX2_gather_2 (fun s1 => ?_)
  refine sim_iconst dX2_gather_5 (by decide) ?_
  refine sim_istore_n (fun v2 => [(1, vI v2), (0, vR 116)]) (fun _ => rfl) (by decide) dX2_gather_6 (fun v2 => ?_)
  refine sim_sub [1, 0] (L' := [(0, vR 116), (1, vI v2)]) rfl ?_
  refine sim_wh2 (fun (x4 : Int) (s5 : JSg) => [(0, vR 116), (1, vI x4)]) (fun (x4 : Int) (s5 : JSg) => s5) ?_ n v2 s1
  intro rc3 hrc3 x4 s5
  refine sim_iload_n 1 rfl dX2_gather_7 ?_
  refine sim_aload_n 0 rfl dX2_gather_8 ?_
  refine sim_getR g_RX2_28 sh_116 rh_116_0 dX2_gather_9 ?_
  refine sim_getI g_RX2_52 (LIsl_o lay_4) dX2_gather_12 ?_
  refine sim_icmp_ge (tgt := 69) dX2_gather_15 (by decide) ?_ ?_
  · refine sim_aload_n 0 rfl dX2_gather_69 ?_
    refine sim_iconst dX2_gather_70 (by decide) ?_
    refine sim_aload_n 0 rfl dX2_gather_71 ?_
    refine sim_getR g_RX2_28 sh_116 rh_116_0 dX2_gather_72 ?_
    refine sim_getI g_RX2_67 (LIsl_o lay_4) dX2_gather_75 ?_
    refine sim_ishl dX2_gather_78 ?_
    refine sim_iconst dX2_gather_79 (by decide) ?_
    refine sim_isub dX2_gather_80 ?_
    refine sim_callVIp v_RX2_70 sh_116 dX2_gather_81 (k_Dlr_dealtTo n (w32 ((sl32 1 (s5 4 1)) - 1)) s5) rfl ⟨by decide, by decide⟩ (S := []) rfl (Nat.le_of_ble_eq_true rfl) (fun r6 => ?_)
    refine sim_aload_n 0 rfl dX2_gather_84 ?_
    refine sim_getI g_RX2_18 sh_116 dX2_gather_85 ?_
    refine sim_icmp_ne (tgt := 95) dX2_gather_88 (by decide) ?_ ?_
    · refine sim_iconst dX2_gather_95 (by decide) ?_
      exact sim_zret (Or.inl rfl) rfl rfl dX2_gather_96
    · refine sim_iconst dX2_gather_91 (by decide) ?_
      refine sim_goto (tgt := 96) dX2_gather_92 (by decide) ?_
      exact sim_zret (Or.inr rfl) rfl rfl dX2_gather_96
  · refine sim_aload_n 0 rfl dX2_gather_18 ?_
    refine sim_getR g_RX2_32 sh_116 rh_116_1 dX2_gather_19 ?_
    refine sim_iload_n 1 rfl dX2_gather_22 ?_
    refine sim_callVIp v_RX2_57 (LMem_o lay_18) dX2_gather_23 (k_Mem_hasSeen SH RHO 18 lay_18 x4 s5) rfl ⟨by decide, by decide⟩ (S := []) rfl (Nat.le_of_ble_eq_true rfl) (fun r7 => ?_)
    refine sim_jn1 (pc' := 63) (fun  (s9 : JSg) => [(0, vR 116), (1, vI x4)]) (fun  (s9 : JSg) => []) (fun  (s9 : JSg) => s9) ?_ (fun j8 hj8 => ?_)
    · intro s9
      refine sim_iinc 1 rfl (fun v10 => [(1, vI v10), (0, vR 116)]) (fun _ => rfl) (by decide) dX2_gather_63 (fun v10 => ?_)
      refine sim_goto (tgt := 7) dX2_gather_66 (by decide) ?_
      exact sim_sub [1, 0] rfl (hrc3 v10 s9)
    refine sim_if_ne (tgt := 63) dX2_gather_26 (by decide) ?_ ?_
    · exact sim_sub [0, 1] rfl (hj8 s5)
    · refine sim_aload_n 0 rfl dX2_gather_29 ?_
      refine sim_getR g_RX2_9 sh_116 rh_116_3 dX2_gather_30 ?_
      refine sim_aload_n 0 rfl dX2_gather_33 ?_
      refine sim_getI g_RX2_18 sh_116 dX2_gather_34 ?_
      refine sim_iload_n 1 rfl dX2_gather_37 ?_
      refine sim_iastore sh_117 rfl dX2_gather_38 (fun s11 => ?_)
      refine sim_aload_n 0 rfl dX2_gather_39 ?_
      refine sim_getR g_RX2_15 sh_116 rh_116_4 dX2_gather_40 ?_
      refine sim_aload_n 0 rfl dX2_gather_43 ?_
      refine sim_getI g_RX2_18 sh_116 dX2_gather_44 ?_
      refine sim_aload_n 0 rfl dX2_gather_47 ?_
      refine sim_iload_n 1 rfl dX2_gather_48 ?_
      refine sim_callVIp v_RX2_63 sh_116 dX2_gather_49 (k_Dlr_widowsFor n x4 s11) rfl ⟨by decide, by decide⟩ (S := [vI (s11 116 5), vR 118]) rfl (Nat.le_of_ble_eq_true rfl) (fun r12 => ?_)
      refine sim_iastore sh_118 rfl dX2_gather_52 (fun s13 => ?_)
      refine sim_aload_n 0 rfl dX2_gather_53 ?_
      refine sim_dup rfl dX2_gather_54 ?_
      refine sim_getI g_RX2_18 sh_116 dX2_gather_55 ?_
      refine sim_iconst dX2_gather_58 (by decide) ?_
      refine sim_iadd dX2_gather_59 ?_
      refine sim_putI g_RX2_18 sh_116 dX2_gather_60 (fun s14 => ?_)
      exact sim_sub [0, 1] rfl (hj8 s14)
theorem dX2_canDeal_0 : decode cX2_canDeal 0 = .ok (.iconst 0, 1) := by decide +kernel
theorem dX2_canDeal_1 : decode cX2_canDeal 1 = .ok (.istore_n 1, 1) := by decide +kernel
theorem dX2_canDeal_2 : decode cX2_canDeal 2 = .ok (.iload_n 1, 1) := by decide +kernel
theorem dX2_canDeal_3 : decode cX2_canDeal 3 = .ok (.iconst 1, 1) := by decide +kernel
theorem dX2_canDeal_4 : decode cX2_canDeal 4 = .ok (.aload_n 0, 1) := by decide +kernel
theorem dX2_canDeal_5 : decode cX2_canDeal 5 = .ok (.getfield 28, 3) := by decide +kernel
theorem dX2_canDeal_8 : decode cX2_canDeal 8 = .ok (.getfield 67, 3) := by decide +kernel
theorem dX2_canDeal_11 : decode cX2_canDeal 11 = .ok (.ishl, 1) := by decide +kernel
theorem dX2_canDeal_12 : decode cX2_canDeal 12 = .ok (.if_icmp .ge 59, 3) := by decide +kernel
theorem dX2_canDeal_15 : decode cX2_canDeal 15 = .ok (.iconst 0, 1) := by decide +kernel
theorem dX2_canDeal_16 : decode cX2_canDeal 16 = .ok (.istore_n 2, 1) := by decide +kernel
theorem dX2_canDeal_17 : decode cX2_canDeal 17 = .ok (.iconst 0, 1) := by decide +kernel
theorem dX2_canDeal_18 : decode cX2_canDeal 18 = .ok (.istore_n 3, 1) := by decide +kernel
theorem dX2_canDeal_19 : decode cX2_canDeal 19 = .ok (.iload_n 3, 1) := by decide +kernel
theorem dX2_canDeal_20 : decode cX2_canDeal 20 = .ok (.aload_n 0, 1) := by decide +kernel
theorem dX2_canDeal_21 : decode cX2_canDeal 21 = .ok (.getfield 18, 3) := by decide +kernel
theorem dX2_canDeal_24 : decode cX2_canDeal 24 = .ok (.if_icmp .ge 30, 3) := by decide +kernel
theorem dX2_canDeal_27 : decode cX2_canDeal 27 = .ok (.iload_n 2, 1) := by decide +kernel
theorem dX2_canDeal_28 : decode cX2_canDeal 28 = .ok (.aload_n 0, 1) := by decide +kernel
theorem dX2_canDeal_29 : decode cX2_canDeal 29 = .ok (.getfield 15, 3) := by decide +kernel
theorem dX2_canDeal_32 : decode cX2_canDeal 32 = .ok (.iload_n 3, 1) := by decide +kernel
theorem dX2_canDeal_33 : decode cX2_canDeal 33 = .ok (.iaload, 1) := by decide +kernel
theorem dX2_canDeal_34 : decode cX2_canDeal 34 = .ok (.iload_n 1, 1) := by decide +kernel
theorem dX2_canDeal_35 : decode cX2_canDeal 35 = .ok (.iconst (-1), 1) := by decide +kernel
theorem dX2_canDeal_36 : decode cX2_canDeal 36 = .ok (.ixor, 1) := by decide +kernel
theorem dX2_canDeal_37 : decode cX2_canDeal 37 = .ok (.iand, 1) := by decide +kernel
theorem dX2_canDeal_38 : decode cX2_canDeal 38 = .ok (.ifCond .ne 7, 3) := by decide +kernel
theorem dX2_canDeal_41 : decode cX2_canDeal 41 = .ok (.iconst 1, 1) := by decide +kernel
theorem dX2_canDeal_42 : decode cX2_canDeal 42 = .ok (.goto 4, 3) := by decide +kernel
theorem dX2_canDeal_45 : decode cX2_canDeal 45 = .ok (.iconst 0, 1) := by decide +kernel
theorem dX2_canDeal_46 : decode cX2_canDeal 46 = .ok (.iadd, 1) := by decide +kernel
theorem dX2_canDeal_47 : decode cX2_canDeal 47 = .ok (.istore_n 2, 1) := by decide +kernel
theorem dX2_canDeal_48 : decode cX2_canDeal 48 = .ok (.iinc 3 1, 3) := by decide +kernel
theorem dX2_canDeal_51 : decode cX2_canDeal 51 = .ok (.goto (-32), 3) := by decide +kernel
theorem dX2_canDeal_54 : decode cX2_canDeal 54 = .ok (.iload_n 2, 1) := by decide +kernel
theorem dX2_canDeal_55 : decode cX2_canDeal 55 = .ok (.aload_n 0, 1) := by decide +kernel
theorem dX2_canDeal_56 : decode cX2_canDeal 56 = .ok (.iload_n 1, 1) := by decide +kernel
theorem dX2_canDeal_57 : decode cX2_canDeal 57 = .ok (.invokevirtual 70, 3) := by decide +kernel
theorem dX2_canDeal_60 : decode cX2_canDeal 60 = .ok (.if_icmp .le 5, 3) := by decide +kernel
theorem dX2_canDeal_63 : decode cX2_canDeal 63 = .ok (.iconst 0, 1) := by decide +kernel
theorem dX2_canDeal_64 : decode cX2_canDeal 64 = .ok (.ireturn, 1) := by decide +kernel
theorem dX2_canDeal_65 : decode cX2_canDeal 65 = .ok (.iinc 1 1, 3) := by decide +kernel
theorem dX2_canDeal_68 : decode cX2_canDeal 68 = .ok (.goto (-66), 3) := by decide +kernel
theorem dX2_canDeal_71 : decode cX2_canDeal 71 = .ok (.iconst 1, 1) := by decide +kernel
theorem dX2_canDeal_72 : decode cX2_canDeal 72 = .ok (.ireturn, 1) := by decide +kernel
def f_Dlr_canDeal (n : Nat)   (σ : JSg) : Option (Int) :=
  lt_ 0 fun v1 => wh1 n (fun rc2 (x3 : Int) => if x3 < (sl32 1 (σ 4 1)) then (lt_ 0 fun v4 => lt_ 0 fun v5 => wh2 n (fun rc6 (x7 : Int) (x8 : Int) => if x8 < (σ 116 5) then (chk (0 ≤ x8 ∧ x8 < 28) <| jn1 (fun (u12 : Int) => lt_ (w32 (x7 + u12)) fun v13 => lt_ (w32 (x8 + 1)) fun v14 => rc6 v13 v14) fun j11 => if (an32 (σ 118 x8.toNat) (xr32 x3 (-1))) = 0 then (j11 1) else (j11 0)) else (bd1 (f_Dlr_dealtTo n x3 σ) fun r9 => if r9 < x7 then (some 0) else (lt_ (w32 (x3 + 1)) fun v10 => rc2 v10))) v4 v5) else (some 1)) v1
set_option maxRecDepth 20000 in
set_option maxHeartbeats 4000000 in
theorem k_Dlr_canDeal  (n : Nat)    (σ : JSg) : Call yX2_canDeal cX2_canDeal 4 (some .boolean) 1 SH RHO [vR 116] σ (dIp σ) (f_Dlr_canDeal n σ) := by
  refine call_of_sim (by decide +kernel) (Nat.le_of_ble_eq_true rfl) ?_
  show Sim RX2 cX2_canDeal 4 (some .boolean) 1 SH RHO 0 [(0, vR 116)] [] σ (dIp σ) (f_Dlr_canDeal n σ)
  unfold f_Dlr_canDeal
  refine sim_iconst dX2_canDeal_0 (by decide) ?_
  refine sim_istore_n (fun v1 => [(1, vI v1), (0, vR 116)]) (fun _ => rfl) (by decide) dX2_canDeal_1 (fun v1 => ?_)
  refine sim_sub [1, 0] (L' := [(0, vR 116), (1, vI v1)]) rfl ?_
  refine sim_wh1 (fun (x3 : Int) => [(0, vR 116), (1, vI x3)]) (fun (x3 : Int) => σ) ?_ n v1
  intro rc2 hrc2 x3
  refine sim_iload_n 1 rfl dX2_canDeal_2 ?_
  refine sim_iconst dX2_canDeal_3 (by decide) ?_
  refine sim_aload_n 0 rfl dX2_canDeal_4 ?_
  refine sim_getR g_RX2_28 sh_116 rh_116_0 dX2_canDeal_5 ?_
  refine sim_getI g_RX2_67 (LIsl_o lay_4) dX2_canDeal_8 ?_
  refine sim_ishl dX2_canDeal_11 ?_
  refine sim_icmp_ge (tgt := 71) dX2_canDeal_12 (by decide) ?_ ?_
  · refine sim_iconst dX2_canDeal_71 (by decide) ?_
    exact sim_zret (Or.inr rfl) rfl rfl dX2_canDeal_72
  · refine sim_iconst dX2_canDeal_15 (by decide) ?_
    refine sim_istore_n (fun v4 => [(2, vI v4), (0, vR 116), (1, vI x3)]) (fun _ => rfl) (by decide) dX2_canDeal_16 (fun v4 => ?_)
    refine sim_iconst dX2_canDeal_17 (by decide) ?_
    refine sim_istore_n (fun v5 => [(3, vI v5), (2, vI v4), (0, vR 116), (1, vI x3)]) (fun _ => rfl) (by decide) dX2_canDeal_18 (fun v5 => ?_)
    refine sim_sub [2, 3, 1, 0] (L' := [(0, vR 116), (1, vI x3), (2, vI v4), (3, vI v5)]) rfl ?_
    refine sim_wh2 (fun (x7 : Int) (x8 : Int) => [(0, vR 116), (1, vI x3), (2, vI x7), (3, vI x8)]) (fun (x7 : Int) (x8 : Int) => σ) ?_ n v4 v5
    intro rc6 hrc6 x7 x8
    refine sim_iload_n 3 rfl dX2_canDeal_19 ?_
    refine sim_aload_n 0 rfl dX2_canDeal_20 ?_
    refine sim_getI g_RX2_18 sh_116 dX2_canDeal_21 ?_
    refine sim_icmp_ge (tgt := 54) dX2_canDeal_24 (by decide) ?_ ?_
    · refine sim_iload_n 2 rfl dX2_canDeal_54 ?_
      refine sim_aload_n 0 rfl dX2_canDeal_55 ?_
      refine sim_iload_n 1 rfl dX2_canDeal_56 ?_
      refine sim_callVIp v_RX2_70 sh_116 dX2_canDeal_57 (k_Dlr_dealtTo n x3 σ) rfl ⟨by decide, by decide⟩ (S := [vI x7]) rfl (Nat.le_of_ble_eq_true rfl) (fun r9 => ?_)
      refine sim_icmp_le (tgt := 65) dX2_canDeal_60 (by decide) ?_ ?_
      · refine sim_iinc 1 rfl (fun v10 => [(1, vI v10), (0, vR 116), (2, vI x7), (3, vI x8)]) (fun _ => rfl) (by decide) dX2_canDeal_65 (fun v10 => ?_)
        refine sim_goto (tgt := 2) dX2_canDeal_68 (by decide) ?_
        exact sim_sub [1, 0] rfl (hrc2 v10)
      · refine sim_iconst dX2_canDeal_63 (by decide) ?_
        exact sim_zret (Or.inl rfl) rfl rfl dX2_canDeal_64
    · refine sim_iload_n 2 rfl dX2_canDeal_27 ?_
      refine sim_aload_n 0 rfl dX2_canDeal_28 ?_
      refine sim_getR g_RX2_15 sh_116 rh_116_4 dX2_canDeal_29 ?_
      refine sim_iload_n 3 rfl dX2_canDeal_32 ?_
      refine sim_iaload sh_118 rfl dX2_canDeal_33 ?_
      refine sim_iload_n 1 rfl dX2_canDeal_34 ?_
      refine sim_iconst dX2_canDeal_35 (by decide) ?_
      refine sim_ixor dX2_canDeal_36 ?_
      refine sim_iand dX2_canDeal_37 ?_
      refine sim_jn1 (pc' := 46) (fun (u12 : Int) => [(0, vR 116), (1, vI x3), (3, vI x8)]) (fun (u12 : Int) => [vI u12, vI x7]) (fun (u12 : Int) => σ) ?_ (fun j11 hj11 => ?_)
      · intro u12
        refine sim_iadd dX2_canDeal_46 ?_
        refine sim_istore_n (fun v13 => [(2, vI v13), (0, vR 116), (1, vI x3), (3, vI x8)]) (fun _ => rfl) (by decide) dX2_canDeal_47 (fun v13 => ?_)
        refine sim_iinc 3 rfl (fun v14 => [(3, vI v14), (2, vI v13), (0, vR 116), (1, vI x3)]) (fun _ => rfl) (by decide) dX2_canDeal_48 (fun v14 => ?_)
        refine sim_goto (tgt := 19) dX2_canDeal_51 (by decide) ?_
        exact sim_sub [2, 3, 1, 0] rfl (hrc6 v13 v14)
      refine sim_if_ne (tgt := 45) dX2_canDeal_38 (by decide) ?_ ?_
      · refine sim_iconst dX2_canDeal_45 (by decide) ?_
        exact sim_sub [0, 1, 3] rfl (hj11 0)
      · refine sim_iconst dX2_canDeal_41 (by decide) ?_
        refine sim_goto (tgt := 46) dX2_canDeal_42 (by decide) ?_
        exact sim_sub [0, 1, 3] rfl (hj11 1)
theorem dX2_certain_0 : decode cX2_certain 0 = .ok (.aload_n 0, 1) := by decide +kernel
theorem dX2_certain_1 : decode cX2_certain 1 = .ok (.invokevirtual 40, 3) := by decide +kernel
theorem dX2_certain_4 : decode cX2_certain 4 = .ok (.ifCond .eq 10, 3) := by decide +kernel
theorem dX2_certain_7 : decode cX2_certain 7 = .ok (.aload_n 0, 1) := by decide +kernel
theorem dX2_certain_8 : decode cX2_certain 8 = .ok (.invokevirtual 94, 3) := by decide +kernel
theorem dX2_certain_11 : decode cX2_certain 11 = .ok (.ifCond .ne 5, 3) := by decide +kernel
theorem dX2_certain_14 : decode cX2_certain 14 = .ok (.iconst 0, 1) := by decide +kernel
theorem dX2_certain_15 : decode cX2_certain 15 = .ok (.ireturn, 1) := by decide +kernel
theorem dX2_certain_16 : decode cX2_certain 16 = .ok (.iconst 0, 1) := by decide +kernel
theorem dX2_certain_17 : decode cX2_certain 17 = .ok (.istore_n 2, 1) := by decide +kernel
theorem dX2_certain_18 : decode cX2_certain 18 = .ok (.iconst 0, 1) := by decide +kernel
theorem dX2_certain_19 : decode cX2_certain 19 = .ok (.istore_n 3, 1) := by decide +kernel
theorem dX2_certain_20 : decode cX2_certain 20 = .ok (.iload_n 3, 1) := by decide +kernel
theorem dX2_certain_21 : decode cX2_certain 21 = .ok (.aload_n 0, 1) := by decide +kernel
theorem dX2_certain_22 : decode cX2_certain 22 = .ok (.getfield 18, 3) := by decide +kernel
theorem dX2_certain_25 : decode cX2_certain 25 = .ok (.if_icmp .ge 57, 3) := by decide +kernel
theorem dX2_certain_28 : decode cX2_certain 28 = .ok (.aload_n 0, 1) := by decide +kernel
theorem dX2_certain_29 : decode cX2_certain 29 = .ok (.getfield 15, 3) := by decide +kernel
theorem dX2_certain_32 : decode cX2_certain 32 = .ok (.iload_n 3, 1) := by decide +kernel
theorem dX2_certain_33 : decode cX2_certain 33 = .ok (.iaload, 1) := by decide +kernel
theorem dX2_certain_34 : decode cX2_certain 34 = .ok (.istore 4, 2) := by decide +kernel
theorem dX2_certain_36 : decode cX2_certain 36 = .ok (.aload_n 0, 1) := by decide +kernel
theorem dX2_certain_37 : decode cX2_certain 37 = .ok (.getfield 15, 3) := by decide +kernel
theorem dX2_certain_40 : decode cX2_certain 40 = .ok (.iload_n 3, 1) := by decide +kernel
theorem dX2_certain_41 : decode cX2_certain 41 = .ok (.iload 4, 2) := by decide +kernel
theorem dX2_certain_43 : decode cX2_certain 43 = .ok (.iconst 1, 1) := by decide +kernel
theorem dX2_certain_44 : decode cX2_certain 44 = .ok (.iload_n 1, 1) := by decide +kernel
theorem dX2_certain_45 : decode cX2_certain 45 = .ok (.ishl, 1) := by decide +kernel
theorem dX2_certain_46 : decode cX2_certain 46 = .ok (.iconst (-1), 1) := by decide +kernel
theorem dX2_certain_47 : decode cX2_certain 47 = .ok (.ixor, 1) := by decide +kernel
theorem dX2_certain_48 : decode cX2_certain 48 = .ok (.iand, 1) := by decide +kernel
theorem dX2_certain_49 : decode cX2_certain 49 = .ok (.iastore, 1) := by decide +kernel
theorem dX2_certain_50 : decode cX2_certain 50 = .ok (.aload_n 0, 1) := by decide +kernel
theorem dX2_certain_51 : decode cX2_certain 51 = .ok (.invokevirtual 94, 3) := by decide +kernel
theorem dX2_certain_54 : decode cX2_certain 54 = .ok (.ifCond .ne 14, 3) := by decide +kernel
theorem dX2_certain_57 : decode cX2_certain 57 = .ok (.iload_n 2, 1) := by decide +kernel
theorem dX2_certain_58 : decode cX2_certain 58 = .ok (.iconst 1, 1) := by decide +kernel
theorem dX2_certain_59 : decode cX2_certain 59 = .ok (.aload_n 0, 1) := by decide +kernel
theorem dX2_certain_60 : decode cX2_certain 60 = .ok (.getfield 9, 3) := by decide +kernel
theorem dX2_certain_63 : decode cX2_certain 63 = .ok (.iload_n 3, 1) := by decide +kernel
theorem dX2_certain_64 : decode cX2_certain 64 = .ok (.iaload, 1) := by decide +kernel
theorem dX2_certain_65 : decode cX2_certain 65 = .ok (.ishl, 1) := by decide +kernel
theorem dX2_certain_66 : decode cX2_certain 66 = .ok (.ior, 1) := by decide +kernel
theorem dX2_certain_67 : decode cX2_certain 67 = .ok (.istore_n 2, 1) := by decide +kernel
theorem dX2_certain_68 : decode cX2_certain 68 = .ok (.aload_n 0, 1) := by decide +kernel
theorem dX2_certain_69 : decode cX2_certain 69 = .ok (.getfield 15, 3) := by decide +kernel
theorem dX2_certain_72 : decode cX2_certain 72 = .ok (.iload_n 3, 1) := by decide +kernel
theorem dX2_certain_73 : decode cX2_certain 73 = .ok (.iload 4, 2) := by decide +kernel
theorem dX2_certain_75 : decode cX2_certain 75 = .ok (.iastore, 1) := by decide +kernel
theorem dX2_certain_76 : decode cX2_certain 76 = .ok (.iinc 3 1, 3) := by decide +kernel
theorem dX2_certain_79 : decode cX2_certain 79 = .ok (.goto (-59), 3) := by decide +kernel
theorem dX2_certain_82 : decode cX2_certain 82 = .ok (.iload_n 2, 1) := by decide +kernel
theorem dX2_certain_83 : decode cX2_certain 83 = .ok (.ireturn, 1) := by decide +kernel
def f_Dlr_certain (n : Nat)  (a1 : Int) (σ : JSg) : Option (Int × JSg) :=
  bd2 (f_Dlr_gather n σ) fun r1 s2 => if r1 = 0 then (some (0, s2)) else (bd1 (f_Dlr_canDeal n s2) fun r3 => if r3 = 0 then (some (0, s2)) else (lt_ 0 fun v4 => lt_ 0 fun v5 => wh3 n (fun rc6 (x7 : Int) (x8 : Int) (s9 : JSg) => if x8 < (s9 116 5) then (chk (0 ≤ x8 ∧ x8 < 28) <| lt_ (s9 118 x8.toNat) fun v10 => chk (0 ≤ x8 ∧ x8 < 28) <| lt_ (sp s9 118 x8.toNat (an32 v10 (xr32 (sl32 1 a1) (-1)))) fun s11 => bd1 (f_Dlr_canDeal n s11) fun r12 => jn1 (fun (y14 : Int) => chk (0 ≤ x8 ∧ x8 < 28) <| lt_ (sp s11 118 x8.toNat v10) fun s15 => lt_ (w32 (x8 + 1)) fun v16 => rc6 y14 v16 s15) fun j13 => if r12 = 0 then (chk (0 ≤ x8 ∧ x8 < 28) <| lt_ (or32 x7 (sl32 1 (s11 117 x8.toNat))) fun v17 => j13 v17) else (j13 x7)) else (some (x7, s9))) v4 v5 s2))
set_option maxRecDepth 20000 in
set_option maxHeartbeats 4000000 in
theorem k_Dlr_certain  (n : Nat)   (a1 : Int) (σ : JSg) : Call yX2_certain cX2_certain 5 (some .int) 2 SH RHO [vR 116, vI a1] σ dIm (f_Dlr_certain n a1 σ) := by
  refine call_of_sim (by decide +kernel) (Nat.le_of_ble_eq_true rfl) ?_
  show Sim RX2 cX2_certain 5 (some .int) 2 SH RHO 0 [(0, vR 116), (1, vI a1)] [] σ dIm (f_Dlr_certain n a1 σ)
  unfold f_Dlr_certain
  refine sim_aload_n 0 rfl dX2_certain_0 ?_
  refine sim_callVIm v_RX2_40 sh_116 dX2_certain_1 (k_Dlr_gather n σ) rfl ⟨by decide, by decide⟩ (S := []) rfl (Nat.le_of_ble_eq_true rfl) (fun r1 s2 => ?_)
  refine sim_if_eq (tgt := 14) dX2_certain_4 (by decide) ?_ ?_
  · refine sim_iconst dX2_certain_14 (by decide) ?_
    exact sim_iret rfl rfl dX2_certain_15
  · refine sim_aload_n 0 rfl dX2_certain_7 ?_
    refine sim_callVIp v_RX2_94 sh_116 dX2_certain_8 (k_Dlr_canDeal n s2) rfl ⟨by decide, by decide⟩ (S := []) rfl (Nat.le_of_ble_eq_true rfl) (fun r3 => ?_)
    refine sim_if_ne (tgt := 16) dX2_certain_11 (by decide) ?_ ?_
    · refine sim_iconst dX2_certain_16 (by decide) ?_
      refine sim_istore_n (fun v4 => [(2, vI v4), (0, vR 116), (1, vI a1)]) (fun _ => rfl) (by decide) dX2_certain_17 (fun v4 => ?_)
      refine sim_iconst dX2_certain_18 (by decide) ?_
      refine sim_istore_n (fun v5 => [(3, vI v5), (2, vI v4), (0, vR 116), (1, vI a1)]) (fun _ => rfl) (by decide) dX2_certain_19 (fun v5 => ?_)
      refine sim_sub [2, 3, 1, 0] (L' := [(0, vR 116), (1, vI a1), (2, vI v4), (3, vI v5)]) rfl ?_
      refine sim_wh3 (fun (x7 : Int) (x8 : Int) (s9 : JSg) => [(0, vR 116), (1, vI a1), (2, vI x7), (3, vI x8)]) (fun (x7 : Int) (x8 : Int) (s9 : JSg) => s9) ?_ n v4 v5 s2
      intro rc6 hrc6 x7 x8 s9
      refine sim_iload_n 3 rfl dX2_certain_20 ?_
      refine sim_aload_n 0 rfl dX2_certain_21 ?_
      refine sim_getI g_RX2_18 sh_116 dX2_certain_22 ?_
      refine sim_icmp_ge (tgt := 82) dX2_certain_25 (by decide) ?_ ?_
      · refine sim_iload_n 2 rfl dX2_certain_82 ?_
        exact sim_iret rfl rfl dX2_certain_83
      · refine sim_aload_n 0 rfl dX2_certain_28 ?_
        refine sim_getR g_RX2_15 sh_116 rh_116_4 dX2_certain_29 ?_
        refine sim_iload_n 3 rfl dX2_certain_32 ?_
        refine sim_iaload sh_118 rfl dX2_certain_33 ?_
        refine sim_istore (fun v10 => [(4, vI v10), (0, vR 116), (1, vI a1), (2, vI x7), (3, vI x8)]) (fun _ => rfl) (by decide) dX2_certain_34 (fun v10 => ?_)
        refine sim_aload_n 1 rfl dX2_certain_36 ?_
        refine sim_getR g_RX2_15 sh_116 rh_116_4 dX2_certain_37 ?_
        refine sim_iload_n 4 rfl dX2_certain_40 ?_
        refine sim_iload 0 rfl dX2_certain_41 ?_
        refine sim_iconst dX2_certain_43 (by decide) ?_
        refine sim_iload_n 2 rfl dX2_certain_44 ?_
        refine sim_ishl dX2_certain_45 ?_
        refine sim_iconst dX2_certain_46 (by decide) ?_
        refine sim_ixor dX2_certain_47 ?_
        refine sim_iand dX2_certain_48 ?_
        refine sim_iastore sh_118 rfl dX2_certain_49 (fun s11 => ?_)
        refine sim_aload_n 1 rfl dX2_certain_50 ?_
        refine sim_callVIp v_RX2_94 sh_116 dX2_certain_51 (k_Dlr_canDeal n s11) rfl ⟨by decide, by decide⟩ (S := []) rfl (Nat.le_of_ble_eq_true rfl) (fun r12 => ?_)
        refine sim_jn1 (pc' := 68) (fun (y14 : Int) => [(0, vR 116), (1, vI a1), (2, vI y14), (3, vI x8), (4, vI v10)]) (fun (y14 : Int) => []) (fun (y14 : Int) => s11) ?_ (fun j13 hj13 => ?_)
        · intro y14
          refine sim_aload_n 0 rfl dX2_certain_68 ?_
          refine sim_getR g_RX2_15 sh_116 rh_116_4 dX2_certain_69 ?_
          refine sim_iload_n 3 rfl dX2_certain_72 ?_
          refine sim_iload 4 rfl dX2_certain_73 ?_
          refine sim_iastore sh_118 rfl dX2_certain_75 (fun s15 => ?_)
          refine sim_iinc 3 rfl (fun v16 => [(3, vI v16), (0, vR 116), (1, vI a1), (2, vI y14), (4, vI v10)]) (fun _ => rfl) (by decide) dX2_certain_76 (fun v16 => ?_)
          refine sim_goto (tgt := 20) dX2_certain_79 (by decide) ?_
          exact sim_sub [1, 2, 3, 0] rfl (hrc6 y14 v16 s15)
        refine sim_if_ne (tgt := 68) dX2_certain_54 (by decide) ?_ ?_
        · exact sim_sub [1, 2, 3, 4, 0] rfl (hj13 x7)
        · refine sim_iload_n 3 rfl dX2_certain_57 ?_
          refine sim_iconst dX2_certain_58 (by decide) ?_
          refine sim_aload_n 1 rfl dX2_certain_59 ?_
          refine sim_getR g_RX2_9 sh_116 rh_116_3 dX2_certain_60 ?_
          refine sim_iload_n 4 rfl dX2_certain_63 ?_
          refine sim_iaload sh_117 rfl dX2_certain_64 ?_
          refine sim_ishl dX2_certain_65 ?_
          refine sim_ior dX2_certain_66 ?_
          refine sim_istore_n (fun v17 => [(2, vI v17), (4, vI v10), (0, vR 116), (1, vI a1), (3, vI x8)]) (fun _ => rfl) (by decide) dX2_certain_67 (fun v17 => ?_)
          exact sim_sub [2, 3, 0, 4, 1] rfl (hj13 v17)
    · refine sim_iconst dX2_certain_14 (by decide) ?_
      exact sim_iret rfl rfl dX2_certain_15
theorem dX11_sure_0 : decode cX11_sure 0 = .ok (.aload_n 0, 1) := by decide +kernel
theorem dX11_sure_1 : decode cX11_sure 1 = .ok (.iload_n 1, 1) := by decide +kernel
theorem dX11_sure_2 : decode cX11_sure 2 = .ok (.invokevirtual 183, 3) := by decide +kernel
theorem dX11_sure_5 : decode cX11_sure 5 = .ok (.ifCond .eq 14, 3) := by decide +kernel
theorem dX11_sure_8 : decode cX11_sure 8 = .ok (.aload_n 0, 1) := by decide +kernel
theorem dX11_sure_9 : decode cX11_sure 9 = .ok (.getfield 105, 3) := by decide +kernel
theorem dX11_sure_12 : decode cX11_sure 12 = .ok (.iload_n 1, 1) := by decide +kernel
theorem dX11_sure_13 : decode cX11_sure 13 = .ok (.invokevirtual 316, 3) := by decide +kernel
theorem dX11_sure_16 : decode cX11_sure 16 = .ok (.goto 4, 3) := by decide +kernel
theorem dX11_sure_19 : decode cX11_sure 19 = .ok (.iconst (-1), 1) := by decide +kernel
theorem dX11_sure_20 : decode cX11_sure 20 = .ok (.ireturn, 1) := by decide +kernel
def f_W_sure (n : Nat)  (a1 : Int) (σ : JSg) : Option (Int × JSg) :=
  bd1 (f_W_isWidow a1 σ) fun r1 => if r1 = 0 then (some ((-1), σ)) else (bd2 (f_Dlr_certain n a1 σ) fun r2 s3 => some (r2, s3))
set_option maxRecDepth 20000 in
set_option maxHeartbeats 4000000 in
theorem k_W_sure  (n : Nat)   (a1 : Int) (σ : JSg) : Call yX11_sure cX11_sure 2 (some .int) 3 SH RHO [vR 0, vI a1] σ dIm (f_W_sure n a1 σ) := by
  refine call_of_sim (by decide +kernel) (Nat.le_of_ble_eq_true rfl) ?_
  show Sim RX11 cX11_sure 2 (some .int) 3 SH RHO 0 [(0, vR 0), (1, vI a1)] [] σ dIm (f_W_sure n a1 σ)
  unfold f_W_sure
  refine sim_aload_n 0 rfl dX11_sure_0 ?_
  refine sim_iload_n 1 rfl dX11_sure_1 ?_
  refine sim_callVIp v_RX11_183 sh_0 dX11_sure_2 (k_W_isWidow a1 σ) rfl ⟨by decide, by decide⟩ (S := []) rfl (Nat.le_of_ble_eq_true rfl) (fun r1 => ?_)
  refine sim_if_eq (tgt := 19) dX11_sure_5 (by decide) ?_ ?_
  · refine sim_iconst dX11_sure_19 (by decide) ?_
    exact sim_iret rfl rfl dX11_sure_20
  · refine sim_aload_n 0 rfl dX11_sure_8 ?_
    refine sim_getR g_RX11_105 sh_0 rh_0_15 dX11_sure_9 ?_
    refine sim_iload_n 1 rfl dX11_sure_12 ?_
    refine sim_callVIm v_RX11_316 sh_116 dX11_sure_13 (k_Dlr_certain n a1 σ) rfl ⟨by decide, by decide⟩ (S := []) rfl (Nat.le_of_ble_eq_true rfl) (fun r2 s3 => ?_)
    refine sim_goto (tgt := 20) dX11_sure_16 (by decide) ?_
    exact sim_iret rfl rfl dX11_sure_20
theorem dX2_sums_0 : decode cX2_sums 0 = .ok (.iconst 1, 1) := by decide +kernel
theorem dX2_sums_1 : decode cX2_sums 1 = .ok (.istore_n 1, 1) := by decide +kernel
theorem dX2_sums_2 : decode cX2_sums 2 = .ok (.iconst 0, 1) := by decide +kernel
theorem dX2_sums_3 : decode cX2_sums 3 = .ok (.istore_n 2, 1) := by decide +kernel
theorem dX2_sums_4 : decode cX2_sums 4 = .ok (.iload_n 2, 1) := by decide +kernel
theorem dX2_sums_5 : decode cX2_sums 5 = .ok (.aload_n 0, 1) := by decide +kernel
theorem dX2_sums_6 : decode cX2_sums 6 = .ok (.getfield 28, 3) := by decide +kernel
theorem dX2_sums_9 : decode cX2_sums 9 = .ok (.getfield 67, 3) := by decide +kernel
theorem dX2_sums_12 : decode cX2_sums 12 = .ok (.if_icmp .ge 30, 3) := by decide +kernel
theorem dX2_sums_15 : decode cX2_sums 15 = .ok (.aload_n 0, 1) := by decide +kernel
theorem dX2_sums_16 : decode cX2_sums 16 = .ok (.getfield 22, 3) := by decide +kernel
theorem dX2_sums_19 : decode cX2_sums 19 = .ok (.iload_n 2, 1) := by decide +kernel
theorem dX2_sums_20 : decode cX2_sums 20 = .ok (.iload_n 1, 1) := by decide +kernel
theorem dX2_sums_21 : decode cX2_sums 21 = .ok (.iastore, 1) := by decide +kernel
theorem dX2_sums_22 : decode cX2_sums 22 = .ok (.iload_n 1, 1) := by decide +kernel
theorem dX2_sums_23 : decode cX2_sums 23 = .ok (.aload_n 0, 1) := by decide +kernel
theorem dX2_sums_24 : decode cX2_sums 24 = .ok (.getfield 32, 3) := by decide +kernel
theorem dX2_sums_27 : decode cX2_sums 27 = .ok (.getfield 82, 3) := by decide +kernel
theorem dX2_sums_30 : decode cX2_sums 30 = .ok (.iload_n 2, 1) := by decide +kernel
theorem dX2_sums_31 : decode cX2_sums 31 = .ok (.iaload, 1) := by decide +kernel
theorem dX2_sums_32 : decode cX2_sums 32 = .ok (.iconst 1, 1) := by decide +kernel
theorem dX2_sums_33 : decode cX2_sums 33 = .ok (.iadd, 1) := by decide +kernel
theorem dX2_sums_34 : decode cX2_sums 34 = .ok (.imul, 1) := by decide +kernel
theorem dX2_sums_35 : decode cX2_sums 35 = .ok (.istore_n 1, 1) := by decide +kernel
theorem dX2_sums_36 : decode cX2_sums 36 = .ok (.iinc 2 1, 3) := by decide +kernel
theorem dX2_sums_39 : decode cX2_sums 39 = .ok (.goto (-35), 3) := by decide +kernel
theorem dX2_sums_42 : decode cX2_sums 42 = .ok (.iload_n 1, 1) := by decide +kernel
theorem dX2_sums_43 : decode cX2_sums 43 = .ok (.ireturn, 1) := by decide +kernel
def f_Dlr_sums (n : Nat)   (σ : JSg) : Option (Int × JSg) :=
  lt_ 1 fun v1 => lt_ 0 fun v2 => wh3 n (fun rc3 (x4 : Int) (x5 : Int) (s6 : JSg) => if x5 < (s6 4 1) then (chk (0 ≤ x5 ∧ x5 < 6) <| lt_ (sp s6 119 x5.toNat x4) fun s7 => chk (0 ≤ x5 ∧ x5 < 6) <| lt_ (w32 (x4 * (w32 ((s7 19 x5.toNat) + 1)))) fun v8 => lt_ (w32 (x5 + 1)) fun v9 => rc3 v8 v9 s7) else (some (x4, s6))) v1 v2 (σ)
set_option maxRecDepth 20000 in
set_option maxHeartbeats 4000000 in
theorem k_Dlr_sums  (n : Nat)    (σ : JSg) : Call yX2_sums cX2_sums 3 (some .int) 0 SH RHO [vR 116] σ dIm (f_Dlr_sums n σ) := by
  refine call_of_sim (by decide +kernel) (Nat.le_of_ble_eq_true rfl) ?_
  show Sim RX2 cX2_sums 3 (some .int) 0 SH RHO 0 [(0, vR 116)] [] σ dIm (f_Dlr_sums n σ)
  unfold f_Dlr_sums
  refine sim_iconst dX2_sums_0 (by decide) ?_
  refine sim_istore_n (fun v1 => [(1, vI v1), (0, vR 116)]) (fun _ => rfl) (by decide) dX2_sums_1 (fun v1 => ?_)
  refine sim_iconst dX2_sums_2 (by decide) ?_
  refine sim_istore_n (fun v2 => [(2, vI v2), (1, vI v1), (0, vR 116)]) (fun _ => rfl) (by decide) dX2_sums_3 (fun v2 => ?_)
  refine sim_sub [2, 1, 0] (L' := [(0, vR 116), (1, vI v1), (2, vI v2)]) rfl ?_
  refine sim_wh3 (fun (x4 : Int) (x5 : Int) (s6 : JSg) => [(0, vR 116), (1, vI x4), (2, vI x5)]) (fun (x4 : Int) (x5 : Int) (s6 : JSg) => s6) ?_ n v1 v2 (σ)
  intro rc3 hrc3 x4 x5 s6
  refine sim_iload_n 2 rfl dX2_sums_4 ?_
  refine sim_aload_n 0 rfl dX2_sums_5 ?_
  refine sim_getR g_RX2_28 sh_116 rh_116_0 dX2_sums_6 ?_
  refine sim_getI g_RX2_67 (LIsl_o lay_4) dX2_sums_9 ?_
  refine sim_icmp_ge (tgt := 42) dX2_sums_12 (by decide) ?_ ?_
  · refine sim_iload_n 1 rfl dX2_sums_42 ?_
    exact sim_iret rfl rfl dX2_sums_43
  · refine sim_aload_n 0 rfl dX2_sums_15 ?_
    refine sim_getR g_RX2_22 sh_116 rh_116_6 dX2_sums_16 ?_
    refine sim_iload_n 2 rfl dX2_sums_19 ?_
    refine sim_iload_n 1 rfl dX2_sums_20 ?_
    refine sim_iastore sh_119 rfl dX2_sums_21 (fun s7 => ?_)
    refine sim_iload_n 1 rfl dX2_sums_22 ?_
    refine sim_aload_n 0 rfl dX2_sums_23 ?_
    refine sim_getR g_RX2_32 sh_116 rh_116_1 dX2_sums_24 ?_
    refine sim_getR g_RX2_82 (LMem_o lay_18) rh_18_2 dX2_sums_27 ?_
    refine sim_iload_n 2 rfl dX2_sums_30 ?_
    refine sim_iaload sh_19 rfl dX2_sums_31 ?_
    refine sim_iconst dX2_sums_32 (by decide) ?_
    refine sim_iadd dX2_sums_33 ?_
    refine sim_imul dX2_sums_34 ?_
    refine sim_istore_n (fun v8 => [(1, vI v8), (0, vR 116), (2, vI x5)]) (fun _ => rfl) (by decide) dX2_sums_35 (fun v8 => ?_)
    refine sim_iinc 2 rfl (fun v9 => [(2, vI v9), (1, vI v8), (0, vR 116)]) (fun _ => rfl) (by decide) dX2_sums_36 (fun v9 => ?_)
    refine sim_goto (tgt := 4) dX2_sums_39 (by decide) ?_
    exact sim_sub [2, 1, 0] rfl (hrc3 v8 v9 s7)
theorem dJ7_fill_53178_0 : decode cJ7_fill_53178 0 = .ok (.iconst 0, 1) := by decide +kernel
theorem dJ7_fill_53178_1 : decode cJ7_fill_53178 1 = .ok (.istore_n 2, 1) := by decide +kernel
theorem dJ7_fill_53178_2 : decode cJ7_fill_53178 2 = .ok (.aload_n 0, 1) := by decide +kernel
theorem dJ7_fill_53178_3 : decode cJ7_fill_53178 3 = .ok (.arraylength, 1) := by decide +kernel
theorem dJ7_fill_53178_4 : decode cJ7_fill_53178 4 = .ok (.istore_n 3, 1) := by decide +kernel
theorem dJ7_fill_53178_5 : decode cJ7_fill_53178 5 = .ok (.iload_n 2, 1) := by decide +kernel
theorem dJ7_fill_53178_6 : decode cJ7_fill_53178 6 = .ok (.iload_n 3, 1) := by decide +kernel
theorem dJ7_fill_53178_7 : decode cJ7_fill_53178 7 = .ok (.if_icmp .ge 13, 3) := by decide +kernel
theorem dJ7_fill_53178_10 : decode cJ7_fill_53178 10 = .ok (.aload_n 0, 1) := by decide +kernel
theorem dJ7_fill_53178_11 : decode cJ7_fill_53178 11 = .ok (.iload_n 2, 1) := by decide +kernel
theorem dJ7_fill_53178_12 : decode cJ7_fill_53178 12 = .ok (.iload_n 1, 1) := by decide +kernel
theorem dJ7_fill_53178_13 : decode cJ7_fill_53178 13 = .ok (.iastore, 1) := by decide +kernel
theorem dJ7_fill_53178_14 : decode cJ7_fill_53178 14 = .ok (.iinc 2 1, 3) := by decide +kernel
theorem dJ7_fill_53178_17 : decode cJ7_fill_53178 17 = .ok (.goto (-12), 3) := by decide +kernel
theorem dJ7_fill_53178_20 : decode cJ7_fill_53178 20 = .ok (.return_, 1) := by decide +kernel
def f_JArr_fill_53178 (n : Nat) (p : Nat) (Np : Nat) (a2 : Int) (σ : JSg) : Option (JSg) :=
  lt_ 0 fun v1 => lt_ (Np : Int) fun v2 => wh2 n (fun rc3 (x4 : Int) (s5 : JSg) => if x4 < v2 then (chk (0 ≤ x4 ∧ x4 < (Np : Int)) <| lt_ (sp s5 p x4.toNat a2) fun s6 => lt_ (w32 (x4 + 1)) fun v7 => rc3 v7 s6) else (some s5)) v1 (σ)
set_option maxRecDepth 20000 in
set_option maxHeartbeats 4000000 in
theorem k_JArr_fill_53178 (Sh : JSh) (ρ : JRo) (n : Nat) (p : Nat) (Np : Nat) (hp : Sh[p]? = some (.inr (0, Np))) (hNp : okI (Np : Int)) (a2 : Int) (σ : JSg) : Call yJ7_fill_53178 cJ7_fill_53178 4 none 0 Sh ρ [vR p, vI a2] σ dVm (f_JArr_fill_53178 n p Np a2 σ) := by
  refine call_of_sim (by decide +kernel) (Nat.le_of_ble_eq_true rfl) ?_
  show Sim RJ7 cJ7_fill_53178 4 none 0 Sh ρ 0 [(0, vR p), (1, vI a2)] [] σ dVm (f_JArr_fill_53178 n p Np a2 σ)
  unfold f_JArr_fill_53178
  refine sim_iconst dJ7_fill_53178_0 (by decide) ?_
  refine sim_istore_n (fun v1 => [(2, vI v1), (0, vR p), (1, vI a2)]) (fun _ => rfl) (by decide) dJ7_fill_53178_1 (fun v1 => ?_)
  refine sim_aload_n 1 rfl dJ7_fill_53178_2 ?_
  refine sim_alen hp (by decide) ⟨rfl, hNp⟩ dJ7_fill_53178_3 ?_
  refine sim_istore_n (fun v2 => [(3, vI v2), (2, vI v1), (0, vR p), (1, vI a2)]) (fun _ => rfl) (by decide) dJ7_fill_53178_4 (fun v2 => ?_)
  refine sim_sub [2, 3, 1, 0] (L' := [(0, vR p), (1, vI a2), (2, vI v1), (3, vI v2)]) rfl ?_
  refine sim_wh2 (fun (x4 : Int) (s5 : JSg) => [(0, vR p), (1, vI a2), (2, vI x4), (3, vI v2)]) (fun (x4 : Int) (s5 : JSg) => s5) ?_ n v1 (σ)
  intro rc3 hrc3 x4 s5
  refine sim_iload_n 2 rfl dJ7_fill_53178_5 ?_
  refine sim_iload_n 3 rfl dJ7_fill_53178_6 ?_
  refine sim_icmp_ge (tgt := 20) dJ7_fill_53178_7 (by decide) ?_ ?_
  · exact sim_vret rfl rfl dJ7_fill_53178_20
  · refine sim_aload_n 0 rfl dJ7_fill_53178_10 ?_
    refine sim_iload_n 2 rfl dJ7_fill_53178_11 ?_
    refine sim_iload_n 1 rfl dJ7_fill_53178_12 ?_
    refine sim_iastore hp rfl dJ7_fill_53178_13 (fun s6 => ?_)
    refine sim_iinc 2 rfl (fun v7 => [(2, vI v7), (0, vR p), (1, vI a2), (3, vI v2)]) (fun _ => rfl) (by decide) dJ7_fill_53178_14 (fun v7 => ?_)
    refine sim_goto (tgt := 5) dJ7_fill_53178_17 (by decide) ?_
    exact sim_sub [1, 2, 0, 3] rfl (hrc3 v7 s6)
theorem dX2_giveOneMore_0 : decode cX2_giveOneMore 0 = .ok (.iconst 1, 1) := by decide +kernel
theorem dX2_giveOneMore_1 : decode cX2_giveOneMore 1 = .ok (.istore_n 1, 1) := by decide +kernel
theorem dX2_giveOneMore_2 : decode cX2_giveOneMore 2 = .ok (.iconst 0, 1) := by decide +kernel
theorem dX2_giveOneMore_3 : decode cX2_giveOneMore 3 = .ok (.istore_n 2, 1) := by decide +kernel
theorem dX2_giveOneMore_4 : decode cX2_giveOneMore 4 = .ok (.iconst 0, 1) := by decide +kernel
theorem dX2_giveOneMore_5 : decode cX2_giveOneMore 5 = .ok (.istore_n 3, 1) := by decide +kernel
theorem dX2_giveOneMore_6 : decode cX2_giveOneMore 6 = .ok (.iload_n 3, 1) := by decide +kernel
theorem dX2_giveOneMore_7 : decode cX2_giveOneMore 7 = .ok (.aload_n 0, 1) := by decide +kernel
theorem dX2_giveOneMore_8 : decode cX2_giveOneMore 8 = .ok (.getfield 28, 3) := by decide +kernel
theorem dX2_giveOneMore_11 : decode cX2_giveOneMore 11 = .ok (.getfield 67, 3) := by decide +kernel
theorem dX2_giveOneMore_14 : decode cX2_giveOneMore 14 = .ok (.if_icmp .ge 68, 3) := by decide +kernel
theorem dX2_giveOneMore_17 : decode cX2_giveOneMore 17 = .ok (.iload_n 1, 1) := by decide +kernel
theorem dX2_giveOneMore_18 : decode cX2_giveOneMore 18 = .ok (.ifCond .eq 49, 3) := by decide +kernel
theorem dX2_giveOneMore_21 : decode cX2_giveOneMore 21 = .ok (.aload_n 0, 1) := by decide +kernel
theorem dX2_giveOneMore_22 : decode cX2_giveOneMore 22 = .ok (.getfield 25, 3) := by decide +kernel
theorem dX2_giveOneMore_25 : decode cX2_giveOneMore 25 = .ok (.iload_n 3, 1) := by decide +kernel
theorem dX2_giveOneMore_26 : decode cX2_giveOneMore 26 = .ok (.iaload, 1) := by decide +kernel
theorem dX2_giveOneMore_27 : decode cX2_giveOneMore 27 = .ok (.aload_n 0, 1) := by decide +kernel
theorem dX2_giveOneMore_28 : decode cX2_giveOneMore 28 = .ok (.getfield 32, 3) := by decide +kernel
theorem dX2_giveOneMore_31 : decode cX2_giveOneMore 31 = .ok (.getfield 82, 3) := by decide +kernel
theorem dX2_giveOneMore_34 : decode cX2_giveOneMore 34 = .ok (.iload_n 3, 1) := by decide +kernel
theorem dX2_giveOneMore_35 : decode cX2_giveOneMore 35 = .ok (.iaload, 1) := by decide +kernel
theorem dX2_giveOneMore_36 : decode cX2_giveOneMore 36 = .ok (.if_icmp .ne 7, 3) := by decide +kernel
theorem dX2_giveOneMore_39 : decode cX2_giveOneMore 39 = .ok (.iconst 1, 1) := by decide +kernel
theorem dX2_giveOneMore_40 : decode cX2_giveOneMore 40 = .ok (.goto 4, 3) := by decide +kernel
theorem dX2_giveOneMore_43 : decode cX2_giveOneMore 43 = .ok (.iconst 0, 1) := by decide +kernel
theorem dX2_giveOneMore_44 : decode cX2_giveOneMore 44 = .ok (.istore_n 1, 1) := by decide +kernel
theorem dX2_giveOneMore_45 : decode cX2_giveOneMore 45 = .ok (.aload_n 0, 1) := by decide +kernel
theorem dX2_giveOneMore_46 : decode cX2_giveOneMore 46 = .ok (.getfield 25, 3) := by decide +kernel
theorem dX2_giveOneMore_49 : decode cX2_giveOneMore 49 = .ok (.iload_n 3, 1) := by decide +kernel
theorem dX2_giveOneMore_50 : decode cX2_giveOneMore 50 = .ok (.iload_n 1, 1) := by decide +kernel
theorem dX2_giveOneMore_51 : decode cX2_giveOneMore 51 = .ok (.ifCond .eq 7, 3) := by decide +kernel
theorem dX2_giveOneMore_54 : decode cX2_giveOneMore 54 = .ok (.iconst 0, 1) := by decide +kernel
theorem dX2_giveOneMore_55 : decode cX2_giveOneMore 55 = .ok (.goto 11, 3) := by decide +kernel
theorem dX2_giveOneMore_58 : decode cX2_giveOneMore 58 = .ok (.aload_n 0, 1) := by decide +kernel
theorem dX2_giveOneMore_59 : decode cX2_giveOneMore 59 = .ok (.getfield 25, 3) := by decide +kernel
theorem dX2_giveOneMore_62 : decode cX2_giveOneMore 62 = .ok (.iload_n 3, 1) := by decide +kernel
theorem dX2_giveOneMore_63 : decode cX2_giveOneMore 63 = .ok (.iaload, 1) := by decide +kernel
theorem dX2_giveOneMore_64 : decode cX2_giveOneMore 64 = .ok (.iconst 1, 1) := by decide +kernel
theorem dX2_giveOneMore_65 : decode cX2_giveOneMore 65 = .ok (.iadd, 1) := by decide +kernel
theorem dX2_giveOneMore_66 : decode cX2_giveOneMore 66 = .ok (.iastore, 1) := by decide +kernel
theorem dX2_giveOneMore_67 : decode cX2_giveOneMore 67 = .ok (.iload_n 2, 1) := by decide +kernel
theorem dX2_giveOneMore_68 : decode cX2_giveOneMore 68 = .ok (.aload_n 0, 1) := by decide +kernel
theorem dX2_giveOneMore_69 : decode cX2_giveOneMore 69 = .ok (.getfield 25, 3) := by decide +kernel
theorem dX2_giveOneMore_72 : decode cX2_giveOneMore 72 = .ok (.iload_n 3, 1) := by decide +kernel
theorem dX2_giveOneMore_73 : decode cX2_giveOneMore 73 = .ok (.iaload, 1) := by decide +kernel
theorem dX2_giveOneMore_74 : decode cX2_giveOneMore 74 = .ok (.iadd, 1) := by decide +kernel
theorem dX2_giveOneMore_75 : decode cX2_giveOneMore 75 = .ok (.istore_n 2, 1) := by decide +kernel
theorem dX2_giveOneMore_76 : decode cX2_giveOneMore 76 = .ok (.iinc 3 1, 3) := by decide +kernel
theorem dX2_giveOneMore_79 : decode cX2_giveOneMore 79 = .ok (.goto (-73), 3) := by decide +kernel
theorem dX2_giveOneMore_82 : decode cX2_giveOneMore 82 = .ok (.iload_n 2, 1) := by decide +kernel
theorem dX2_giveOneMore_83 : decode cX2_giveOneMore 83 = .ok (.ireturn, 1) := by decide +kernel
def f_Dlr_giveOneMore (n : Nat)   (σ : JSg) : Option (Int × JSg) :=
  lt_ 1 fun v1 => lt_ 0 fun v2 => lt_ 0 fun v3 => wh4 n (fun rc4 (x5 : Int) (x6 : Int) (x7 : Int) (s8 : JSg) => if x7 < (s8 4 1) then (jn2 (fun (y10 : Int) (s11 : JSg) => chk (0 ≤ x7 ∧ x7 < 6) <| lt_ (w32 (x6 + (s11 120 x7.toNat))) fun v12 => lt_ (w32 (x7 + 1)) fun v13 => rc4 y10 v12 v13 s11) fun j9 => if x5 = 0 then (j9 x5 s8) else (chk (0 ≤ x7 ∧ x7 < 6) <| chk (0 ≤ x7 ∧ x7 < 6) <| jn1 (fun (u15 : Int) => lt_ u15 fun v16 => jn1 (fun (u18 : Int) => chk (0 ≤ x7 ∧ x7 < 6) <| lt_ (sp s8 120 x7.toNat u18) fun s19 => j9 v16 s19) fun j17 => if v16 = 0 then (chk (0 ≤ x7 ∧ x7 < 6) <| j17 (w32 ((s8 120 x7.toNat) + 1))) else (j17 0)) fun j14 => if (s8 120 x7.toNat) = (s8 19 x7.toNat) then (j14 1) else (j14 0))) else (some (x6, s8))) v1 v2 v3 (σ)
set_option maxRecDepth 20000 in
set_option maxHeartbeats 4000000 in
theorem k_Dlr_giveOneMore  (n : Nat)    (σ : JSg) : Call yX2_giveOneMore cX2_giveOneMore 4 (some .int) 0 SH RHO [vR 116] σ dIm (f_Dlr_giveOneMore n σ) := by
  refine call_of_sim (by decide +kernel) (Nat.le_of_ble_eq_true rfl) ?_
  show Sim RX2 cX2_giveOneMore 4 (some .int) 0 SH RHO 0 [(0, vR 116)] [] σ dIm (f_Dlr_giveOneMore n σ)
  unfold f_Dlr_giveOneMore
  refine sim_iconst dX2_giveOneMore_0 (by decide) ?_
  refine sim_istore_n (fun v1 => [(1, vI v1), (0, vR 116)]) (fun _ => rfl) (by decide) dX2_giveOneMore_1 (fun v1 => ?_)
  refine sim_iconst dX2_giveOneMore_2 (by decide) ?_
  refine sim_istore_n (fun v2 => [(2, vI v2), (1, vI v1), (0, vR 116)]) (fun _ => rfl) (by decide) dX2_giveOneMore_3 (fun v2 => ?_)
  refine sim_iconst dX2_giveOneMore_4 (by decide) ?_
  refine sim_istore_n (fun v3 => [(3, vI v3), (2, vI v2), (1, vI v1), (0, vR 116)]) (fun _ => rfl) (by decide) dX2_giveOneMore_5 (fun v3 => ?_)
  refine sim_sub [3, 2, 1, 0] (L' := [(0, vR 116), (1, vI v1), (2, vI v2), (3, vI v3)]) rfl ?_
  refine sim_wh4 (fun (x5 : Int) (x6 : Int) (x7 : Int) (s8 : JSg) => [(0, vR 116), (1, vI x5), (2, vI x6), (3, vI x7)]) (fun (x5 : Int) (x6 : Int) (x7 : Int) (s8 : JSg) => s8) ?_ n v1 v2 v3 (σ)
  intro rc4 hrc4 x5 x6 x7 s8
  refine sim_iload_n 3 rfl dX2_giveOneMore_6 ?_
  refine sim_aload_n 0 rfl dX2_giveOneMore_7 ?_
  refine sim_getR g_RX2_28 sh_116 rh_116_0 dX2_giveOneMore_8 ?_
  refine sim_getI g_RX2_67 (LIsl_o lay_4) dX2_giveOneMore_11 ?_
  refine sim_icmp_ge (tgt := 82) dX2_giveOneMore_14 (by decide) ?_ ?_
  · refine sim_iload_n 2 rfl dX2_giveOneMore_82 ?_
    exact sim_iret rfl rfl dX2_giveOneMore_83
  · refine sim_iload_n 1 rfl dX2_giveOneMore_17 ?_
    refine sim_jn2 (pc' := 67) (fun (y10 : Int) (s11 : JSg) => [(0, vR 116), (1, vI y10), (2, vI x6), (3, vI x7)]) (fun (y10 : Int) (s11 : JSg) => []) (fun (y10 : Int) (s11 : JSg) => s11) ?_ (fun j9 hj9 => ?_)
    · intro y10 s11
      refine sim_iload_n 2 rfl dX2_giveOneMore_67 ?_
      refine sim_aload_n 0 rfl dX2_giveOneMore_68 ?_
      refine sim_getR g_RX2_25 sh_116 rh_116_7 dX2_giveOneMore_69 ?_
      refine sim_iload_n 3 rfl dX2_giveOneMore_72 ?_
      refine sim_iaload sh_120 rfl dX2_giveOneMore_73 ?_
      refine sim_iadd dX2_giveOneMore_74 ?_
      refine sim_istore_n (fun v12 => [(2, vI v12), (0, vR 116), (1, vI y10), (3, vI x7)]) (fun _ => rfl) (by decide) dX2_giveOneMore_75 (fun v12 => ?_)
      refine sim_iinc 3 rfl (fun v13 => [(3, vI v13), (2, vI v12), (0, vR 116), (1, vI y10)]) (fun _ => rfl) (by decide) dX2_giveOneMore_76 (fun v13 => ?_)
      refine sim_goto (tgt := 6) dX2_giveOneMore_79 (by decide) ?_
      exact sim_sub [2, 3, 1, 0] rfl (hrc4 y10 v12 v13 s11)
    refine sim_if_eq (tgt := 67) dX2_giveOneMore_18 (by decide) ?_ ?_
    · exact sim_sub [0, 1, 2, 3] rfl (hj9 x5 s8)
    · refine sim_aload_n 0 rfl dX2_giveOneMore_21 ?_
      refine sim_getR g_RX2_25 sh_116 rh_116_7 dX2_giveOneMore_22 ?_
      refine sim_iload_n 3 rfl dX2_giveOneMore_25 ?_
      refine sim_iaload sh_120 rfl dX2_giveOneMore_26 ?_
      refine sim_aload_n 0 rfl dX2_giveOneMore_27 ?_
      refine sim_getR g_RX2_32 sh_116 rh_116_1 dX2_giveOneMore_28 ?_
      refine sim_getR g_RX2_82 (LMem_o lay_18) rh_18_2 dX2_giveOneMore_31 ?_
      refine sim_iload_n 3 rfl dX2_giveOneMore_34 ?_
      refine sim_iaload sh_19 rfl dX2_giveOneMore_35 ?_
      refine sim_jn1 (pc' := 44) (fun (u15 : Int) => [(0, vR 116), (2, vI x6), (3, vI x7)]) (fun (u15 : Int) => [vI u15]) (fun (u15 : Int) => s8) ?_ (fun j14 hj14 => ?_)
      · intro u15
        refine sim_istore_n (fun v16 => [(1, vI v16), (0, vR 116), (2, vI x6), (3, vI x7)]) (fun _ => rfl) (by decide) dX2_giveOneMore_44 (fun v16 => ?_)
        refine sim_aload_n 1 rfl dX2_giveOneMore_45 ?_
        refine sim_getR g_RX2_25 sh_116 rh_116_7 dX2_giveOneMore_46 ?_
        refine sim_iload_n 3 rfl dX2_giveOneMore_49 ?_
        refine sim_iload_n 0 rfl dX2_giveOneMore_50 ?_
        refine sim_jn1 (pc' := 66) (fun (u18 : Int) => [(0, vR 116), (1, vI v16), (2, vI x6), (3, vI x7)]) (fun (u18 : Int) => [vI u18, vI x7, vR 120]) (fun (u18 : Int) => s8) ?_ (fun j17 hj17 => ?_)
        · intro u18
          refine sim_iastore sh_120 rfl dX2_giveOneMore_66 (fun s19 => ?_)
          exact sim_sub [0, 1, 2, 3] rfl (hj9 v16 s19)
        refine sim_if_eq (tgt := 58) dX2_giveOneMore_51 (by decide) ?_ ?_
        · refine sim_aload_n 1 rfl dX2_giveOneMore_58 ?_
          refine sim_getR g_RX2_25 sh_116 rh_116_7 dX2_giveOneMore_59 ?_
          refine sim_iload_n 3 rfl dX2_giveOneMore_62 ?_
          refine sim_iaload sh_120 rfl dX2_giveOneMore_63 ?_
          refine sim_iconst dX2_giveOneMore_64 (by decide) ?_
          refine sim_iadd dX2_giveOneMore_65 ?_
          exact sim_sub [1, 0, 2, 3] rfl (hj17 (w32 ((s8 120 x7.toNat) + 1)))
        · refine sim_iconst dX2_giveOneMore_54 (by decide) ?_
          refine sim_goto (tgt := 66) dX2_giveOneMore_55 (by decide) ?_
          exact sim_sub [1, 0, 2, 3] rfl (hj17 0)
      refine sim_icmp_ne (tgt := 43) dX2_giveOneMore_36 (by decide) ?_ ?_
      · refine sim_iconst dX2_giveOneMore_43 (by decide) ?_
        exact sim_sub [0, 2, 3] rfl (hj14 0)
      · refine sim_iconst dX2_giveOneMore_39 (by decide) ?_
        refine sim_goto (tgt := 44) dX2_giveOneMore_40 (by decide) ?_
        exact sim_sub [0, 2, 3] rfl (hj14 1)
theorem dX2_countWays_0 : decode cX2_countWays 0 = .ok (.iload_n 1, 1) := by decide +kernel
theorem dX2_countWays_1 : decode cX2_countWays 1 = .ok (.iconst 1, 1) := by decide +kernel
theorem dX2_countWays_2 : decode cX2_countWays 2 = .ok (.if_icmp .lt 12, 3) := by decide +kernel
theorem dX2_countWays_5 : decode cX2_countWays 5 = .ok (.iload_n 1, 1) := by decide +kernel
theorem dX2_countWays_6 : decode cX2_countWays 6 = .ok (.aload_n 0, 1) := by decide +kernel
theorem dX2_countWays_7 : decode cX2_countWays 7 = .ok (.getfield 36, 3) := by decide +kernel
theorem dX2_countWays_10 : decode cX2_countWays 10 = .ok (.arraylength, 1) := by decide +kernel
theorem dX2_countWays_11 : decode cX2_countWays 11 = .ok (.if_icmp .le 5, 3) := by decide +kernel
theorem dX2_countWays_14 : decode cX2_countWays 14 = .ok (.lconst 0, 1) := by decide +kernel
theorem dX2_countWays_15 : decode cX2_countWays 15 = .ok (.lreturn, 1) := by decide +kernel
theorem dX2_countWays_16 : decode cX2_countWays 16 = .ok (.aload_n 0, 1) := by decide +kernel
theorem dX2_countWays_17 : decode cX2_countWays 17 = .ok (.getfield 25, 3) := by decide +kernel
theorem dX2_countWays_20 : decode cX2_countWays 20 = .ok (.iconst 0, 1) := by decide +kernel
theorem dX2_countWays_21 : decode cX2_countWays 21 = .ok (.invokestatic 85, 3) := by decide +kernel
theorem dX2_countWays_24 : decode cX2_countWays 24 = .ok (.aload_n 0, 1) := by decide +kernel
theorem dX2_countWays_25 : decode cX2_countWays 25 = .ok (.getfield 36, 3) := by decide +kernel
theorem dX2_countWays_28 : decode cX2_countWays 28 = .ok (.iconst 0, 1) := by decide +kernel
theorem dX2_countWays_29 : decode cX2_countWays 29 = .ok (.lconst 1, 1) := by decide +kernel
theorem dX2_countWays_30 : decode cX2_countWays 30 = .ok (.lastore, 1) := by decide +kernel
theorem dX2_countWays_31 : decode cX2_countWays 31 = .ok (.iconst 1, 1) := by decide +kernel
theorem dX2_countWays_32 : decode cX2_countWays 32 = .ok (.istore_n 2, 1) := by decide +kernel
theorem dX2_countWays_33 : decode cX2_countWays 33 = .ok (.iload_n 2, 1) := by decide +kernel
theorem dX2_countWays_34 : decode cX2_countWays 34 = .ok (.iload_n 1, 1) := by decide +kernel
theorem dX2_countWays_35 : decode cX2_countWays 35 = .ok (.if_icmp .ge 114, 3) := by decide +kernel
theorem dX2_countWays_38 : decode cX2_countWays 38 = .ok (.aload_n 0, 1) := by decide +kernel
theorem dX2_countWays_39 : decode cX2_countWays 39 = .ok (.invokevirtual 91, 3) := by decide +kernel
theorem dX2_countWays_42 : decode cX2_countWays 42 = .ok (.iconst 1, 1) := by decide +kernel
theorem dX2_countWays_43 : decode cX2_countWays 43 = .ok (.isub, 1) := by decide +kernel
theorem dX2_countWays_44 : decode cX2_countWays 44 = .ok (.istore_n 3, 1) := by decide +kernel
theorem dX2_countWays_45 : decode cX2_countWays 45 = .ok (.lconst 0, 1) := by decide +kernel
theorem dX2_countWays_46 : decode cX2_countWays 46 = .ok (.lstore 4, 2) := by decide +kernel
theorem dX2_countWays_48 : decode cX2_countWays 48 = .ok (.iconst 0, 1) := by decide +kernel
theorem dX2_countWays_49 : decode cX2_countWays 49 = .ok (.istore 6, 2) := by decide +kernel
theorem dX2_countWays_51 : decode cX2_countWays 51 = .ok (.iload 6, 2) := by decide +kernel
theorem dX2_countWays_53 : decode cX2_countWays 53 = .ok (.aload_n 0, 1) := by decide +kernel
theorem dX2_countWays_54 : decode cX2_countWays 54 = .ok (.getfield 28, 3) := by decide +kernel
theorem dX2_countWays_57 : decode cX2_countWays 57 = .ok (.getfield 67, 3) := by decide +kernel
theorem dX2_countWays_60 : decode cX2_countWays 60 = .ok (.if_icmp .ge 75, 3) := by decide +kernel
theorem dX2_countWays_63 : decode cX2_countWays 63 = .ok (.iload_n 3, 1) := by decide +kernel
theorem dX2_countWays_64 : decode cX2_countWays 64 = .ok (.ifCond .lt 71, 3) := by decide +kernel
theorem dX2_countWays_67 : decode cX2_countWays 67 = .ok (.iload_n 3, 1) := by decide +kernel
theorem dX2_countWays_68 : decode cX2_countWays 68 = .ok (.aload_n 0, 1) := by decide +kernel
theorem dX2_countWays_69 : decode cX2_countWays 69 = .ok (.getfield 18, 3) := by decide +kernel
theorem dX2_countWays_72 : decode cX2_countWays 72 = .ok (.if_icmp .ge 63, 3) := by decide +kernel
theorem dX2_countWays_75 : decode cX2_countWays 75 = .ok (.aload_n 0, 1) := by decide +kernel
theorem dX2_countWays_76 : decode cX2_countWays 76 = .ok (.getfield 25, 3) := by decide +kernel
theorem dX2_countWays_79 : decode cX2_countWays 79 = .ok (.iload 6, 2) := by decide +kernel
theorem dX2_countWays_81 : decode cX2_countWays 81 = .ok (.iaload, 1) := by decide +kernel
theorem dX2_countWays_82 : decode cX2_countWays 82 = .ok (.ifCond .le 47, 3) := by decide +kernel
theorem dX2_countWays_85 : decode cX2_countWays 85 = .ok (.iload_n 2, 1) := by decide +kernel
theorem dX2_countWays_86 : decode cX2_countWays 86 = .ok (.aload_n 0, 1) := by decide +kernel
theorem dX2_countWays_87 : decode cX2_countWays 87 = .ok (.getfield 22, 3) := by decide +kernel
theorem dX2_countWays_90 : decode cX2_countWays 90 = .ok (.iload 6, 2) := by decide +kernel
theorem dX2_countWays_92 : decode cX2_countWays 92 = .ok (.iaload, 1) := by decide +kernel
theorem dX2_countWays_93 : decode cX2_countWays 93 = .ok (.if_icmp .lt 36, 3) := by decide +kernel
theorem dX2_countWays_96 : decode cX2_countWays 96 = .ok (.aload_n 0, 1) := by decide +kernel
theorem dX2_countWays_97 : decode cX2_countWays 97 = .ok (.getfield 15, 3) := by decide +kernel
theorem dX2_countWays_100 : decode cX2_countWays 100 = .ok (.iload_n 3, 1) := by decide +kernel
theorem dX2_countWays_101 : decode cX2_countWays 101 = .ok (.iaload, 1) := by decide +kernel
theorem dX2_countWays_102 : decode cX2_countWays 102 = .ok (.iload 6, 2) := by decide +kernel
theorem dX2_countWays_104 : decode cX2_countWays 104 = .ok (.ishr, 1) := by decide +kernel
theorem dX2_countWays_105 : decode cX2_countWays 105 = .ok (.iconst 1, 1) := by decide +kernel
theorem dX2_countWays_106 : decode cX2_countWays 106 = .ok (.iand, 1) := by decide +kernel
theorem dX2_countWays_107 : decode cX2_countWays 107 = .ok (.ifCond .eq 22, 3) := by decide +kernel
theorem dX2_countWays_110 : decode cX2_countWays 110 = .ok (.lload 4, 2) := by decide +kernel
theorem dX2_countWays_112 : decode cX2_countWays 112 = .ok (.aload_n 0, 1) := by decide +kernel
theorem dX2_countWays_113 : decode cX2_countWays 113 = .ok (.getfield 36, 3) := by decide +kernel
theorem dX2_countWays_116 : decode cX2_countWays 116 = .ok (.iload_n 2, 1) := by decide +kernel
theorem dX2_countWays_117 : decode cX2_countWays 117 = .ok (.aload_n 0, 1) := by decide +kernel
theorem dX2_countWays_118 : decode cX2_countWays 118 = .ok (.getfield 22, 3) := by decide +kernel
theorem dX2_countWays_121 : decode cX2_countWays 121 = .ok (.iload 6, 2) := by decide +kernel
theorem dX2_countWays_123 : decode cX2_countWays 123 = .ok (.iaload, 1) := by decide +kernel
theorem dX2_countWays_124 : decode cX2_countWays 124 = .ok (.isub, 1) := by decide +kernel
theorem dX2_countWays_125 : decode cX2_countWays 125 = .ok (.laload, 1) := by decide +kernel
theorem dX2_countWays_126 : decode cX2_countWays 126 = .ok (.ladd, 1) := by decide +kernel
theorem dX2_countWays_127 : decode cX2_countWays 127 = .ok (.lstore 4, 2) := by decide +kernel
theorem dX2_countWays_129 : decode cX2_countWays 129 = .ok (.iinc 6 1, 3) := by decide +kernel
theorem dX2_countWays_132 : decode cX2_countWays 132 = .ok (.goto (-81), 3) := by decide +kernel
theorem dX2_countWays_135 : decode cX2_countWays 135 = .ok (.aload_n 0, 1) := by decide +kernel
theorem dX2_countWays_136 : decode cX2_countWays 136 = .ok (.getfield 36, 3) := by decide +kernel
theorem dX2_countWays_139 : decode cX2_countWays 139 = .ok (.iload_n 2, 1) := by decide +kernel
theorem dX2_countWays_140 : decode cX2_countWays 140 = .ok (.lload 4, 2) := by decide +kernel
theorem dX2_countWays_142 : decode cX2_countWays 142 = .ok (.lastore, 1) := by decide +kernel
theorem dX2_countWays_143 : decode cX2_countWays 143 = .ok (.iinc 2 1, 3) := by decide +kernel
theorem dX2_countWays_146 : decode cX2_countWays 146 = .ok (.goto (-113), 3) := by decide +kernel
theorem dX2_countWays_149 : decode cX2_countWays 149 = .ok (.aload_n 0, 1) := by decide +kernel
theorem dX2_countWays_150 : decode cX2_countWays 150 = .ok (.getfield 36, 3) := by decide +kernel
theorem dX2_countWays_153 : decode cX2_countWays 153 = .ok (.iload_n 1, 1) := by decide +kernel
theorem dX2_countWays_154 : decode cX2_countWays 154 = .ok (.iconst 1, 1) := by decide +kernel
theorem dX2_countWays_155 : decode cX2_countWays 155 = .ok (.isub, 1) := by decide +kernel
theorem dX2_countWays_156 : decode cX2_countWays 156 = .ok (.laload, 1) := by decide +kernel
theorem dX2_countWays_157 : decode cX2_countWays 157 = .ok (.lreturn, 1) := by decide +kernel
def f_Dlr_countWays (n : Nat)  (a1 : Int) (σ : JSg) : Option (Int × JSg) :=
  if a1 < 1 then (some (0, σ)) else (if 32768 < a1 then (some (0, σ)) else (bd1 (f_JArr_fill_53178 n 120 6 0 σ) fun s1 => lt_ (sp s1 103 0 1) fun s2 => lt_ 1 fun v3 => wh2 n (fun rc4 (x5 : Int) (s6 : JSg) => if x5 < a1 then (bd2 (f_Dlr_giveOneMore n s6) fun r7 s8 => lt_ (w32 (r7 - 1)) fun v9 => lt_ 0 fun v10 => lt_ 0 fun v11 => wh2 n (fun rc12 (x13 : Int) (x14 : Int) => jn0 (chk (0 ≤ x5 ∧ x5 < 32768) <| lt_ (sp s8 103 x5.toNat x13) fun s16 => lt_ (w32 (x5 + 1)) fun v17 => rc4 v17 s16) fun j15 => if x14 < (s8 4 1) then (if v9 < 0 then (j15) else (if v9 < (s8 116 5) then (chk (0 ≤ x14 ∧ x14 < 6) <| jn1 (fun (y19 : Int) => lt_ (w32 (x14 + 1)) fun v20 => rc12 y19 v20) fun j18 => if 0 < (s8 120 x14.toNat) then (chk (0 ≤ x14 ∧ x14 < 6) <| if x5 < (s8 119 x14.toNat) then (j18 x13) else (chk (0 ≤ v9 ∧ v9 < 28) <| if (an32 (sr32 (s8 118 v9.toNat) x14) 1) = 0 then (j18 x13) else (chk (0 ≤ x14 ∧ x14 < 6) <| chk (0 ≤ (w32 (x5 - (s8 119 x14.toNat))) ∧ (w32 (x5 - (s8 119 x14.toNat))) < 32768) <| lt_ (w64 (x13 + (s8 103 (w32 (x5 - (s8 119 x14.toNat))).toNat))) fun v21 => j18 v21))) else (j18 x13)) else (j15))) else (j15)) v10 v11) else (chk (0 ≤ (w32 (a1 - 1)) ∧ (w32 (a1 - 1)) < 32768) <| some (s6 103 (w32 (a1 - 1)).toNat, s6))) v3 s2))
set_option maxRecDepth 20000 in
set_option maxHeartbeats 4000000 in
theorem k_Dlr_countWays  (n : Nat)   (a1 : Int) (σ : JSg) : Call yX2_countWays cX2_countWays 7 (some .long) 1 SH RHO [vR 116, vI a1] σ dLm (f_Dlr_countWays n a1 σ) := by
  refine call_of_sim (by decide +kernel) (Nat.le_of_ble_eq_true rfl) ?_
  show Sim RX2 cX2_countWays 7 (some .long) 1 SH RHO 0 [(0, vR 116), (1, vI a1)] [] σ dLm (f_Dlr_countWays n a1 σ)
  unfold f_Dlr_countWays
  refine sim_iload_n 1 rfl dX2_countWays_0 ?_
  refine sim_iconst dX2_countWays_1 (by decide) ?_
  refine sim_icmp_lt (tgt := 14) dX2_countWays_2 (by decide) ?_ ?_
  · refine sim_lconst (v := 0) dX2_countWays_14 (by decide +kernel) ?_
    exact sim_lret rfl rfl dX2_countWays_15
  · refine sim_iload_n 1 rfl dX2_countWays_5 ?_
    refine sim_aload_n 0 rfl dX2_countWays_6 ?_
    refine sim_getR g_RX2_36 sh_116 rh_116_2 dX2_countWays_7 ?_
    refine sim_alen sh_103 (by decide) ⟨rfl, okI_lit (by decide)⟩ dX2_countWays_10 ?_
    refine sim_icmp_le (tgt := 16) dX2_countWays_11 (by decide) ?_ ?_
    · refine sim_aload_n 0 rfl dX2_countWays_16 ?_
      refine sim_getR g_RX2_25 sh_116 rh_116_7 dX2_countWays_17 ?_
      refine sim_iconst dX2_countWays_20 (by decide) ?_
      refine sim_callSVm s_RX2_85 dX2_countWays_21 (k_JArr_fill_53178 SH RHO n 120 6 sh_120 (okI_lit (by decide)) 0 σ) rfl ⟨by decide, by decide⟩ (S := []) rfl (Nat.le_of_ble_eq_true rfl) (fun s1 => ?_)
      refine sim_aload_n 0 rfl dX2_countWays_24 ?_
      refine sim_getR g_RX2_36 sh_116 rh_116_2 dX2_countWays_25 ?_
      refine sim_iconst dX2_countWays_28 (by decide) ?_
      refine sim_lconst (v := 1) dX2_countWays_29 (by decide +kernel) ?_
      refine sim_lastoreK (j := 0) sh_103 rfl (by decide) dX2_countWays_30 (fun s2 => ?_)
      refine sim_iconst dX2_countWays_31 (by decide) ?_
      refine sim_istore_n (fun v3 => [(2, vI v3), (0, vR 116), (1, vI a1)]) (fun _ => rfl) (by decide) dX2_countWays_32 (fun v3 => ?_)
      refine sim_sub [1, 2, 0] (L' := [(0, vR 116), (1, vI a1), (2, vI v3)]) rfl ?_
      refine sim_wh2 (fun (x5 : Int) (s6 : JSg) => [(0, vR 116), (1, vI a1), (2, vI x5)]) (fun (x5 : Int) (s6 : JSg) => s6) ?_ n v3 s2
      intro rc4 hrc4 x5 s6
      refine sim_iload_n 2 rfl dX2_countWays_33 ?_
      refine sim_iload_n 1 rfl dX2_countWays_34 ?_
      refine sim_icmp_ge (tgt := 149) dX2_countWays_35 (by decide) ?_ ?_
      · refine sim_aload_n 0 rfl dX2_countWays_149 ?_
        refine sim_getR g_RX2_36 sh_116 rh_116_2 dX2_countWays_150 ?_
        refine sim_iload_n 1 rfl dX2_countWays_153 ?_
        refine sim_iconst dX2_countWays_154 (by decide) ?_
        refine sim_isub dX2_countWays_155 ?_
        refine sim_laload sh_103 rfl dX2_countWays_156 ?_
        exact sim_lret rfl rfl dX2_countWays_157
      · refine sim_aload_n 0 rfl dX2_countWays_38 ?_
        refine sim_callVIm v_RX2_91 sh_116 dX2_countWays_39 (k_Dlr_giveOneMore n s6) rfl ⟨by decide, by decide⟩ (S := []) rfl (Nat.le_of_ble_eq_true rfl) (fun r7 s8 => ?_)
        refine sim_iconst dX2_countWays_42 (by decide) ?_
        refine sim_isub dX2_countWays_43 ?_
        refine sim_istore_n (fun v9 => [(3, vI v9), (0, vR 116), (1, vI a1), (2, vI x5)]) (fun _ => rfl) (by decide) dX2_countWays_44 (fun v9 => ?_)
        refine sim_lconst (v := 0) dX2_countWays_45 (by decide +kernel) ?_
        refine sim_lstore (fun v10 => [(4, vL v10), (3, vI v9), (0, vR 116), (1, vI a1), (2, vI x5)]) (fun _ => rfl) (by decide) dX2_countWays_46 (fun v10 => ?_)
        refine sim_iconst dX2_countWays_48 (by decide) ?_
        refine sim_istore (fun v11 => [(6, vI v11), (4, vL v10), (3, vI v9), (0, vR 116), (1, vI a1), (2, vI x5)]) (fun _ => rfl) (by decide) dX2_countWays_49 (fun v11 => ?_)
        refine sim_sub [3, 4, 5, 2, 1, 0] (L' := [(0, vR 116), (1, vI a1), (2, vI x5), (3, vI v9), (4, vL v10), (6, vI v11)]) rfl ?_
        refine sim_wh2 (fun (x13 : Int) (x14 : Int) => [(0, vR 116), (1, vI a1), (2, vI x5), (3, vI v9), (4, vL x13), (6, vI x14)]) (fun (x13 : Int) (x14 : Int) => s8) ?_ n v10 v11
        intro rc12 hrc12 x13 x14
        refine sim_iload 5 rfl dX2_countWays_51 ?_
        refine sim_aload_n 0 rfl dX2_countWays_53 ?_
        refine sim_getR g_RX2_28 sh_116 rh_116_0 dX2_countWays_54 ?_
        refine sim_getI g_RX2_67 (LIsl_o lay_4) dX2_countWays_57 ?_
        refine sim_jn0 (pc' := 135) ([(0, vR 116), (1, vI a1), (2, vI x5), (4, vL x13)]) ([]) (s8) ?_ (fun j15 hj15 => ?_)
        · refine sim_aload_n 0 rfl dX2_countWays_135 ?_
          refine sim_getR g_RX2_36 sh_116 rh_116_2 dX2_countWays_136 ?_
          refine sim_iload_n 2 rfl dX2_countWays_139 ?_
          refine sim_lload 3 rfl dX2_countWays_140 ?_
          refine sim_lastore sh_103 rfl dX2_countWays_142 (fun s16 => ?_)
          refine sim_iinc 2 rfl (fun v17 => [(2, vI v17), (0, vR 116), (1, vI a1), (4, vL x13)]) (fun _ => rfl) (by decide) dX2_countWays_143 (fun v17 => ?_)
          refine sim_goto (tgt := 33) dX2_countWays_146 (by decide) ?_
          exact sim_sub [1, 2, 0] rfl (hrc4 v17 s16)
        refine sim_icmp_ge (tgt := 135) dX2_countWays_60 (by decide) ?_ ?_
        · exact sim_sub [0, 1, 2, 4] rfl (hj15 )
        · refine sim_iload_n 3 rfl dX2_countWays_63 ?_
          refine sim_if_lt (tgt := 135) dX2_countWays_64 (by decide) ?_ ?_
          · exact sim_sub [0, 1, 2, 4] rfl (hj15 )
          · refine sim_iload_n 3 rfl dX2_countWays_67 ?_
            refine sim_aload_n 0 rfl dX2_countWays_68 ?_
            refine sim_getI g_RX2_18 sh_116 dX2_countWays_69 ?_
            refine sim_icmp_ge (tgt := 135) dX2_countWays_72 (by decide) ?_ ?_
            · exact sim_sub [0, 1, 2, 4] rfl (hj15 )
            · refine sim_aload_n 0 rfl dX2_countWays_75 ?_
              refine sim_getR g_RX2_25 sh_116 rh_116_7 dX2_countWays_76 ?_
              refine sim_iload 5 rfl dX2_countWays_79 ?_
              refine sim_iaload sh_120 rfl dX2_countWays_81 ?_
              refine sim_jn1 (pc' := 129) (fun (y19 : Int) => [(0, vR 116), (1, vI a1), (2, vI x5), (3, vI v9), (4, vL y19), (6, vI x14)]) (fun (y19 : Int) => []) (fun (y19 : Int) => s8) ?_ (fun j18 hj18 => ?_)
              · intro y19
                refine sim_iinc 5 rfl (fun v20 => [(6, vI v20), (0, vR 116), (1, vI a1), (2, vI x5), (3, vI v9), (4, vL y19)]) (fun _ => rfl) (by decide) dX2_countWays_129 (fun v20 => ?_)
                refine sim_goto (tgt := 51) dX2_countWays_132 (by decide) ?_
                exact sim_sub [1, 2, 3, 4, 5, 0] rfl (hrc12 y19 v20)
              refine sim_if_le (tgt := 129) dX2_countWays_82 (by decide) ?_ ?_
              · exact sim_sub [0, 1, 2, 3, 4, 5] rfl (hj18 x13)
              · refine sim_iload_n 2 rfl dX2_countWays_85 ?_
                refine sim_aload_n 0 rfl dX2_countWays_86 ?_
                refine sim_getR g_RX2_22 sh_116 rh_116_6 dX2_countWays_87 ?_
                refine sim_iload 5 rfl dX2_countWays_90 ?_
                refine sim_iaload sh_119 rfl dX2_countWays_92 ?_
                refine sim_icmp_lt (tgt := 129) dX2_countWays_93 (by decide) ?_ ?_
                · exact sim_sub [0, 1, 2, 3, 4, 5] rfl (hj18 x13)
                · refine sim_aload_n 0 rfl dX2_countWays_96 ?_
                  refine sim_getR g_RX2_15 sh_116 rh_116_4 dX2_countWays_97 ?_
                  refine sim_iload_n 3 rfl dX2_countWays_100 ?_
                  refine sim_iaload sh_118 rfl dX2_countWays_101 ?_
                  refine sim_iload 5 rfl dX2_countWays_102 ?_
                  refine sim_ishr dX2_countWays_104 ?_
                  refine sim_iconst dX2_countWays_105 (by decide) ?_
                  refine sim_iand dX2_countWays_106 ?_
                  refine sim_if_eq (tgt := 129) dX2_countWays_107 (by decide) ?_ ?_
                  · exact sim_sub [0, 1, 2, 3, 4, 5] rfl (hj18 x13)
                  · refine sim_lload 4 rfl dX2_countWays_110 ?_
                    refine sim_aload_n 0 rfl dX2_countWays_112 ?_
                    refine sim_getR g_RX2_36 sh_116 rh_116_2 dX2_countWays_113 ?_
                    refine sim_iload_n 2 rfl dX2_countWays_116 ?_
                    refine sim_aload_n 0 rfl dX2_countWays_117 ?_
                    refine sim_getR g_RX2_22 sh_116 rh_116_6 dX2_countWays_118 ?_
                    refine sim_iload 5 rfl dX2_countWays_121 ?_
                    refine sim_iaload sh_119 rfl dX2_countWays_123 ?_
                    refine sim_isub dX2_countWays_124 ?_
                    refine sim_laload sh_103 rfl dX2_countWays_125 ?_
                    refine sim_ladd dX2_countWays_126 ?_
                    refine sim_lstore (fun v21 => [(4, vL v21), (0, vR 116), (1, vI a1), (2, vI x5), (3, vI v9), (6, vI x14)]) (fun _ => rfl) (by decide) dX2_countWays_127 (fun v21 => ?_)
                    exact sim_sub [1, 2, 3, 4, 0, 5] rfl (hj18 v21)
    · refine sim_lconst (v := 0) dX2_countWays_14 (by decide +kernel) ?_
      exact sim_lret rfl rfl dX2_countWays_15
theorem dX2_ways_0 : decode cX2_ways 0 = .ok (.aload_n 0, 1) := by decide +kernel
theorem dX2_ways_1 : decode cX2_ways 1 = .ok (.invokevirtual 40, 3) := by decide +kernel
theorem dX2_ways_4 : decode cX2_ways 4 = .ok (.ifCond .ne 5, 3) := by decide +kernel
theorem dX2_ways_7 : decode cX2_ways 7 = .ok (.lconst 0, 1) := by decide +kernel
theorem dX2_ways_8 : decode cX2_ways 8 = .ok (.lreturn, 1) := by decide +kernel
theorem dX2_ways_9 : decode cX2_ways 9 = .ok (.iconst 0, 1) := by decide +kernel
theorem dX2_ways_10 : decode cX2_ways 10 = .ok (.istore_n 3, 1) := by decide +kernel
theorem dX2_ways_11 : decode cX2_ways 11 = .ok (.iload_n 3, 1) := by decide +kernel
theorem dX2_ways_12 : decode cX2_ways 12 = .ok (.aload_n 0, 1) := by decide +kernel
theorem dX2_ways_13 : decode cX2_ways 13 = .ok (.getfield 18, 3) := by decide +kernel
theorem dX2_ways_16 : decode cX2_ways 16 = .ok (.if_icmp .ge 31, 3) := by decide +kernel
theorem dX2_ways_19 : decode cX2_ways 19 = .ok (.aload_n 0, 1) := by decide +kernel
theorem dX2_ways_20 : decode cX2_ways 20 = .ok (.getfield 9, 3) := by decide +kernel
theorem dX2_ways_23 : decode cX2_ways 23 = .ok (.iload_n 3, 1) := by decide +kernel
theorem dX2_ways_24 : decode cX2_ways 24 = .ok (.iaload, 1) := by decide +kernel
theorem dX2_ways_25 : decode cX2_ways 25 = .ok (.iload_n 1, 1) := by decide +kernel
theorem dX2_ways_26 : decode cX2_ways 26 = .ok (.if_icmp .ne 15, 3) := by decide +kernel
theorem dX2_ways_29 : decode cX2_ways 29 = .ok (.aload_n 0, 1) := by decide +kernel
theorem dX2_ways_30 : decode cX2_ways 30 = .ok (.getfield 15, 3) := by decide +kernel
theorem dX2_ways_33 : decode cX2_ways 33 = .ok (.iload_n 3, 1) := by decide +kernel
theorem dX2_ways_34 : decode cX2_ways 34 = .ok (.dup2, 1) := by decide +kernel
theorem dX2_ways_35 : decode cX2_ways 35 = .ok (.iaload, 1) := by decide +kernel
theorem dX2_ways_36 : decode cX2_ways 36 = .ok (.iconst 1, 1) := by decide +kernel
theorem dX2_ways_37 : decode cX2_ways 37 = .ok (.iload_n 2, 1) := by decide +kernel
theorem dX2_ways_38 : decode cX2_ways 38 = .ok (.ishl, 1) := by decide +kernel
theorem dX2_ways_39 : decode cX2_ways 39 = .ok (.iand, 1) := by decide +kernel
theorem dX2_ways_40 : decode cX2_ways 40 = .ok (.iastore, 1) := by decide +kernel
theorem dX2_ways_41 : decode cX2_ways 41 = .ok (.iinc 3 1, 3) := by decide +kernel
theorem dX2_ways_44 : decode cX2_ways 44 = .ok (.goto (-33), 3) := by decide +kernel
theorem dX2_ways_47 : decode cX2_ways 47 = .ok (.aload_n 0, 1) := by decide +kernel
theorem dX2_ways_48 : decode cX2_ways 48 = .ok (.aload_n 0, 1) := by decide +kernel
theorem dX2_ways_49 : decode cX2_ways 49 = .ok (.invokevirtual 44, 3) := by decide +kernel
theorem dX2_ways_52 : decode cX2_ways 52 = .ok (.invokevirtual 48, 3) := by decide +kernel
theorem dX2_ways_55 : decode cX2_ways 55 = .ok (.lreturn, 1) := by decide +kernel
def f_Dlr_ways (n : Nat)  (a1 : Int) (a2 : Int) (σ : JSg) : Option (Int × JSg) :=
  bd2 (f_Dlr_gather n σ) fun r1 s2 => if r1 = 0 then (some (0, s2)) else (lt_ 0 fun v3 => wh2 n (fun rc4 (x5 : Int) (s6 : JSg) => if x5 < (s6 116 5) then (chk (0 ≤ x5 ∧ x5 < 28) <| jn1 (fun  (s12 : JSg) => lt_ (w32 (x5 + 1)) fun v13 => rc4 v13 s12) fun j11 => if (s6 117 x5.toNat) = a1 then (chk (0 ≤ x5 ∧ x5 < 28) <| chk (0 ≤ x5 ∧ x5 < 28) <| lt_ (sp s6 118 x5.toNat (an32 (s6 118 x5.toNat) (sl32 1 a2))) fun s14 => j11 s14) else (j11 s6)) else (bd2 (f_Dlr_sums n s6) fun r7 s8 => bd2 (f_Dlr_countWays n r7 s8) fun r9 s10 => some (r9, s10))) v3 s2)
set_option maxRecDepth 20000 in
set_option maxHeartbeats 4000000 in
theorem k_Dlr_ways  (n : Nat)   (a1 : Int) (a2 : Int) (σ : JSg) : Call yX2_ways cX2_ways 4 (some .long) 2 SH RHO [vR 116, vI a1, vI a2] σ dLm (f_Dlr_ways n a1 a2 σ) := by
  refine call_of_sim (by decide +kernel) (Nat.le_of_ble_eq_true rfl) ?_
  show Sim RX2 cX2_ways 4 (some .long) 2 SH RHO 0 [(0, vR 116), (1, vI a1), (2, vI a2)] [] σ dLm (f_Dlr_ways n a1 a2 σ)
  unfold f_Dlr_ways
  refine sim_aload_n 0 rfl dX2_ways_0 ?_
  refine sim_callVIm v_RX2_40 sh_116 dX2_ways_1 (k_Dlr_gather n σ) rfl ⟨by decide, by decide⟩ (S := []) rfl (Nat.le_of_ble_eq_true rfl) (fun r1 s2 => ?_)
  refine sim_if_ne (tgt := 9) dX2_ways_4 (by decide) ?_ ?_
  · refine sim_iconst dX2_ways_9 (by decide) ?_
    refine sim_istore_n (fun v3 => [(3, vI v3), (0, vR 116), (1, vI a1), (2, vI a2)]) (fun _ => rfl) (by decide) dX2_ways_10 (fun v3 => ?_)
    refine sim_sub [1, 2, 3, 0] (L' := [(0, vR 116), (1, vI a1), (2, vI a2), (3, vI v3)]) rfl ?_
    refine sim_wh2 (fun (x5 : Int) (s6 : JSg) => [(0, vR 116), (1, vI a1), (2, vI a2), (3, vI x5)]) (fun (x5 : Int) (s6 : JSg) => s6) ?_ n v3 s2
    intro rc4 hrc4 x5 s6
    refine sim_iload_n 3 rfl dX2_ways_11 ?_
    refine sim_aload_n 0 rfl dX2_ways_12 ?_
    refine sim_getI g_RX2_18 sh_116 dX2_ways_13 ?_
    refine sim_icmp_ge (tgt := 47) dX2_ways_16 (by decide) ?_ ?_
    · refine sim_aload_n 0 rfl dX2_ways_47 ?_
      refine sim_aload_n 0 rfl dX2_ways_48 ?_
      refine sim_callVIm v_RX2_44 sh_116 dX2_ways_49 (k_Dlr_sums n s6) rfl ⟨by decide, by decide⟩ (S := [vR 116]) rfl (Nat.le_of_ble_eq_true rfl) (fun r7 s8 => ?_)
      refine sim_callVLm v_RX2_48 sh_116 dX2_ways_52 (k_Dlr_countWays n r7 s8) rfl ⟨by decide, by decide⟩ (S := []) rfl (Nat.le_of_ble_eq_true rfl) (fun r9 s10 => ?_)
      exact sim_lret rfl rfl dX2_ways_55
    · refine sim_aload_n 0 rfl dX2_ways_19 ?_
      refine sim_getR g_RX2_9 sh_116 rh_116_3 dX2_ways_20 ?_
      refine sim_iload_n 3 rfl dX2_ways_23 ?_
      refine sim_iaload sh_117 rfl dX2_ways_24 ?_
      refine sim_iload_n 1 rfl dX2_ways_25 ?_
      refine sim_jn1 (pc' := 41) (fun  (s12 : JSg) => [(0, vR 116), (1, vI a1), (2, vI a2), (3, vI x5)]) (fun  (s12 : JSg) => []) (fun  (s12 : JSg) => s12) ?_ (fun j11 hj11 => ?_)
      · intro s12
        refine sim_iinc 3 rfl (fun v13 => [(3, vI v13), (0, vR 116), (1, vI a1), (2, vI a2)]) (fun _ => rfl) (by decide) dX2_ways_41 (fun v13 => ?_)
        refine sim_goto (tgt := 11) dX2_ways_44 (by decide) ?_
        exact sim_sub [1, 2, 3, 0] rfl (hrc4 v13 s12)
      refine sim_icmp_ne (tgt := 41) dX2_ways_26 (by decide) ?_ ?_
      · exact sim_sub [0, 1, 2, 3] rfl (hj11 s6)
      · refine sim_aload_n 0 rfl dX2_ways_29 ?_
        refine sim_getR g_RX2_15 sh_116 rh_116_4 dX2_ways_30 ?_
        refine sim_iload_n 3 rfl dX2_ways_33 ?_
        refine sim_dup2 rfl rfl dX2_ways_34 ?_
        refine sim_iaload sh_118 rfl dX2_ways_35 ?_
        refine sim_iconst dX2_ways_36 (by decide) ?_
        refine sim_iload_n 2 rfl dX2_ways_37 ?_
        refine sim_ishl dX2_ways_38 ?_
        refine sim_iand dX2_ways_39 ?_
        refine sim_iastore sh_118 rfl dX2_ways_40 (fun s14 => ?_)
        exact sim_sub [0, 1, 2, 3] rfl (hj11 s14)
  · refine sim_lconst (v := 0) dX2_ways_7 (by decide +kernel) ?_
    exact sim_lret rfl rfl dX2_ways_8
theorem dX11_whose_0 : decode cX11_whose 0 = .ok (.aload_n 0, 1) := by decide +kernel
theorem dX11_whose_1 : decode cX11_whose 1 = .ok (.iload_n 1, 1) := by decide +kernel
theorem dX11_whose_2 : decode cX11_whose 2 = .ok (.invokevirtual 149, 3) := by decide +kernel
theorem dX11_whose_5 : decode cX11_whose 5 = .ok (.ifCond .eq 11, 3) := by decide +kernel
theorem dX11_whose_8 : decode cX11_whose 8 = .ok (.aload_n 0, 1) := by decide +kernel
theorem dX11_whose_9 : decode cX11_whose 9 = .ok (.iload_n 2, 1) := by decide +kernel
theorem dX11_whose_10 : decode cX11_whose 10 = .ok (.invokevirtual 183, 3) := by decide +kernel
theorem dX11_whose_13 : decode cX11_whose 13 = .ok (.ifCond .ne 7, 3) := by decide +kernel
theorem dX11_whose_16 : decode cX11_whose 16 = .ok (.ldc2_w 311, 3) := by decide +kernel
theorem dX11_whose_19 : decode cX11_whose 19 = .ok (.lreturn, 1) := by decide +kernel
theorem dX11_whose_20 : decode cX11_whose 20 = .ok (.aload_n 0, 1) := by decide +kernel
theorem dX11_whose_21 : decode cX11_whose 21 = .ok (.getfield 29, 3) := by decide +kernel
theorem dX11_whose_24 : decode cX11_whose 24 = .ok (.getfield 98, 3) := by decide +kernel
theorem dX11_whose_27 : decode cX11_whose 27 = .ok (.iload_n 1, 1) := by decide +kernel
theorem dX11_whose_28 : decode cX11_whose 28 = .ok (.invokevirtual 313, 3) := by decide +kernel
theorem dX11_whose_31 : decode cX11_whose 31 = .ok (.ifCond .eq 7, 3) := by decide +kernel
theorem dX11_whose_34 : decode cX11_whose 34 = .ok (.lconst 0, 1) := by decide +kernel
theorem dX11_whose_35 : decode cX11_whose 35 = .ok (.goto 12, 3) := by decide +kernel
theorem dX11_whose_38 : decode cX11_whose 38 = .ok (.aload_n 0, 1) := by decide +kernel
theorem dX11_whose_39 : decode cX11_whose 39 = .ok (.getfield 105, 3) := by decide +kernel
theorem dX11_whose_42 : decode cX11_whose 42 = .ok (.iload_n 1, 1) := by decide +kernel
theorem dX11_whose_43 : decode cX11_whose 43 = .ok (.iload_n 2, 1) := by decide +kernel
theorem dX11_whose_44 : decode cX11_whose 44 = .ok (.invokevirtual 307, 3) := by decide +kernel
theorem dX11_whose_47 : decode cX11_whose 47 = .ok (.lreturn, 1) := by decide +kernel
def f_W_whose (n : Nat)  (a1 : Int) (a2 : Int) (σ : JSg) : Option (Int × JSg) :=
  bd1 (f_W_isStone a1 σ) fun r1 => jn0 (some ((-1), σ)) fun j2 => if r1 = 0 then (j2) else (bd1 (f_W_isWidow a2 σ) fun r3 => if r3 = 0 then (j2) else (bd1 (f_Mem_hasSeen 18 a1 σ) fun r4 => if r4 = 0 then (bd2 (f_Dlr_ways n a1 a2 σ) fun r5 s6 => some (r5, s6)) else (some (0, σ))))
set_option maxRecDepth 20000 in
set_option maxHeartbeats 4000000 in
theorem k_W_whose  (n : Nat)   (a1 : Int) (a2 : Int) (σ : JSg) : Call yX11_whose cX11_whose 3 (some .long) 3 SH RHO [vR 0, vI a1, vI a2] σ dLm (f_W_whose n a1 a2 σ) := by
  refine call_of_sim (by decide +kernel) (Nat.le_of_ble_eq_true rfl) ?_
  show Sim RX11 cX11_whose 3 (some .long) 3 SH RHO 0 [(0, vR 0), (1, vI a1), (2, vI a2)] [] σ dLm (f_W_whose n a1 a2 σ)
  unfold f_W_whose
  refine sim_aload_n 0 rfl dX11_whose_0 ?_
  refine sim_iload_n 1 rfl dX11_whose_1 ?_
  refine sim_callVIp v_RX11_149 sh_0 dX11_whose_2 (k_W_isStone a1 σ) rfl ⟨by decide, by decide⟩ (S := []) rfl (Nat.le_of_ble_eq_true rfl) (fun r1 => ?_)
  refine sim_jn0 (pc' := 16) ([]) ([]) (σ) ?_ (fun j2 hj2 => ?_)
  · refine sim_ldc2 (v := -1) w_1234 (by decide +kernel) dX11_whose_16 ?_
    exact sim_lret rfl rfl dX11_whose_19
  refine sim_if_eq (tgt := 16) dX11_whose_5 (by decide) ?_ ?_
  · exact sim_sub [] rfl (hj2 )
  · refine sim_aload_n 0 rfl dX11_whose_8 ?_
    refine sim_iload_n 2 rfl dX11_whose_9 ?_
    refine sim_callVIp v_RX11_183 sh_0 dX11_whose_10 (k_W_isWidow a2 σ) rfl ⟨by decide, by decide⟩ (S := []) rfl (Nat.le_of_ble_eq_true rfl) (fun r3 => ?_)
    refine sim_if_ne (tgt := 20) dX11_whose_13 (by decide) ?_ ?_
    · refine sim_aload_n 0 rfl dX11_whose_20 ?_
      refine sim_getR g_RX11_29 sh_0 rh_0_3 dX11_whose_21 ?_
      refine sim_getR g_RX11_98 (LWld_o lay_3) rh_3_2 dX11_whose_24 ?_
      refine sim_iload_n 1 rfl dX11_whose_27 ?_
      refine sim_callVIp v_RX11_313 (LMem_o lay_18) dX11_whose_28 (k_Mem_hasSeen SH RHO 18 lay_18 a1 σ) rfl ⟨by decide, by decide⟩ (S := []) rfl (Nat.le_of_ble_eq_true rfl) (fun r4 => ?_)
      refine sim_if_eq (tgt := 38) dX11_whose_31 (by decide) ?_ ?_
      · refine sim_aload_n 0 rfl dX11_whose_38 ?_
        refine sim_getR g_RX11_105 sh_0 rh_0_15 dX11_whose_39 ?_
        refine sim_iload_n 1 rfl dX11_whose_42 ?_
        refine sim_iload_n 2 rfl dX11_whose_43 ?_
        refine sim_callVLm v_RX11_307 sh_116 dX11_whose_44 (k_Dlr_ways n a1 a2 σ) rfl ⟨by decide, by decide⟩ (S := []) rfl (Nat.le_of_ble_eq_true rfl) (fun r5 s6 => ?_)
        exact sim_lret rfl rfl dX11_whose_47
      · refine sim_lconst (v := 0) dX11_whose_34 (by decide +kernel) ?_
        refine sim_goto (tgt := 47) dX11_whose_35 (by decide) ?_
        exact sim_lret rfl rfl dX11_whose_47
    · exact sim_sub [] rfl (hj2 )
theorem dX11_dealings_0 : decode cX11_dealings 0 = .ok (.aload_n 0, 1) := by decide +kernel
theorem dX11_dealings_1 : decode cX11_dealings 1 = .ok (.getfield 105, 3) := by decide +kernel
theorem dX11_dealings_4 : decode cX11_dealings 4 = .ok (.iconst (-1), 1) := by decide +kernel
theorem dX11_dealings_5 : decode cX11_dealings 5 = .ok (.iconst (-1), 1) := by decide +kernel
theorem dX11_dealings_6 : decode cX11_dealings 6 = .ok (.invokevirtual 307, 3) := by decide +kernel
theorem dX11_dealings_9 : decode cX11_dealings 9 = .ok (.lreturn, 1) := by decide +kernel
def f_W_dealings (n : Nat)   (σ : JSg) : Option (Int × JSg) :=
  bd2 (f_Dlr_ways n (-1) (-1) σ) fun r1 s2 => some (r1, s2)
set_option maxRecDepth 20000 in
set_option maxHeartbeats 4000000 in
theorem k_W_dealings  (n : Nat)    (σ : JSg) : Call yX11_dealings cX11_dealings 1 (some .long) 3 SH RHO [vR 0] σ dLm (f_W_dealings n σ) := by
  refine call_of_sim (by decide +kernel) (Nat.le_of_ble_eq_true rfl) ?_
  show Sim RX11 cX11_dealings 1 (some .long) 3 SH RHO 0 [(0, vR 0)] [] σ dLm (f_W_dealings n σ)
  unfold f_W_dealings
  refine sim_aload_n 0 rfl dX11_dealings_0 ?_
  refine sim_getR g_RX11_105 sh_0 rh_0_15 dX11_dealings_1 ?_
  refine sim_iconst dX11_dealings_4 (by decide) ?_
  refine sim_iconst dX11_dealings_5 (by decide) ?_
  refine sim_callVLm v_RX11_307 sh_116 dX11_dealings_6 (k_Dlr_ways n (-1) (-1) σ) rfl ⟨by decide, by decide⟩ (S := []) rfl (Nat.le_of_ble_eq_true rfl) (fun r1 s2 => ?_)
  exact sim_lret rfl rfl dX11_dealings_9
theorem dX5_clear_0 : decode cX5_clear 0 = .ok (.aload_n 0, 1) := by decide +kernel
theorem dX5_clear_1 : decode cX5_clear 1 = .ok (.iconst 0, 1) := by decide +kernel
theorem dX5_clear_2 : decode cX5_clear 2 = .ok (.putfield 11, 3) := by decide +kernel
theorem dX5_clear_5 : decode cX5_clear 5 = .ok (.aload_n 0, 1) := by decide +kernel
theorem dX5_clear_6 : decode cX5_clear 6 = .ok (.iconst 0, 1) := by decide +kernel
theorem dX5_clear_7 : decode cX5_clear 7 = .ok (.putfield 15, 3) := by decide +kernel
theorem dX5_clear_10 : decode cX5_clear 10 = .ok (.aload_n 0, 1) := by decide +kernel
theorem dX5_clear_11 : decode cX5_clear 11 = .ok (.iconst 0, 1) := by decide +kernel
theorem dX5_clear_12 : decode cX5_clear 12 = .ok (.putfield 22, 3) := by decide +kernel
theorem dX5_clear_15 : decode cX5_clear 15 = .ok (.aload_n 0, 1) := by decide +kernel
theorem dX5_clear_16 : decode cX5_clear 16 = .ok (.getfield 18, 3) := by decide +kernel
theorem dX5_clear_19 : decode cX5_clear 19 = .ok (.iconst 0, 1) := by decide +kernel
theorem dX5_clear_20 : decode cX5_clear 20 = .ok (.invokestatic 28, 3) := by decide +kernel
theorem dX5_clear_23 : decode cX5_clear 23 = .ok (.aload_n 0, 1) := by decide +kernel
theorem dX5_clear_24 : decode cX5_clear 24 = .ok (.getfield 25, 3) := by decide +kernel
theorem dX5_clear_27 : decode cX5_clear 27 = .ok (.iconst 0, 1) := by decide +kernel
theorem dX5_clear_28 : decode cX5_clear 28 = .ok (.invokestatic 28, 3) := by decide +kernel
theorem dX5_clear_31 : decode cX5_clear 31 = .ok (.return_, 1) := by decide +kernel
def f_Mem_clear (n : Nat) (p : Nat)  (σ : JSg) : Option (JSg) :=
  lt_ (sp σ p 0 0) fun s1 => lt_ (sp s1 p 1 0) fun s2 => lt_ (sp s2 p 3 0) fun s3 => bd1 (f_JArr_fill_53178 n (p + 1) 6 0 s3) fun s4 => bd1 (f_JArr_fill_53178 n (p + 2) 6 0 s4) fun s5 => some s5
set_option maxRecDepth 20000 in
set_option maxHeartbeats 4000000 in
theorem k_Mem_clear (Sh : JSh) (ρ : JRo) (n : Nat) (p : Nat) (hp : LMem Sh ρ p)  (σ : JSg) : Call yX5_clear cX5_clear 1 none 1 Sh ρ [vR p] σ dVm (f_Mem_clear n p σ) := by
  refine call_of_sim (by decide +kernel) (Nat.le_of_ble_eq_true rfl) ?_
  show Sim RX5 cX5_clear 1 none 1 Sh ρ 0 [(0, vR p)] [] σ dVm (f_Mem_clear n p σ)
  unfold f_Mem_clear
  refine sim_aload_n 0 rfl dX5_clear_0 ?_
  refine sim_iconst dX5_clear_1 (by decide) ?_
  refine sim_putI g_RX5_11 (LMem_o hp) dX5_clear_2 (fun s1 => ?_)
  refine sim_aload_n 0 rfl dX5_clear_5 ?_
  refine sim_iconst dX5_clear_6 (by decide) ?_
  refine sim_putI g_RX5_15 (LMem_o hp) dX5_clear_7 (fun s2 => ?_)
  refine sim_aload_n 0 rfl dX5_clear_10 ?_
  refine sim_iconst dX5_clear_11 (by decide) ?_
  refine sim_putI g_RX5_22 (LMem_o hp) dX5_clear_12 (fun s3 => ?_)
  refine sim_aload_n 0 rfl dX5_clear_15 ?_
  refine sim_getR g_RX5_18 (LMem_o hp) (LMem_r2 hp) dX5_clear_16 ?_
  refine sim_iconst dX5_clear_19 (by decide) ?_
  refine sim_callSVm s_RX5_28 dX5_clear_20 (k_JArr_fill_53178 Sh ρ n (p + 1) 6 (LMem_a2 hp) (okI_lit (by decide)) 0 s3) rfl ⟨by decide, by decide⟩ (S := []) rfl (Nat.le_of_ble_eq_true rfl) (fun s4 => ?_)
  refine sim_aload_n 0 rfl dX5_clear_23 ?_
  refine sim_getR g_RX5_25 (LMem_o hp) (LMem_r4 hp) dX5_clear_24 ?_
  refine sim_iconst dX5_clear_27 (by decide) ?_
  refine sim_callSVm s_RX5_28 dX5_clear_28 (k_JArr_fill_53178 Sh ρ n (p + 2) 6 (LMem_a4 hp) (okI_lit (by decide)) 0 s4) rfl ⟨by decide, by decide⟩ (S := []) rfl (Nat.le_of_ble_eq_true rfl) (fun s5 => ?_)
  exact sim_vret rfl rfl dX5_clear_31
theorem dX5_readPassed_0 : decode cX5_readPassed 0 = .ok (.aload_n 1, 1) := by decide +kernel
theorem dX5_readPassed_1 : decode cX5_readPassed 1 = .ok (.invokevirtual 72, 3) := by decide +kernel
theorem dX5_readPassed_4 : decode cX5_readPassed 4 = .ok (.aload_n 2, 1) := by decide +kernel
theorem dX5_readPassed_5 : decode cX5_readPassed 5 = .ok (.aload_n 1, 1) := by decide +kernel
theorem dX5_readPassed_6 : decode cX5_readPassed 6 = .ok (.invokevirtual 75, 3) := by decide +kernel
theorem dX5_readPassed_9 : decode cX5_readPassed 9 = .ok (.istore_n 3, 1) := by decide +kernel
theorem dX5_readPassed_10 : decode cX5_readPassed 10 = .ok (.iload_n 3, 1) := by decide +kernel
theorem dX5_readPassed_11 : decode cX5_readPassed 11 = .ok (.iconst (-1), 1) := by decide +kernel
theorem dX5_readPassed_12 : decode cX5_readPassed 12 = .ok (.if_icmp .ne 5, 3) := by decide +kernel
theorem dX5_readPassed_15 : decode cX5_readPassed 15 = .ok (.iconst 0, 1) := by decide +kernel
theorem dX5_readPassed_16 : decode cX5_readPassed 16 = .ok (.ireturn, 1) := by decide +kernel
theorem dX5_readPassed_17 : decode cX5_readPassed 17 = .ok (.aload_n 1, 1) := by decide +kernel
theorem dX5_readPassed_18 : decode cX5_readPassed 18 = .ok (.invokevirtual 72, 3) := by decide +kernel
theorem dX5_readPassed_21 : decode cX5_readPassed 21 = .ok (.aload_n 1, 1) := by decide +kernel
theorem dX5_readPassed_22 : decode cX5_readPassed 22 = .ok (.bipush 6, 2) := by decide +kernel
theorem dX5_readPassed_24 : decode cX5_readPassed 24 = .ok (.invokevirtual 81, 3) := by decide +kernel
theorem dX5_readPassed_27 : decode cX5_readPassed 27 = .ok (.istore 4, 2) := by decide +kernel
theorem dX5_readPassed_29 : decode cX5_readPassed 29 = .ok (.iload 4, 2) := by decide +kernel
theorem dX5_readPassed_31 : decode cX5_readPassed 31 = .ok (.iconst (-1), 1) := by decide +kernel
theorem dX5_readPassed_32 : decode cX5_readPassed 32 = .ok (.if_icmp .ne 5, 3) := by decide +kernel
theorem dX5_readPassed_35 : decode cX5_readPassed 35 = .ok (.iconst 0, 1) := by decide +kernel
theorem dX5_readPassed_36 : decode cX5_readPassed 36 = .ok (.ireturn, 1) := by decide +kernel
theorem dX5_readPassed_37 : decode cX5_readPassed 37 = .ok (.aload_n 0, 1) := by decide +kernel
theorem dX5_readPassed_38 : decode cX5_readPassed 38 = .ok (.getfield 25, 3) := by decide +kernel
theorem dX5_readPassed_41 : decode cX5_readPassed 41 = .ok (.iload_n 3, 1) := by decide +kernel
theorem dX5_readPassed_42 : decode cX5_readPassed 42 = .ok (.iaload, 1) := by decide +kernel
theorem dX5_readPassed_43 : decode cX5_readPassed 43 = .ok (.iload 4, 2) := by decide +kernel
theorem dX5_readPassed_45 : decode cX5_readPassed 45 = .ok (.ishr, 1) := by decide +kernel
theorem dX5_readPassed_46 : decode cX5_readPassed 46 = .ok (.iconst 1, 1) := by decide +kernel
theorem dX5_readPassed_47 : decode cX5_readPassed 47 = .ok (.iand, 1) := by decide +kernel
theorem dX5_readPassed_48 : decode cX5_readPassed 48 = .ok (.ifCond .eq 9, 3) := by decide +kernel
theorem dX5_readPassed_51 : decode cX5_readPassed 51 = .ok (.aload_n 1, 1) := by decide +kernel
theorem dX5_readPassed_52 : decode cX5_readPassed 52 = .ok (.iconst 3, 1) := by decide +kernel
theorem dX5_readPassed_53 : decode cX5_readPassed 53 = .ok (.invokevirtual 68, 3) := by decide +kernel
theorem dX5_readPassed_56 : decode cX5_readPassed 56 = .ok (.ireturn, 1) := by decide +kernel
theorem dX5_readPassed_57 : decode cX5_readPassed 57 = .ok (.aload_n 0, 1) := by decide +kernel
theorem dX5_readPassed_58 : decode cX5_readPassed 58 = .ok (.getfield 25, 3) := by decide +kernel
theorem dX5_readPassed_61 : decode cX5_readPassed 61 = .ok (.iload_n 3, 1) := by decide +kernel
theorem dX5_readPassed_62 : decode cX5_readPassed 62 = .ok (.dup2, 1) := by decide +kernel
theorem dX5_readPassed_63 : decode cX5_readPassed 63 = .ok (.iaload, 1) := by decide +kernel
theorem dX5_readPassed_64 : decode cX5_readPassed 64 = .ok (.iconst 1, 1) := by decide +kernel
theorem dX5_readPassed_65 : decode cX5_readPassed 65 = .ok (.iload 4, 2) := by decide +kernel
theorem dX5_readPassed_67 : decode cX5_readPassed 67 = .ok (.ishl, 1) := by decide +kernel
theorem dX5_readPassed_68 : decode cX5_readPassed 68 = .ok (.ior, 1) := by decide +kernel
theorem dX5_readPassed_69 : decode cX5_readPassed 69 = .ok (.iastore, 1) := by decide +kernel
theorem dX5_readPassed_70 : decode cX5_readPassed 70 = .ok (.aload_n 1, 1) := by decide +kernel
theorem dX5_readPassed_71 : decode cX5_readPassed 71 = .ok (.invokevirtual 72, 3) := by decide +kernel
theorem dX5_readPassed_74 : decode cX5_readPassed 74 = .ok (.iconst 1, 1) := by decide +kernel
theorem dX5_readPassed_75 : decode cX5_readPassed 75 = .ok (.ireturn, 1) := by decide +kernel
def f_Mem_readPassed (n : Nat) (p : Nat) (q : Nat)  (σ : JSg) : Option (Int × JSg) :=
  bd1 (f_Tok_step n σ) fun s1 => bd2 (f_Isl_widowHere n q s1) fun r2 s3 => lt_ r2 fun v4 => if v4 = (-1) then (some (0, s3)) else (bd1 (f_Tok_step n s3) fun s5 => bd2 (f_Tok_numberTo 6 s5) fun r6 s7 => lt_ r6 fun v8 => if v8 = (-1) then (some (0, s7)) else (chk (0 ≤ v4 ∧ v4 < 6) <| if (an32 (sr32 (s7 (p + 2) v4.toNat) v8) 1) = 0 then (chk (0 ≤ v4 ∧ v4 < 6) <| chk (0 ≤ v4 ∧ v4 < 6) <| lt_ (sp s7 (p + 2) v4.toNat (or32 (s7 (p + 2) v4.toNat) (sl32 1 v8))) fun s9 => bd1 (f_Tok_step n s9) fun s10 => some (1, s10)) else (bd2 (f_Tok_fail 3 s7) fun r11 s12 => chk (r11 = 0 ∨ r11 = 1) <| some (r11, s12))))
set_option maxRecDepth 20000 in
set_option maxHeartbeats 4000000 in
theorem k_Mem_readPassed  (n : Nat) (p : Nat) (q : Nat) (hp : LMem SH RHO p) (hq : LIsl SH RHO q)  (σ : JSg) : Call yX5_readPassed cX5_readPassed 5 (some .boolean) 8 SH RHO [vR p, vR 2, vR q] σ dIm (f_Mem_readPassed n p q σ) := by
  refine call_of_sim (by decide +kernel) (Nat.le_of_ble_eq_true rfl) ?_
  show Sim RX5 cX5_readPassed 5 (some .boolean) 8 SH RHO 0 [(0, vR p), (1, vR 2), (2, vR q)] [] σ dIm (f_Mem_readPassed n p q σ)
  unfold f_Mem_readPassed
  refine sim_aload_n 1 rfl dX5_readPassed_0 ?_
  refine sim_callVVm v_RX5_72 sh_2 dX5_readPassed_1 (k_Tok_step n σ) rfl ⟨by decide, by decide⟩ (S := []) rfl (Nat.le_of_ble_eq_true rfl) (fun s1 => ?_)
  refine sim_aload_n 2 rfl dX5_readPassed_4 ?_
  refine sim_aload_n 1 rfl dX5_readPassed_5 ?_
  refine sim_callVIm v_RX5_75 (LIsl_o hq) dX5_readPassed_6 (k_Isl_widowHere n q hq s1) rfl ⟨by decide, by decide⟩ (S := []) rfl (Nat.le_of_ble_eq_true rfl) (fun r2 s3 => ?_)
  refine sim_istore_n (fun v4 => [(3, vI v4), (0, vR p), (1, vR 2), (2, vR q)]) (fun _ => rfl) (by decide) dX5_readPassed_9 (fun v4 => ?_)
  refine sim_iload_n 0 rfl dX5_readPassed_10 ?_
  refine sim_iconst dX5_readPassed_11 (by decide) ?_
  refine sim_icmp_ne (tgt := 17) dX5_readPassed_12 (by decide) ?_ ?_
  · refine sim_aload_n 2 rfl dX5_readPassed_17 ?_
    refine sim_callVVm v_RX5_72 sh_2 dX5_readPassed_18 (k_Tok_step n s3) rfl ⟨by decide, by decide⟩ (S := []) rfl (Nat.le_of_ble_eq_true rfl) (fun s5 => ?_)
    refine sim_aload_n 2 rfl dX5_readPassed_21 ?_
    refine sim_bipush dX5_readPassed_22 (by decide +kernel) ?_
    refine sim_callVIm v_RX5_81 sh_2 dX5_readPassed_24 (k_Tok_numberTo 6 s5) rfl ⟨by decide, by decide⟩ (S := []) rfl (Nat.le_of_ble_eq_true rfl) (fun r6 s7 => ?_)
    refine sim_istore (fun v8 => [(4, vI v8), (3, vI v4), (0, vR p), (1, vR 2), (2, vR q)]) (fun _ => rfl) (by decide) dX5_readPassed_27 (fun v8 => ?_)
    refine sim_iload 0 rfl dX5_readPassed_29 ?_
    refine sim_iconst dX5_readPassed_31 (by decide) ?_
    refine sim_icmp_ne (tgt := 37) dX5_readPassed_32 (by decide) ?_ ?_
    · refine sim_aload_n 2 rfl dX5_readPassed_37 ?_
      refine sim_getR g_RX5_25 (LMem_o hp) (LMem_r4 hp) dX5_readPassed_38 ?_
      refine sim_iload_n 1 rfl dX5_readPassed_41 ?_
      refine sim_iaload (LMem_a4 hp) rfl dX5_readPassed_42 ?_
      refine sim_iload 0 rfl dX5_readPassed_43 ?_
      refine sim_ishr dX5_readPassed_45 ?_
      refine sim_iconst dX5_readPassed_46 (by decide) ?_
      refine sim_iand dX5_readPassed_47 ?_
      refine sim_if_eq (tgt := 57) dX5_readPassed_48 (by decide) ?_ ?_
      · refine sim_aload_n 2 rfl dX5_readPassed_57 ?_
        refine sim_getR g_RX5_25 (LMem_o hp) (LMem_r4 hp) dX5_readPassed_58 ?_
        refine sim_iload_n 1 rfl dX5_readPassed_61 ?_
        refine sim_dup2 rfl rfl dX5_readPassed_62 ?_
        refine sim_iaload (LMem_a4 hp) rfl dX5_readPassed_63 ?_
        refine sim_iconst dX5_readPassed_64 (by decide) ?_
        refine sim_iload 0 rfl dX5_readPassed_65 ?_
        refine sim_ishl dX5_readPassed_67 ?_
        refine sim_ior dX5_readPassed_68 ?_
        refine sim_iastore (LMem_a4 hp) rfl dX5_readPassed_69 (fun s9 => ?_)
        refine sim_aload_n 3 rfl dX5_readPassed_70 ?_
        refine sim_callVVm v_RX5_72 sh_2 dX5_readPassed_71 (k_Tok_step n s9) rfl ⟨by decide, by decide⟩ (S := []) rfl (Nat.le_of_ble_eq_true rfl) (fun s10 => ?_)
        refine sim_iconst dX5_readPassed_74 (by decide) ?_
        exact sim_zret (Or.inr rfl) rfl rfl dX5_readPassed_75
      · refine sim_aload_n 3 rfl dX5_readPassed_51 ?_
        refine sim_iconst dX5_readPassed_52 (by decide) ?_
        refine sim_callVIm v_RX5_68 sh_2 dX5_readPassed_53 (k_Tok_fail 3 s7) rfl ⟨by decide, by decide⟩ (S := []) rfl (Nat.le_of_ble_eq_true rfl) (fun r11 s12 => ?_)
        exact sim_zretc rfl rfl dX5_readPassed_56
    · refine sim_iconst dX5_readPassed_35 (by decide) ?_
      exact sim_zret (Or.inl rfl) rfl rfl dX5_readPassed_36
  · refine sim_iconst dX5_readPassed_15 (by decide) ?_
    exact sim_zret (Or.inl rfl) rfl rfl dX5_readPassed_16
theorem dX9_readTwoPips_0 : decode cX9_readTwoPips 0 = .ok (.aload_n 0, 1) := by decide +kernel
theorem dX9_readTwoPips_1 : decode cX9_readTwoPips 1 = .ok (.aload_n 0, 1) := by decide +kernel
theorem dX9_readTwoPips_2 : decode cX9_readTwoPips 2 = .ok (.bipush 6, 2) := by decide +kernel
theorem dX9_readTwoPips_4 : decode cX9_readTwoPips 4 = .ok (.invokevirtual 99, 3) := by decide +kernel
theorem dX9_readTwoPips_7 : decode cX9_readTwoPips 7 = .ok (.putfield 40, 3) := by decide +kernel
theorem dX9_readTwoPips_10 : decode cX9_readTwoPips 10 = .ok (.aload_n 0, 1) := by decide +kernel
theorem dX9_readTwoPips_11 : decode cX9_readTwoPips 11 = .ok (.getfield 40, 3) := by decide +kernel
theorem dX9_readTwoPips_14 : decode cX9_readTwoPips 14 = .ok (.iconst (-1), 1) := by decide +kernel
theorem dX9_readTwoPips_15 : decode cX9_readTwoPips 15 = .ok (.if_icmp .ne 5, 3) := by decide +kernel
theorem dX9_readTwoPips_18 : decode cX9_readTwoPips 18 = .ok (.iconst 0, 1) := by decide +kernel
theorem dX9_readTwoPips_19 : decode cX9_readTwoPips 19 = .ok (.ireturn, 1) := by decide +kernel
theorem dX9_readTwoPips_20 : decode cX9_readTwoPips 20 = .ok (.aload_n 0, 1) := by decide +kernel
theorem dX9_readTwoPips_21 : decode cX9_readTwoPips 21 = .ok (.invokevirtual 62, 3) := by decide +kernel
theorem dX9_readTwoPips_24 : decode cX9_readTwoPips 24 = .ok (.aload_n 0, 1) := by decide +kernel
theorem dX9_readTwoPips_25 : decode cX9_readTwoPips 25 = .ok (.aload_n 0, 1) := by decide +kernel
theorem dX9_readTwoPips_26 : decode cX9_readTwoPips 26 = .ok (.bipush 6, 2) := by decide +kernel
theorem dX9_readTwoPips_28 : decode cX9_readTwoPips 28 = .ok (.invokevirtual 99, 3) := by decide +kernel
theorem dX9_readTwoPips_31 : decode cX9_readTwoPips 31 = .ok (.putfield 43, 3) := by decide +kernel
theorem dX9_readTwoPips_34 : decode cX9_readTwoPips 34 = .ok (.aload_n 0, 1) := by decide +kernel
theorem dX9_readTwoPips_35 : decode cX9_readTwoPips 35 = .ok (.getfield 43, 3) := by decide +kernel
theorem dX9_readTwoPips_38 : decode cX9_readTwoPips 38 = .ok (.iconst (-1), 1) := by decide +kernel
theorem dX9_readTwoPips_39 : decode cX9_readTwoPips 39 = .ok (.if_icmp .eq 7, 3) := by decide +kernel
theorem dX9_readTwoPips_42 : decode cX9_readTwoPips 42 = .ok (.iconst 1, 1) := by decide +kernel
theorem dX9_readTwoPips_43 : decode cX9_readTwoPips 43 = .ok (.goto 4, 3) := by decide +kernel
theorem dX9_readTwoPips_46 : decode cX9_readTwoPips 46 = .ok (.iconst 0, 1) := by decide +kernel
theorem dX9_readTwoPips_47 : decode cX9_readTwoPips 47 = .ok (.ireturn, 1) := by decide +kernel
def f_Tok_readTwoPips (n : Nat)   (σ : JSg) : Option (Int × JSg) :=
  bd2 (f_Tok_numberTo 6 σ) fun r1 s2 => lt_ (sp s2 2 10 r1) fun s3 => if (s3 2 10) = (-1) then (some (0, s3)) else (bd1 (f_Tok_step n s3) fun s4 => bd2 (f_Tok_numberTo 6 s4) fun r5 s6 => lt_ (sp s6 2 11 r5) fun s7 => if (s7 2 11) = (-1) then (some (0, s7)) else (some (1, s7)))
set_option maxRecDepth 20000 in
set_option maxHeartbeats 4000000 in
theorem k_Tok_readTwoPips  (n : Nat)    (σ : JSg) : Call yX9_readTwoPips cX9_readTwoPips 1 (some .boolean) 8 SH RHO [vR 2] σ dIm (f_Tok_readTwoPips n σ) := by
  refine call_of_sim (by decide +kernel) (Nat.le_of_ble_eq_true rfl) ?_
  show Sim RX9 cX9_readTwoPips 1 (some .boolean) 8 SH RHO 0 [(0, vR 2)] [] σ dIm (f_Tok_readTwoPips n σ)
  unfold f_Tok_readTwoPips
  refine sim_aload_n 0 rfl dX9_readTwoPips_0 ?_
  refine sim_aload_n 0 rfl dX9_readTwoPips_1 ?_
  refine sim_bipush dX9_readTwoPips_2 (by decide +kernel) ?_
  refine sim_callVIm v_RX9_99 sh_2 dX9_readTwoPips_4 (k_Tok_numberTo 6 σ) rfl ⟨by decide, by decide⟩ (S := [vR 2]) rfl (Nat.le_of_ble_eq_true rfl) (fun r1 s2 => ?_)
  refine sim_putI g_RX9_40 sh_2 dX9_readTwoPips_7 (fun s3 => ?_)
  refine sim_aload_n 0 rfl dX9_readTwoPips_10 ?_
  refine sim_getI g_RX9_40 sh_2 dX9_readTwoPips_11 ?_
  refine sim_iconst dX9_readTwoPips_14 (by decide) ?_
  refine sim_icmp_ne (tgt := 20) dX9_readTwoPips_15 (by decide) ?_ ?_
  · refine sim_aload_n 0 rfl dX9_readTwoPips_20 ?_
    refine sim_callVVm v_RX9_62 sh_2 dX9_readTwoPips_21 (k_Tok_step n s3) rfl ⟨by decide, by decide⟩ (S := []) rfl (Nat.le_of_ble_eq_true rfl) (fun s4 => ?_)
    refine sim_aload_n 0 rfl dX9_readTwoPips_24 ?_
    refine sim_aload_n 0 rfl dX9_readTwoPips_25 ?_
    refine sim_bipush dX9_readTwoPips_26 (by decide +kernel) ?_
    refine sim_callVIm v_RX9_99 sh_2 dX9_readTwoPips_28 (k_Tok_numberTo 6 s4) rfl ⟨by decide, by decide⟩ (S := [vR 2]) rfl (Nat.le_of_ble_eq_true rfl) (fun r5 s6 => ?_)
    refine sim_putI g_RX9_43 sh_2 dX9_readTwoPips_31 (fun s7 => ?_)
    refine sim_aload_n 0 rfl dX9_readTwoPips_34 ?_
    refine sim_getI g_RX9_43 sh_2 dX9_readTwoPips_35 ?_
    refine sim_iconst dX9_readTwoPips_38 (by decide) ?_
    refine sim_icmp_eq (tgt := 46) dX9_readTwoPips_39 (by decide) ?_ ?_
    · refine sim_iconst dX9_readTwoPips_46 (by decide) ?_
      exact sim_zret (Or.inl rfl) rfl rfl dX9_readTwoPips_47
    · refine sim_iconst dX9_readTwoPips_42 (by decide) ?_
      refine sim_goto (tgt := 47) dX9_readTwoPips_43 (by decide) ?_
      exact sim_zret (Or.inr rfl) rfl rfl dX9_readTwoPips_47
  · refine sim_iconst dX9_readTwoPips_18 (by decide) ?_
    exact sim_zret (Or.inl rfl) rfl rfl dX9_readTwoPips_19
theorem dX3_stoneWith_0 : decode cX3_stoneWith 0 = .ok (.iconst 0, 1) := by decide +kernel
theorem dX3_stoneWith_1 : decode cX3_stoneWith 1 = .ok (.istore_n 3, 1) := by decide +kernel
theorem dX3_stoneWith_2 : decode cX3_stoneWith 2 = .ok (.iload_n 3, 1) := by decide +kernel
theorem dX3_stoneWith_3 : decode cX3_stoneWith 3 = .ok (.aload_n 0, 1) := by decide +kernel
theorem dX3_stoneWith_4 : decode cX3_stoneWith 4 = .ok (.getfield 18, 3) := by decide +kernel
theorem dX3_stoneWith_7 : decode cX3_stoneWith 7 = .ok (.if_icmp .ge 51, 3) := by decide +kernel
theorem dX3_stoneWith_10 : decode cX3_stoneWith 10 = .ok (.aload_n 0, 1) := by decide +kernel
theorem dX3_stoneWith_11 : decode cX3_stoneWith 11 = .ok (.getfield 38, 3) := by decide +kernel
theorem dX3_stoneWith_14 : decode cX3_stoneWith 14 = .ok (.iload_n 3, 1) := by decide +kernel
theorem dX3_stoneWith_15 : decode cX3_stoneWith 15 = .ok (.iaload, 1) := by decide +kernel
theorem dX3_stoneWith_16 : decode cX3_stoneWith 16 = .ok (.iload_n 1, 1) := by decide +kernel
theorem dX3_stoneWith_17 : decode cX3_stoneWith 17 = .ok (.if_icmp .ne 13, 3) := by decide +kernel
theorem dX3_stoneWith_20 : decode cX3_stoneWith 20 = .ok (.aload_n 0, 1) := by decide +kernel
theorem dX3_stoneWith_21 : decode cX3_stoneWith 21 = .ok (.getfield 42, 3) := by decide +kernel
theorem dX3_stoneWith_24 : decode cX3_stoneWith 24 = .ok (.iload_n 3, 1) := by decide +kernel
theorem dX3_stoneWith_25 : decode cX3_stoneWith 25 = .ok (.iaload, 1) := by decide +kernel
theorem dX3_stoneWith_26 : decode cX3_stoneWith 26 = .ok (.iload_n 2, 1) := by decide +kernel
theorem dX3_stoneWith_27 : decode cX3_stoneWith 27 = .ok (.if_icmp .eq 23, 3) := by decide +kernel
theorem dX3_stoneWith_30 : decode cX3_stoneWith 30 = .ok (.aload_n 0, 1) := by decide +kernel
theorem dX3_stoneWith_31 : decode cX3_stoneWith 31 = .ok (.getfield 38, 3) := by decide +kernel
theorem dX3_stoneWith_34 : decode cX3_stoneWith 34 = .ok (.iload_n 3, 1) := by decide +kernel
theorem dX3_stoneWith_35 : decode cX3_stoneWith 35 = .ok (.iaload, 1) := by decide +kernel
theorem dX3_stoneWith_36 : decode cX3_stoneWith 36 = .ok (.iload_n 2, 1) := by decide +kernel
theorem dX3_stoneWith_37 : decode cX3_stoneWith 37 = .ok (.if_icmp .ne 15, 3) := by decide +kernel
theorem dX3_stoneWith_40 : decode cX3_stoneWith 40 = .ok (.aload_n 0, 1) := by decide +kernel
theorem dX3_stoneWith_41 : decode cX3_stoneWith 41 = .ok (.getfield 42, 3) := by decide +kernel
theorem dX3_stoneWith_44 : decode cX3_stoneWith 44 = .ok (.iload_n 3, 1) := by decide +kernel
theorem dX3_stoneWith_45 : decode cX3_stoneWith 45 = .ok (.iaload, 1) := by decide +kernel
theorem dX3_stoneWith_46 : decode cX3_stoneWith 46 = .ok (.iload_n 1, 1) := by decide +kernel
theorem dX3_stoneWith_47 : decode cX3_stoneWith 47 = .ok (.if_icmp .ne 5, 3) := by decide +kernel
theorem dX3_stoneWith_50 : decode cX3_stoneWith 50 = .ok (.iload_n 3, 1) := by decide +kernel
theorem dX3_stoneWith_51 : decode cX3_stoneWith 51 = .ok (.ireturn, 1) := by decide +kernel
theorem dX3_stoneWith_52 : decode cX3_stoneWith 52 = .ok (.iinc 3 1, 3) := by decide +kernel
theorem dX3_stoneWith_55 : decode cX3_stoneWith 55 = .ok (.goto (-53), 3) := by decide +kernel
theorem dX3_stoneWith_58 : decode cX3_stoneWith 58 = .ok (.iconst (-1), 1) := by decide +kernel
theorem dX3_stoneWith_59 : decode cX3_stoneWith 59 = .ok (.ireturn, 1) := by decide +kernel
def f_Isl_stoneWith (n : Nat) (p : Nat) (a1 : Int) (a2 : Int) (σ : JSg) : Option (Int) :=
  lt_ 0 fun v1 => wh1 n (fun rc2 (x3 : Int) => if x3 < (σ p 2) then (chk (0 ≤ x3 ∧ x3 < 28) <| jn0 (chk (0 ≤ x3 ∧ x3 < 28) <| jn0 (lt_ (w32 (x3 + 1)) fun v6 => rc2 v6) fun j5 => if (σ (p + 2) x3.toNat) = a2 then (chk (0 ≤ x3 ∧ x3 < 28) <| if (σ (p + 3) x3.toNat) = a1 then (some x3) else (j5)) else (j5)) fun j4 => if (σ (p + 2) x3.toNat) = a1 then (chk (0 ≤ x3 ∧ x3 < 28) <| if (σ (p + 3) x3.toNat) = a2 then (some x3) else (j4)) else (j4)) else (some (-1))) v1
set_option maxRecDepth 20000 in
set_option maxHeartbeats 4000000 in
theorem k_Isl_stoneWith (Sh : JSh) (ρ : JRo) (n : Nat) (p : Nat) (hp : LIsl Sh ρ p) (a1 : Int) (a2 : Int) (σ : JSg) : Call yX3_stoneWith cX3_stoneWith 4 (some .int) 0 Sh ρ [vR p, vI a1, vI a2] σ (dIp σ) (f_Isl_stoneWith n p a1 a2 σ) := by
  refine call_of_sim (by decide +kernel) (Nat.le_of_ble_eq_true rfl) ?_
  show Sim RX3 cX3_stoneWith 4 (some .int) 0 Sh ρ 0 [(0, vR p), (1, vI a1), (2, vI a2)] [] σ (dIp σ) (f_Isl_stoneWith n p a1 a2 σ)
  unfold f_Isl_stoneWith
  refine sim_iconst dX3_stoneWith_0 (by decide) ?_
  refine sim_istore_n (fun v1 => [(3, vI v1), (0, vR p), (1, vI a1), (2, vI a2)]) (fun _ => rfl) (by decide) dX3_stoneWith_1 (fun v1 => ?_)
  refine sim_sub [1, 2, 3, 0] (L' := [(0, vR p), (1, vI a1), (2, vI a2), (3, vI v1)]) rfl ?_
  refine sim_wh1 (fun (x3 : Int) => [(0, vR p), (1, vI a1), (2, vI a2), (3, vI x3)]) (fun (x3 : Int) => σ) ?_ n v1
  intro rc2 hrc2 x3
  refine sim_iload_n 3 rfl dX3_stoneWith_2 ?_
  refine sim_aload_n 0 rfl dX3_stoneWith_3 ?_
  refine sim_getI g_RX3_18 (LIsl_o hp) dX3_stoneWith_4 ?_
  refine sim_icmp_ge (tgt := 58) dX3_stoneWith_7 (by decide) ?_ ?_
  · refine sim_iconst dX3_stoneWith_58 (by decide) ?_
    exact sim_iret rfl rfl dX3_stoneWith_59
  · refine sim_aload_n 0 rfl dX3_stoneWith_10 ?_
    refine sim_getR g_RX3_38 (LIsl_o hp) (LIsl_r8 hp) dX3_stoneWith_11 ?_
    refine sim_iload_n 3 rfl dX3_stoneWith_14 ?_
    refine sim_iaload (LIsl_a8 hp) rfl dX3_stoneWith_15 ?_
    refine sim_iload_n 1 rfl dX3_stoneWith_16 ?_
    refine sim_jn0 (pc' := 30) ([(0, vR p), (1, vI a1), (2, vI a2), (3, vI x3)]) ([]) (σ) ?_ (fun j4 hj4 => ?_)
    · refine sim_aload_n 0 rfl dX3_stoneWith_30 ?_
      refine sim_getR g_RX3_38 (LIsl_o hp) (LIsl_r8 hp) dX3_stoneWith_31 ?_
      refine sim_iload_n 3 rfl dX3_stoneWith_34 ?_
      refine sim_iaload (LIsl_a8 hp) rfl dX3_stoneWith_35 ?_
      refine sim_iload_n 2 rfl dX3_stoneWith_36 ?_
      refine sim_jn0 (pc' := 52) ([(0, vR p), (1, vI a1), (2, vI a2), (3, vI x3)]) ([]) (σ) ?_ (fun j5 hj5 => ?_)
      · refine sim_iinc 3 rfl (fun v6 => [(3, vI v6), (0, vR p), (1, vI a1), (2, vI a2)]) (fun _ => rfl) (by decide) dX3_stoneWith_52 (fun v6 => ?_)
        refine sim_goto (tgt := 2) dX3_stoneWith_55 (by decide) ?_
        exact sim_sub [1, 2, 3, 0] rfl (hrc2 v6)
      refine sim_icmp_ne (tgt := 52) dX3_stoneWith_37 (by decide) ?_ ?_
      · exact sim_sub [0, 1, 2, 3] rfl (hj5 )
      · refine sim_aload_n 0 rfl dX3_stoneWith_40 ?_
        refine sim_getR g_RX3_42 (LIsl_o hp) (LIsl_r9 hp) dX3_stoneWith_41 ?_
        refine sim_iload_n 3 rfl dX3_stoneWith_44 ?_
        refine sim_iaload (LIsl_a9 hp) rfl dX3_stoneWith_45 ?_
        refine sim_iload_n 1 rfl dX3_stoneWith_46 ?_
        refine sim_icmp_ne (tgt := 52) dX3_stoneWith_47 (by decide) ?_ ?_
        · exact sim_sub [0, 1, 2, 3] rfl (hj5 )
        · refine sim_iload_n 3 rfl dX3_stoneWith_50 ?_
          exact sim_iret rfl rfl dX3_stoneWith_51
    refine sim_icmp_ne (tgt := 30) dX3_stoneWith_17 (by decide) ?_ ?_
    · exact sim_sub [0, 1, 2, 3] rfl (hj4 )
    · refine sim_aload_n 0 rfl dX3_stoneWith_20 ?_
      refine sim_getR g_RX3_42 (LIsl_o hp) (LIsl_r9 hp) dX3_stoneWith_21 ?_
      refine sim_iload_n 3 rfl dX3_stoneWith_24 ?_
      refine sim_iaload (LIsl_a9 hp) rfl dX3_stoneWith_25 ?_
      refine sim_iload_n 2 rfl dX3_stoneWith_26 ?_
      refine sim_icmp_eq (tgt := 50) dX3_stoneWith_27 (by decide) ?_ ?_
      · refine sim_iload_n 3 rfl dX3_stoneWith_50 ?_
        exact sim_iret rfl rfl dX3_stoneWith_51
      · exact sim_sub [0, 1, 2, 3] rfl (hj4 )
theorem dX5_readSeen_0 : decode cX5_readSeen 0 = .ok (.aload_n 1, 1) := by decide +kernel
theorem dX5_readSeen_1 : decode cX5_readSeen 1 = .ok (.invokevirtual 72, 3) := by decide +kernel
theorem dX5_readSeen_4 : decode cX5_readSeen 4 = .ok (.aload_n 1, 1) := by decide +kernel
theorem dX5_readSeen_5 : decode cX5_readSeen 5 = .ok (.invokevirtual 85, 3) := by decide +kernel
theorem dX5_readSeen_8 : decode cX5_readSeen 8 = .ok (.ifCond .ne 5, 3) := by decide +kernel
theorem dX5_readSeen_11 : decode cX5_readSeen 11 = .ok (.iconst 0, 1) := by decide +kernel
theorem dX5_readSeen_12 : decode cX5_readSeen 12 = .ok (.ireturn, 1) := by decide +kernel
theorem dX5_readSeen_13 : decode cX5_readSeen 13 = .ok (.aload_n 2, 1) := by decide +kernel
theorem dX5_readSeen_14 : decode cX5_readSeen 14 = .ok (.aload_n 1, 1) := by decide +kernel
theorem dX5_readSeen_15 : decode cX5_readSeen 15 = .ok (.getfield 89, 3) := by decide +kernel
theorem dX5_readSeen_18 : decode cX5_readSeen 18 = .ok (.aload_n 1, 1) := by decide +kernel
theorem dX5_readSeen_19 : decode cX5_readSeen 19 = .ok (.getfield 92, 3) := by decide +kernel
theorem dX5_readSeen_22 : decode cX5_readSeen 22 = .ok (.invokevirtual 95, 3) := by decide +kernel
theorem dX5_readSeen_25 : decode cX5_readSeen 25 = .ok (.istore_n 3, 1) := by decide +kernel
theorem dX5_readSeen_26 : decode cX5_readSeen 26 = .ok (.iload_n 3, 1) := by decide +kernel
theorem dX5_readSeen_27 : decode cX5_readSeen 27 = .ok (.iconst (-1), 1) := by decide +kernel
theorem dX5_readSeen_28 : decode cX5_readSeen 28 = .ok (.if_icmp .eq 11, 3) := by decide +kernel
theorem dX5_readSeen_31 : decode cX5_readSeen 31 = .ok (.aload_n 0, 1) := by decide +kernel
theorem dX5_readSeen_32 : decode cX5_readSeen 32 = .ok (.iload_n 3, 1) := by decide +kernel
theorem dX5_readSeen_33 : decode cX5_readSeen 33 = .ok (.invokevirtual 99, 3) := by decide +kernel
theorem dX5_readSeen_36 : decode cX5_readSeen 36 = .ok (.ifCond .eq 9, 3) := by decide +kernel
theorem dX5_readSeen_39 : decode cX5_readSeen 39 = .ok (.aload_n 1, 1) := by decide +kernel
theorem dX5_readSeen_40 : decode cX5_readSeen 40 = .ok (.iconst 3, 1) := by decide +kernel
theorem dX5_readSeen_41 : decode cX5_readSeen 41 = .ok (.invokevirtual 68, 3) := by decide +kernel
theorem dX5_readSeen_44 : decode cX5_readSeen 44 = .ok (.ireturn, 1) := by decide +kernel
theorem dX5_readSeen_45 : decode cX5_readSeen 45 = .ok (.aload_n 0, 1) := by decide +kernel
theorem dX5_readSeen_46 : decode cX5_readSeen 46 = .ok (.dup, 1) := by decide +kernel
theorem dX5_readSeen_47 : decode cX5_readSeen 47 = .ok (.getfield 22, 3) := by decide +kernel
theorem dX5_readSeen_50 : decode cX5_readSeen 50 = .ok (.iconst 1, 1) := by decide +kernel
theorem dX5_readSeen_51 : decode cX5_readSeen 51 = .ok (.iload_n 3, 1) := by decide +kernel
theorem dX5_readSeen_52 : decode cX5_readSeen 52 = .ok (.ishl, 1) := by decide +kernel
theorem dX5_readSeen_53 : decode cX5_readSeen 53 = .ok (.ior, 1) := by decide +kernel
theorem dX5_readSeen_54 : decode cX5_readSeen 54 = .ok (.putfield 22, 3) := by decide +kernel
theorem dX5_readSeen_57 : decode cX5_readSeen 57 = .ok (.aload_n 1, 1) := by decide +kernel
theorem dX5_readSeen_58 : decode cX5_readSeen 58 = .ok (.invokevirtual 72, 3) := by decide +kernel
theorem dX5_readSeen_61 : decode cX5_readSeen 61 = .ok (.iconst 1, 1) := by decide +kernel
theorem dX5_readSeen_62 : decode cX5_readSeen 62 = .ok (.ireturn, 1) := by decide +kernel
def f_Mem_readSeen (n : Nat) (p : Nat) (q : Nat)  (σ : JSg) : Option (Int × JSg) :=
  bd1 (f_Tok_step n σ) fun s1 => bd2 (f_Tok_readTwoPips n s1) fun r2 s3 => if r2 = 0 then (some (0, s3)) else (bd1 (f_Isl_stoneWith n q (s3 2 10) (s3 2 11) s3) fun r4 => lt_ r4 fun v5 => jn0 (bd2 (f_Tok_fail 3 s3) fun r7 s8 => chk (r7 = 0 ∨ r7 = 1) <| some (r7, s8)) fun j6 => if v5 = (-1) then (j6) else (bd1 (f_Mem_hasSeen p v5 s3) fun r9 => if r9 = 0 then (lt_ (sp s3 p 3 (or32 (s3 p 3) (sl32 1 v5))) fun s10 => bd1 (f_Tok_step n s10) fun s11 => some (1, s11)) else (j6)))
set_option maxRecDepth 20000 in
set_option maxHeartbeats 4000000 in
theorem k_Mem_readSeen  (n : Nat) (p : Nat) (q : Nat) (hp : LMem SH RHO p) (hq : LIsl SH RHO q)  (σ : JSg) : Call yX5_readSeen cX5_readSeen 4 (some .boolean) 9 SH RHO [vR p, vR 2, vR q] σ dIm (f_Mem_readSeen n p q σ) := by
  refine call_of_sim (by decide +kernel) (Nat.le_of_ble_eq_true rfl) ?_
  show Sim RX5 cX5_readSeen 4 (some .boolean) 9 SH RHO 0 [(0, vR p), (1, vR 2), (2, vR q)] [] σ dIm (f_Mem_readSeen n p q σ)
  unfold f_Mem_readSeen
  refine sim_aload_n 1 rfl dX5_readSeen_0 ?_
  refine sim_callVVm v_RX5_72 sh_2 dX5_readSeen_1 (k_Tok_step n σ) rfl ⟨by decide, by decide⟩ (S := []) rfl (Nat.le_of_ble_eq_true rfl) (fun s1 => ?_)
  refine sim_aload_n 1 rfl dX5_readSeen_4 ?_
  refine sim_callVIm v_RX5_85 sh_2 dX5_readSeen_5 (k_Tok_readTwoPips n s1) rfl ⟨by decide, by decide⟩ (S := []) rfl (Nat.le_of_ble_eq_true rfl) (fun r2 s3 => ?_)
  refine sim_if_ne (tgt := 13) dX5_readSeen_8 (by decide) ?_ ?_
  · refine sim_aload_n 2 rfl dX5_readSeen_13 ?_
    refine sim_aload_n 1 rfl dX5_readSeen_14 ?_
    refine sim_getI g_RX5_89 sh_2 dX5_readSeen_15 ?_
    refine sim_aload_n 1 rfl dX5_readSeen_18 ?_
    refine sim_getI g_RX5_92 sh_2 dX5_readSeen_19 ?_
    refine sim_callVIp v_RX5_95 (LIsl_o hq) dX5_readSeen_22 (k_Isl_stoneWith SH RHO n q hq (s3 2 10) (s3 2 11) s3) rfl ⟨by decide, by decide⟩ (S := []) rfl (Nat.le_of_ble_eq_true rfl) (fun r4 => ?_)
    refine sim_istore_n (fun v5 => [(3, vI v5), (0, vR p), (1, vR 2), (2, vR q)]) (fun _ => rfl) (by decide) dX5_readSeen_25 (fun v5 => ?_)
    refine sim_iload_n 0 rfl dX5_readSeen_26 ?_
    refine sim_iconst dX5_readSeen_27 (by decide) ?_
    refine sim_jn0 (pc' := 39) ([(1, vR 2)]) ([]) (s3) ?_ (fun j6 hj6 => ?_)
    · refine sim_aload_n 0 rfl dX5_readSeen_39 ?_
      refine sim_iconst dX5_readSeen_40 (by decide) ?_
      refine sim_callVIm v_RX5_68 sh_2 dX5_readSeen_41 (k_Tok_fail 3 s3) rfl ⟨by decide, by decide⟩ (S := []) rfl (Nat.le_of_ble_eq_true rfl) (fun r7 s8 => ?_)
      exact sim_zretc rfl rfl dX5_readSeen_44
    refine sim_icmp_eq (tgt := 39) dX5_readSeen_28 (by decide) ?_ ?_
    · exact sim_sub [2] rfl (hj6 )
    · refine sim_aload_n 1 rfl dX5_readSeen_31 ?_
      refine sim_iload_n 0 rfl dX5_readSeen_32 ?_
      refine sim_callVIp v_RX5_99 (LMem_o hp) dX5_readSeen_33 (k_Mem_hasSeen SH RHO p hp v5 s3) rfl ⟨by decide, by decide⟩ (S := []) rfl (Nat.le_of_ble_eq_true rfl) (fun r9 => ?_)
      refine sim_if_eq (tgt := 45) dX5_readSeen_36 (by decide) ?_ ?_
      · refine sim_aload_n 1 rfl dX5_readSeen_45 ?_
        refine sim_dup rfl dX5_readSeen_46 ?_
        refine sim_getI g_RX5_22 (LMem_o hp) dX5_readSeen_47 ?_
        refine sim_iconst dX5_readSeen_50 (by decide) ?_
        refine sim_iload_n 0 rfl dX5_readSeen_51 ?_
        refine sim_ishl dX5_readSeen_52 ?_
        refine sim_ior dX5_readSeen_53 ?_
        refine sim_putI g_RX5_22 (LMem_o hp) dX5_readSeen_54 (fun s10 => ?_)
        refine sim_aload_n 2 rfl dX5_readSeen_57 ?_
        refine sim_callVVm v_RX5_72 sh_2 dX5_readSeen_58 (k_Tok_step n s10) rfl ⟨by decide, by decide⟩ (S := []) rfl (Nat.le_of_ble_eq_true rfl) (fun s11 => ?_)
        refine sim_iconst dX5_readSeen_61 (by decide) ?_
        exact sim_zret (Or.inr rfl) rfl rfl dX5_readSeen_62
      · exact sim_sub [2] rfl (hj6 )
  · refine sim_iconst dX5_readSeen_11 (by decide) ?_
    exact sim_zret (Or.inl rfl) rfl rfl dX5_readSeen_12
theorem dX5_readDeal_0 : decode cX5_readDeal 0 = .ok (.aload_n 1, 1) := by decide +kernel
theorem dX5_readDeal_1 : decode cX5_readDeal 1 = .ok (.invokevirtual 72, 3) := by decide +kernel
theorem dX5_readDeal_4 : decode cX5_readDeal 4 = .ok (.aload_n 2, 1) := by decide +kernel
theorem dX5_readDeal_5 : decode cX5_readDeal 5 = .ok (.aload_n 1, 1) := by decide +kernel
theorem dX5_readDeal_6 : decode cX5_readDeal 6 = .ok (.invokevirtual 75, 3) := by decide +kernel
theorem dX5_readDeal_9 : decode cX5_readDeal 9 = .ok (.istore_n 3, 1) := by decide +kernel
theorem dX5_readDeal_10 : decode cX5_readDeal 10 = .ok (.iload_n 3, 1) := by decide +kernel
theorem dX5_readDeal_11 : decode cX5_readDeal 11 = .ok (.iconst (-1), 1) := by decide +kernel
theorem dX5_readDeal_12 : decode cX5_readDeal 12 = .ok (.if_icmp .ne 5, 3) := by decide +kernel
theorem dX5_readDeal_15 : decode cX5_readDeal 15 = .ok (.iconst 0, 1) := by decide +kernel
theorem dX5_readDeal_16 : decode cX5_readDeal 16 = .ok (.ireturn, 1) := by decide +kernel
theorem dX5_readDeal_17 : decode cX5_readDeal 17 = .ok (.aload_n 0, 1) := by decide +kernel
theorem dX5_readDeal_18 : decode cX5_readDeal 18 = .ok (.getfield 15, 3) := by decide +kernel
theorem dX5_readDeal_21 : decode cX5_readDeal 21 = .ok (.iload_n 3, 1) := by decide +kernel
theorem dX5_readDeal_22 : decode cX5_readDeal 22 = .ok (.ishr, 1) := by decide +kernel
theorem dX5_readDeal_23 : decode cX5_readDeal 23 = .ok (.iconst 1, 1) := by decide +kernel
theorem dX5_readDeal_24 : decode cX5_readDeal 24 = .ok (.iand, 1) := by decide +kernel
theorem dX5_readDeal_25 : decode cX5_readDeal 25 = .ok (.ifCond .eq 9, 3) := by decide +kernel
theorem dX5_readDeal_28 : decode cX5_readDeal 28 = .ok (.aload_n 1, 1) := by decide +kernel
theorem dX5_readDeal_29 : decode cX5_readDeal 29 = .ok (.iconst 3, 1) := by decide +kernel
theorem dX5_readDeal_30 : decode cX5_readDeal 30 = .ok (.invokevirtual 68, 3) := by decide +kernel
theorem dX5_readDeal_33 : decode cX5_readDeal 33 = .ok (.ireturn, 1) := by decide +kernel
theorem dX5_readDeal_34 : decode cX5_readDeal 34 = .ok (.aload_n 1, 1) := by decide +kernel
theorem dX5_readDeal_35 : decode cX5_readDeal 35 = .ok (.invokevirtual 72, 3) := by decide +kernel
theorem dX5_readDeal_38 : decode cX5_readDeal 38 = .ok (.aload_n 1, 1) := by decide +kernel
theorem dX5_readDeal_39 : decode cX5_readDeal 39 = .ok (.bipush 7, 2) := by decide +kernel
theorem dX5_readDeal_41 : decode cX5_readDeal 41 = .ok (.invokevirtual 81, 3) := by decide +kernel
theorem dX5_readDeal_44 : decode cX5_readDeal 44 = .ok (.istore 4, 2) := by decide +kernel
theorem dX5_readDeal_46 : decode cX5_readDeal 46 = .ok (.iload 4, 2) := by decide +kernel
theorem dX5_readDeal_48 : decode cX5_readDeal 48 = .ok (.iconst (-1), 1) := by decide +kernel
theorem dX5_readDeal_49 : decode cX5_readDeal 49 = .ok (.if_icmp .ne 5, 3) := by decide +kernel
theorem dX5_readDeal_52 : decode cX5_readDeal 52 = .ok (.iconst 0, 1) := by decide +kernel
theorem dX5_readDeal_53 : decode cX5_readDeal 53 = .ok (.ireturn, 1) := by decide +kernel
theorem dX5_readDeal_54 : decode cX5_readDeal 54 = .ok (.aload_n 0, 1) := by decide +kernel
theorem dX5_readDeal_55 : decode cX5_readDeal 55 = .ok (.dup, 1) := by decide +kernel
theorem dX5_readDeal_56 : decode cX5_readDeal 56 = .ok (.getfield 15, 3) := by decide +kernel
theorem dX5_readDeal_59 : decode cX5_readDeal 59 = .ok (.iconst 1, 1) := by decide +kernel
theorem dX5_readDeal_60 : decode cX5_readDeal 60 = .ok (.iload_n 3, 1) := by decide +kernel
theorem dX5_readDeal_61 : decode cX5_readDeal 61 = .ok (.ishl, 1) := by decide +kernel
theorem dX5_readDeal_62 : decode cX5_readDeal 62 = .ok (.ior, 1) := by decide +kernel
theorem dX5_readDeal_63 : decode cX5_readDeal 63 = .ok (.putfield 15, 3) := by decide +kernel
theorem dX5_readDeal_66 : decode cX5_readDeal 66 = .ok (.aload_n 0, 1) := by decide +kernel
theorem dX5_readDeal_67 : decode cX5_readDeal 67 = .ok (.getfield 18, 3) := by decide +kernel
theorem dX5_readDeal_70 : decode cX5_readDeal 70 = .ok (.iload_n 3, 1) := by decide +kernel
theorem dX5_readDeal_71 : decode cX5_readDeal 71 = .ok (.iload 4, 2) := by decide +kernel
theorem dX5_readDeal_73 : decode cX5_readDeal 73 = .ok (.iastore, 1) := by decide +kernel
theorem dX5_readDeal_74 : decode cX5_readDeal 74 = .ok (.aload_n 1, 1) := by decide +kernel
theorem dX5_readDeal_75 : decode cX5_readDeal 75 = .ok (.invokevirtual 72, 3) := by decide +kernel
theorem dX5_readDeal_78 : decode cX5_readDeal 78 = .ok (.iconst 1, 1) := by decide +kernel
theorem dX5_readDeal_79 : decode cX5_readDeal 79 = .ok (.ireturn, 1) := by decide +kernel
def f_Mem_readDeal (n : Nat) (p : Nat) (q : Nat)  (σ : JSg) : Option (Int × JSg) :=
  bd1 (f_Tok_step n σ) fun s1 => bd2 (f_Isl_widowHere n q s1) fun r2 s3 => lt_ r2 fun v4 => if v4 = (-1) then (some (0, s3)) else (if (an32 (sr32 (s3 p 1) v4) 1) = 0 then (bd1 (f_Tok_step n s3) fun s5 => bd2 (f_Tok_numberTo 7 s5) fun r6 s7 => lt_ r6 fun v8 => if v8 = (-1) then (some (0, s7)) else (lt_ (sp s7 p 1 (or32 (s7 p 1) (sl32 1 v4))) fun s9 => chk (0 ≤ v4 ∧ v4 < 6) <| lt_ (sp s9 (p + 1) v4.toNat v8) fun s10 => bd1 (f_Tok_step n s10) fun s11 => some (1, s11))) else (bd2 (f_Tok_fail 3 s3) fun r12 s13 => chk (r12 = 0 ∨ r12 = 1) <| some (r12, s13)))
set_option maxRecDepth 20000 in
set_option maxHeartbeats 4000000 in
theorem k_Mem_readDeal  (n : Nat) (p : Nat) (q : Nat) (hp : LMem SH RHO p) (hq : LIsl SH RHO q)  (σ : JSg) : Call yX5_readDeal cX5_readDeal 5 (some .boolean) 8 SH RHO [vR p, vR 2, vR q] σ dIm (f_Mem_readDeal n p q σ) := by
  refine call_of_sim (by decide +kernel) (Nat.le_of_ble_eq_true rfl) ?_
  show Sim RX5 cX5_readDeal 5 (some .boolean) 8 SH RHO 0 [(0, vR p), (1, vR 2), (2, vR q)] [] σ dIm (f_Mem_readDeal n p q σ)
  unfold f_Mem_readDeal
  refine sim_aload_n 1 rfl dX5_readDeal_0 ?_
  refine sim_callVVm v_RX5_72 sh_2 dX5_readDeal_1 (k_Tok_step n σ) rfl ⟨by decide, by decide⟩ (S := []) rfl (Nat.le_of_ble_eq_true rfl) (fun s1 => ?_)
  refine sim_aload_n 2 rfl dX5_readDeal_4 ?_
  refine sim_aload_n 1 rfl dX5_readDeal_5 ?_
  refine sim_callVIm v_RX5_75 (LIsl_o hq) dX5_readDeal_6 (k_Isl_widowHere n q hq s1) rfl ⟨by decide, by decide⟩ (S := []) rfl (Nat.le_of_ble_eq_true rfl) (fun r2 s3 => ?_)
  refine sim_istore_n (fun v4 => [(3, vI v4), (0, vR p), (1, vR 2), (2, vR q)]) (fun _ => rfl) (by decide) dX5_readDeal_9 (fun v4 => ?_)
  refine sim_iload_n 0 rfl dX5_readDeal_10 ?_
  refine sim_iconst dX5_readDeal_11 (by decide) ?_
  refine sim_icmp_ne (tgt := 17) dX5_readDeal_12 (by decide) ?_ ?_
  · refine sim_aload_n 1 rfl dX5_readDeal_17 ?_
    refine sim_getI g_RX5_15 (LMem_o hp) dX5_readDeal_18 ?_
    refine sim_iload_n 0 rfl dX5_readDeal_21 ?_
    refine sim_ishr dX5_readDeal_22 ?_
    refine sim_iconst dX5_readDeal_23 (by decide) ?_
    refine sim_iand dX5_readDeal_24 ?_
    refine sim_if_eq (tgt := 34) dX5_readDeal_25 (by decide) ?_ ?_
    · refine sim_aload_n 2 rfl dX5_readDeal_34 ?_
      refine sim_callVVm v_RX5_72 sh_2 dX5_readDeal_35 (k_Tok_step n s3) rfl ⟨by decide, by decide⟩ (S := []) rfl (Nat.le_of_ble_eq_true rfl) (fun s5 => ?_)
      refine sim_aload_n 2 rfl dX5_readDeal_38 ?_
      refine sim_bipush dX5_readDeal_39 (by decide +kernel) ?_
      refine sim_callVIm v_RX5_81 sh_2 dX5_readDeal_41 (k_Tok_numberTo 7 s5) rfl ⟨by decide, by decide⟩ (S := []) rfl (Nat.le_of_ble_eq_true rfl) (fun r6 s7 => ?_)
      refine sim_istore (fun v8 => [(4, vI v8), (3, vI v4), (0, vR p), (1, vR 2), (2, vR q)]) (fun _ => rfl) (by decide) dX5_readDeal_44 (fun v8 => ?_)
      refine sim_iload 0 rfl dX5_readDeal_46 ?_
      refine sim_iconst dX5_readDeal_48 (by decide) ?_
      refine sim_icmp_ne (tgt := 54) dX5_readDeal_49 (by decide) ?_ ?_
      · refine sim_aload_n 2 rfl dX5_readDeal_54 ?_
        refine sim_dup rfl dX5_readDeal_55 ?_
        refine sim_getI g_RX5_15 (LMem_o hp) dX5_readDeal_56 ?_
        refine sim_iconst dX5_readDeal_59 (by decide) ?_
        refine sim_iload_n 1 rfl dX5_readDeal_60 ?_
        refine sim_ishl dX5_readDeal_61 ?_
        refine sim_ior dX5_readDeal_62 ?_
        refine sim_putI g_RX5_15 (LMem_o hp) dX5_readDeal_63 (fun s9 => ?_)
        refine sim_aload_n 2 rfl dX5_readDeal_66 ?_
        refine sim_getR g_RX5_18 (LMem_o hp) (LMem_r2 hp) dX5_readDeal_67 ?_
        refine sim_iload_n 1 rfl dX5_readDeal_70 ?_
        refine sim_iload 0 rfl dX5_readDeal_71 ?_
        refine sim_iastore (LMem_a2 hp) rfl dX5_readDeal_73 (fun s10 => ?_)
        refine sim_aload_n 3 rfl dX5_readDeal_74 ?_
        refine sim_callVVm v_RX5_72 sh_2 dX5_readDeal_75 (k_Tok_step n s10) rfl ⟨by decide, by decide⟩ (S := []) rfl (Nat.le_of_ble_eq_true rfl) (fun s11 => ?_)
        refine sim_iconst dX5_readDeal_78 (by decide) ?_
        exact sim_zret (Or.inr rfl) rfl rfl dX5_readDeal_79
      · refine sim_iconst dX5_readDeal_52 (by decide) ?_
        exact sim_zret (Or.inl rfl) rfl rfl dX5_readDeal_53
    · refine sim_aload_n 2 rfl dX5_readDeal_28 ?_
      refine sim_iconst dX5_readDeal_29 (by decide) ?_
      refine sim_callVIm v_RX5_68 sh_2 dX5_readDeal_30 (k_Tok_fail 3 s3) rfl ⟨by decide, by decide⟩ (S := []) rfl (Nat.le_of_ble_eq_true rfl) (fun r12 s13 => ?_)
      exact sim_zretc rfl rfl dX5_readDeal_33
  · refine sim_iconst dX5_readDeal_15 (by decide) ?_
    exact sim_zret (Or.inl rfl) rfl rfl dX5_readDeal_16
theorem dX5_readLine_0 : decode cX5_readLine 0 = .ok (.aload_n 1, 1) := by decide +kernel
theorem dX5_readLine_1 : decode cX5_readLine 1 = .ok (.getfield 56, 3) := by decide +kernel
theorem dX5_readLine_4 : decode cX5_readLine 4 = .ok (.tableswitch 49 6 8 #[28, 35, 42], 28) := by decide +kernel
theorem dX5_readLine_32 : decode cX5_readLine 32 = .ok (.aload_n 0, 1) := by decide +kernel
theorem dX5_readLine_33 : decode cX5_readLine 33 = .ok (.aload_n 1, 1) := by decide +kernel
theorem dX5_readLine_34 : decode cX5_readLine 34 = .ok (.aload_n 2, 1) := by decide +kernel
theorem dX5_readLine_35 : decode cX5_readLine 35 = .ok (.invokevirtual 59, 3) := by decide +kernel
theorem dX5_readLine_38 : decode cX5_readLine 38 = .ok (.ireturn, 1) := by decide +kernel
theorem dX5_readLine_39 : decode cX5_readLine 39 = .ok (.aload_n 0, 1) := by decide +kernel
theorem dX5_readLine_40 : decode cX5_readLine 40 = .ok (.aload_n 1, 1) := by decide +kernel
theorem dX5_readLine_41 : decode cX5_readLine 41 = .ok (.aload_n 2, 1) := by decide +kernel
theorem dX5_readLine_42 : decode cX5_readLine 42 = .ok (.invokevirtual 62, 3) := by decide +kernel
theorem dX5_readLine_45 : decode cX5_readLine 45 = .ok (.ireturn, 1) := by decide +kernel
theorem dX5_readLine_46 : decode cX5_readLine 46 = .ok (.aload_n 0, 1) := by decide +kernel
theorem dX5_readLine_47 : decode cX5_readLine 47 = .ok (.aload_n 1, 1) := by decide +kernel
theorem dX5_readLine_48 : decode cX5_readLine 48 = .ok (.aload_n 2, 1) := by decide +kernel
theorem dX5_readLine_49 : decode cX5_readLine 49 = .ok (.invokevirtual 65, 3) := by decide +kernel
theorem dX5_readLine_52 : decode cX5_readLine 52 = .ok (.ireturn, 1) := by decide +kernel
theorem dX5_readLine_53 : decode cX5_readLine 53 = .ok (.aload_n 1, 1) := by decide +kernel
theorem dX5_readLine_54 : decode cX5_readLine 54 = .ok (.iconst 1, 1) := by decide +kernel
theorem dX5_readLine_55 : decode cX5_readLine 55 = .ok (.invokevirtual 68, 3) := by decide +kernel
theorem dX5_readLine_58 : decode cX5_readLine 58 = .ok (.ireturn, 1) := by decide +kernel
def f_Mem_readLine (n : Nat) (p : Nat) (q : Nat)  (σ : JSg) : Option (Int × JSg) :=
  sw_ (σ 2 6) 6 [bd2 (f_Mem_readDeal n p q σ) fun r1 s2 => chk (r1 = 0 ∨ r1 = 1) <| some (r1, s2), bd2 (f_Mem_readSeen n p q σ) fun r3 s4 => chk (r3 = 0 ∨ r3 = 1) <| some (r3, s4), bd2 (f_Mem_readPassed n p q σ) fun r5 s6 => chk (r5 = 0 ∨ r5 = 1) <| some (r5, s6)] (bd2 (f_Tok_fail 1 σ) fun r7 s8 => chk (r7 = 0 ∨ r7 = 1) <| some (r7, s8))
set_option maxRecDepth 20000 in
set_option maxHeartbeats 4000000 in
theorem k_Mem_readLine  (n : Nat) (p : Nat) (q : Nat) (hp : LMem SH RHO p) (hq : LIsl SH RHO q)  (σ : JSg) : Call yX5_readLine cX5_readLine 3 (some .boolean) 10 SH RHO [vR p, vR 2, vR q] σ dIm (f_Mem_readLine n p q σ) := by
  refine call_of_sim (by decide +kernel) (Nat.le_of_ble_eq_true rfl) ?_
  show Sim RX5 cX5_readLine 3 (some .boolean) 10 SH RHO 0 [(0, vR p), (1, vR 2), (2, vR q)] [] σ dIm (f_Mem_readLine n p q σ)
  unfold f_Mem_readLine
  refine sim_aload_n 1 rfl dX5_readLine_0 ?_
  refine sim_getI g_RX5_56 sh_2 dX5_readLine_1 ?_
  refine sim_tsw2 (td := 53) [32, 39, 46] dX5_readLine_4 (by decide) (by decide) (tsw_of (by decide +kernel)) ⟨?_, ?_, ?_, trivial⟩ ?_
  · refine sim_aload_n 0 rfl dX5_readLine_32 ?_
    refine sim_aload_n 1 rfl dX5_readLine_33 ?_
    refine sim_aload_n 2 rfl dX5_readLine_34 ?_
    refine sim_callVIm v_RX5_59 (LMem_o hp) dX5_readLine_35 (k_Mem_readDeal n p q hp hq σ) rfl ⟨by decide, by decide⟩ (S := []) rfl (Nat.le_of_ble_eq_true rfl) (fun r1 s2 => ?_)
    exact sim_zretc rfl rfl dX5_readLine_38
  · refine sim_aload_n 0 rfl dX5_readLine_39 ?_
    refine sim_aload_n 1 rfl dX5_readLine_40 ?_
    refine sim_aload_n 2 rfl dX5_readLine_41 ?_
    refine sim_callVIm v_RX5_62 (LMem_o hp) dX5_readLine_42 (k_Mem_readSeen n p q hp hq σ) rfl ⟨by decide, by decide⟩ (S := []) rfl (Nat.le_of_ble_eq_true rfl) (fun r3 s4 => ?_)
    exact sim_zretc rfl rfl dX5_readLine_45
  · refine sim_aload_n 0 rfl dX5_readLine_46 ?_
    refine sim_aload_n 1 rfl dX5_readLine_47 ?_
    refine sim_aload_n 2 rfl dX5_readLine_48 ?_
    refine sim_callVIm v_RX5_65 (LMem_o hp) dX5_readLine_49 (k_Mem_readPassed n p q hp hq σ) rfl ⟨by decide, by decide⟩ (S := []) rfl (Nat.le_of_ble_eq_true rfl) (fun r5 s6 => ?_)
    exact sim_zretc rfl rfl dX5_readLine_52
  · refine sim_aload_n 1 rfl dX5_readLine_53 ?_
    refine sim_iconst dX5_readLine_54 (by decide) ?_
    refine sim_callVIm v_RX5_68 sh_2 dX5_readLine_55 (k_Tok_fail 1 σ) rfl ⟨by decide, by decide⟩ (S := []) rfl (Nat.le_of_ble_eq_true rfl) (fun r7 s8 => ?_)
    exact sim_zretc rfl rfl dX5_readLine_58
theorem dX5_readAll_0 : decode cX5_readAll 0 = .ok (.aload_n 0, 1) := by decide +kernel
theorem dX5_readAll_1 : decode cX5_readAll 1 = .ok (.invokevirtual 40, 3) := by decide +kernel
theorem dX5_readAll_4 : decode cX5_readAll 4 = .ok (.aload_n 0, 1) := by decide +kernel
theorem dX5_readAll_5 : decode cX5_readAll 5 = .ok (.getfield 11, 3) := by decide +kernel
theorem dX5_readAll_8 : decode cX5_readAll 8 = .ok (.sipush 400, 3) := by decide +kernel
theorem dX5_readAll_11 : decode cX5_readAll 11 = .ok (.if_icmp .ge 43, 3) := by decide +kernel
theorem dX5_readAll_14 : decode cX5_readAll 14 = .ok (.aload_n 1, 1) := by decide +kernel
theorem dX5_readAll_15 : decode cX5_readAll 15 = .ok (.getfield 43, 3) := by decide +kernel
theorem dX5_readAll_18 : decode cX5_readAll 18 = .ok (.ifCond .eq 36, 3) := by decide +kernel
theorem dX5_readAll_21 : decode cX5_readAll 21 = .ok (.aload_n 0, 1) := by decide +kernel
theorem dX5_readAll_22 : decode cX5_readAll 22 = .ok (.aload_n 1, 1) := by decide +kernel
theorem dX5_readAll_23 : decode cX5_readAll 23 = .ok (.aload_n 2, 1) := by decide +kernel
theorem dX5_readAll_24 : decode cX5_readAll 24 = .ok (.invokevirtual 48, 3) := by decide +kernel
theorem dX5_readAll_27 : decode cX5_readAll 27 = .ok (.ifCond .eq 12, 3) := by decide +kernel
theorem dX5_readAll_30 : decode cX5_readAll 30 = .ok (.aload_n 1, 1) := by decide +kernel
theorem dX5_readAll_31 : decode cX5_readAll 31 = .ok (.bipush 59, 2) := by decide +kernel
theorem dX5_readAll_33 : decode cX5_readAll 33 = .ok (.invokevirtual 52, 3) := by decide +kernel
theorem dX5_readAll_36 : decode cX5_readAll 36 = .ok (.ifCond .ne 5, 3) := by decide +kernel
theorem dX5_readAll_39 : decode cX5_readAll 39 = .ok (.iconst 0, 1) := by decide +kernel
theorem dX5_readAll_40 : decode cX5_readAll 40 = .ok (.ireturn, 1) := by decide +kernel
theorem dX5_readAll_41 : decode cX5_readAll 41 = .ok (.aload_n 0, 1) := by decide +kernel
theorem dX5_readAll_42 : decode cX5_readAll 42 = .ok (.dup, 1) := by decide +kernel
theorem dX5_readAll_43 : decode cX5_readAll 43 = .ok (.getfield 11, 3) := by decide +kernel
theorem dX5_readAll_46 : decode cX5_readAll 46 = .ok (.iconst 1, 1) := by decide +kernel
theorem dX5_readAll_47 : decode cX5_readAll 47 = .ok (.iadd, 1) := by decide +kernel
theorem dX5_readAll_48 : decode cX5_readAll 48 = .ok (.putfield 11, 3) := by decide +kernel
theorem dX5_readAll_51 : decode cX5_readAll 51 = .ok (.goto (-47), 3) := by decide +kernel
theorem dX5_readAll_54 : decode cX5_readAll 54 = .ok (.iconst 1, 1) := by decide +kernel
theorem dX5_readAll_55 : decode cX5_readAll 55 = .ok (.ireturn, 1) := by decide +kernel
def f_Mem_readAll (n : Nat) (p : Nat) (q : Nat)  (σ : JSg) : Option (Int × JSg) :=
  bd1 (f_Mem_clear n p σ) fun s1 => wh1 n (fun rc2  (s3 : JSg) => if (s3 p 0) < 400 then (if (s3 2 4) = 0 then (some (1, s3)) else (bd2 (f_Mem_readLine n p q s3) fun r4 s5 => if r4 = 0 then (some (0, s5)) else (bd2 (f_Tok_passes n 59 s5) fun r6 s7 => if r6 = 0 then (some (0, s7)) else (lt_ (sp s7 p 0 (w32 ((s7 p 0) + 1))) fun s8 => rc2 s8)))) else (some (1, s3))) s1
set_option maxRecDepth 20000 in
set_option maxHeartbeats 4000000 in
theorem k_Mem_readAll  (n : Nat) (p : Nat) (q : Nat) (hp : LMem SH RHO p) (hq : LIsl SH RHO q)  (σ : JSg) : Call yX5_readAll cX5_readAll 3 (some .boolean) 11 SH RHO [vR p, vR 2, vR q] σ dIm (f_Mem_readAll n p q σ) := by
  refine call_of_sim (by decide +kernel) (Nat.le_of_ble_eq_true rfl) ?_
  show Sim RX5 cX5_readAll 3 (some .boolean) 11 SH RHO 0 [(0, vR p), (1, vR 2), (2, vR q)] [] σ dIm (f_Mem_readAll n p q σ)
  unfold f_Mem_readAll
  refine sim_aload_n 0 rfl dX5_readAll_0 ?_
  refine sim_callVVm v_RX5_40 (LMem_o hp) dX5_readAll_1 (k_Mem_clear SH RHO n p hp σ) rfl ⟨by decide, by decide⟩ (S := []) rfl (Nat.le_of_ble_eq_true rfl) (fun s1 => ?_)
  refine sim_sub [0, 1, 2] (L' := [(0, vR p), (1, vR 2), (2, vR q)]) rfl ?_
  refine sim_wh1 (fun  (s3 : JSg) => [(0, vR p), (1, vR 2), (2, vR q)]) (fun  (s3 : JSg) => s3) ?_ n s1
  intro rc2 hrc2 s3
  refine sim_aload_n 0 rfl dX5_readAll_4 ?_
  refine sim_getI g_RX5_11 (LMem_o hp) dX5_readAll_5 ?_
  refine sim_sipush dX5_readAll_8 (by decide +kernel) ?_
  refine sim_icmp_ge (tgt := 54) dX5_readAll_11 (by decide) ?_ ?_
  · refine sim_iconst dX5_readAll_54 (by decide) ?_
    exact sim_zret (Or.inr rfl) rfl rfl dX5_readAll_55
  · refine sim_aload_n 1 rfl dX5_readAll_14 ?_
    refine sim_getI g_RX5_43 sh_2 dX5_readAll_15 ?_
    refine sim_if_eq (tgt := 54) dX5_readAll_18 (by decide) ?_ ?_
    · refine sim_iconst dX5_readAll_54 (by decide) ?_
      exact sim_zret (Or.inr rfl) rfl rfl dX5_readAll_55
    · refine sim_aload_n 0 rfl dX5_readAll_21 ?_
      refine sim_aload_n 1 rfl dX5_readAll_22 ?_
      refine sim_aload_n 2 rfl dX5_readAll_23 ?_
      refine sim_callVIm v_RX5_48 (LMem_o hp) dX5_readAll_24 (k_Mem_readLine n p q hp hq s3) rfl ⟨by decide, by decide⟩ (S := []) rfl (Nat.le_of_ble_eq_true rfl) (fun r4 s5 => ?_)
      refine sim_if_eq (tgt := 39) dX5_readAll_27 (by decide) ?_ ?_
      · refine sim_iconst dX5_readAll_39 (by decide) ?_
        exact sim_zret (Or.inl rfl) rfl rfl dX5_readAll_40
      · refine sim_aload_n 1 rfl dX5_readAll_30 ?_
        refine sim_bipush dX5_readAll_31 (by decide +kernel) ?_
        refine sim_callVIm v_RX5_52 sh_2 dX5_readAll_33 (k_Tok_passes n 59 s5) rfl ⟨by decide, by decide⟩ (S := []) rfl (Nat.le_of_ble_eq_true rfl) (fun r6 s7 => ?_)
        refine sim_if_ne (tgt := 41) dX5_readAll_36 (by decide) ?_ ?_
        · refine sim_aload_n 0 rfl dX5_readAll_41 ?_
          refine sim_dup rfl dX5_readAll_42 ?_
          refine sim_getI g_RX5_11 (LMem_o hp) dX5_readAll_43 ?_
          refine sim_iconst dX5_readAll_46 (by decide) ?_
          refine sim_iadd dX5_readAll_47 ?_
          refine sim_putI g_RX5_11 (LMem_o hp) dX5_readAll_48 (fun s8 => ?_)
          refine sim_goto (tgt := 4) dX5_readAll_51 (by decide) ?_
          exact sim_sub [0, 1, 2] rfl (hrc2 s8)
        · refine sim_iconst dX5_readAll_39 (by decide) ?_
          exact sim_zret (Or.inl rfl) rfl rfl dX5_readAll_40
theorem dX11_memory_0 : decode cX11_memory 0 = .ok (.aload_n 0, 1) := by decide +kernel
theorem dX11_memory_1 : decode cX11_memory 1 = .ok (.sipush 400, 3) := by decide +kernel
theorem dX11_memory_4 : decode cX11_memory 4 = .ok (.invokevirtual 130, 3) := by decide +kernel
theorem dX11_memory_7 : decode cX11_memory 7 = .ok (.aload_n 0, 1) := by decide +kernel
theorem dX11_memory_8 : decode cX11_memory 8 = .ok (.getfield 33, 3) := by decide +kernel
theorem dX11_memory_11 : decode cX11_memory 11 = .ok (.getfield 98, 3) := by decide +kernel
theorem dX11_memory_14 : decode cX11_memory 14 = .ok (.aload_n 0, 1) := by decide +kernel
theorem dX11_memory_15 : decode cX11_memory 15 = .ok (.getfield 22, 3) := by decide +kernel
theorem dX11_memory_18 : decode cX11_memory 18 = .ok (.aload_n 0, 1) := by decide +kernel
theorem dX11_memory_19 : decode cX11_memory 19 = .ok (.getfield 29, 3) := by decide +kernel
theorem dX11_memory_22 : decode cX11_memory 22 = .ok (.getfield 54, 3) := by decide +kernel
theorem dX11_memory_25 : decode cX11_memory 25 = .ok (.invokevirtual 300, 3) := by decide +kernel
theorem dX11_memory_28 : decode cX11_memory 28 = .ok (.ifCond .ne 13, 3) := by decide +kernel
theorem dX11_memory_31 : decode cX11_memory 31 = .ok (.iconst (-1), 1) := by decide +kernel
theorem dX11_memory_32 : decode cX11_memory 32 = .ok (.aload_n 0, 1) := by decide +kernel
theorem dX11_memory_33 : decode cX11_memory 33 = .ok (.getfield 22, 3) := by decide +kernel
theorem dX11_memory_36 : decode cX11_memory 36 = .ok (.getfield 137, 3) := by decide +kernel
theorem dX11_memory_39 : decode cX11_memory 39 = .ok (.isub, 1) := by decide +kernel
theorem dX11_memory_40 : decode cX11_memory 40 = .ok (.ireturn, 1) := by decide +kernel
theorem dX11_memory_41 : decode cX11_memory 41 = .ok (.aload_n 0, 1) := by decide +kernel
theorem dX11_memory_42 : decode cX11_memory 42 = .ok (.getfield 29, 3) := by decide +kernel
theorem dX11_memory_45 : decode cX11_memory 45 = .ok (.getfield 98, 3) := by decide +kernel
theorem dX11_memory_48 : decode cX11_memory 48 = .ok (.aload_n 0, 1) := by decide +kernel
theorem dX11_memory_49 : decode cX11_memory 49 = .ok (.getfield 33, 3) := by decide +kernel
theorem dX11_memory_52 : decode cX11_memory 52 = .ok (.getfield 98, 3) := by decide +kernel
theorem dX11_memory_55 : decode cX11_memory 55 = .ok (.invokevirtual 303, 3) := by decide +kernel
theorem dX11_memory_58 : decode cX11_memory 58 = .ok (.aload_n 0, 1) := by decide +kernel
theorem dX11_memory_59 : decode cX11_memory 59 = .ok (.getfield 29, 3) := by decide +kernel
theorem dX11_memory_62 : decode cX11_memory 62 = .ok (.getfield 98, 3) := by decide +kernel
theorem dX11_memory_65 : decode cX11_memory 65 = .ok (.getfield 306, 3) := by decide +kernel
theorem dX11_memory_68 : decode cX11_memory 68 = .ok (.ireturn, 1) := by decide +kernel
def f_W_memory (n : Nat)   (σ : JSg) : Option (Int × JSg) :=
  bd1 (f_W_takeTape n 400 σ) fun s1 => bd2 (f_Mem_readAll n 41 4 s1) fun r2 s3 => if r2 = 0 then (some (w32 ((-1) - (s3 2 13)), s3)) else (bd1 (f_Mem_copyFrom 18 41 s3) fun s4 => some (s4 18 0, s4))
set_option maxRecDepth 20000 in
set_option maxHeartbeats 4000000 in
theorem k_W_memory  (n : Nat)    (σ : JSg) : Call yX11_memory cX11_memory 1 (some .int) 12 SH RHO [vR 0] σ dIm (f_W_memory n σ) := by
  refine call_of_sim (by decide +kernel) (Nat.le_of_ble_eq_true rfl) ?_
  show Sim RX11 cX11_memory 1 (some .int) 12 SH RHO 0 [(0, vR 0)] [] σ dIm (f_W_memory n σ)
  unfold f_W_memory
  refine sim_aload_n 0 rfl dX11_memory_0 ?_
  refine sim_sipush dX11_memory_1 (by decide +kernel) ?_
  refine sim_callVVm v_RX11_130 sh_0 dX11_memory_4 (k_W_takeTape n 400 σ) rfl ⟨by decide, by decide⟩ (S := []) rfl (Nat.le_of_ble_eq_true rfl) (fun s1 => ?_)
  refine sim_aload_n 0 rfl dX11_memory_7 ?_
  refine sim_getR g_RX11_33 sh_0 rh_0_4 dX11_memory_8 ?_
  refine sim_getR g_RX11_98 (LWld_o lay_26) rh_26_2 dX11_memory_11 ?_
  refine sim_aload_n 0 rfl dX11_memory_14 ?_
  refine sim_getR g_RX11_22 sh_0 rh_0_2 dX11_memory_15 ?_
  refine sim_aload_n 0 rfl dX11_memory_18 ?_
  refine sim_getR g_RX11_29 sh_0 rh_0_3 dX11_memory_19 ?_
  refine sim_getR g_RX11_54 (LWld_o lay_3) rh_3_0 dX11_memory_22 ?_
  refine sim_callVIm v_RX11_300 (LMem_o lay_41) dX11_memory_25 (k_Mem_readAll n 41 4 lay_41 lay_4 s1) rfl ⟨by decide, by decide⟩ (S := []) rfl (Nat.le_of_ble_eq_true rfl) (fun r2 s3 => ?_)
  refine sim_if_ne (tgt := 41) dX11_memory_28 (by decide) ?_ ?_
  · refine sim_aload_n 0 rfl dX11_memory_41 ?_
    refine sim_getR g_RX11_29 sh_0 rh_0_3 dX11_memory_42 ?_
    refine sim_getR g_RX11_98 (LWld_o lay_3) rh_3_2 dX11_memory_45 ?_
    refine sim_aload_n 0 rfl dX11_memory_48 ?_
    refine sim_getR g_RX11_33 sh_0 rh_0_4 dX11_memory_49 ?_
    refine sim_getR g_RX11_98 (LWld_o lay_26) rh_26_2 dX11_memory_52 ?_
    refine sim_callVVm v_RX11_303 (LMem_o lay_18) dX11_memory_55 (k_Mem_copyFrom SH RHO 18 41 lay_18 lay_41 s3) rfl ⟨by decide, by decide⟩ (S := []) rfl (Nat.le_of_ble_eq_true rfl) (fun s4 => ?_)
    refine sim_aload_n 0 rfl dX11_memory_58 ?_
    refine sim_getR g_RX11_29 sh_0 rh_0_3 dX11_memory_59 ?_
    refine sim_getR g_RX11_98 (LWld_o lay_3) rh_3_2 dX11_memory_62 ?_
    refine sim_getI g_RX11_306 (LMem_o lay_18) dX11_memory_65 ?_
    exact sim_iret rfl rfl dX11_memory_68
  · refine sim_iconst dX11_memory_31 (by decide) ?_
    refine sim_aload_n 0 rfl dX11_memory_32 ?_
    refine sim_getR g_RX11_22 sh_0 rh_0_2 dX11_memory_33 ?_
    refine sim_getI g_RX11_137 sh_2 dX11_memory_36 ?_
    refine sim_isub dX11_memory_39 ?_
    exact sim_iret rfl rfl dX11_memory_40
theorem dX7_putFirst_0 : decode cX7_putFirst 0 = .ok (.iconst 0, 1) := by decide +kernel
theorem dX7_putFirst_1 : decode cX7_putFirst 1 = .ok (.istore_n 1, 1) := by decide +kernel
theorem dX7_putFirst_2 : decode cX7_putFirst 2 = .ok (.iload_n 1, 1) := by decide +kernel
theorem dX7_putFirst_3 : decode cX7_putFirst 3 = .ok (.aload_n 0, 1) := by decide +kernel
theorem dX7_putFirst_4 : decode cX7_putFirst 4 = .ok (.getfield 34, 3) := by decide +kernel
theorem dX7_putFirst_7 : decode cX7_putFirst 7 = .ok (.getfield 55, 3) := by decide +kernel
theorem dX7_putFirst_10 : decode cX7_putFirst 10 = .ok (.if_icmp .ge 45, 3) := by decide +kernel
theorem dX7_putFirst_13 : decode cX7_putFirst 13 = .ok (.iconst 0, 1) := by decide +kernel
theorem dX7_putFirst_14 : decode cX7_putFirst 14 = .ok (.istore_n 2, 1) := by decide +kernel
theorem dX7_putFirst_15 : decode cX7_putFirst 15 = .ok (.iload_n 2, 1) := by decide +kernel
theorem dX7_putFirst_16 : decode cX7_putFirst 16 = .ok (.iconst 1, 1) := by decide +kernel
theorem dX7_putFirst_17 : decode cX7_putFirst 17 = .ok (.if_icmp .gt 32, 3) := by decide +kernel
theorem dX7_putFirst_20 : decode cX7_putFirst 20 = .ok (.aload_n 0, 1) := by decide +kernel
theorem dX7_putFirst_21 : decode cX7_putFirst 21 = .ok (.aload_n 0, 1) := by decide +kernel
theorem dX7_putFirst_22 : decode cX7_putFirst 22 = .ok (.getfield 9, 3) := by decide +kernel
theorem dX7_putFirst_25 : decode cX7_putFirst 25 = .ok (.iload_n 1, 1) := by decide +kernel
theorem dX7_putFirst_26 : decode cX7_putFirst 26 = .ok (.iaload, 1) := by decide +kernel
theorem dX7_putFirst_27 : decode cX7_putFirst 27 = .ok (.iload_n 1, 1) := by decide +kernel
theorem dX7_putFirst_28 : decode cX7_putFirst 28 = .ok (.iload_n 2, 1) := by decide +kernel
theorem dX7_putFirst_29 : decode cX7_putFirst 29 = .ok (.invokevirtual 91, 3) := by decide +kernel
theorem dX7_putFirst_32 : decode cX7_putFirst 32 = .ok (.ifCond .ne 11, 3) := by decide +kernel
theorem dX7_putFirst_35 : decode cX7_putFirst 35 = .ok (.aload_n 0, 1) := by decide +kernel
theorem dX7_putFirst_36 : decode cX7_putFirst 36 = .ok (.iload_n 1, 1) := by decide +kernel
theorem dX7_putFirst_37 : decode cX7_putFirst 37 = .ok (.iload_n 2, 1) := by decide +kernel
theorem dX7_putFirst_38 : decode cX7_putFirst 38 = .ok (.invokevirtual 106, 3) := by decide +kernel
theorem dX7_putFirst_41 : decode cX7_putFirst 41 = .ok (.iconst 1, 1) := by decide +kernel
theorem dX7_putFirst_42 : decode cX7_putFirst 42 = .ok (.ireturn, 1) := by decide +kernel
theorem dX7_putFirst_43 : decode cX7_putFirst 43 = .ok (.iinc 2 1, 3) := by decide +kernel
theorem dX7_putFirst_46 : decode cX7_putFirst 46 = .ok (.goto (-31), 3) := by decide +kernel
theorem dX7_putFirst_49 : decode cX7_putFirst 49 = .ok (.iinc 1 1, 3) := by decide +kernel
theorem dX7_putFirst_52 : decode cX7_putFirst 52 = .ok (.goto (-50), 3) := by decide +kernel
theorem dX7_putFirst_55 : decode cX7_putFirst 55 = .ok (.iconst 0, 1) := by decide +kernel
theorem dX7_putFirst_56 : decode cX7_putFirst 56 = .ok (.ireturn, 1) := by decide +kernel
def f_Row_putFirst (n : Nat) (p : Nat) (ip : Nat)  (σ : JSg) : Option (Int × JSg) :=
  lt_ 0 fun v1 => wh1 n (fun rc2 (x3 : Int) => if x3 < (σ ip 2) then (lt_ 0 fun v4 => wh1 n (fun rc5 (x6 : Int) => if 1 < x6 then (lt_ (w32 (x3 + 1)) fun v7 => rc2 v7) else (chk (0 ≤ x3 ∧ x3 < 28) <| bd1 (f_Row_refusal p ip (σ (p + 1) x3.toNat) x3 x6 σ) fun r8 => if r8 = 0 then (bd1 (f_Row_put n p ip x3 x6 σ) fun s10 => some (1, s10)) else (lt_ (w32 (x6 + 1)) fun v9 => rc5 v9))) v4) else (some (0, σ))) v1
set_option maxRecDepth 20000 in
set_option maxHeartbeats 4000000 in
theorem k_Row_putFirst (Sh : JSh) (ρ : JRo) (n : Nat) (p : Nat) (ip : Nat) (hp : LRow Sh ρ p ip) (hip : LIsl Sh ρ ip)  (σ : JSg) : Call yX7_putFirst cX7_putFirst 3 (some .boolean) 4 Sh ρ [vR p] σ dIm (f_Row_putFirst n p ip σ) := by
  refine call_of_sim (by decide +kernel) (Nat.le_of_ble_eq_true rfl) ?_
  show Sim RX7 cX7_putFirst 3 (some .boolean) 4 Sh ρ 0 [(0, vR p)] [] σ dIm (f_Row_putFirst n p ip σ)
  unfold f_Row_putFirst
  refine sim_iconst dX7_putFirst_0 (by decide) ?_
  refine sim_istore_n (fun v1 => [(1, vI v1), (0, vR p)]) (fun _ => rfl) (by decide) dX7_putFirst_1 (fun v1 => ?_)
  refine sim_sub [1, 0] (L' := [(0, vR p), (1, vI v1)]) rfl ?_
  refine sim_wh1 (fun (x3 : Int) => [(0, vR p), (1, vI x3)]) (fun (x3 : Int) => σ) ?_ n v1
  intro rc2 hrc2 x3
  refine sim_iload_n 1 rfl dX7_putFirst_2 ?_
  refine sim_aload_n 0 rfl dX7_putFirst_3 ?_
  refine sim_getR g_RX7_34 (LRow_o hp) (LRow_r0 hp) dX7_putFirst_4 ?_
  refine sim_getI g_RX7_55 (LIsl_o hip) dX7_putFirst_7 ?_
  refine sim_icmp_ge (tgt := 55) dX7_putFirst_10 (by decide) ?_ ?_
  · refine sim_iconst dX7_putFirst_55 (by decide) ?_
    exact sim_zret (Or.inl rfl) rfl rfl dX7_putFirst_56
  · refine sim_iconst dX7_putFirst_13 (by decide) ?_
    refine sim_istore_n (fun v4 => [(2, vI v4), (0, vR p), (1, vI x3)]) (fun _ => rfl) (by decide) dX7_putFirst_14 (fun v4 => ?_)
    refine sim_sub [1, 2, 0] (L' := [(0, vR p), (1, vI x3), (2, vI v4)]) rfl ?_
    refine sim_wh1 (fun (x6 : Int) => [(0, vR p), (1, vI x3), (2, vI x6)]) (fun (x6 : Int) => σ) ?_ n v4
    intro rc5 hrc5 x6
    refine sim_iload_n 2 rfl dX7_putFirst_15 ?_
    refine sim_iconst dX7_putFirst_16 (by decide) ?_
    refine sim_icmp_gt (tgt := 49) dX7_putFirst_17 (by decide) ?_ ?_
    · refine sim_iinc 1 rfl (fun v7 => [(1, vI v7), (0, vR p), (2, vI x6)]) (fun _ => rfl) (by decide) dX7_putFirst_49 (fun v7 => ?_)
      refine sim_goto (tgt := 2) dX7_putFirst_52 (by decide) ?_
      exact sim_sub [1, 0] rfl (hrc2 v7)
    · refine sim_aload_n 0 rfl dX7_putFirst_20 ?_
      refine sim_aload_n 0 rfl dX7_putFirst_21 ?_
      refine sim_getR g_RX7_9 (LRow_o hp) (LRow_r1 hp) dX7_putFirst_22 ?_
      refine sim_iload_n 1 rfl dX7_putFirst_25 ?_
      refine sim_iaload (LRow_a1 hp) rfl dX7_putFirst_26 ?_
      refine sim_iload_n 1 rfl dX7_putFirst_27 ?_
      refine sim_iload_n 2 rfl dX7_putFirst_28 ?_
      refine sim_callVIp v_RX7_91 (LRow_o hp) dX7_putFirst_29 (k_Row_refusal Sh ρ p ip hp hip (σ (p + 1) x3.toNat) x3 x6 σ) rfl ⟨by decide, by decide⟩ (S := []) rfl (Nat.le_of_ble_eq_true rfl) (fun r8 => ?_)
      refine sim_if_ne (tgt := 43) dX7_putFirst_32 (by decide) ?_ ?_
      · refine sim_iinc 2 rfl (fun v9 => [(2, vI v9), (0, vR p), (1, vI x3)]) (fun _ => rfl) (by decide) dX7_putFirst_43 (fun v9 => ?_)
        refine sim_goto (tgt := 15) dX7_putFirst_46 (by decide) ?_
        exact sim_sub [1, 2, 0] rfl (hrc5 v9)
      · refine sim_aload_n 0 rfl dX7_putFirst_35 ?_
        refine sim_iload_n 1 rfl dX7_putFirst_36 ?_
        refine sim_iload_n 2 rfl dX7_putFirst_37 ?_
        refine sim_callVVm v_RX7_106 (LRow_o hp) dX7_putFirst_38 (k_Row_put Sh ρ n p ip hp hip x3 x6 σ) rfl ⟨by decide, by decide⟩ (S := []) rfl (Nat.le_of_ble_eq_true rfl) (fun s10 => ?_)
        refine sim_iconst dX7_putFirst_41 (by decide) ?_
        exact sim_zret (Or.inr rfl) rfl rfl dX7_putFirst_42
theorem dX11_greedy_0 : decode cX11_greedy 0 = .ok (.aload_n 0, 1) := by decide +kernel
theorem dX11_greedy_1 : decode cX11_greedy 1 = .ok (.getfield 61, 3) := by decide +kernel
theorem dX11_greedy_4 : decode cX11_greedy 4 = .ok (.aload_n 0, 1) := by decide +kernel
theorem dX11_greedy_5 : decode cX11_greedy 5 = .ok (.getfield 29, 3) := by decide +kernel
theorem dX11_greedy_8 : decode cX11_greedy 8 = .ok (.getfield 72, 3) := by decide +kernel
theorem dX11_greedy_11 : decode cX11_greedy 11 = .ok (.invokevirtual 243, 3) := by decide +kernel
theorem dX11_greedy_14 : decode cX11_greedy 14 = .ok (.iconst 0, 1) := by decide +kernel
theorem dX11_greedy_15 : decode cX11_greedy 15 = .ok (.istore_n 1, 1) := by decide +kernel
theorem dX11_greedy_16 : decode cX11_greedy 16 = .ok (.iload_n 1, 1) := by decide +kernel
theorem dX11_greedy_17 : decode cX11_greedy 17 = .ok (.bipush 28, 2) := by decide +kernel
theorem dX11_greedy_19 : decode cX11_greedy 19 = .ok (.if_icmp .ge 19, 3) := by decide +kernel
theorem dX11_greedy_22 : decode cX11_greedy 22 = .ok (.aload_n 0, 1) := by decide +kernel
theorem dX11_greedy_23 : decode cX11_greedy 23 = .ok (.getfield 61, 3) := by decide +kernel
theorem dX11_greedy_26 : decode cX11_greedy 26 = .ok (.invokevirtual 294, 3) := by decide +kernel
theorem dX11_greedy_29 : decode cX11_greedy 29 = .ok (.ifCond .eq 9, 3) := by decide +kernel
theorem dX11_greedy_32 : decode cX11_greedy 32 = .ok (.iinc 1 1, 3) := by decide +kernel
theorem dX11_greedy_35 : decode cX11_greedy 35 = .ok (.goto (-19), 3) := by decide +kernel
theorem dX11_greedy_38 : decode cX11_greedy 38 = .ok (.iload_n 1, 1) := by decide +kernel
theorem dX11_greedy_39 : decode cX11_greedy 39 = .ok (.ireturn, 1) := by decide +kernel
def f_W_greedy (n : Nat)   (σ : JSg) : Option (Int × JSg) :=
  bd1 (f_Row_copyFrom 96 4 11 4 σ) fun s1 => lt_ 0 fun v2 => wh2 n (fun rc3 (x4 : Int) (s5 : JSg) => if x4 < 28 then (bd2 (f_Row_putFirst n 96 4 s5) fun r6 s7 => if r6 = 0 then (some (x4, s7)) else (lt_ (w32 (x4 + 1)) fun v8 => rc3 v8 s7)) else (some (x4, s5))) v2 s1
set_option maxRecDepth 20000 in
set_option maxHeartbeats 4000000 in
theorem k_W_greedy  (n : Nat)    (σ : JSg) : Call yX11_greedy cX11_greedy 2 (some .int) 5 SH RHO [vR 0] σ dIm (f_W_greedy n σ) := by
  refine call_of_sim (by decide +kernel) (Nat.le_of_ble_eq_true rfl) ?_
  show Sim RX11 cX11_greedy 2 (some .int) 5 SH RHO 0 [(0, vR 0)] [] σ dIm (f_W_greedy n σ)
  unfold f_W_greedy
  refine sim_aload_n 0 rfl dX11_greedy_0 ?_
  refine sim_getR g_RX11_61 sh_0 rh_0_10 dX11_greedy_1 ?_
  refine sim_aload_n 0 rfl dX11_greedy_4 ?_
  refine sim_getR g_RX11_29 sh_0 rh_0_3 dX11_greedy_5 ?_
  refine sim_getR g_RX11_72 (LWld_o lay_3) rh_3_1 dX11_greedy_8 ?_
  refine sim_callVVm v_RX11_243 (LRow_o lay_96) dX11_greedy_11 (k_Row_copyFrom SH RHO 96 4 11 4 lay_96 lay_4 lay_11 lay_4 σ) rfl ⟨by decide, by decide⟩ (S := []) rfl (Nat.le_of_ble_eq_true rfl) (fun s1 => ?_)
  refine sim_iconst dX11_greedy_14 (by decide) ?_
  refine sim_istore_n (fun v2 => [(1, vI v2), (0, vR 0)]) (fun _ => rfl) (by decide) dX11_greedy_15 (fun v2 => ?_)
  refine sim_sub [1, 0] (L' := [(0, vR 0), (1, vI v2)]) rfl ?_
  refine sim_wh2 (fun (x4 : Int) (s5 : JSg) => [(0, vR 0), (1, vI x4)]) (fun (x4 : Int) (s5 : JSg) => s5) ?_ n v2 s1
  intro rc3 hrc3 x4 s5
  refine sim_iload_n 1 rfl dX11_greedy_16 ?_
  refine sim_bipush dX11_greedy_17 (by decide +kernel) ?_
  refine sim_icmp_ge (tgt := 38) dX11_greedy_19 (by decide) ?_ ?_
  · refine sim_iload_n 1 rfl dX11_greedy_38 ?_
    exact sim_iret rfl rfl dX11_greedy_39
  · refine sim_aload_n 0 rfl dX11_greedy_22 ?_
    refine sim_getR g_RX11_61 sh_0 rh_0_10 dX11_greedy_23 ?_
    refine sim_callVIm v_RX11_294 (LRow_o lay_96) dX11_greedy_26 (k_Row_putFirst SH RHO n 96 4 lay_96 lay_4 s5) rfl ⟨by decide, by decide⟩ (S := []) rfl (Nat.le_of_ble_eq_true rfl) (fun r6 s7 => ?_)
    refine sim_if_eq (tgt := 38) dX11_greedy_29 (by decide) ?_ ?_
    · refine sim_iload_n 1 rfl dX11_greedy_38 ?_
      exact sim_iret rfl rfl dX11_greedy_39
    · refine sim_iinc 1 rfl (fun v8 => [(1, vI v8), (0, vR 0)]) (fun _ => rfl) (by decide) dX11_greedy_32 (fun v8 => ?_)
      refine sim_goto (tgt := 16) dX11_greedy_35 (by decide) ?_
      exact sim_sub [1, 0] rfl (hrc3 v8 s7)
theorem dX11_counts_0 : decode cX11_counts 0 = .ok (.iload_n 1, 1) := by decide +kernel
theorem dX11_counts_1 : decode cX11_counts 1 = .ok (.invokestatic 198, 3) := by decide +kernel
theorem dX11_counts_4 : decode cX11_counts 4 = .ok (.ifCond .eq 12, 3) := by decide +kernel
theorem dX11_counts_7 : decode cX11_counts 7 = .ok (.iload_n 2, 1) := by decide +kernel
theorem dX11_counts_8 : decode cX11_counts 8 = .ok (.ifCond .lt 8, 3) := by decide +kernel
theorem dX11_counts_11 : decode cX11_counts 11 = .ok (.iload_n 2, 1) := by decide +kernel
theorem dX11_counts_12 : decode cX11_counts 12 = .ok (.iconst 2, 1) := by decide +kernel
theorem dX11_counts_13 : decode cX11_counts 13 = .ok (.if_icmp .le 5, 3) := by decide +kernel
theorem dX11_counts_16 : decode cX11_counts 16 = .ok (.iconst (-1), 1) := by decide +kernel
theorem dX11_counts_17 : decode cX11_counts 17 = .ok (.ireturn, 1) := by decide +kernel
theorem dX11_counts_18 : decode cX11_counts 18 = .ok (.iconst 0, 1) := by decide +kernel
theorem dX11_counts_19 : decode cX11_counts 19 = .ok (.istore_n 3, 1) := by decide +kernel
theorem dX11_counts_20 : decode cX11_counts 20 = .ok (.iconst 0, 1) := by decide +kernel
theorem dX11_counts_21 : decode cX11_counts 21 = .ok (.istore 4, 2) := by decide +kernel
theorem dX11_counts_23 : decode cX11_counts 23 = .ok (.iload 4, 2) := by decide +kernel
theorem dX11_counts_25 : decode cX11_counts 25 = .ok (.aload_n 0, 1) := by decide +kernel
theorem dX11_counts_26 : decode cX11_counts 26 = .ok (.getfield 29, 3) := by decide +kernel
theorem dX11_counts_29 : decode cX11_counts 29 = .ok (.getfield 54, 3) := by decide +kernel
theorem dX11_counts_32 : decode cX11_counts 32 = .ok (.getfield 279, 3) := by decide +kernel
theorem dX11_counts_35 : decode cX11_counts 35 = .ok (.if_icmp .ge 74, 3) := by decide +kernel
theorem dX11_counts_38 : decode cX11_counts 38 = .ok (.aload_n 0, 1) := by decide +kernel
theorem dX11_counts_39 : decode cX11_counts 39 = .ok (.getfield 29, 3) := by decide +kernel
theorem dX11_counts_42 : decode cX11_counts 42 = .ok (.getfield 72, 3) := by decide +kernel
theorem dX11_counts_45 : decode cX11_counts 45 = .ok (.getfield 170, 3) := by decide +kernel
theorem dX11_counts_48 : decode cX11_counts 48 = .ok (.iload 4, 2) := by decide +kernel
theorem dX11_counts_50 : decode cX11_counts 50 = .ok (.iaload, 1) := by decide +kernel
theorem dX11_counts_51 : decode cX11_counts 51 = .ok (.iload_n 2, 1) := by decide +kernel
theorem dX11_counts_52 : decode cX11_counts 52 = .ok (.if_icmp .ne 51, 3) := by decide +kernel
theorem dX11_counts_55 : decode cX11_counts 55 = .ok (.iload_n 3, 1) := by decide +kernel
theorem dX11_counts_56 : decode cX11_counts 56 = .ok (.aload_n 0, 1) := by decide +kernel
theorem dX11_counts_57 : decode cX11_counts 57 = .ok (.getfield 29, 3) := by decide +kernel
theorem dX11_counts_60 : decode cX11_counts 60 = .ok (.getfield 54, 3) := by decide +kernel
theorem dX11_counts_63 : decode cX11_counts 63 = .ok (.getfield 160, 3) := by decide +kernel
theorem dX11_counts_66 : decode cX11_counts 66 = .ok (.iload 4, 2) := by decide +kernel
theorem dX11_counts_68 : decode cX11_counts 68 = .ok (.iaload, 1) := by decide +kernel
theorem dX11_counts_69 : decode cX11_counts 69 = .ok (.iload_n 1, 1) := by decide +kernel
theorem dX11_counts_70 : decode cX11_counts 70 = .ok (.if_icmp .ne 7, 3) := by decide +kernel
theorem dX11_counts_73 : decode cX11_counts 73 = .ok (.iconst 1, 1) := by decide +kernel
theorem dX11_counts_74 : decode cX11_counts 74 = .ok (.goto 4, 3) := by decide +kernel
theorem dX11_counts_77 : decode cX11_counts 77 = .ok (.iconst 0, 1) := by decide +kernel
theorem dX11_counts_78 : decode cX11_counts 78 = .ok (.aload_n 0, 1) := by decide +kernel
theorem dX11_counts_79 : decode cX11_counts 79 = .ok (.getfield 29, 3) := by decide +kernel
theorem dX11_counts_82 : decode cX11_counts 82 = .ok (.getfield 54, 3) := by decide +kernel
theorem dX11_counts_85 : decode cX11_counts 85 = .ok (.getfield 164, 3) := by decide +kernel
theorem dX11_counts_88 : decode cX11_counts 88 = .ok (.iload 4, 2) := by decide +kernel
theorem dX11_counts_90 : decode cX11_counts 90 = .ok (.iaload, 1) := by decide +kernel
theorem dX11_counts_91 : decode cX11_counts 91 = .ok (.iload_n 1, 1) := by decide +kernel
theorem dX11_counts_92 : decode cX11_counts 92 = .ok (.if_icmp .ne 7, 3) := by decide +kernel
theorem dX11_counts_95 : decode cX11_counts 95 = .ok (.iconst 1, 1) := by decide +kernel
theorem dX11_counts_96 : decode cX11_counts 96 = .ok (.goto 4, 3) := by decide +kernel
theorem dX11_counts_99 : decode cX11_counts 99 = .ok (.iconst 0, 1) := by decide +kernel
theorem dX11_counts_100 : decode cX11_counts 100 = .ok (.iadd, 1) := by decide +kernel
theorem dX11_counts_101 : decode cX11_counts 101 = .ok (.iadd, 1) := by decide +kernel
theorem dX11_counts_102 : decode cX11_counts 102 = .ok (.istore_n 3, 1) := by decide +kernel
theorem dX11_counts_103 : decode cX11_counts 103 = .ok (.iinc 4 1, 3) := by decide +kernel
theorem dX11_counts_106 : decode cX11_counts 106 = .ok (.goto (-83), 3) := by decide +kernel
theorem dX11_counts_109 : decode cX11_counts 109 = .ok (.iload_n 3, 1) := by decide +kernel
theorem dX11_counts_110 : decode cX11_counts 110 = .ok (.ireturn, 1) := by decide +kernel
def f_W_counts (n : Nat)  (a1 : Int) (a2 : Int) (σ : JSg) : Option (Int) :=
  bd1 (f_W_isPips a1 σ) fun r1 => if r1 = 0 then (some (-1)) else (if a2 < 0 then (some (-1)) else (if 2 < a2 then (some (-1)) else (lt_ 0 fun v2 => lt_ 0 fun v3 => wh2 n (fun rc4 (x5 : Int) (x6 : Int) => if x6 < (σ 4 2) then (chk (0 ≤ x6 ∧ x6 < 28) <| jn1 (fun (y8 : Int) => lt_ (w32 (x6 + 1)) fun v9 => rc4 y8 v9) fun j7 => if (σ 13 x6.toNat) = a2 then (chk (0 ≤ x6 ∧ x6 < 28) <| jn1 (fun (u11 : Int) => chk (0 ≤ x6 ∧ x6 < 28) <| jn1 (fun (u13 : Int) => lt_ (w32 (x5 + (w32 (u11 + u13)))) fun v14 => j7 v14) fun j12 => if (σ 7 x6.toNat) = a1 then (j12 1) else (j12 0)) fun j10 => if (σ 6 x6.toNat) = a1 then (j10 1) else (j10 0)) else (j7 x5)) else (some x5)) v2 v3)))
set_option maxRecDepth 20000 in
set_option maxHeartbeats 4000000 in
theorem k_W_counts  (n : Nat)   (a1 : Int) (a2 : Int) (σ : JSg) : Call yX11_counts cX11_counts 5 (some .int) 1 SH RHO [vR 0, vI a1, vI a2] σ (dIp σ) (f_W_counts n a1 a2 σ) := by
  refine call_of_sim (by decide +kernel) (Nat.le_of_ble_eq_true rfl) ?_
  show Sim RX11 cX11_counts 5 (some .int) 1 SH RHO 0 [(0, vR 0), (1, vI a1), (2, vI a2)] [] σ (dIp σ) (f_W_counts n a1 a2 σ)
  unfold f_W_counts
  refine sim_iload_n 1 rfl dX11_counts_0 ?_
  refine sim_callSIp s_RX11_198 dX11_counts_1 (k_W_isPips SH RHO a1 σ) rfl ⟨by decide, by decide⟩ (S := []) rfl (Nat.le_of_ble_eq_true rfl) (fun r1 => ?_)
  refine sim_if_eq (tgt := 16) dX11_counts_4 (by decide) ?_ ?_
  · refine sim_iconst dX11_counts_16 (by decide) ?_
    exact sim_iret rfl rfl dX11_counts_17
  · refine sim_iload_n 2 rfl dX11_counts_7 ?_
    refine sim_if_lt (tgt := 16) dX11_counts_8 (by decide) ?_ ?_
    · refine sim_iconst dX11_counts_16 (by decide) ?_
      exact sim_iret rfl rfl dX11_counts_17
    · refine sim_iload_n 2 rfl dX11_counts_11 ?_
      refine sim_iconst dX11_counts_12 (by decide) ?_
      refine sim_icmp_le (tgt := 18) dX11_counts_13 (by decide) ?_ ?_
      · refine sim_iconst dX11_counts_18 (by decide) ?_
        refine sim_istore_n (fun v2 => [(3, vI v2), (0, vR 0), (1, vI a1), (2, vI a2)]) (fun _ => rfl) (by decide) dX11_counts_19 (fun v2 => ?_)
        refine sim_iconst dX11_counts_20 (by decide) ?_
        refine sim_istore (fun v3 => [(4, vI v3), (3, vI v2), (0, vR 0), (1, vI a1), (2, vI a2)]) (fun _ => rfl) (by decide) dX11_counts_21 (fun v3 => ?_)
        refine sim_sub [2, 3, 4, 1, 0] (L' := [(0, vR 0), (1, vI a1), (2, vI a2), (3, vI v2), (4, vI v3)]) rfl ?_
        refine sim_wh2 (fun (x5 : Int) (x6 : Int) => [(0, vR 0), (1, vI a1), (2, vI a2), (3, vI x5), (4, vI x6)]) (fun (x5 : Int) (x6 : Int) => σ) ?_ n v2 v3
        intro rc4 hrc4 x5 x6
        refine sim_iload 4 rfl dX11_counts_23 ?_
        refine sim_aload_n 0 rfl dX11_counts_25 ?_
        refine sim_getR g_RX11_29 sh_0 rh_0_3 dX11_counts_26 ?_
        refine sim_getR g_RX11_54 (LWld_o lay_3) rh_3_0 dX11_counts_29 ?_
        refine sim_getI g_RX11_279 (LIsl_o lay_4) dX11_counts_32 ?_
        refine sim_icmp_ge (tgt := 109) dX11_counts_35 (by decide) ?_ ?_
        · refine sim_iload_n 3 rfl dX11_counts_109 ?_
          exact sim_iret rfl rfl dX11_counts_110
        · refine sim_aload_n 0 rfl dX11_counts_38 ?_
          refine sim_getR g_RX11_29 sh_0 rh_0_3 dX11_counts_39 ?_
          refine sim_getR g_RX11_72 (LWld_o lay_3) rh_3_1 dX11_counts_42 ?_
          refine sim_getR g_RX11_170 (LRow_o lay_11) rh_11_2 dX11_counts_45 ?_
          refine sim_iload 4 rfl dX11_counts_48 ?_
          refine sim_iaload sh_13 rfl dX11_counts_50 ?_
          refine sim_iload_n 2 rfl dX11_counts_51 ?_
          refine sim_jn1 (pc' := 103) (fun (y8 : Int) => [(0, vR 0), (1, vI a1), (2, vI a2), (3, vI y8), (4, vI x6)]) (fun (y8 : Int) => []) (fun (y8 : Int) => σ) ?_ (fun j7 hj7 => ?_)
          · intro y8
            refine sim_iinc 4 rfl (fun v9 => [(4, vI v9), (0, vR 0), (1, vI a1), (2, vI a2), (3, vI y8)]) (fun _ => rfl) (by decide) dX11_counts_103 (fun v9 => ?_)
            refine sim_goto (tgt := 23) dX11_counts_106 (by decide) ?_
            exact sim_sub [1, 2, 3, 4, 0] rfl (hrc4 y8 v9)
          refine sim_icmp_ne (tgt := 103) dX11_counts_52 (by decide) ?_ ?_
          · exact sim_sub [0, 1, 2, 3, 4] rfl (hj7 x5)
          · refine sim_iload_n 3 rfl dX11_counts_55 ?_
            refine sim_aload_n 0 rfl dX11_counts_56 ?_
            refine sim_getR g_RX11_29 sh_0 rh_0_3 dX11_counts_57 ?_
            refine sim_getR g_RX11_54 (LWld_o lay_3) rh_3_0 dX11_counts_60 ?_
            refine sim_getR g_RX11_160 (LIsl_o lay_4) rh_4_8 dX11_counts_63 ?_
            refine sim_iload 4 rfl dX11_counts_66 ?_
            refine sim_iaload sh_6 rfl dX11_counts_68 ?_
            refine sim_iload_n 1 rfl dX11_counts_69 ?_
            refine sim_jn1 (pc' := 78) (fun (u11 : Int) => [(0, vR 0), (1, vI a1), (2, vI a2), (4, vI x6)]) (fun (u11 : Int) => [vI u11, vI x5]) (fun (u11 : Int) => σ) ?_ (fun j10 hj10 => ?_)
            · intro u11
              refine sim_aload_n 0 rfl dX11_counts_78 ?_
              refine sim_getR g_RX11_29 sh_0 rh_0_3 dX11_counts_79 ?_
              refine sim_getR g_RX11_54 (LWld_o lay_3) rh_3_0 dX11_counts_82 ?_
              refine sim_getR g_RX11_164 (LIsl_o lay_4) rh_4_9 dX11_counts_85 ?_
              refine sim_iload 3 rfl dX11_counts_88 ?_
              refine sim_iaload sh_7 rfl dX11_counts_90 ?_
              refine sim_iload_n 1 rfl dX11_counts_91 ?_
              refine sim_jn1 (pc' := 100) (fun (u13 : Int) => [(0, vR 0), (1, vI a1), (2, vI a2), (4, vI x6)]) (fun (u13 : Int) => [vI u13, vI u11, vI x5]) (fun (u13 : Int) => σ) ?_ (fun j12 hj12 => ?_)
              · intro u13
                refine sim_iadd dX11_counts_100 ?_
                refine sim_iadd dX11_counts_101 ?_
                refine sim_istore_n (fun v14 => [(3, vI v14), (0, vR 0), (1, vI a1), (2, vI a2), (4, vI x6)]) (fun _ => rfl) (by decide) dX11_counts_102 (fun v14 => ?_)
                exact sim_sub [1, 2, 3, 0, 4] rfl (hj7 v14)
              refine sim_icmp_ne (tgt := 99) dX11_counts_92 (by decide) ?_ ?_
              · refine sim_iconst dX11_counts_99 (by decide) ?_
                exact sim_sub [0, 1, 2, 3] rfl (hj12 0)
              · refine sim_iconst dX11_counts_95 (by decide) ?_
                refine sim_goto (tgt := 100) dX11_counts_96 (by decide) ?_
                exact sim_sub [0, 1, 2, 3] rfl (hj12 1)
            refine sim_icmp_ne (tgt := 77) dX11_counts_70 (by decide) ?_ ?_
            · refine sim_iconst dX11_counts_77 (by decide) ?_
              exact sim_sub [0, 1, 2, 4] rfl (hj10 0)
            · refine sim_iconst dX11_counts_73 (by decide) ?_
              refine sim_goto (tgt := 78) dX11_counts_74 (by decide) ?_
              exact sim_sub [0, 1, 2, 4] rfl (hj10 1)
      · refine sim_iconst dX11_counts_16 (by decide) ?_
        exact sim_iret rfl rfl dX11_counts_17
