theorem dX0_walk_0 : decode cX0_walk 0 = .ok (.iconst 0, 1) := by decide +kernel
theorem dX0_walk_1 : decode cX0_walk 1 = .ok (.istore_n 2, 1) := by decide +kernel
theorem dX0_walk_2 : decode cX0_walk 2 = .ok (.iload_n 1, 1) := by decide +kernel
theorem dX0_walk_3 : decode cX0_walk 3 = .ok (.istore_n 3, 1) := by decide +kernel
theorem dX0_walk_4 : decode cX0_walk 4 = .ok (.iconst 0, 1) := by decide +kernel
theorem dX0_walk_5 : decode cX0_walk 5 = .ok (.istore 4, 2) := by decide +kernel
theorem dX0_walk_7 : decode cX0_walk 7 = .ok (.iload 4, 2) := by decide +kernel
theorem dX0_walk_9 : decode cX0_walk 9 = .ok (.aload_n 0, 1) := by decide +kernel
theorem dX0_walk_10 : decode cX0_walk 10 = .ok (.getfield 22, 3) := by decide +kernel
theorem dX0_walk_13 : decode cX0_walk 13 = .ok (.if_icmp .ge 84, 3) := by decide +kernel
theorem dX0_walk_16 : decode cX0_walk 16 = .ok (.aload_n 0, 1) := by decide +kernel
theorem dX0_walk_17 : decode cX0_walk 17 = .ok (.iload_n 2, 1) := by decide +kernel
theorem dX0_walk_18 : decode cX0_walk 18 = .ok (.iload_n 3, 1) := by decide +kernel
theorem dX0_walk_19 : decode cX0_walk 19 = .ok (.invokevirtual 99, 3) := by decide +kernel
theorem dX0_walk_22 : decode cX0_walk 22 = .ok (.istore 5, 2) := by decide +kernel
theorem dX0_walk_24 : decode cX0_walk 24 = .ok (.aload_n 0, 1) := by decide +kernel
theorem dX0_walk_25 : decode cX0_walk 25 = .ok (.getfield 11, 3) := by decide +kernel
theorem dX0_walk_28 : decode cX0_walk 28 = .ok (.iload 5, 2) := by decide +kernel
theorem dX0_walk_30 : decode cX0_walk 30 = .ok (.iconst 1, 1) := by decide +kernel
theorem dX0_walk_31 : decode cX0_walk 31 = .ok (.ishr, 1) := by decide +kernel
theorem dX0_walk_32 : decode cX0_walk 32 = .ok (.iaload, 1) := by decide +kernel
theorem dX0_walk_33 : decode cX0_walk 33 = .ok (.istore 6, 2) := by decide +kernel
theorem dX0_walk_35 : decode cX0_walk 35 = .ok (.aload_n 0, 1) := by decide +kernel
theorem dX0_walk_36 : decode cX0_walk 36 = .ok (.getfield 19, 3) := by decide +kernel
theorem dX0_walk_39 : decode cX0_walk 39 = .ok (.iload 4, 2) := by decide +kernel
theorem dX0_walk_41 : decode cX0_walk 41 = .ok (.iconst 2, 1) := by decide +kernel
theorem dX0_walk_42 : decode cX0_walk 42 = .ok (.iload 6, 2) := by decide +kernel
theorem dX0_walk_44 : decode cX0_walk 44 = .ok (.imul, 1) := by decide +kernel
theorem dX0_walk_45 : decode cX0_walk 45 = .ok (.iload 5, 2) := by decide +kernel
theorem dX0_walk_47 : decode cX0_walk 47 = .ok (.iconst 1, 1) := by decide +kernel
theorem dX0_walk_48 : decode cX0_walk 48 = .ok (.iand, 1) := by decide +kernel
theorem dX0_walk_49 : decode cX0_walk 49 = .ok (.iadd, 1) := by decide +kernel
theorem dX0_walk_50 : decode cX0_walk 50 = .ok (.iastore, 1) := by decide +kernel
theorem dX0_walk_51 : decode cX0_walk 51 = .ok (.iload_n 2, 1) := by decide +kernel
theorem dX0_walk_52 : decode cX0_walk 52 = .ok (.iconst 1, 1) := by decide +kernel
theorem dX0_walk_53 : decode cX0_walk 53 = .ok (.iload 5, 2) := by decide +kernel
theorem dX0_walk_55 : decode cX0_walk 55 = .ok (.iconst 1, 1) := by decide +kernel
theorem dX0_walk_56 : decode cX0_walk 56 = .ok (.ishr, 1) := by decide +kernel
theorem dX0_walk_57 : decode cX0_walk 57 = .ok (.ishl, 1) := by decide +kernel
theorem dX0_walk_58 : decode cX0_walk 58 = .ok (.ior, 1) := by decide +kernel
theorem dX0_walk_59 : decode cX0_walk 59 = .ok (.istore_n 2, 1) := by decide +kernel
theorem dX0_walk_60 : decode cX0_walk 60 = .ok (.iload 5, 2) := by decide +kernel
theorem dX0_walk_62 : decode cX0_walk 62 = .ok (.iconst 1, 1) := by decide +kernel
theorem dX0_walk_63 : decode cX0_walk 63 = .ok (.iand, 1) := by decide +kernel
theorem dX0_walk_64 : decode cX0_walk 64 = .ok (.ifCond .ne 16, 3) := by decide +kernel
theorem dX0_walk_67 : decode cX0_walk 67 = .ok (.aload_n 0, 1) := by decide +kernel
theorem dX0_walk_68 : decode cX0_walk 68 = .ok (.getfield 35, 3) := by decide +kernel
theorem dX0_walk_71 : decode cX0_walk 71 = .ok (.getfield 88, 3) := by decide +kernel
theorem dX0_walk_74 : decode cX0_walk 74 = .ok (.iload 6, 2) := by decide +kernel
theorem dX0_walk_76 : decode cX0_walk 76 = .ok (.iaload, 1) := by decide +kernel
theorem dX0_walk_77 : decode cX0_walk 77 = .ok (.goto 13, 3) := by decide +kernel
theorem dX0_walk_80 : decode cX0_walk 80 = .ok (.aload_n 0, 1) := by decide +kernel
theorem dX0_walk_81 : decode cX0_walk 81 = .ok (.getfield 35, 3) := by decide +kernel
theorem dX0_walk_84 : decode cX0_walk 84 = .ok (.getfield 85, 3) := by decide +kernel
theorem dX0_walk_87 : decode cX0_walk 87 = .ok (.iload 6, 2) := by decide +kernel
theorem dX0_walk_89 : decode cX0_walk 89 = .ok (.iaload, 1) := by decide +kernel
theorem dX0_walk_90 : decode cX0_walk 90 = .ok (.istore_n 3, 1) := by decide +kernel
theorem dX0_walk_91 : decode cX0_walk 91 = .ok (.iinc 4 1, 3) := by decide +kernel
theorem dX0_walk_94 : decode cX0_walk 94 = .ok (.goto (-87), 3) := by decide +kernel
theorem dX0_walk_97 : decode cX0_walk 97 = .ok (.return_, 1) := by decide +kernel
def f_Chn_walk (n : Nat)  (a1 : Int) (σ : JSg) : Option (JSg) :=
  lt_ 0 fun v1 => lt_ a1 fun v2 => lt_ 0 fun v3 => wh4 n (fun rc4 (x5 : Int) (x6 : Int) (x7 : Int) (s8 : JSg) => if x7 < (s8 104 6) then (bd1 (f_Chn_firstUseful n x5 x6 s8) fun r9 => lt_ r9 fun v10 => chk (0 ≤ (sr32 v10 1) ∧ (sr32 v10 1) < 12) <| lt_ (s8 105 (sr32 v10 1).toNat) fun v11 => chk (0 ≤ x7 ∧ x7 < 12) <| lt_ (sp s8 106 x7.toNat (w32 ((w32 (2 * v11)) + (an32 v10 1)))) fun s12 => lt_ (or32 x5 (sl32 1 (sr32 v10 1))) fun v13 => jn1 (fun (u15 : Int) => lt_ u15 fun v16 => lt_ (w32 (x7 + 1)) fun v17 => rc4 v13 v16 v17 s12) fun j14 => if (an32 v10 1) = 0 then (chk (0 ≤ v11 ∧ v11 < 28) <| j14 (s12 7 v11.toNat)) else (chk (0 ≤ v11 ∧ v11 < 28) <| j14 (s12 6 v11.toNat))) else (some s8)) v1 v2 v3 (σ)
set_option maxRecDepth 20000 in
set_option maxHeartbeats 4000000 in
theorem k_Chn_walk  (n : Nat)   (a1 : Int) (σ : JSg) : Call yX0_walk cX0_walk 7 none 2 SH RHO [vR 104, vI a1] σ dVm (f_Chn_walk n a1 σ) := by
  refine call_of_sim (by decide +kernel) (Nat.le_of_ble_eq_true rfl) ?_
  show Sim RX0 cX0_walk 7 none 2 SH RHO 0 [(0, vR 104), (1, vI a1)] [] σ dVm (f_Chn_walk n a1 σ)
  unfold f_Chn_walk
  refine sim_iconst dX0_walk_0 (by decide) ?_
  refine sim_istore_n (fun v1 => [(2, vI v1), (0, vR 104), (1, vI a1)]) (fun _ => rfl) (by decide) dX0_walk_1 (fun v1 => ?_)
  refine sim_iload_n 2 rfl dX0_walk_2 ?_
  refine sim_istore_n (fun v2 => [(3, vI v2), (2, vI v1), (0, vR 104), (1, vI a1)]) (fun _ => rfl) (by decide) dX0_walk_3 (fun v2 => ?_)
  refine sim_iconst dX0_walk_4 (by decide) ?_
  refine sim_istore (fun v3 => [(4, vI v3), (3, vI v2), (2, vI v1), (0, vR 104), (1, vI a1)]) (fun _ => rfl) (by decide) dX0_walk_5 (fun v3 => ?_)
  refine sim_sub [3, 2, 1, 0] (L' := [(0, vR 104), (2, vI v1), (3, vI v2), (4, vI v3)]) rfl ?_
  refine sim_wh4 (fun (x5 : Int) (x6 : Int) (x7 : Int) (s8 : JSg) => [(0, vR 104), (2, vI x5), (3, vI x6), (4, vI x7)]) (fun (x5 : Int) (x6 : Int) (x7 : Int) (s8 : JSg) => s8) ?_ n v1 v2 v3 (σ)
  intro rc4 hrc4 x5 x6 x7 s8
  refine sim_iload 3 rfl dX0_walk_7 ?_
  refine sim_aload_n 0 rfl dX0_walk_9 ?_
  refine sim_getI g_RX0_22 sh_104 dX0_walk_10 ?_
  refine sim_icmp_ge (tgt := 97) dX0_walk_13 (by decide) ?_ ?_
  · exact sim_vret rfl rfl dX0_walk_97
  · refine sim_aload_n 0 rfl dX0_walk_16 ?_
    refine sim_iload_n 1 rfl dX0_walk_17 ?_
    refine sim_iload_n 2 rfl dX0_walk_18 ?_
    refine sim_callVIp v_RX0_99 sh_104 dX0_walk_19 (k_Chn_firstUseful n x5 x6 s8) rfl ⟨by decide, by decide⟩ (S := []) rfl (Nat.le_of_ble_eq_true rfl) (fun r9 => ?_)
    refine sim_istore (fun v10 => [(5, vI v10), (0, vR 104), (2, vI x5), (3, vI x6), (4, vI x7)]) (fun _ => rfl) (by decide) dX0_walk_22 (fun v10 => ?_)
    refine sim_aload_n 1 rfl dX0_walk_24 ?_
    refine sim_getR g_RX0_11 sh_104 rh_104_3 dX0_walk_25 ?_
    refine sim_iload 0 rfl dX0_walk_28 ?_
    refine sim_iconst dX0_walk_30 (by decide) ?_
    refine sim_ishr dX0_walk_31 ?_
    refine sim_iaload sh_105 rfl dX0_walk_32 ?_
    refine sim_istore (fun v11 => [(6, vI v11), (5, vI v10), (0, vR 104), (2, vI x5), (3, vI x6), (4, vI x7)]) (fun _ => rfl) (by decide) dX0_walk_33 (fun v11 => ?_)
    refine sim_aload_n 2 rfl dX0_walk_35 ?_
    refine sim_getR g_RX0_19 sh_104 rh_104_5 dX0_walk_36 ?_
    refine sim_iload 5 rfl dX0_walk_39 ?_
    refine sim_iconst dX0_walk_41 (by decide) ?_
    refine sim_iload 0 rfl dX0_walk_42 ?_
    refine sim_imul dX0_walk_44 ?_
    refine sim_iload 1 rfl dX0_walk_45 ?_
    refine sim_iconst dX0_walk_47 (by decide) ?_
    refine sim_iand dX0_walk_48 ?_
    refine sim_iadd dX0_walk_49 ?_
    refine sim_iastore sh_106 rfl dX0_walk_50 (fun s12 => ?_)
    refine sim_iload_n 3 rfl dX0_walk_51 ?_
    refine sim_iconst dX0_walk_52 (by decide) ?_
    refine sim_iload 1 rfl dX0_walk_53 ?_
    refine sim_iconst dX0_walk_55 (by decide) ?_
    refine sim_ishr dX0_walk_56 ?_
    refine sim_ishl dX0_walk_57 ?_
    refine sim_ior dX0_walk_58 ?_
    refine sim_istore_n (fun v13 => [(2, vI v13), (6, vI v11), (5, vI v10), (0, vR 104), (3, vI x6), (4, vI x7)]) (fun _ => rfl) (by decide) dX0_walk_59 (fun v13 => ?_)
    refine sim_iload 2 rfl dX0_walk_60 ?_
    refine sim_iconst dX0_walk_62 (by decide) ?_
    refine sim_iand dX0_walk_63 ?_
    refine sim_jn1 (pc' := 90) (fun (u15 : Int) => [(0, vR 104), (2, vI v13), (4, vI x7)]) (fun (u15 : Int) => [vI u15]) (fun (u15 : Int) => s12) ?_ (fun j14 hj14 => ?_)
    · intro u15
      refine sim_istore_n (fun v16 => [(3, vI v16), (0, vR 104), (2, vI v13), (4, vI x7)]) (fun _ => rfl) (by decide) dX0_walk_90 (fun v16 => ?_)
      refine sim_iinc 3 rfl (fun v17 => [(4, vI v17), (3, vI v16), (0, vR 104), (2, vI v13)]) (fun _ => rfl) (by decide) dX0_walk_91 (fun v17 => ?_)
      refine sim_goto (tgt := 7) dX0_walk_94 (by decide) ?_
      exact sim_sub [2, 3, 1, 0] rfl (hrc4 v13 v16 v17 s12)
    refine sim_if_ne (tgt := 80) dX0_walk_64 (by decide) ?_ ?_
    · refine sim_aload_n 3 rfl dX0_walk_80 ?_
      refine sim_getR g_RX0_35 sh_104 rh_104_1 dX0_walk_81 ?_
      refine sim_getR g_RX0_85 (LIsl_o lay_4) rh_4_8 dX0_walk_84 ?_
      refine sim_iload 1 rfl dX0_walk_87 ?_
      refine sim_iaload sh_6 rfl dX0_walk_89 ?_
      exact sim_sub [3, 0, 5] rfl (hj14 (s12 6 v11.toNat))
    · refine sim_aload_n 3 rfl dX0_walk_67 ?_
      refine sim_getR g_RX0_35 sh_104 rh_104_1 dX0_walk_68 ?_
      refine sim_getR g_RX0_88 (LIsl_o lay_4) rh_4_9 dX0_walk_71 ?_
      refine sim_iload 1 rfl dX0_walk_74 ?_
      refine sim_iaload sh_7 rfl dX0_walk_76 ?_
      refine sim_goto (tgt := 90) dX0_walk_77 (by decide) ?_
      exact sim_sub [3, 0, 5] rfl (hj14 (s12 7 v11.toNat))
theorem dX0_findLongest_0 : decode cX0_findLongest 0 = .ok (.aload_n 0, 1) := by decide +kernel
theorem dX0_findLongest_1 : decode cX0_findLongest 1 = .ok (.aload_n 0, 1) := by decide +kernel
theorem dX0_findLongest_2 : decode cX0_findLongest 2 = .ok (.getfield 25, 3) := by decide +kernel
theorem dX0_findLongest_5 : decode cX0_findLongest 5 = .ok (.aload_n 0, 1) := by decide +kernel
theorem dX0_findLongest_6 : decode cX0_findLongest 6 = .ok (.getfield 11, 3) := by decide +kernel
theorem dX0_findLongest_9 : decode cX0_findLongest 9 = .ok (.invokevirtual 40, 3) := by decide +kernel
theorem dX0_findLongest_12 : decode cX0_findLongest 12 = .ok (.putfield 15, 3) := by decide +kernel
theorem dX0_findLongest_15 : decode cX0_findLongest 15 = .ok (.aload_n 0, 1) := by decide +kernel
theorem dX0_findLongest_16 : decode cX0_findLongest 16 = .ok (.getfield 15, 3) := by decide +kernel
theorem dX0_findLongest_19 : decode cX0_findLongest 19 = .ok (.iconst (-1), 1) := by decide +kernel
theorem dX0_findLongest_20 : decode cX0_findLongest 20 = .ok (.if_icmp .ne 5, 3) := by decide +kernel
theorem dX0_findLongest_23 : decode cX0_findLongest 23 = .ok (.iconst (-1), 1) := by decide +kernel
theorem dX0_findLongest_24 : decode cX0_findLongest 24 = .ok (.ireturn, 1) := by decide +kernel
theorem dX0_findLongest_25 : decode cX0_findLongest 25 = .ok (.aload_n 0, 1) := by decide +kernel
theorem dX0_findLongest_26 : decode cX0_findLongest 26 = .ok (.getfield 25, 3) := by decide +kernel
theorem dX0_findLongest_29 : decode cX0_findLongest 29 = .ok (.getfield 44, 3) := by decide +kernel
theorem dX0_findLongest_32 : decode cX0_findLongest 32 = .ok (.ifCond .ne 8, 3) := by decide +kernel
theorem dX0_findLongest_35 : decode cX0_findLongest 35 = .ok (.bipush 7, 2) := by decide +kernel
theorem dX0_findLongest_37 : decode cX0_findLongest 37 = .ok (.goto 11, 3) := by decide +kernel
theorem dX0_findLongest_40 : decode cX0_findLongest 40 = .ok (.aload_n 0, 1) := by decide +kernel
theorem dX0_findLongest_41 : decode cX0_findLongest 41 = .ok (.getfield 25, 3) := by decide +kernel
theorem dX0_findLongest_44 : decode cX0_findLongest 44 = .ok (.iconst 1, 1) := by decide +kernel
theorem dX0_findLongest_45 : decode cX0_findLongest 45 = .ok (.invokevirtual 45, 3) := by decide +kernel
theorem dX0_findLongest_48 : decode cX0_findLongest 48 = .ok (.istore_n 1, 1) := by decide +kernel
theorem dX0_findLongest_49 : decode cX0_findLongest 49 = .ok (.aload_n 0, 1) := by decide +kernel
theorem dX0_findLongest_50 : decode cX0_findLongest 50 = .ok (.iload_n 1, 1) := by decide +kernel
theorem dX0_findLongest_51 : decode cX0_findLongest 51 = .ok (.invokevirtual 49, 3) := by decide +kernel
theorem dX0_findLongest_54 : decode cX0_findLongest 54 = .ok (.aload_n 0, 1) := by decide +kernel
theorem dX0_findLongest_55 : decode cX0_findLongest 55 = .ok (.iconst 0, 1) := by decide +kernel
theorem dX0_findLongest_56 : decode cX0_findLongest 56 = .ok (.putfield 22, 3) := by decide +kernel
theorem dX0_findLongest_59 : decode cX0_findLongest 59 = .ok (.iconst 0, 1) := by decide +kernel
theorem dX0_findLongest_60 : decode cX0_findLongest 60 = .ok (.istore_n 2, 1) := by decide +kernel
theorem dX0_findLongest_61 : decode cX0_findLongest 61 = .ok (.iload_n 2, 1) := by decide +kernel
theorem dX0_findLongest_62 : decode cX0_findLongest 62 = .ok (.iconst 1, 1) := by decide +kernel
theorem dX0_findLongest_63 : decode cX0_findLongest 63 = .ok (.aload_n 0, 1) := by decide +kernel
theorem dX0_findLongest_64 : decode cX0_findLongest 64 = .ok (.getfield 15, 3) := by decide +kernel
theorem dX0_findLongest_67 : decode cX0_findLongest 67 = .ok (.ishl, 1) := by decide +kernel
theorem dX0_findLongest_68 : decode cX0_findLongest 68 = .ok (.if_icmp .ge 35, 3) := by decide +kernel
theorem dX0_findLongest_71 : decode cX0_findLongest 71 = .ok (.aload_n 0, 1) := by decide +kernel
theorem dX0_findLongest_72 : decode cX0_findLongest 72 = .ok (.getfield 36, 3) := by decide +kernel
theorem dX0_findLongest_75 : decode cX0_findLongest 75 = .ok (.iload_n 2, 1) := by decide +kernel
theorem dX0_findLongest_76 : decode cX0_findLongest 76 = .ok (.laload, 1) := by decide +kernel
theorem dX0_findLongest_77 : decode cX0_findLongest 77 = .ok (.lconst 0, 1) := by decide +kernel
theorem dX0_findLongest_78 : decode cX0_findLongest 78 = .ok (.lcmp, 1) := by decide +kernel
theorem dX0_findLongest_79 : decode cX0_findLongest 79 = .ok (.ifCond .eq 18, 3) := by decide +kernel
theorem dX0_findLongest_82 : decode cX0_findLongest 82 = .ok (.aload_n 0, 1) := by decide +kernel
theorem dX0_findLongest_83 : decode cX0_findLongest 83 = .ok (.aload_n 0, 1) := by decide +kernel
theorem dX0_findLongest_84 : decode cX0_findLongest 84 = .ok (.getfield 22, 3) := by decide +kernel
theorem dX0_findLongest_87 : decode cX0_findLongest 87 = .ok (.iload_n 2, 1) := by decide +kernel
theorem dX0_findLongest_88 : decode cX0_findLongest 88 = .ok (.invokestatic 53, 3) := by decide +kernel
theorem dX0_findLongest_91 : decode cX0_findLongest 91 = .ok (.invokestatic 58, 3) := by decide +kernel
theorem dX0_findLongest_94 : decode cX0_findLongest 94 = .ok (.putfield 22, 3) := by decide +kernel
theorem dX0_findLongest_97 : decode cX0_findLongest 97 = .ok (.iinc 2 1, 3) := by decide +kernel
theorem dX0_findLongest_100 : decode cX0_findLongest 100 = .ok (.goto (-39), 3) := by decide +kernel
theorem dX0_findLongest_103 : decode cX0_findLongest 103 = .ok (.aload_n 0, 1) := by decide +kernel
theorem dX0_findLongest_104 : decode cX0_findLongest 104 = .ok (.invokevirtual 64, 3) := by decide +kernel
theorem dX0_findLongest_107 : decode cX0_findLongest 107 = .ok (.aload_n 0, 1) := by decide +kernel
theorem dX0_findLongest_108 : decode cX0_findLongest 108 = .ok (.iload_n 1, 1) := by decide +kernel
theorem dX0_findLongest_109 : decode cX0_findLongest 109 = .ok (.invokevirtual 67, 3) := by decide +kernel
theorem dX0_findLongest_112 : decode cX0_findLongest 112 = .ok (.aload_n 0, 1) := by decide +kernel
theorem dX0_findLongest_113 : decode cX0_findLongest 113 = .ok (.getfield 22, 3) := by decide +kernel
theorem dX0_findLongest_116 : decode cX0_findLongest 116 = .ok (.ireturn, 1) := by decide +kernel
def f_Chn_findLongest (n : Nat)   (σ : JSg) : Option (Int × JSg) :=
  bd2 (f_Row_gather n 11 4 105 12 σ) fun r1 s2 => lt_ (sp s2 104 4 r1) fun s3 => if (s3 104 4) = (-1) then (some ((-1), s3)) else (jn1 (fun (u5 : Int) => lt_ u5 fun v6 => bd1 (f_Chn_spread n v6 s3) fun s7 => lt_ (sp s7 104 6 0) fun s8 => lt_ 0 fun v9 => wh2 n (fun rc10 (x11 : Int) (s12 : JSg) => if x11 < (sl32 1 (s12 104 4)) then (chk (0 ≤ x11 ∧ x11 < 32768) <| jn1 (fun  (s16 : JSg) => lt_ (w32 (x11 + 1)) fun v17 => rc10 v17 s16) fun j15 => if (cmpL (s12 103 x11.toNat) 0) = 0 then (j15 s12) else (bd1 (f_JInt_bitCount_0f7a4 x11 s12) fun r18 => lt_ (sp s12 104 6 (max (s12 104 6) r18)) fun s19 => j15 s19)) else (bd1 (f_Chn_markUseful n s12) fun s13 => bd1 (f_Chn_walk n v6 s13) fun s14 => some (s14 104 6, s14))) v9 s8) fun j4 => if (s3 11 4) = 0 then (j4 7) else (bd1 (f_Row_outer 11 4 1 s3) fun r20 => j4 r20))
set_option maxRecDepth 20000 in
set_option maxHeartbeats 4000000 in
theorem k_Chn_findLongest  (n : Nat)    (σ : JSg) : Call yX0_findLongest cX0_findLongest 3 (some .int) 3 SH RHO [vR 104] σ dIm (f_Chn_findLongest n σ) := by
  refine call_of_sim (by decide +kernel) (Nat.le_of_ble_eq_true rfl) ?_
  show Sim RX0 cX0_findLongest 3 (some .int) 3 SH RHO 0 [(0, vR 104)] [] σ dIm (f_Chn_findLongest n σ)
  unfold f_Chn_findLongest
  refine sim_aload_n 0 rfl dX0_findLongest_0 ?_
  refine sim_aload_n 0 rfl dX0_findLongest_1 ?_
  refine sim_getR g_RX0_25 sh_104 rh_104_0 dX0_findLongest_2 ?_
  refine sim_aload_n 0 rfl dX0_findLongest_5 ?_
  refine sim_getR g_RX0_11 sh_104 rh_104_3 dX0_findLongest_6 ?_
  refine sim_callVIm v_RX0_40 (LRow_o lay_11) dX0_findLongest_9 (k_Row_gather SH RHO n 11 4 105 12 lay_11 lay_4 sh_105 (okI_lit (by decide)) σ) rfl ⟨by decide, by decide⟩ (S := [vR 104]) rfl (Nat.le_of_ble_eq_true rfl) (fun r1 s2 => ?_)
  refine sim_putI g_RX0_15 sh_104 dX0_findLongest_12 (fun s3 => ?_)
  refine sim_aload_n 0 rfl dX0_findLongest_15 ?_
  refine sim_getI g_RX0_15 sh_104 dX0_findLongest_16 ?_
  refine sim_iconst dX0_findLongest_19 (by decide) ?_
  refine sim_icmp_ne (tgt := 25) dX0_findLongest_20 (by decide) ?_ ?_
  · refine sim_aload_n 0 rfl dX0_findLongest_25 ?_
    refine sim_getR g_RX0_25 sh_104 rh_104_0 dX0_findLongest_26 ?_
    refine sim_getI g_RX0_44 (LRow_o lay_11) dX0_findLongest_29 ?_
    refine sim_jn1 (pc' := 48) (fun (u5 : Int) => [(0, vR 104)]) (fun (u5 : Int) => [vI u5]) (fun (u5 : Int) => s3) ?_ (fun j4 hj4 => ?_)
    · intro u5
      refine sim_istore_n (fun v6 => [(1, vI v6), (0, vR 104)]) (fun _ => rfl) (by decide) dX0_findLongest_48 (fun v6 => ?_)
      refine sim_aload_n 1 rfl dX0_findLongest_49 ?_
      refine sim_iload_n 0 rfl dX0_findLongest_50 ?_
      refine sim_callVVm v_RX0_49 sh_104 dX0_findLongest_51 (k_Chn_spread n v6 s3) rfl ⟨by decide, by decide⟩ (S := []) rfl (Nat.le_of_ble_eq_true rfl) (fun s7 => ?_)
      refine sim_aload_n 1 rfl dX0_findLongest_54 ?_
      refine sim_iconst dX0_findLongest_55 (by decide) ?_
      refine sim_putI g_RX0_22 sh_104 dX0_findLongest_56 (fun s8 => ?_)
      refine sim_iconst dX0_findLongest_59 (by decide) ?_
      refine sim_istore_n (fun v9 => [(2, vI v9), (1, vI v6), (0, vR 104)]) (fun _ => rfl) (by decide) dX0_findLongest_60 (fun v9 => ?_)
      refine sim_sub [2, 1, 0] (L' := [(0, vR 104), (1, vI v6), (2, vI v9)]) rfl ?_
      refine sim_wh2 (fun (x11 : Int) (s12 : JSg) => [(0, vR 104), (1, vI v6), (2, vI x11)]) (fun (x11 : Int) (s12 : JSg) => s12) ?_ n v9 s8
      intro rc10 hrc10 x11 s12
      refine sim_iload_n 2 rfl dX0_findLongest_61 ?_
      refine sim_iconst dX0_findLongest_62 (by decide) ?_
      refine sim_aload_n 0 rfl dX0_findLongest_63 ?_
      refine sim_getI g_RX0_15 sh_104 dX0_findLongest_64 ?_
      refine sim_ishl dX0_findLongest_67 ?_
      refine sim_icmp_ge (tgt := 103) dX0_findLongest_68 (by decide) ?_ ?_
      · refine sim_aload_n 0 rfl dX0_findLongest_103 ?_
        refine sim_callVVm v_RX0_64 sh_104 dX0_findLongest_104 (k_Chn_markUseful n s12) rfl ⟨by decide, by decide⟩ (S := []) rfl (Nat.le_of_ble_eq_true rfl) (fun s13 => ?_)
        refine sim_aload_n 0 rfl dX0_findLongest_107 ?_
        refine sim_iload_n 1 rfl dX0_findLongest_108 ?_
        refine sim_callVVm v_RX0_67 sh_104 dX0_findLongest_109 (k_Chn_walk n v6 s13) rfl ⟨by decide, by decide⟩ (S := []) rfl (Nat.le_of_ble_eq_true rfl) (fun s14 => ?_)
        refine sim_aload_n 0 rfl dX0_findLongest_112 ?_
        refine sim_getI g_RX0_22 sh_104 dX0_findLongest_113 ?_
        exact sim_iret rfl rfl dX0_findLongest_116
      · refine sim_aload_n 0 rfl dX0_findLongest_71 ?_
        refine sim_getR g_RX0_36 sh_104 rh_104_2 dX0_findLongest_72 ?_
        refine sim_iload_n 2 rfl dX0_findLongest_75 ?_
        refine sim_laload sh_103 rfl dX0_findLongest_76 ?_
        refine sim_lconst (v := 0) dX0_findLongest_77 (by decide +kernel) ?_
        refine sim_lcmp dX0_findLongest_78 ?_
        refine sim_jn1 (pc' := 97) (fun  (s16 : JSg) => [(0, vR 104), (1, vI v6), (2, vI x11)]) (fun  (s16 : JSg) => []) (fun  (s16 : JSg) => s16) ?_ (fun j15 hj15 => ?_)
        · intro s16
          refine sim_iinc 2 rfl (fun v17 => [(2, vI v17), (0, vR 104), (1, vI v6)]) (fun _ => rfl) (by decide) dX0_findLongest_97 (fun v17 => ?_)
          refine sim_goto (tgt := 61) dX0_findLongest_100 (by decide) ?_
          exact sim_sub [1, 2, 0] rfl (hrc10 v17 s16)
        refine sim_if_eq (tgt := 97) dX0_findLongest_79 (by decide) ?_ ?_
        · exact sim_sub [0, 1, 2] rfl (hj15 s12)
        · refine sim_aload_n 0 rfl dX0_findLongest_82 ?_
          refine sim_aload_n 0 rfl dX0_findLongest_83 ?_
          refine sim_getI g_RX0_22 sh_104 dX0_findLongest_84 ?_
          refine sim_iload_n 2 rfl dX0_findLongest_87 ?_
          refine sim_callSIp s_RX0_53 dX0_findLongest_88 (k_JInt_bitCount_0f7a4 SH RHO x11 s12) rfl ⟨by decide, by decide⟩ (S := [vI (s12 104 6), vR 104]) rfl (Nat.le_of_ble_eq_true rfl) (fun r18 => ?_)
          refine sim_mmax w_999 w_618 w_14 w_619 (by decide) (Nat.le_of_ble_eq_true rfl) dX0_findLongest_91 ?_
          refine sim_putI g_RX0_22 sh_104 dX0_findLongest_94 (fun s19 => ?_)
          exact sim_sub [0, 1, 2] rfl (hj15 s19)
    refine sim_if_ne (tgt := 40) dX0_findLongest_32 (by decide) ?_ ?_
    · refine sim_aload_n 0 rfl dX0_findLongest_40 ?_
      refine sim_getR g_RX0_25 sh_104 rh_104_0 dX0_findLongest_41 ?_
      refine sim_iconst dX0_findLongest_44 (by decide) ?_
      refine sim_callVIp v_RX0_45 (LRow_o lay_11) dX0_findLongest_45 (k_Row_outer SH RHO 11 4 lay_11 lay_4 1 s3) rfl ⟨by decide, by decide⟩ (S := []) rfl (Nat.le_of_ble_eq_true rfl) (fun r20 => ?_)
      exact sim_sub [0] rfl (hj4 r20)
    · refine sim_bipush dX0_findLongest_35 (by decide +kernel) ?_
      refine sim_goto (tgt := 48) dX0_findLongest_37 (by decide) ?_
      exact sim_sub [0] rfl (hj4 7)
  · refine sim_iconst dX0_findLongest_23 (by decide) ?_
    exact sim_iret rfl rfl dX0_findLongest_24
theorem dX11_longest_0 : decode cX11_longest 0 = .ok (.aload_n 0, 1) := by decide +kernel
theorem dX11_longest_1 : decode cX11_longest 1 = .ok (.getfield 78, 3) := by decide +kernel
theorem dX11_longest_4 : decode cX11_longest 4 = .ok (.invokevirtual 260, 3) := by decide +kernel
theorem dX11_longest_7 : decode cX11_longest 7 = .ok (.ireturn, 1) := by decide +kernel
def f_W_longest (n : Nat)   (σ : JSg) : Option (Int × JSg) :=
  bd2 (f_Chn_findLongest n σ) fun r1 s2 => some (r1, s2)
set_option maxRecDepth 20000 in
set_option maxHeartbeats 4000000 in
theorem k_W_longest  (n : Nat)    (σ : JSg) : Call yX11_longest cX11_longest 1 (some .int) 4 SH RHO [vR 0] σ dIm (f_W_longest n σ) := by
  refine call_of_sim (by decide +kernel) (Nat.le_of_ble_eq_true rfl) ?_
  show Sim RX11 cX11_longest 1 (some .int) 4 SH RHO 0 [(0, vR 0)] [] σ dIm (f_W_longest n σ)
  unfold f_W_longest
  refine sim_aload_n 0 rfl dX11_longest_0 ?_
  refine sim_getR g_RX11_78 sh_0 rh_0_12 dX11_longest_1 ?_
  refine sim_callVIm v_RX11_260 sh_104 dX11_longest_4 (k_Chn_findLongest n σ) rfl ⟨by decide, by decide⟩ (S := []) rfl (Nat.le_of_ble_eq_true rfl) (fun r1 s2 => ?_)
  exact sim_iret rfl rfl dX11_longest_7
theorem dX7_hasFor_0 : decode cX7_hasFor 0 = .ok (.iconst 0, 1) := by decide +kernel
theorem dX7_hasFor_1 : decode cX7_hasFor 1 = .ok (.istore_n 3, 1) := by decide +kernel
theorem dX7_hasFor_2 : decode cX7_hasFor 2 = .ok (.iload_n 3, 1) := by decide +kernel
theorem dX7_hasFor_3 : decode cX7_hasFor 3 = .ok (.aload_n 0, 1) := by decide +kernel
theorem dX7_hasFor_4 : decode cX7_hasFor 4 = .ok (.getfield 34, 3) := by decide +kernel
theorem dX7_hasFor_7 : decode cX7_hasFor 7 = .ok (.getfield 55, 3) := by decide +kernel
theorem dX7_hasFor_10 : decode cX7_hasFor 10 = .ok (.if_icmp .ge 21, 3) := by decide +kernel
theorem dX7_hasFor_13 : decode cX7_hasFor 13 = .ok (.aload_n 0, 1) := by decide +kernel
theorem dX7_hasFor_14 : decode cX7_hasFor 14 = .ok (.iload_n 1, 1) := by decide +kernel
theorem dX7_hasFor_15 : decode cX7_hasFor 15 = .ok (.iload_n 3, 1) := by decide +kernel
theorem dX7_hasFor_16 : decode cX7_hasFor 16 = .ok (.iload_n 2, 1) := by decide +kernel
theorem dX7_hasFor_17 : decode cX7_hasFor 17 = .ok (.invokevirtual 91, 3) := by decide +kernel
theorem dX7_hasFor_20 : decode cX7_hasFor 20 = .ok (.ifCond .ne 5, 3) := by decide +kernel
theorem dX7_hasFor_23 : decode cX7_hasFor 23 = .ok (.iconst 1, 1) := by decide +kernel
theorem dX7_hasFor_24 : decode cX7_hasFor 24 = .ok (.ireturn, 1) := by decide +kernel
theorem dX7_hasFor_25 : decode cX7_hasFor 25 = .ok (.iinc 3 1, 3) := by decide +kernel
theorem dX7_hasFor_28 : decode cX7_hasFor 28 = .ok (.goto (-26), 3) := by decide +kernel
theorem dX7_hasFor_31 : decode cX7_hasFor 31 = .ok (.iconst 0, 1) := by decide +kernel
theorem dX7_hasFor_32 : decode cX7_hasFor 32 = .ok (.ireturn, 1) := by decide +kernel
def f_Row_hasFor (n : Nat) (p : Nat) (ip : Nat) (a1 : Int) (a2 : Int) (σ : JSg) : Option (Int) :=
  lt_ 0 fun v1 => wh1 n (fun rc2 (x3 : Int) => if x3 < (σ ip 2) then (bd1 (f_Row_refusal p ip a1 x3 a2 σ) fun r4 => if r4 = 0 then (some 1) else (lt_ (w32 (x3 + 1)) fun v5 => rc2 v5)) else (some 0)) v1
set_option maxRecDepth 20000 in
set_option maxHeartbeats 4000000 in
theorem k_Row_hasFor (Sh : JSh) (ρ : JRo) (n : Nat) (p : Nat) (ip : Nat) (hp : LRow Sh ρ p ip) (hip : LIsl Sh ρ ip) (a1 : Int) (a2 : Int) (σ : JSg) : Call yX7_hasFor cX7_hasFor 4 (some .boolean) 4 Sh ρ [vR p, vI a1, vI a2] σ (dIp σ) (f_Row_hasFor n p ip a1 a2 σ) := by
  refine call_of_sim (by decide +kernel) (Nat.le_of_ble_eq_true rfl) ?_
  show Sim RX7 cX7_hasFor 4 (some .boolean) 4 Sh ρ 0 [(0, vR p), (1, vI a1), (2, vI a2)] [] σ (dIp σ) (f_Row_hasFor n p ip a1 a2 σ)
  unfold f_Row_hasFor
  refine sim_iconst dX7_hasFor_0 (by decide) ?_
  refine sim_istore_n (fun v1 => [(3, vI v1), (0, vR p), (1, vI a1), (2, vI a2)]) (fun _ => rfl) (by decide) dX7_hasFor_1 (fun v1 => ?_)
  refine sim_sub [1, 2, 3, 0] (L' := [(0, vR p), (1, vI a1), (2, vI a2), (3, vI v1)]) rfl ?_
  refine sim_wh1 (fun (x3 : Int) => [(0, vR p), (1, vI a1), (2, vI a2), (3, vI x3)]) (fun (x3 : Int) => σ) ?_ n v1
  intro rc2 hrc2 x3
  refine sim_iload_n 3 rfl dX7_hasFor_2 ?_
  refine sim_aload_n 0 rfl dX7_hasFor_3 ?_
  refine sim_getR g_RX7_34 (LRow_o hp) (LRow_r0 hp) dX7_hasFor_4 ?_
  refine sim_getI g_RX7_55 (LIsl_o hip) dX7_hasFor_7 ?_
  refine sim_icmp_ge (tgt := 31) dX7_hasFor_10 (by decide) ?_ ?_
  · refine sim_iconst dX7_hasFor_31 (by decide) ?_
    exact sim_zret (Or.inl rfl) rfl rfl dX7_hasFor_32
  · refine sim_aload_n 0 rfl dX7_hasFor_13 ?_
    refine sim_iload_n 1 rfl dX7_hasFor_14 ?_
    refine sim_iload_n 3 rfl dX7_hasFor_15 ?_
    refine sim_iload_n 2 rfl dX7_hasFor_16 ?_
    refine sim_callVIp v_RX7_91 (LRow_o hp) dX7_hasFor_17 (k_Row_refusal Sh ρ p ip hp hip a1 x3 a2 σ) rfl ⟨by decide, by decide⟩ (S := []) rfl (Nat.le_of_ble_eq_true rfl) (fun r4 => ?_)
    refine sim_if_ne (tgt := 25) dX7_hasFor_20 (by decide) ?_ ?_
    · refine sim_iinc 3 rfl (fun v5 => [(3, vI v5), (0, vR p), (1, vI a1), (2, vI a2)]) (fun _ => rfl) (by decide) dX7_hasFor_25 (fun v5 => ?_)
      refine sim_goto (tgt := 2) dX7_hasFor_28 (by decide) ?_
      exact sim_sub [1, 2, 3, 0] rfl (hrc2 v5)
    · refine sim_iconst dX7_hasFor_23 (by decide) ?_
      exact sim_zret (Or.inr rfl) rfl rfl dX7_hasFor_24
theorem dX11_able_0 : decode cX11_able 0 = .ok (.iload_n 1, 1) := by decide +kernel
theorem dX11_able_1 : decode cX11_able 1 = .ok (.invokestatic 211, 3) := by decide +kernel
theorem dX11_able_4 : decode cX11_able 4 = .ok (.ifCond .ne 5, 3) := by decide +kernel
theorem dX11_able_7 : decode cX11_able 7 = .ok (.iconst (-1), 1) := by decide +kernel
theorem dX11_able_8 : decode cX11_able 8 = .ok (.ireturn, 1) := by decide +kernel
theorem dX11_able_9 : decode cX11_able 9 = .ok (.iconst 0, 1) := by decide +kernel
theorem dX11_able_10 : decode cX11_able 10 = .ok (.istore_n 2, 1) := by decide +kernel
theorem dX11_able_11 : decode cX11_able 11 = .ok (.iconst 0, 1) := by decide +kernel
theorem dX11_able_12 : decode cX11_able 12 = .ok (.istore_n 3, 1) := by decide +kernel
theorem dX11_able_13 : decode cX11_able 13 = .ok (.iload_n 3, 1) := by decide +kernel
theorem dX11_able_14 : decode cX11_able 14 = .ok (.aload_n 0, 1) := by decide +kernel
theorem dX11_able_15 : decode cX11_able 15 = .ok (.getfield 29, 3) := by decide +kernel
theorem dX11_able_18 : decode cX11_able 18 = .ok (.getfield 54, 3) := by decide +kernel
theorem dX11_able_21 : decode cX11_able 21 = .ok (.getfield 257, 3) := by decide +kernel
theorem dX11_able_24 : decode cX11_able 24 = .ok (.if_icmp .ge 30, 3) := by decide +kernel
theorem dX11_able_27 : decode cX11_able 27 = .ok (.aload_n 0, 1) := by decide +kernel
theorem dX11_able_28 : decode cX11_able 28 = .ok (.getfield 29, 3) := by decide +kernel
theorem dX11_able_31 : decode cX11_able 31 = .ok (.getfield 72, 3) := by decide +kernel
theorem dX11_able_34 : decode cX11_able 34 = .ok (.iload_n 3, 1) := by decide +kernel
theorem dX11_able_35 : decode cX11_able 35 = .ok (.iload_n 1, 1) := by decide +kernel
theorem dX11_able_36 : decode cX11_able 36 = .ok (.invokevirtual 251, 3) := by decide +kernel
theorem dX11_able_39 : decode cX11_able 39 = .ok (.ifCond .eq 9, 3) := by decide +kernel
theorem dX11_able_42 : decode cX11_able 42 = .ok (.iload_n 2, 1) := by decide +kernel
theorem dX11_able_43 : decode cX11_able 43 = .ok (.iconst 1, 1) := by decide +kernel
theorem dX11_able_44 : decode cX11_able 44 = .ok (.iload_n 3, 1) := by decide +kernel
theorem dX11_able_45 : decode cX11_able 45 = .ok (.ishl, 1) := by decide +kernel
theorem dX11_able_46 : decode cX11_able 46 = .ok (.ior, 1) := by decide +kernel
theorem dX11_able_47 : decode cX11_able 47 = .ok (.istore_n 2, 1) := by decide +kernel
theorem dX11_able_48 : decode cX11_able 48 = .ok (.iinc 3 1, 3) := by decide +kernel
theorem dX11_able_51 : decode cX11_able 51 = .ok (.goto (-38), 3) := by decide +kernel
theorem dX11_able_54 : decode cX11_able 54 = .ok (.iload_n 2, 1) := by decide +kernel
theorem dX11_able_55 : decode cX11_able 55 = .ok (.ireturn, 1) := by decide +kernel
def f_W_able (n : Nat)  (a1 : Int) (σ : JSg) : Option (Int) :=
  bd1 (f_W_isEnd a1 σ) fun r1 => if r1 = 0 then (some (-1)) else (lt_ 0 fun v2 => lt_ 0 fun v3 => wh2 n (fun rc4 (x5 : Int) (x6 : Int) => if x6 < (σ 4 1) then (bd1 (f_Row_hasFor n 11 4 x6 a1 σ) fun r7 => jn1 (fun (y9 : Int) => lt_ (w32 (x6 + 1)) fun v10 => rc4 y9 v10) fun j8 => if r7 = 0 then (j8 x5) else (lt_ (or32 x5 (sl32 1 x6)) fun v11 => j8 v11)) else (some x5)) v2 v3)
set_option maxRecDepth 20000 in
set_option maxHeartbeats 4000000 in
theorem k_W_able  (n : Nat)   (a1 : Int) (σ : JSg) : Call yX11_able cX11_able 4 (some .int) 5 SH RHO [vR 0, vI a1] σ (dIp σ) (f_W_able n a1 σ) := by
  refine call_of_sim (by decide +kernel) (Nat.le_of_ble_eq_true rfl) ?_
  show Sim RX11 cX11_able 4 (some .int) 5 SH RHO 0 [(0, vR 0), (1, vI a1)] [] σ (dIp σ) (f_W_able n a1 σ)
  unfold f_W_able
  refine sim_iload_n 1 rfl dX11_able_0 ?_
  refine sim_callSIp s_RX11_211 dX11_able_1 (k_W_isEnd SH RHO a1 σ) rfl ⟨by decide, by decide⟩ (S := []) rfl (Nat.le_of_ble_eq_true rfl) (fun r1 => ?_)
  refine sim_if_ne (tgt := 9) dX11_able_4 (by decide) ?_ ?_
  · refine sim_iconst dX11_able_9 (by decide) ?_
    refine sim_istore_n (fun v2 => [(2, vI v2), (0, vR 0), (1, vI a1)]) (fun _ => rfl) (by decide) dX11_able_10 (fun v2 => ?_)
    refine sim_iconst dX11_able_11 (by decide) ?_
    refine sim_istore_n (fun v3 => [(3, vI v3), (2, vI v2), (0, vR 0), (1, vI a1)]) (fun _ => rfl) (by decide) dX11_able_12 (fun v3 => ?_)
    refine sim_sub [2, 3, 1, 0] (L' := [(0, vR 0), (1, vI a1), (2, vI v2), (3, vI v3)]) rfl ?_
    refine sim_wh2 (fun (x5 : Int) (x6 : Int) => [(0, vR 0), (1, vI a1), (2, vI x5), (3, vI x6)]) (fun (x5 : Int) (x6 : Int) => σ) ?_ n v2 v3
    intro rc4 hrc4 x5 x6
    refine sim_iload_n 3 rfl dX11_able_13 ?_
    refine sim_aload_n 0 rfl dX11_able_14 ?_
    refine sim_getR g_RX11_29 sh_0 rh_0_3 dX11_able_15 ?_
    refine sim_getR g_RX11_54 (LWld_o lay_3) rh_3_0 dX11_able_18 ?_
    refine sim_getI g_RX11_257 (LIsl_o lay_4) dX11_able_21 ?_
    refine sim_icmp_ge (tgt := 54) dX11_able_24 (by decide) ?_ ?_
    · refine sim_iload_n 2 rfl dX11_able_54 ?_
      exact sim_iret rfl rfl dX11_able_55
    · refine sim_aload_n 0 rfl dX11_able_27 ?_
      refine sim_getR g_RX11_29 sh_0 rh_0_3 dX11_able_28 ?_
      refine sim_getR g_RX11_72 (LWld_o lay_3) rh_3_1 dX11_able_31 ?_
      refine sim_iload_n 3 rfl dX11_able_34 ?_
      refine sim_iload_n 1 rfl dX11_able_35 ?_
      refine sim_callVIp v_RX11_251 (LRow_o lay_11) dX11_able_36 (k_Row_hasFor SH RHO n 11 4 lay_11 lay_4 x6 a1 σ) rfl ⟨by decide, by decide⟩ (S := []) rfl (Nat.le_of_ble_eq_true rfl) (fun r7 => ?_)
      refine sim_jn1 (pc' := 48) (fun (y9 : Int) => [(0, vR 0), (1, vI a1), (2, vI y9), (3, vI x6)]) (fun (y9 : Int) => []) (fun (y9 : Int) => σ) ?_ (fun j8 hj8 => ?_)
      · intro y9
        refine sim_iinc 3 rfl (fun v10 => [(3, vI v10), (0, vR 0), (1, vI a1), (2, vI y9)]) (fun _ => rfl) (by decide) dX11_able_48 (fun v10 => ?_)
        refine sim_goto (tgt := 13) dX11_able_51 (by decide) ?_
        exact sim_sub [1, 2, 3, 0] rfl (hrc4 y9 v10)
      refine sim_if_eq (tgt := 48) dX11_able_39 (by decide) ?_ ?_
      · exact sim_sub [0, 1, 2, 3] rfl (hj8 x5)
      · refine sim_iload_n 2 rfl dX11_able_42 ?_
        refine sim_iconst dX11_able_43 (by decide) ?_
        refine sim_iload_n 3 rfl dX11_able_44 ?_
        refine sim_ishl dX11_able_45 ?_
        refine sim_ior dX11_able_46 ?_
        refine sim_istore_n (fun v11 => [(2, vI v11), (0, vR 0), (1, vI a1), (3, vI x6)]) (fun _ => rfl) (by decide) dX11_able_47 (fun v11 => ?_)
        exact sim_sub [1, 2, 0, 3] rfl (hj8 v11)
  · refine sim_iconst dX11_able_7 (by decide) ?_
    exact sim_iret rfl rfl dX11_able_8
theorem dX11_visits_0 : decode cX11_visits 0 = .ok (.aload_n 0, 1) := by decide +kernel
theorem dX11_visits_1 : decode cX11_visits 1 = .ok (.iload_n 1, 1) := by decide +kernel
theorem dX11_visits_2 : decode cX11_visits 2 = .ok (.invokevirtual 183, 3) := by decide +kernel
theorem dX11_visits_5 : decode cX11_visits 5 = .ok (.ifCond .ne 5, 3) := by decide +kernel
theorem dX11_visits_8 : decode cX11_visits 8 = .ok (.iconst (-1), 1) := by decide +kernel
theorem dX11_visits_9 : decode cX11_visits 9 = .ok (.ireturn, 1) := by decide +kernel
theorem dX11_visits_10 : decode cX11_visits 10 = .ok (.iconst 0, 1) := by decide +kernel
theorem dX11_visits_11 : decode cX11_visits 11 = .ok (.istore_n 2, 1) := by decide +kernel
theorem dX11_visits_12 : decode cX11_visits 12 = .ok (.iconst 0, 1) := by decide +kernel
theorem dX11_visits_13 : decode cX11_visits 13 = .ok (.istore_n 3, 1) := by decide +kernel
theorem dX11_visits_14 : decode cX11_visits 14 = .ok (.iload_n 3, 1) := by decide +kernel
theorem dX11_visits_15 : decode cX11_visits 15 = .ok (.iconst 1, 1) := by decide +kernel
theorem dX11_visits_16 : decode cX11_visits 16 = .ok (.if_icmp .gt 53, 3) := by decide +kernel
theorem dX11_visits_19 : decode cX11_visits 19 = .ok (.aload_n 0, 1) := by decide +kernel
theorem dX11_visits_20 : decode cX11_visits 20 = .ok (.getfield 29, 3) := by decide +kernel
theorem dX11_visits_23 : decode cX11_visits 23 = .ok (.getfield 72, 3) := by decide +kernel
theorem dX11_visits_26 : decode cX11_visits 26 = .ok (.getfield 205, 3) := by decide +kernel
theorem dX11_visits_29 : decode cX11_visits 29 = .ok (.ifCond .le 34, 3) := by decide +kernel
theorem dX11_visits_32 : decode cX11_visits 32 = .ok (.aload_n 0, 1) := by decide +kernel
theorem dX11_visits_33 : decode cX11_visits 33 = .ok (.getfield 29, 3) := by decide +kernel
theorem dX11_visits_36 : decode cX11_visits 36 = .ok (.getfield 72, 3) := by decide +kernel
theorem dX11_visits_39 : decode cX11_visits 39 = .ok (.iload_n 1, 1) := by decide +kernel
theorem dX11_visits_40 : decode cX11_visits 40 = .ok (.iload_n 3, 1) := by decide +kernel
theorem dX11_visits_41 : decode cX11_visits 41 = .ok (.invokevirtual 251, 3) := by decide +kernel
theorem dX11_visits_44 : decode cX11_visits 44 = .ok (.ifCond .eq 19, 3) := by decide +kernel
theorem dX11_visits_47 : decode cX11_visits 47 = .ok (.iload_n 2, 1) := by decide +kernel
theorem dX11_visits_48 : decode cX11_visits 48 = .ok (.iconst 1, 1) := by decide +kernel
theorem dX11_visits_49 : decode cX11_visits 49 = .ok (.aload_n 0, 1) := by decide +kernel
theorem dX11_visits_50 : decode cX11_visits 50 = .ok (.getfield 29, 3) := by decide +kernel
theorem dX11_visits_53 : decode cX11_visits 53 = .ok (.getfield 72, 3) := by decide +kernel
theorem dX11_visits_56 : decode cX11_visits 56 = .ok (.iload_n 3, 1) := by decide +kernel
theorem dX11_visits_57 : decode cX11_visits 57 = .ok (.invokevirtual 254, 3) := by decide +kernel
theorem dX11_visits_60 : decode cX11_visits 60 = .ok (.ishl, 1) := by decide +kernel
theorem dX11_visits_61 : decode cX11_visits 61 = .ok (.ior, 1) := by decide +kernel
theorem dX11_visits_62 : decode cX11_visits 62 = .ok (.istore_n 2, 1) := by decide +kernel
theorem dX11_visits_63 : decode cX11_visits 63 = .ok (.iinc 3 1, 3) := by decide +kernel
theorem dX11_visits_66 : decode cX11_visits 66 = .ok (.goto (-52), 3) := by decide +kernel
theorem dX11_visits_69 : decode cX11_visits 69 = .ok (.iload_n 2, 1) := by decide +kernel
theorem dX11_visits_70 : decode cX11_visits 70 = .ok (.ireturn, 1) := by decide +kernel
def f_W_visits (n : Nat)  (a1 : Int) (σ : JSg) : Option (Int) :=
  bd1 (f_W_isWidow a1 σ) fun r1 => if r1 = 0 then (some (-1)) else (lt_ 0 fun v2 => lt_ 0 fun v3 => wh2 n (fun rc4 (x5 : Int) (x6 : Int) => if 1 < x6 then (some x5) else (jn1 (fun (y8 : Int) => lt_ (w32 (x6 + 1)) fun v9 => rc4 y8 v9) fun j7 => if 0 < (σ 11 4) then (bd1 (f_Row_hasFor n 11 4 a1 x6 σ) fun r10 => if r10 = 0 then (j7 x5) else (bd1 (f_Row_layerAt 11 4 x6 σ) fun r11 => lt_ (or32 x5 (sl32 1 r11)) fun v12 => j7 v12)) else (j7 x5))) v2 v3)
set_option maxRecDepth 20000 in
set_option maxHeartbeats 4000000 in
theorem k_W_visits  (n : Nat)   (a1 : Int) (σ : JSg) : Call yX11_visits cX11_visits 4 (some .int) 5 SH RHO [vR 0, vI a1] σ (dIp σ) (f_W_visits n a1 σ) := by
  refine call_of_sim (by decide +kernel) (Nat.le_of_ble_eq_true rfl) ?_
  show Sim RX11 cX11_visits 4 (some .int) 5 SH RHO 0 [(0, vR 0), (1, vI a1)] [] σ (dIp σ) (f_W_visits n a1 σ)
  unfold f_W_visits
  refine sim_aload_n 0 rfl dX11_visits_0 ?_
  refine sim_iload_n 1 rfl dX11_visits_1 ?_
  refine sim_callVIp v_RX11_183 sh_0 dX11_visits_2 (k_W_isWidow a1 σ) rfl ⟨by decide, by decide⟩ (S := []) rfl (Nat.le_of_ble_eq_true rfl) (fun r1 => ?_)
  refine sim_if_ne (tgt := 10) dX11_visits_5 (by decide) ?_ ?_
  · refine sim_iconst dX11_visits_10 (by decide) ?_
    refine sim_istore_n (fun v2 => [(2, vI v2), (0, vR 0), (1, vI a1)]) (fun _ => rfl) (by decide) dX11_visits_11 (fun v2 => ?_)
    refine sim_iconst dX11_visits_12 (by decide) ?_
    refine sim_istore_n (fun v3 => [(3, vI v3), (2, vI v2), (0, vR 0), (1, vI a1)]) (fun _ => rfl) (by decide) dX11_visits_13 (fun v3 => ?_)
    refine sim_sub [2, 3, 1, 0] (L' := [(0, vR 0), (1, vI a1), (2, vI v2), (3, vI v3)]) rfl ?_
    refine sim_wh2 (fun (x5 : Int) (x6 : Int) => [(0, vR 0), (1, vI a1), (2, vI x5), (3, vI x6)]) (fun (x5 : Int) (x6 : Int) => σ) ?_ n v2 v3
    intro rc4 hrc4 x5 x6
    refine sim_iload_n 3 rfl dX11_visits_14 ?_
    refine sim_iconst dX11_visits_15 (by decide) ?_
    refine sim_icmp_gt (tgt := 69) dX11_visits_16 (by decide) ?_ ?_
    · refine sim_iload_n 2 rfl dX11_visits_69 ?_
      exact sim_iret rfl rfl dX11_visits_70
    · refine sim_aload_n 0 rfl dX11_visits_19 ?_
      refine sim_getR g_RX11_29 sh_0 rh_0_3 dX11_visits_20 ?_
      refine sim_getR g_RX11_72 (LWld_o lay_3) rh_3_1 dX11_visits_23 ?_
      refine sim_getI g_RX11_205 (LRow_o lay_11) dX11_visits_26 ?_
      refine sim_jn1 (pc' := 63) (fun (y8 : Int) => [(0, vR 0), (1, vI a1), (2, vI y8), (3, vI x6)]) (fun (y8 : Int) => []) (fun (y8 : Int) => σ) ?_ (fun j7 hj7 => ?_)
      · intro y8
        refine sim_iinc 3 rfl (fun v9 => [(3, vI v9), (0, vR 0), (1, vI a1), (2, vI y8)]) (fun _ => rfl) (by decide) dX11_visits_63 (fun v9 => ?_)
        refine sim_goto (tgt := 14) dX11_visits_66 (by decide) ?_
        exact sim_sub [1, 2, 3, 0] rfl (hrc4 y8 v9)
      refine sim_if_le (tgt := 63) dX11_visits_29 (by decide) ?_ ?_
      · exact sim_sub [0, 1, 2, 3] rfl (hj7 x5)
      · refine sim_aload_n 0 rfl dX11_visits_32 ?_
        refine sim_getR g_RX11_29 sh_0 rh_0_3 dX11_visits_33 ?_
        refine sim_getR g_RX11_72 (LWld_o lay_3) rh_3_1 dX11_visits_36 ?_
        refine sim_iload_n 1 rfl dX11_visits_39 ?_
        refine sim_iload_n 3 rfl dX11_visits_40 ?_
        refine sim_callVIp v_RX11_251 (LRow_o lay_11) dX11_visits_41 (k_Row_hasFor SH RHO n 11 4 lay_11 lay_4 a1 x6 σ) rfl ⟨by decide, by decide⟩ (S := []) rfl (Nat.le_of_ble_eq_true rfl) (fun r10 => ?_)
        refine sim_if_eq (tgt := 63) dX11_visits_44 (by decide) ?_ ?_
        · exact sim_sub [0, 1, 2, 3] rfl (hj7 x5)
        · refine sim_iload_n 2 rfl dX11_visits_47 ?_
          refine sim_iconst dX11_visits_48 (by decide) ?_
          refine sim_aload_n 0 rfl dX11_visits_49 ?_
          refine sim_getR g_RX11_29 sh_0 rh_0_3 dX11_visits_50 ?_
          refine sim_getR g_RX11_72 (LWld_o lay_3) rh_3_1 dX11_visits_53 ?_
          refine sim_iload_n 3 rfl dX11_visits_56 ?_
          refine sim_callVIp v_RX11_254 (LRow_o lay_11) dX11_visits_57 (k_Row_layerAt SH RHO 11 4 lay_11 lay_4 x6 σ) rfl ⟨by decide, by decide⟩ (S := [vI 1, vI x5]) rfl (Nat.le_of_ble_eq_true rfl) (fun r11 => ?_)
          refine sim_ishl dX11_visits_60 ?_
          refine sim_ior dX11_visits_61 ?_
          refine sim_istore_n (fun v12 => [(2, vI v12), (0, vR 0), (1, vI a1), (3, vI x6)]) (fun _ => rfl) (by decide) dX11_visits_62 (fun v12 => ?_)
          exact sim_sub [1, 2, 0, 3] rfl (hj7 v12)
  · refine sim_iconst dX11_visits_8 (by decide) ?_
    exact sim_iret rfl rfl dX11_visits_9
theorem dX11_undo_0 : decode cX11_undo 0 = .ok (.aload_n 0, 1) := by decide +kernel
theorem dX11_undo_1 : decode cX11_undo 1 = .ok (.getfield 48, 3) := by decide +kernel
theorem dX11_undo_4 : decode cX11_undo 4 = .ok (.ifCond .ne 5, 3) := by decide +kernel
theorem dX11_undo_7 : decode cX11_undo 7 = .ok (.iconst (-1), 1) := by decide +kernel
theorem dX11_undo_8 : decode cX11_undo 8 = .ok (.ireturn, 1) := by decide +kernel
theorem dX11_undo_9 : decode cX11_undo 9 = .ok (.aload_n 0, 1) := by decide +kernel
theorem dX11_undo_10 : decode cX11_undo 10 = .ok (.aload_n 0, 1) := by decide +kernel
theorem dX11_undo_11 : decode cX11_undo 11 = .ok (.getfield 51, 3) := by decide +kernel
theorem dX11_undo_14 : decode cX11_undo 14 = .ok (.bipush 8, 2) := by decide +kernel
theorem dX11_undo_16 : decode cX11_undo 16 = .ok (.iadd, 1) := by decide +kernel
theorem dX11_undo_17 : decode cX11_undo 17 = .ok (.iconst 1, 1) := by decide +kernel
theorem dX11_undo_18 : decode cX11_undo 18 = .ok (.isub, 1) := by decide +kernel
theorem dX11_undo_19 : decode cX11_undo 19 = .ok (.bipush 8, 2) := by decide +kernel
theorem dX11_undo_21 : decode cX11_undo 21 = .ok (.irem, 1) := by decide +kernel
theorem dX11_undo_22 : decode cX11_undo 22 = .ok (.putfield 51, 3) := by decide +kernel
theorem dX11_undo_25 : decode cX11_undo 25 = .ok (.aload_n 0, 1) := by decide +kernel
theorem dX11_undo_26 : decode cX11_undo 26 = .ok (.dup, 1) := by decide +kernel
theorem dX11_undo_27 : decode cX11_undo 27 = .ok (.getfield 48, 3) := by decide +kernel
theorem dX11_undo_30 : decode cX11_undo 30 = .ok (.iconst 1, 1) := by decide +kernel
theorem dX11_undo_31 : decode cX11_undo 31 = .ok (.isub, 1) := by decide +kernel
theorem dX11_undo_32 : decode cX11_undo 32 = .ok (.putfield 48, 3) := by decide +kernel
theorem dX11_undo_35 : decode cX11_undo 35 = .ok (.aload_n 0, 1) := by decide +kernel
theorem dX11_undo_36 : decode cX11_undo 36 = .ok (.getfield 44, 3) := by decide +kernel
theorem dX11_undo_39 : decode cX11_undo 39 = .ok (.aload_n 0, 1) := by decide +kernel
theorem dX11_undo_40 : decode cX11_undo 40 = .ok (.getfield 51, 3) := by decide +kernel
theorem dX11_undo_43 : decode cX11_undo 43 = .ok (.aaload, 1) := by decide +kernel
theorem dX11_undo_44 : decode cX11_undo 44 = .ok (.astore_n 1, 1) := by decide +kernel
theorem dX11_undo_45 : decode cX11_undo 45 = .ok (.aload_n 1, 1) := by decide +kernel
theorem dX11_undo_46 : decode cX11_undo 46 = .ok (.ifnull 14, 3) := by decide +kernel
theorem dX11_undo_49 : decode cX11_undo 49 = .ok (.aload_n 0, 1) := by decide +kernel
theorem dX11_undo_50 : decode cX11_undo 50 = .ok (.getfield 29, 3) := by decide +kernel
theorem dX11_undo_53 : decode cX11_undo 53 = .ok (.getfield 72, 3) := by decide +kernel
theorem dX11_undo_56 : decode cX11_undo 56 = .ok (.aload_n 1, 1) := by decide +kernel
theorem dX11_undo_57 : decode cX11_undo 57 = .ok (.invokevirtual 243, 3) := by decide +kernel
theorem dX11_undo_60 : decode cX11_undo 60 = .ok (.aload_n 0, 1) := by decide +kernel
theorem dX11_undo_61 : decode cX11_undo 61 = .ok (.getfield 48, 3) := by decide +kernel
theorem dX11_undo_64 : decode cX11_undo 64 = .ok (.ireturn, 1) := by decide +kernel
def f_W_undo    (σ : JSg) : Option (Int × JSg) :=
  if (σ 0 8) = 0 then (some ((-1), σ)) else (lt_ (sp σ 0 9 (rm32 (w32 ((w32 ((σ 0 9) + 8)) - 1)) 8)) fun s1 => lt_ (sp s1 0 8 (w32 ((s1 0 8) - 1))) fun s2 => chk (0 ≤ (s2 0 9) ∧ (s2 0 9) < 8) <| bd1 (f_Row_copyFrom 11 4 (123 + 7 * (s2 0 9).toNat) 4 s2) fun s4 => some (s4 0 8, s4))
set_option maxRecDepth 20000 in
set_option maxHeartbeats 4000000 in
theorem k_W_undo      (σ : JSg) : Call yX11_undo cX11_undo 2 (some .int) 2 SH RHO [vR 0] σ dIm (f_W_undo  σ) := by
  refine call_of_sim (by decide +kernel) (Nat.le_of_ble_eq_true rfl) ?_
  show Sim RX11 cX11_undo 2 (some .int) 2 SH RHO 0 [(0, vR 0)] [] σ dIm (f_W_undo  σ)
  unfold f_W_undo
  refine sim_aload_n 0 rfl dX11_undo_0 ?_
  refine sim_getI g_RX11_48 sh_0 dX11_undo_1 ?_
  refine sim_if_ne (tgt := 9) dX11_undo_4 (by decide) ?_ ?_
  · refine sim_aload_n 0 rfl dX11_undo_9 ?_
    refine sim_aload_n 0 rfl dX11_undo_10 ?_
    refine sim_getI g_RX11_51 sh_0 dX11_undo_11 ?_
    refine sim_bipush dX11_undo_14 (by decide +kernel) ?_
    refine sim_iadd dX11_undo_16 ?_
    refine sim_iconst dX11_undo_17 (by decide) ?_
    refine sim_isub dX11_undo_18 ?_
    refine sim_bipush dX11_undo_19 (by decide +kernel) ?_
    refine sim_iremK (by decide) dX11_undo_21 ?_
    refine sim_putI g_RX11_51 sh_0 dX11_undo_22 (fun s1 => ?_)
    refine sim_aload_n 0 rfl dX11_undo_25 ?_
    refine sim_dup rfl dX11_undo_26 ?_
    refine sim_getI g_RX11_48 sh_0 dX11_undo_27 ?_
    refine sim_iconst dX11_undo_30 (by decide) ?_
    refine sim_isub dX11_undo_31 ?_
    refine sim_putI g_RX11_48 sh_0 dX11_undo_32 (fun s2 => ?_)
    refine sim_aload_n 0 rfl dX11_undo_35 ?_
    refine sim_getR g_RX11_44 sh_0 rh_0_7 dX11_undo_36 ?_
    refine sim_aload_n 0 rfl dX11_undo_39 ?_
    refine sim_getI g_RX11_51 sh_0 dX11_undo_40 ?_
    refine sim_aaload (q := (123 + 7 * (s2 0 9).toNat)) sh_95 rfl dX11_undo_43 rh_past (fun hpast => ?_)
    refine sim_astore_n [(1, vR (123 + 7 * (s2 0 9).toNat)), (0, vR 0)] rfl (by decide) dX11_undo_44 ?_
    refine sim_aload_n 0 rfl dX11_undo_45 ?_
    refine sim_ifnull dX11_undo_46 ?_
    refine sim_aload_n 1 rfl dX11_undo_49 ?_
    refine sim_getR g_RX11_29 sh_0 rh_0_3 dX11_undo_50 ?_
    refine sim_getR g_RX11_72 (LWld_o lay_3) rh_3_1 dX11_undo_53 ?_
    refine sim_aload_n 0 rfl dX11_undo_56 ?_
    refine sim_callVVm v_RX11_243 (LRow_o lay_11) dX11_undo_57 (k_Row_copyFrom SH RHO 11 4 (123 + 7 * (s2 0 9).toNat) 4 lay_11 lay_4 (lay_past hpast) lay_4 s2) rfl ⟨by decide, by decide⟩ (S := []) rfl (Nat.le_of_ble_eq_true rfl) (fun s4 => ?_)
    refine sim_aload_n 1 rfl dX11_undo_60 ?_
    refine sim_getI g_RX11_48 sh_0 dX11_undo_61 ?_
    exact sim_iret rfl rfl dX11_undo_64
  · refine sim_iconst dX11_undo_7 (by decide) ?_
    exact sim_iret rfl rfl dX11_undo_8
theorem dX7_bequeath_0 : decode cX7_bequeath 0 = .ok (.iconst 0, 1) := by decide +kernel
theorem dX7_bequeath_1 : decode cX7_bequeath 1 = .ok (.istore_n 3, 1) := by decide +kernel
theorem dX7_bequeath_2 : decode cX7_bequeath 2 = .ok (.iconst 0, 1) := by decide +kernel
theorem dX7_bequeath_3 : decode cX7_bequeath 3 = .ok (.istore 4, 2) := by decide +kernel
theorem dX7_bequeath_5 : decode cX7_bequeath 5 = .ok (.iload 4, 2) := by decide +kernel
theorem dX7_bequeath_7 : decode cX7_bequeath 7 = .ok (.aload_n 0, 1) := by decide +kernel
theorem dX7_bequeath_8 : decode cX7_bequeath 8 = .ok (.getfield 34, 3) := by decide +kernel
theorem dX7_bequeath_11 : decode cX7_bequeath 11 = .ok (.getfield 55, 3) := by decide +kernel
theorem dX7_bequeath_14 : decode cX7_bequeath 14 = .ok (.if_icmp .ge 42, 3) := by decide +kernel
theorem dX7_bequeath_17 : decode cX7_bequeath 17 = .ok (.aload_n 0, 1) := by decide +kernel
theorem dX7_bequeath_18 : decode cX7_bequeath 18 = .ok (.getfield 9, 3) := by decide +kernel
theorem dX7_bequeath_21 : decode cX7_bequeath 21 = .ok (.iload 4, 2) := by decide +kernel
theorem dX7_bequeath_23 : decode cX7_bequeath 23 = .ok (.iaload, 1) := by decide +kernel
theorem dX7_bequeath_24 : decode cX7_bequeath 24 = .ok (.iload_n 1, 1) := by decide +kernel
theorem dX7_bequeath_25 : decode cX7_bequeath 25 = .ok (.if_icmp .ne 25, 3) := by decide +kernel
theorem dX7_bequeath_28 : decode cX7_bequeath 28 = .ok (.aload_n 0, 1) := by decide +kernel
theorem dX7_bequeath_29 : decode cX7_bequeath 29 = .ok (.getfield 15, 3) := by decide +kernel
theorem dX7_bequeath_32 : decode cX7_bequeath 32 = .ok (.iload 4, 2) := by decide +kernel
theorem dX7_bequeath_34 : decode cX7_bequeath 34 = .ok (.iaload, 1) := by decide +kernel
theorem dX7_bequeath_35 : decode cX7_bequeath 35 = .ok (.iconst 2, 1) := by decide +kernel
theorem dX7_bequeath_36 : decode cX7_bequeath 36 = .ok (.if_icmp .eq 14, 3) := by decide +kernel
theorem dX7_bequeath_39 : decode cX7_bequeath 39 = .ok (.aload_n 0, 1) := by decide +kernel
theorem dX7_bequeath_40 : decode cX7_bequeath 40 = .ok (.getfield 9, 3) := by decide +kernel
theorem dX7_bequeath_43 : decode cX7_bequeath 43 = .ok (.iload 4, 2) := by decide +kernel
theorem dX7_bequeath_45 : decode cX7_bequeath 45 = .ok (.iload_n 2, 1) := by decide +kernel
theorem dX7_bequeath_46 : decode cX7_bequeath 46 = .ok (.iastore, 1) := by decide +kernel
theorem dX7_bequeath_47 : decode cX7_bequeath 47 = .ok (.iinc 3 1, 3) := by decide +kernel
theorem dX7_bequeath_50 : decode cX7_bequeath 50 = .ok (.iinc 4 1, 3) := by decide +kernel
theorem dX7_bequeath_53 : decode cX7_bequeath 53 = .ok (.goto (-48), 3) := by decide +kernel
theorem dX7_bequeath_56 : decode cX7_bequeath 56 = .ok (.iload_n 3, 1) := by decide +kernel
theorem dX7_bequeath_57 : decode cX7_bequeath 57 = .ok (.ireturn, 1) := by decide +kernel
def f_Row_bequeath (n : Nat) (p : Nat) (ip : Nat) (a1 : Int) (a2 : Int) (σ : JSg) : Option (Int × JSg) :=
  lt_ 0 fun v1 => lt_ 0 fun v2 => wh3 n (fun rc3 (x4 : Int) (x5 : Int) (s6 : JSg) => if x5 < (s6 ip 2) then (chk (0 ≤ x5 ∧ x5 < 28) <| jn2 (fun (y8 : Int) (s9 : JSg) => lt_ (w32 (x5 + 1)) fun v10 => rc3 y8 v10 s9) fun j7 => if (s6 (p + 1) x5.toNat) = a1 then (chk (0 ≤ x5 ∧ x5 < 28) <| if (s6 (p + 2) x5.toNat) = 2 then (j7 x4 s6) else (chk (0 ≤ x5 ∧ x5 < 28) <| lt_ (sp s6 (p + 1) x5.toNat a2) fun s11 => lt_ (w32 (x4 + 1)) fun v12 => j7 v12 s11)) else (j7 x4 s6)) else (some (x4, s6))) v1 v2 (σ)
set_option maxRecDepth 20000 in
set_option maxHeartbeats 4000000 in
theorem k_Row_bequeath (Sh : JSh) (ρ : JRo) (n : Nat) (p : Nat) (ip : Nat) (hp : LRow Sh ρ p ip) (hip : LIsl Sh ρ ip) (a1 : Int) (a2 : Int) (σ : JSg) : Call yX7_bequeath cX7_bequeath 5 (some .int) 0 Sh ρ [vR p, vI a1, vI a2] σ dIm (f_Row_bequeath n p ip a1 a2 σ) := by
  refine call_of_sim (by decide +kernel) (Nat.le_of_ble_eq_true rfl) ?_
  show Sim RX7 cX7_bequeath 5 (some .int) 0 Sh ρ 0 [(0, vR p), (1, vI a1), (2, vI a2)] [] σ dIm (f_Row_bequeath n p ip a1 a2 σ)
  unfold f_Row_bequeath
  refine sim_iconst dX7_bequeath_0 (by decide) ?_
  refine sim_istore_n (fun v1 => [(3, vI v1), (0, vR p), (1, vI a1), (2, vI a2)]) (fun _ => rfl) (by decide) dX7_bequeath_1 (fun v1 => ?_)
  refine sim_iconst dX7_bequeath_2 (by decide) ?_
  refine sim_istore (fun v2 => [(4, vI v2), (3, vI v1), (0, vR p), (1, vI a1), (2, vI a2)]) (fun _ => rfl) (by decide) dX7_bequeath_3 (fun v2 => ?_)
  refine sim_sub [2, 3, 4, 1, 0] (L' := [(0, vR p), (1, vI a1), (2, vI a2), (3, vI v1), (4, vI v2)]) rfl ?_
  refine sim_wh3 (fun (x4 : Int) (x5 : Int) (s6 : JSg) => [(0, vR p), (1, vI a1), (2, vI a2), (3, vI x4), (4, vI x5)]) (fun (x4 : Int) (x5 : Int) (s6 : JSg) => s6) ?_ n v1 v2 (σ)
  intro rc3 hrc3 x4 x5 s6
  refine sim_iload 4 rfl dX7_bequeath_5 ?_
  refine sim_aload_n 0 rfl dX7_bequeath_7 ?_
  refine sim_getR g_RX7_34 (LRow_o hp) (LRow_r0 hp) dX7_bequeath_8 ?_
  refine sim_getI g_RX7_55 (LIsl_o hip) dX7_bequeath_11 ?_
  refine sim_icmp_ge (tgt := 56) dX7_bequeath_14 (by decide) ?_ ?_
  · refine sim_iload_n 3 rfl dX7_bequeath_56 ?_
    exact sim_iret rfl rfl dX7_bequeath_57
  · refine sim_aload_n 0 rfl dX7_bequeath_17 ?_
    refine sim_getR g_RX7_9 (LRow_o hp) (LRow_r1 hp) dX7_bequeath_18 ?_
    refine sim_iload 4 rfl dX7_bequeath_21 ?_
    refine sim_iaload (LRow_a1 hp) rfl dX7_bequeath_23 ?_
    refine sim_iload_n 1 rfl dX7_bequeath_24 ?_
    refine sim_jn2 (pc' := 50) (fun (y8 : Int) (s9 : JSg) => [(0, vR p), (1, vI a1), (2, vI a2), (3, vI y8), (4, vI x5)]) (fun (y8 : Int) (s9 : JSg) => []) (fun (y8 : Int) (s9 : JSg) => s9) ?_ (fun j7 hj7 => ?_)
    · intro y8 s9
      refine sim_iinc 4 rfl (fun v10 => [(4, vI v10), (0, vR p), (1, vI a1), (2, vI a2), (3, vI y8)]) (fun _ => rfl) (by decide) dX7_bequeath_50 (fun v10 => ?_)
      refine sim_goto (tgt := 5) dX7_bequeath_53 (by decide) ?_
      exact sim_sub [1, 2, 3, 4, 0] rfl (hrc3 y8 v10 s9)
    refine sim_icmp_ne (tgt := 50) dX7_bequeath_25 (by decide) ?_ ?_
    · exact sim_sub [0, 1, 2, 3, 4] rfl (hj7 x4 s6)
    · refine sim_aload_n 0 rfl dX7_bequeath_28 ?_
      refine sim_getR g_RX7_15 (LRow_o hp) (LRow_r2 hp) dX7_bequeath_29 ?_
      refine sim_iload 4 rfl dX7_bequeath_32 ?_
      refine sim_iaload (LRow_a2 hp) rfl dX7_bequeath_34 ?_
      refine sim_iconst dX7_bequeath_35 (by decide) ?_
      refine sim_icmp_eq (tgt := 50) dX7_bequeath_36 (by decide) ?_ ?_
      · exact sim_sub [0, 1, 2, 3, 4] rfl (hj7 x4 s6)
      · refine sim_aload_n 0 rfl dX7_bequeath_39 ?_
        refine sim_getR g_RX7_9 (LRow_o hp) (LRow_r1 hp) dX7_bequeath_40 ?_
        refine sim_iload 4 rfl dX7_bequeath_43 ?_
        refine sim_iload_n 2 rfl dX7_bequeath_45 ?_
        refine sim_iastore (LRow_a1 hp) rfl dX7_bequeath_46 (fun s11 => ?_)
        refine sim_iinc 3 rfl (fun v12 => [(3, vI v12), (0, vR p), (1, vI a1), (2, vI a2), (4, vI x5)]) (fun _ => rfl) (by decide) dX7_bequeath_47 (fun v12 => ?_)
        exact sim_sub [1, 2, 3, 0, 4] rfl (hj7 v12 s11)
theorem dX11_will_0 : decode cX11_will 0 = .ok (.aload_n 0, 1) := by decide +kernel
theorem dX11_will_1 : decode cX11_will 1 = .ok (.iload_n 1, 1) := by decide +kernel
theorem dX11_will_2 : decode cX11_will 2 = .ok (.invokevirtual 183, 3) := by decide +kernel
theorem dX11_will_5 : decode cX11_will 5 = .ok (.ifCond .eq 16, 3) := by decide +kernel
theorem dX11_will_8 : decode cX11_will 8 = .ok (.aload_n 0, 1) := by decide +kernel
theorem dX11_will_9 : decode cX11_will 9 = .ok (.iload_n 2, 1) := by decide +kernel
theorem dX11_will_10 : decode cX11_will 10 = .ok (.invokevirtual 183, 3) := by decide +kernel
theorem dX11_will_13 : decode cX11_will 13 = .ok (.ifCond .eq 8, 3) := by decide +kernel
theorem dX11_will_16 : decode cX11_will 16 = .ok (.iload_n 1, 1) := by decide +kernel
theorem dX11_will_17 : decode cX11_will 17 = .ok (.iload_n 2, 1) := by decide +kernel
theorem dX11_will_18 : decode cX11_will 18 = .ok (.if_icmp .ne 5, 3) := by decide +kernel
theorem dX11_will_21 : decode cX11_will 21 = .ok (.iconst (-1), 1) := by decide +kernel
theorem dX11_will_22 : decode cX11_will 22 = .ok (.ireturn, 1) := by decide +kernel
theorem dX11_will_23 : decode cX11_will 23 = .ok (.aload_n 0, 1) := by decide +kernel
theorem dX11_will_24 : decode cX11_will 24 = .ok (.invokevirtual 221, 3) := by decide +kernel
theorem dX11_will_27 : decode cX11_will 27 = .ok (.aload_n 0, 1) := by decide +kernel
theorem dX11_will_28 : decode cX11_will 28 = .ok (.getfield 29, 3) := by decide +kernel
theorem dX11_will_31 : decode cX11_will 31 = .ok (.getfield 72, 3) := by decide +kernel
theorem dX11_will_34 : decode cX11_will 34 = .ok (.iload_n 1, 1) := by decide +kernel
theorem dX11_will_35 : decode cX11_will 35 = .ok (.iload_n 2, 1) := by decide +kernel
theorem dX11_will_36 : decode cX11_will 36 = .ok (.invokevirtual 240, 3) := by decide +kernel
theorem dX11_will_39 : decode cX11_will 39 = .ok (.ireturn, 1) := by decide +kernel
def f_W_will (n : Nat)  (a1 : Int) (a2 : Int) (σ : JSg) : Option (Int × JSg) :=
  bd1 (f_W_isWidow a1 σ) fun r1 => if r1 = 0 then (some ((-1), σ)) else (bd1 (f_W_isWidow a2 σ) fun r2 => if r2 = 0 then (some ((-1), σ)) else (if a1 = a2 then (some ((-1), σ)) else (bd1 (f_W_keepPast σ) fun s3 => bd2 (f_Row_bequeath n 11 4 a1 a2 s3) fun r4 s5 => some (r4, s5))))
set_option maxRecDepth 20000 in
set_option maxHeartbeats 4000000 in
theorem k_W_will  (n : Nat)   (a1 : Int) (a2 : Int) (σ : JSg) : Call yX11_will cX11_will 3 (some .int) 3 SH RHO [vR 0, vI a1, vI a2] σ dIm (f_W_will n a1 a2 σ) := by
  refine call_of_sim (by decide +kernel) (Nat.le_of_ble_eq_true rfl) ?_
  show Sim RX11 cX11_will 3 (some .int) 3 SH RHO 0 [(0, vR 0), (1, vI a1), (2, vI a2)] [] σ dIm (f_W_will n a1 a2 σ)
  unfold f_W_will
  refine sim_aload_n 0 rfl dX11_will_0 ?_
  refine sim_iload_n 1 rfl dX11_will_1 ?_
  refine sim_callVIp v_RX11_183 sh_0 dX11_will_2 (k_W_isWidow a1 σ) rfl ⟨by decide, by decide⟩ (S := []) rfl (Nat.le_of_ble_eq_true rfl) (fun r1 => ?_)
  refine sim_if_eq (tgt := 21) dX11_will_5 (by decide) ?_ ?_
  · refine sim_iconst dX11_will_21 (by decide) ?_
    exact sim_iret rfl rfl dX11_will_22
  · refine sim_aload_n 0 rfl dX11_will_8 ?_
    refine sim_iload_n 2 rfl dX11_will_9 ?_
    refine sim_callVIp v_RX11_183 sh_0 dX11_will_10 (k_W_isWidow a2 σ) rfl ⟨by decide, by decide⟩ (S := []) rfl (Nat.le_of_ble_eq_true rfl) (fun r2 => ?_)
    refine sim_if_eq (tgt := 21) dX11_will_13 (by decide) ?_ ?_
    · refine sim_iconst dX11_will_21 (by decide) ?_
      exact sim_iret rfl rfl dX11_will_22
    · refine sim_iload_n 1 rfl dX11_will_16 ?_
      refine sim_iload_n 2 rfl dX11_will_17 ?_
      refine sim_icmp_ne (tgt := 23) dX11_will_18 (by decide) ?_ ?_
      · refine sim_aload_n 0 rfl dX11_will_23 ?_
        refine sim_callVVm v_RX11_221 sh_0 dX11_will_24 (k_W_keepPast σ) rfl ⟨by decide, by decide⟩ (S := []) rfl (Nat.le_of_ble_eq_true rfl) (fun s3 => ?_)
        refine sim_aload_n 0 rfl dX11_will_27 ?_
        refine sim_getR g_RX11_29 sh_0 rh_0_3 dX11_will_28 ?_
        refine sim_getR g_RX11_72 (LWld_o lay_3) rh_3_1 dX11_will_31 ?_
        refine sim_iload_n 1 rfl dX11_will_34 ?_
        refine sim_iload_n 2 rfl dX11_will_35 ?_
        refine sim_callVIm v_RX11_240 (LRow_o lay_11) dX11_will_36 (k_Row_bequeath SH RHO n 11 4 lay_11 lay_4 a1 a2 s3) rfl ⟨by decide, by decide⟩ (S := []) rfl (Nat.le_of_ble_eq_true rfl) (fun r4 s5 => ?_)
        exact sim_iret rfl rfl dX11_will_39
      · refine sim_iconst dX11_will_21 (by decide) ?_
        exact sim_iret rfl rfl dX11_will_22
theorem dX11_redeem_0 : decode cX11_redeem 0 = .ok (.aload_n 0, 1) := by decide +kernel
theorem dX11_redeem_1 : decode cX11_redeem 1 = .ok (.iload_n 1, 1) := by decide +kernel
theorem dX11_redeem_2 : decode cX11_redeem 2 = .ok (.invokevirtual 149, 3) := by decide +kernel
theorem dX11_redeem_5 : decode cX11_redeem 5 = .ok (.ifCond .eq 19, 3) := by decide +kernel
theorem dX11_redeem_8 : decode cX11_redeem 8 = .ok (.aload_n 0, 1) := by decide +kernel
theorem dX11_redeem_9 : decode cX11_redeem 9 = .ok (.getfield 29, 3) := by decide +kernel
theorem dX11_redeem_12 : decode cX11_redeem 12 = .ok (.getfield 72, 3) := by decide +kernel
theorem dX11_redeem_15 : decode cX11_redeem 15 = .ok (.getfield 170, 3) := by decide +kernel
theorem dX11_redeem_18 : decode cX11_redeem 18 = .ok (.iload_n 1, 1) := by decide +kernel
theorem dX11_redeem_19 : decode cX11_redeem 19 = .ok (.iaload, 1) := by decide +kernel
theorem dX11_redeem_20 : decode cX11_redeem 20 = .ok (.iconst 1, 1) := by decide +kernel
theorem dX11_redeem_21 : decode cX11_redeem 21 = .ok (.if_icmp .eq 5, 3) := by decide +kernel
theorem dX11_redeem_24 : decode cX11_redeem 24 = .ok (.iconst 0, 1) := by decide +kernel
theorem dX11_redeem_25 : decode cX11_redeem 25 = .ok (.ireturn, 1) := by decide +kernel
theorem dX11_redeem_26 : decode cX11_redeem 26 = .ok (.aload_n 0, 1) := by decide +kernel
theorem dX11_redeem_27 : decode cX11_redeem 27 = .ok (.invokevirtual 221, 3) := by decide +kernel
theorem dX11_redeem_30 : decode cX11_redeem 30 = .ok (.aload_n 0, 1) := by decide +kernel
theorem dX11_redeem_31 : decode cX11_redeem 31 = .ok (.getfield 29, 3) := by decide +kernel
theorem dX11_redeem_34 : decode cX11_redeem 34 = .ok (.getfield 72, 3) := by decide +kernel
theorem dX11_redeem_37 : decode cX11_redeem 37 = .ok (.getfield 170, 3) := by decide +kernel
theorem dX11_redeem_40 : decode cX11_redeem 40 = .ok (.iload_n 1, 1) := by decide +kernel
theorem dX11_redeem_41 : decode cX11_redeem 41 = .ok (.iconst 0, 1) := by decide +kernel
theorem dX11_redeem_42 : decode cX11_redeem 42 = .ok (.iastore, 1) := by decide +kernel
theorem dX11_redeem_43 : decode cX11_redeem 43 = .ok (.iconst 1, 1) := by decide +kernel
theorem dX11_redeem_44 : decode cX11_redeem 44 = .ok (.ireturn, 1) := by decide +kernel
def f_W_redeem   (a1 : Int) (σ : JSg) : Option (Int × JSg) :=
  bd1 (f_W_isStone a1 σ) fun r1 => if r1 = 0 then (some (0, σ)) else (chk (0 ≤ a1 ∧ a1 < 28) <| if (σ 13 a1.toNat) = 1 then (bd1 (f_W_keepPast σ) fun s2 => chk (0 ≤ a1 ∧ a1 < 28) <| lt_ (sp s2 13 a1.toNat 0) fun s3 => some (1, s3)) else (some (0, σ)))
set_option maxRecDepth 20000 in
set_option maxHeartbeats 4000000 in
theorem k_W_redeem     (a1 : Int) (σ : JSg) : Call yX11_redeem cX11_redeem 2 (some .boolean) 3 SH RHO [vR 0, vI a1] σ dIm (f_W_redeem a1 σ) := by
  refine call_of_sim (by decide +kernel) (Nat.le_of_ble_eq_true rfl) ?_
  show Sim RX11 cX11_redeem 2 (some .boolean) 3 SH RHO 0 [(0, vR 0), (1, vI a1)] [] σ dIm (f_W_redeem a1 σ)
  unfold f_W_redeem
  refine sim_aload_n 0 rfl dX11_redeem_0 ?_
  refine sim_iload_n 1 rfl dX11_redeem_1 ?_
  refine sim_callVIp v_RX11_149 sh_0 dX11_redeem_2 (k_W_isStone a1 σ) rfl ⟨by decide, by decide⟩ (S := []) rfl (Nat.le_of_ble_eq_true rfl) (fun r1 => ?_)
  refine sim_if_eq (tgt := 24) dX11_redeem_5 (by decide) ?_ ?_
  · refine sim_iconst dX11_redeem_24 (by decide) ?_
    exact sim_zret (Or.inl rfl) rfl rfl dX11_redeem_25
  · refine sim_aload_n 0 rfl dX11_redeem_8 ?_
    refine sim_getR g_RX11_29 sh_0 rh_0_3 dX11_redeem_9 ?_
    refine sim_getR g_RX11_72 (LWld_o lay_3) rh_3_1 dX11_redeem_12 ?_
    refine sim_getR g_RX11_170 (LRow_o lay_11) rh_11_2 dX11_redeem_15 ?_
    refine sim_iload_n 1 rfl dX11_redeem_18 ?_
    refine sim_iaload sh_13 rfl dX11_redeem_19 ?_
    refine sim_iconst dX11_redeem_20 (by decide) ?_
    refine sim_icmp_eq (tgt := 26) dX11_redeem_21 (by decide) ?_ ?_
    · refine sim_aload_n 0 rfl dX11_redeem_26 ?_
      refine sim_callVVm v_RX11_221 sh_0 dX11_redeem_27 (k_W_keepPast σ) rfl ⟨by decide, by decide⟩ (S := []) rfl (Nat.le_of_ble_eq_true rfl) (fun s2 => ?_)
      refine sim_aload_n 0 rfl dX11_redeem_30 ?_
      refine sim_getR g_RX11_29 sh_0 rh_0_3 dX11_redeem_31 ?_
      refine sim_getR g_RX11_72 (LWld_o lay_3) rh_3_1 dX11_redeem_34 ?_
      refine sim_getR g_RX11_170 (LRow_o lay_11) rh_11_2 dX11_redeem_37 ?_
      refine sim_iload_n 1 rfl dX11_redeem_40 ?_
      refine sim_iconst dX11_redeem_41 (by decide) ?_
      refine sim_iastore sh_13 rfl dX11_redeem_42 (fun s3 => ?_)
      refine sim_iconst dX11_redeem_43 (by decide) ?_
      exact sim_zret (Or.inr rfl) rfl rfl dX11_redeem_44
    · refine sim_iconst dX11_redeem_24 (by decide) ?_
      exact sim_zret (Or.inl rfl) rfl rfl dX11_redeem_25
theorem dX11_pawn_0 : decode cX11_pawn 0 = .ok (.aload_n 0, 1) := by decide +kernel
theorem dX11_pawn_1 : decode cX11_pawn 1 = .ok (.iload_n 1, 1) := by decide +kernel
theorem dX11_pawn_2 : decode cX11_pawn 2 = .ok (.invokevirtual 149, 3) := by decide +kernel
theorem dX11_pawn_5 : decode cX11_pawn 5 = .ok (.ifCond .eq 18, 3) := by decide +kernel
theorem dX11_pawn_8 : decode cX11_pawn 8 = .ok (.aload_n 0, 1) := by decide +kernel
theorem dX11_pawn_9 : decode cX11_pawn 9 = .ok (.getfield 29, 3) := by decide +kernel
theorem dX11_pawn_12 : decode cX11_pawn 12 = .ok (.getfield 72, 3) := by decide +kernel
theorem dX11_pawn_15 : decode cX11_pawn 15 = .ok (.getfield 170, 3) := by decide +kernel
theorem dX11_pawn_18 : decode cX11_pawn 18 = .ok (.iload_n 1, 1) := by decide +kernel
theorem dX11_pawn_19 : decode cX11_pawn 19 = .ok (.iaload, 1) := by decide +kernel
theorem dX11_pawn_20 : decode cX11_pawn 20 = .ok (.ifCond .eq 5, 3) := by decide +kernel
theorem dX11_pawn_23 : decode cX11_pawn 23 = .ok (.iconst (-1), 1) := by decide +kernel
theorem dX11_pawn_24 : decode cX11_pawn 24 = .ok (.ireturn, 1) := by decide +kernel
theorem dX11_pawn_25 : decode cX11_pawn 25 = .ok (.aload_n 0, 1) := by decide +kernel
theorem dX11_pawn_26 : decode cX11_pawn 26 = .ok (.invokevirtual 221, 3) := by decide +kernel
theorem dX11_pawn_29 : decode cX11_pawn 29 = .ok (.aload_n 0, 1) := by decide +kernel
theorem dX11_pawn_30 : decode cX11_pawn 30 = .ok (.getfield 29, 3) := by decide +kernel
theorem dX11_pawn_33 : decode cX11_pawn 33 = .ok (.getfield 72, 3) := by decide +kernel
theorem dX11_pawn_36 : decode cX11_pawn 36 = .ok (.getfield 170, 3) := by decide +kernel
theorem dX11_pawn_39 : decode cX11_pawn 39 = .ok (.iload_n 1, 1) := by decide +kernel
theorem dX11_pawn_40 : decode cX11_pawn 40 = .ok (.iconst 1, 1) := by decide +kernel
theorem dX11_pawn_41 : decode cX11_pawn 41 = .ok (.iastore, 1) := by decide +kernel
theorem dX11_pawn_42 : decode cX11_pawn 42 = .ok (.aload_n 0, 1) := by decide +kernel
theorem dX11_pawn_43 : decode cX11_pawn 43 = .ok (.getfield 29, 3) := by decide +kernel
theorem dX11_pawn_46 : decode cX11_pawn 46 = .ok (.getfield 54, 3) := by decide +kernel
theorem dX11_pawn_49 : decode cX11_pawn 49 = .ok (.iload_n 1, 1) := by decide +kernel
theorem dX11_pawn_50 : decode cX11_pawn 50 = .ok (.invokevirtual 234, 3) := by decide +kernel
theorem dX11_pawn_53 : decode cX11_pawn 53 = .ok (.aload_n 0, 1) := by decide +kernel
theorem dX11_pawn_54 : decode cX11_pawn 54 = .ok (.getfield 29, 3) := by decide +kernel
theorem dX11_pawn_57 : decode cX11_pawn 57 = .ok (.getfield 54, 3) := by decide +kernel
theorem dX11_pawn_60 : decode cX11_pawn 60 = .ok (.getfield 237, 3) := by decide +kernel
theorem dX11_pawn_63 : decode cX11_pawn 63 = .ok (.imul, 1) := by decide +kernel
theorem dX11_pawn_64 : decode cX11_pawn 64 = .ok (.ireturn, 1) := by decide +kernel
def f_W_pawn   (a1 : Int) (σ : JSg) : Option (Int × JSg) :=
  bd1 (f_W_isStone a1 σ) fun r1 => if r1 = 0 then (some ((-1), σ)) else (chk (0 ≤ a1 ∧ a1 < 28) <| if (σ 13 a1.toNat) = 0 then (bd1 (f_W_keepPast σ) fun s2 => chk (0 ≤ a1 ∧ a1 < 28) <| lt_ (sp s2 13 a1.toNat 1) fun s3 => bd1 (f_Isl_together 4 a1 s3) fun r4 => some (w32 (r4 * (s3 4 5)), s3)) else (some ((-1), σ)))
set_option maxRecDepth 20000 in
set_option maxHeartbeats 4000000 in
theorem k_W_pawn     (a1 : Int) (σ : JSg) : Call yX11_pawn cX11_pawn 2 (some .int) 3 SH RHO [vR 0, vI a1] σ dIm (f_W_pawn a1 σ) := by
  refine call_of_sim (by decide +kernel) (Nat.le_of_ble_eq_true rfl) ?_
  show Sim RX11 cX11_pawn 2 (some .int) 3 SH RHO 0 [(0, vR 0), (1, vI a1)] [] σ dIm (f_W_pawn a1 σ)
  unfold f_W_pawn
  refine sim_aload_n 0 rfl dX11_pawn_0 ?_
  refine sim_iload_n 1 rfl dX11_pawn_1 ?_
  refine sim_callVIp v_RX11_149 sh_0 dX11_pawn_2 (k_W_isStone a1 σ) rfl ⟨by decide, by decide⟩ (S := []) rfl (Nat.le_of_ble_eq_true rfl) (fun r1 => ?_)
  refine sim_if_eq (tgt := 23) dX11_pawn_5 (by decide) ?_ ?_
  · refine sim_iconst dX11_pawn_23 (by decide) ?_
    exact sim_iret rfl rfl dX11_pawn_24
  · refine sim_aload_n 0 rfl dX11_pawn_8 ?_
    refine sim_getR g_RX11_29 sh_0 rh_0_3 dX11_pawn_9 ?_
    refine sim_getR g_RX11_72 (LWld_o lay_3) rh_3_1 dX11_pawn_12 ?_
    refine sim_getR g_RX11_170 (LRow_o lay_11) rh_11_2 dX11_pawn_15 ?_
    refine sim_iload_n 1 rfl dX11_pawn_18 ?_
    refine sim_iaload sh_13 rfl dX11_pawn_19 ?_
    refine sim_if_eq (tgt := 25) dX11_pawn_20 (by decide) ?_ ?_
    · refine sim_aload_n 0 rfl dX11_pawn_25 ?_
      refine sim_callVVm v_RX11_221 sh_0 dX11_pawn_26 (k_W_keepPast σ) rfl ⟨by decide, by decide⟩ (S := []) rfl (Nat.le_of_ble_eq_true rfl) (fun s2 => ?_)
      refine sim_aload_n 0 rfl dX11_pawn_29 ?_
      refine sim_getR g_RX11_29 sh_0 rh_0_3 dX11_pawn_30 ?_
      refine sim_getR g_RX11_72 (LWld_o lay_3) rh_3_1 dX11_pawn_33 ?_
      refine sim_getR g_RX11_170 (LRow_o lay_11) rh_11_2 dX11_pawn_36 ?_
      refine sim_iload_n 1 rfl dX11_pawn_39 ?_
      refine sim_iconst dX11_pawn_40 (by decide) ?_
      refine sim_iastore sh_13 rfl dX11_pawn_41 (fun s3 => ?_)
      refine sim_aload_n 0 rfl dX11_pawn_42 ?_
      refine sim_getR g_RX11_29 sh_0 rh_0_3 dX11_pawn_43 ?_
      refine sim_getR g_RX11_54 (LWld_o lay_3) rh_3_0 dX11_pawn_46 ?_
      refine sim_iload_n 1 rfl dX11_pawn_49 ?_
      refine sim_callVIp v_RX11_234 (LIsl_o lay_4) dX11_pawn_50 (k_Isl_together SH RHO 4 lay_4 a1 s3) rfl ⟨by decide, by decide⟩ (S := []) rfl (Nat.le_of_ble_eq_true rfl) (fun r4 => ?_)
      refine sim_aload_n 0 rfl dX11_pawn_53 ?_
      refine sim_getR g_RX11_29 sh_0 rh_0_3 dX11_pawn_54 ?_
      refine sim_getR g_RX11_54 (LWld_o lay_3) rh_3_0 dX11_pawn_57 ?_
      refine sim_getI g_RX11_237 (LIsl_o lay_4) dX11_pawn_60 ?_
      refine sim_imul dX11_pawn_63 ?_
      exact sim_iret rfl rfl dX11_pawn_64
    · refine sim_iconst dX11_pawn_23 (by decide) ?_
      exact sim_iret rfl rfl dX11_pawn_24
theorem dX11_tide_0 : decode cX11_tide 0 = .ok (.aload_n 0, 1) := by decide +kernel
theorem dX11_tide_1 : decode cX11_tide 1 = .ok (.getfield 29, 3) := by decide +kernel
theorem dX11_tide_4 : decode cX11_tide 4 = .ok (.getfield 72, 3) := by decide +kernel
theorem dX11_tide_7 : decode cX11_tide 7 = .ok (.getfield 205, 3) := by decide +kernel
theorem dX11_tide_10 : decode cX11_tide 10 = .ok (.ifCond .ne 5, 3) := by decide +kernel
theorem dX11_tide_13 : decode cX11_tide 13 = .ok (.iconst (-1), 1) := by decide +kernel
theorem dX11_tide_14 : decode cX11_tide 14 = .ok (.ireturn, 1) := by decide +kernel
theorem dX11_tide_15 : decode cX11_tide 15 = .ok (.aload_n 0, 1) := by decide +kernel
theorem dX11_tide_16 : decode cX11_tide 16 = .ok (.invokevirtual 221, 3) := by decide +kernel
theorem dX11_tide_19 : decode cX11_tide 19 = .ok (.aload_n 0, 1) := by decide +kernel
theorem dX11_tide_20 : decode cX11_tide 20 = .ok (.getfield 29, 3) := by decide +kernel
theorem dX11_tide_23 : decode cX11_tide 23 = .ok (.getfield 72, 3) := by decide +kernel
theorem dX11_tide_26 : decode cX11_tide 26 = .ok (.invokevirtual 231, 3) := by decide +kernel
theorem dX11_tide_29 : decode cX11_tide 29 = .ok (.aload_n 0, 1) := by decide +kernel
theorem dX11_tide_30 : decode cX11_tide 30 = .ok (.getfield 29, 3) := by decide +kernel
theorem dX11_tide_33 : decode cX11_tide 33 = .ok (.getfield 72, 3) := by decide +kernel
theorem dX11_tide_36 : decode cX11_tide 36 = .ok (.iconst 1, 1) := by decide +kernel
theorem dX11_tide_37 : decode cX11_tide 37 = .ok (.invokevirtual 214, 3) := by decide +kernel
theorem dX11_tide_40 : decode cX11_tide 40 = .ok (.ireturn, 1) := by decide +kernel
def f_W_tide    (σ : JSg) : Option (Int × JSg) :=
  if (σ 11 4) = 0 then (some ((-1), σ)) else (bd1 (f_W_keepPast σ) fun s1 => bd1 (f_Row_turnLast 11 4 s1) fun s2 => bd1 (f_Row_outer 11 4 1 s2) fun r3 => some (r3, s2))
set_option maxRecDepth 20000 in
set_option maxHeartbeats 4000000 in
theorem k_W_tide      (σ : JSg) : Call yX11_tide cX11_tide 1 (some .int) 3 SH RHO [vR 0] σ dIm (f_W_tide  σ) := by
  refine call_of_sim (by decide +kernel) (Nat.le_of_ble_eq_true rfl) ?_
  show Sim RX11 cX11_tide 1 (some .int) 3 SH RHO 0 [(0, vR 0)] [] σ dIm (f_W_tide  σ)
  unfold f_W_tide
  refine sim_aload_n 0 rfl dX11_tide_0 ?_
  refine sim_getR g_RX11_29 sh_0 rh_0_3 dX11_tide_1 ?_
  refine sim_getR g_RX11_72 (LWld_o lay_3) rh_3_1 dX11_tide_4 ?_
  refine sim_getI g_RX11_205 (LRow_o lay_11) dX11_tide_7 ?_
  refine sim_if_ne (tgt := 15) dX11_tide_10 (by decide) ?_ ?_
  · refine sim_aload_n 0 rfl dX11_tide_15 ?_
    refine sim_callVVm v_RX11_221 sh_0 dX11_tide_16 (k_W_keepPast σ) rfl ⟨by decide, by decide⟩ (S := []) rfl (Nat.le_of_ble_eq_true rfl) (fun s1 => ?_)
    refine sim_aload_n 0 rfl dX11_tide_19 ?_
    refine sim_getR g_RX11_29 sh_0 rh_0_3 dX11_tide_20 ?_
    refine sim_getR g_RX11_72 (LWld_o lay_3) rh_3_1 dX11_tide_23 ?_
    refine sim_callVVm v_RX11_231 (LRow_o lay_11) dX11_tide_26 (k_Row_turnLast SH RHO 11 4 lay_11 lay_4 s1) rfl ⟨by decide, by decide⟩ (S := []) rfl (Nat.le_of_ble_eq_true rfl) (fun s2 => ?_)
    refine sim_aload_n 0 rfl dX11_tide_29 ?_
    refine sim_getR g_RX11_29 sh_0 rh_0_3 dX11_tide_30 ?_
    refine sim_getR g_RX11_72 (LWld_o lay_3) rh_3_1 dX11_tide_33 ?_
    refine sim_iconst dX11_tide_36 (by decide) ?_
    refine sim_callVIp v_RX11_214 (LRow_o lay_11) dX11_tide_37 (k_Row_outer SH RHO 11 4 lay_11 lay_4 1 s2) rfl ⟨by decide, by decide⟩ (S := []) rfl (Nat.le_of_ble_eq_true rfl) (fun r3 => ?_)
    exact sim_iret rfl rfl dX11_tide_40
  · refine sim_iconst dX11_tide_13 (by decide) ?_
    exact sim_iret rfl rfl dX11_tide_14
theorem dX11_cat_0 : decode cX11_cat 0 = .ok (.iload_n 1, 1) := by decide +kernel
theorem dX11_cat_1 : decode cX11_cat 1 = .ok (.invokestatic 211, 3) := by decide +kernel
theorem dX11_cat_4 : decode cX11_cat 4 = .ok (.ifCond .eq 16, 3) := by decide +kernel
theorem dX11_cat_7 : decode cX11_cat 7 = .ok (.aload_n 0, 1) := by decide +kernel
theorem dX11_cat_8 : decode cX11_cat 8 = .ok (.getfield 29, 3) := by decide +kernel
theorem dX11_cat_11 : decode cX11_cat 11 = .ok (.getfield 72, 3) := by decide +kernel
theorem dX11_cat_14 : decode cX11_cat 14 = .ok (.getfield 205, 3) := by decide +kernel
theorem dX11_cat_17 : decode cX11_cat 17 = .ok (.ifCond .ne 5, 3) := by decide +kernel
theorem dX11_cat_20 : decode cX11_cat 20 = .ok (.iconst (-1), 1) := by decide +kernel
theorem dX11_cat_21 : decode cX11_cat 21 = .ok (.ireturn, 1) := by decide +kernel
theorem dX11_cat_22 : decode cX11_cat 22 = .ok (.aload_n 0, 1) := by decide +kernel
theorem dX11_cat_23 : decode cX11_cat 23 = .ok (.invokevirtual 221, 3) := by decide +kernel
theorem dX11_cat_26 : decode cX11_cat 26 = .ok (.aload_n 0, 1) := by decide +kernel
theorem dX11_cat_27 : decode cX11_cat 27 = .ok (.getfield 29, 3) := by decide +kernel
theorem dX11_cat_30 : decode cX11_cat 30 = .ok (.getfield 72, 3) := by decide +kernel
theorem dX11_cat_33 : decode cX11_cat 33 = .ok (.iload_n 1, 1) := by decide +kernel
theorem dX11_cat_34 : decode cX11_cat 34 = .ok (.invokevirtual 228, 3) := by decide +kernel
theorem dX11_cat_37 : decode cX11_cat 37 = .ok (.ireturn, 1) := by decide +kernel
def f_W_cat (n : Nat)  (a1 : Int) (σ : JSg) : Option (Int × JSg) :=
  bd1 (f_W_isEnd a1 σ) fun r1 => if r1 = 0 then (some ((-1), σ)) else (if (σ 11 4) = 0 then (some ((-1), σ)) else (bd1 (f_W_keepPast σ) fun s2 => bd2 (f_Row_takeOff n 11 4 a1 s2) fun r3 s4 => some (r3, s4)))
set_option maxRecDepth 20000 in
set_option maxHeartbeats 4000000 in
theorem k_W_cat  (n : Nat)   (a1 : Int) (σ : JSg) : Call yX11_cat cX11_cat 2 (some .int) 3 SH RHO [vR 0, vI a1] σ dIm (f_W_cat n a1 σ) := by
  refine call_of_sim (by decide +kernel) (Nat.le_of_ble_eq_true rfl) ?_
  show Sim RX11 cX11_cat 2 (some .int) 3 SH RHO 0 [(0, vR 0), (1, vI a1)] [] σ dIm (f_W_cat n a1 σ)
  unfold f_W_cat
  refine sim_iload_n 1 rfl dX11_cat_0 ?_
  refine sim_callSIp s_RX11_211 dX11_cat_1 (k_W_isEnd SH RHO a1 σ) rfl ⟨by decide, by decide⟩ (S := []) rfl (Nat.le_of_ble_eq_true rfl) (fun r1 => ?_)
  refine sim_if_eq (tgt := 20) dX11_cat_4 (by decide) ?_ ?_
  · refine sim_iconst dX11_cat_20 (by decide) ?_
    exact sim_iret rfl rfl dX11_cat_21
  · refine sim_aload_n 0 rfl dX11_cat_7 ?_
    refine sim_getR g_RX11_29 sh_0 rh_0_3 dX11_cat_8 ?_
    refine sim_getR g_RX11_72 (LWld_o lay_3) rh_3_1 dX11_cat_11 ?_
    refine sim_getI g_RX11_205 (LRow_o lay_11) dX11_cat_14 ?_
    refine sim_if_ne (tgt := 22) dX11_cat_17 (by decide) ?_ ?_
    · refine sim_aload_n 0 rfl dX11_cat_22 ?_
      refine sim_callVVm v_RX11_221 sh_0 dX11_cat_23 (k_W_keepPast σ) rfl ⟨by decide, by decide⟩ (S := []) rfl (Nat.le_of_ble_eq_true rfl) (fun s2 => ?_)
      refine sim_aload_n 0 rfl dX11_cat_26 ?_
      refine sim_getR g_RX11_29 sh_0 rh_0_3 dX11_cat_27 ?_
      refine sim_getR g_RX11_72 (LWld_o lay_3) rh_3_1 dX11_cat_30 ?_
      refine sim_iload_n 1 rfl dX11_cat_33 ?_
      refine sim_callVIm v_RX11_228 (LRow_o lay_11) dX11_cat_34 (k_Row_takeOff SH RHO n 11 4 lay_11 lay_4 a1 s2) rfl ⟨by decide, by decide⟩ (S := []) rfl (Nat.le_of_ble_eq_true rfl) (fun r3 s4 => ?_)
      exact sim_iret rfl rfl dX11_cat_37
    · refine sim_iconst dX11_cat_20 (by decide) ?_
      exact sim_iret rfl rfl dX11_cat_21
theorem dX11_lay_0 : decode cX11_lay 0 = .ok (.aload_n 0, 1) := by decide +kernel
theorem dX11_lay_1 : decode cX11_lay 1 = .ok (.iload_n 1, 1) := by decide +kernel
theorem dX11_lay_2 : decode cX11_lay 2 = .ok (.invokevirtual 183, 3) := by decide +kernel
theorem dX11_lay_5 : decode cX11_lay 5 = .ok (.ifCond .eq 18, 3) := by decide +kernel
theorem dX11_lay_8 : decode cX11_lay 8 = .ok (.aload_n 0, 1) := by decide +kernel
theorem dX11_lay_9 : decode cX11_lay 9 = .ok (.iload_n 2, 1) := by decide +kernel
theorem dX11_lay_10 : decode cX11_lay 10 = .ok (.invokevirtual 149, 3) := by decide +kernel
theorem dX11_lay_13 : decode cX11_lay 13 = .ok (.ifCond .eq 10, 3) := by decide +kernel
theorem dX11_lay_16 : decode cX11_lay 16 = .ok (.iload_n 3, 1) := by decide +kernel
theorem dX11_lay_17 : decode cX11_lay 17 = .ok (.invokestatic 211, 3) := by decide +kernel
theorem dX11_lay_20 : decode cX11_lay 20 = .ok (.ifCond .ne 5, 3) := by decide +kernel
theorem dX11_lay_23 : decode cX11_lay 23 = .ok (.iconst (-1), 1) := by decide +kernel
theorem dX11_lay_24 : decode cX11_lay 24 = .ok (.ireturn, 1) := by decide +kernel
theorem dX11_lay_25 : decode cX11_lay 25 = .ok (.aload_n 0, 1) := by decide +kernel
theorem dX11_lay_26 : decode cX11_lay 26 = .ok (.getfield 29, 3) := by decide +kernel
theorem dX11_lay_29 : decode cX11_lay 29 = .ok (.getfield 72, 3) := by decide +kernel
theorem dX11_lay_32 : decode cX11_lay 32 = .ok (.iload_n 1, 1) := by decide +kernel
theorem dX11_lay_33 : decode cX11_lay 33 = .ok (.iload_n 2, 1) := by decide +kernel
theorem dX11_lay_34 : decode cX11_lay 34 = .ok (.iload_n 3, 1) := by decide +kernel
theorem dX11_lay_35 : decode cX11_lay 35 = .ok (.invokevirtual 217, 3) := by decide +kernel
theorem dX11_lay_38 : decode cX11_lay 38 = .ok (.istore 4, 2) := by decide +kernel
theorem dX11_lay_40 : decode cX11_lay 40 = .ok (.iload 4, 2) := by decide +kernel
theorem dX11_lay_42 : decode cX11_lay 42 = .ok (.ifCond .ne 19, 3) := by decide +kernel
theorem dX11_lay_45 : decode cX11_lay 45 = .ok (.aload_n 0, 1) := by decide +kernel
theorem dX11_lay_46 : decode cX11_lay 46 = .ok (.invokevirtual 221, 3) := by decide +kernel
theorem dX11_lay_49 : decode cX11_lay 49 = .ok (.aload_n 0, 1) := by decide +kernel
theorem dX11_lay_50 : decode cX11_lay 50 = .ok (.getfield 29, 3) := by decide +kernel
theorem dX11_lay_53 : decode cX11_lay 53 = .ok (.getfield 72, 3) := by decide +kernel
theorem dX11_lay_56 : decode cX11_lay 56 = .ok (.iload_n 2, 1) := by decide +kernel
theorem dX11_lay_57 : decode cX11_lay 57 = .ok (.iload_n 3, 1) := by decide +kernel
theorem dX11_lay_58 : decode cX11_lay 58 = .ok (.invokevirtual 224, 3) := by decide +kernel
theorem dX11_lay_61 : decode cX11_lay 61 = .ok (.iload 4, 2) := by decide +kernel
theorem dX11_lay_63 : decode cX11_lay 63 = .ok (.ireturn, 1) := by decide +kernel
def f_W_lay (n : Nat)  (a1 : Int) (a2 : Int) (a3 : Int) (σ : JSg) : Option (Int × JSg) :=
  bd1 (f_W_isWidow a1 σ) fun r1 => if r1 = 0 then (some ((-1), σ)) else (bd1 (f_W_isStone a2 σ) fun r2 => if r2 = 0 then (some ((-1), σ)) else (bd1 (f_W_isEnd a3 σ) fun r3 => if r3 = 0 then (some ((-1), σ)) else (bd1 (f_Row_refusal 11 4 a1 a2 a3 σ) fun r4 => lt_ r4 fun v5 => if v5 = 0 then (bd1 (f_W_keepPast σ) fun s6 => bd1 (f_Row_put n 11 4 a2 a3 s6) fun s7 => some (v5, s7)) else (some (v5, σ)))))
set_option maxRecDepth 20000 in
set_option maxHeartbeats 4000000 in
theorem k_W_lay  (n : Nat)   (a1 : Int) (a2 : Int) (a3 : Int) (σ : JSg) : Call yX11_lay cX11_lay 5 (some .int) 4 SH RHO [vR 0, vI a1, vI a2, vI a3] σ dIm (f_W_lay n a1 a2 a3 σ) := by
  refine call_of_sim (by decide +kernel) (Nat.le_of_ble_eq_true rfl) ?_
  show Sim RX11 cX11_lay 5 (some .int) 4 SH RHO 0 [(0, vR 0), (1, vI a1), (2, vI a2), (3, vI a3)] [] σ dIm (f_W_lay n a1 a2 a3 σ)
  unfold f_W_lay
  refine sim_aload_n 0 rfl dX11_lay_0 ?_
  refine sim_iload_n 1 rfl dX11_lay_1 ?_
  refine sim_callVIp v_RX11_183 sh_0 dX11_lay_2 (k_W_isWidow a1 σ) rfl ⟨by decide, by decide⟩ (S := []) rfl (Nat.le_of_ble_eq_true rfl) (fun r1 => ?_)
  refine sim_if_eq (tgt := 23) dX11_lay_5 (by decide) ?_ ?_
  · refine sim_iconst dX11_lay_23 (by decide) ?_
    exact sim_iret rfl rfl dX11_lay_24
  · refine sim_aload_n 0 rfl dX11_lay_8 ?_
    refine sim_iload_n 2 rfl dX11_lay_9 ?_
    refine sim_callVIp v_RX11_149 sh_0 dX11_lay_10 (k_W_isStone a2 σ) rfl ⟨by decide, by decide⟩ (S := []) rfl (Nat.le_of_ble_eq_true rfl) (fun r2 => ?_)
    refine sim_if_eq (tgt := 23) dX11_lay_13 (by decide) ?_ ?_
    · refine sim_iconst dX11_lay_23 (by decide) ?_
      exact sim_iret rfl rfl dX11_lay_24
    · refine sim_iload_n 3 rfl dX11_lay_16 ?_
      refine sim_callSIp s_RX11_211 dX11_lay_17 (k_W_isEnd SH RHO a3 σ) rfl ⟨by decide, by decide⟩ (S := []) rfl (Nat.le_of_ble_eq_true rfl) (fun r3 => ?_)
      refine sim_if_ne (tgt := 25) dX11_lay_20 (by decide) ?_ ?_
      · refine sim_aload_n 0 rfl dX11_lay_25 ?_
        refine sim_getR g_RX11_29 sh_0 rh_0_3 dX11_lay_26 ?_
        refine sim_getR g_RX11_72 (LWld_o lay_3) rh_3_1 dX11_lay_29 ?_
        refine sim_iload_n 1 rfl dX11_lay_32 ?_
        refine sim_iload_n 2 rfl dX11_lay_33 ?_
        refine sim_iload_n 3 rfl dX11_lay_34 ?_
        refine sim_callVIp v_RX11_217 (LRow_o lay_11) dX11_lay_35 (k_Row_refusal SH RHO 11 4 lay_11 lay_4 a1 a2 a3 σ) rfl ⟨by decide, by decide⟩ (S := []) rfl (Nat.le_of_ble_eq_true rfl) (fun r4 => ?_)
        refine sim_istore (fun v5 => [(4, vI v5), (0, vR 0), (1, vI a1), (2, vI a2), (3, vI a3)]) (fun _ => rfl) (by decide) dX11_lay_38 (fun v5 => ?_)
        refine sim_iload 0 rfl dX11_lay_40 ?_
        refine sim_if_ne (tgt := 61) dX11_lay_42 (by decide) ?_ ?_
        · refine sim_iload 0 rfl dX11_lay_61 ?_
          exact sim_iret rfl rfl dX11_lay_63
        · refine sim_aload_n 1 rfl dX11_lay_45 ?_
          refine sim_callVVm v_RX11_221 sh_0 dX11_lay_46 (k_W_keepPast σ) rfl ⟨by decide, by decide⟩ (S := []) rfl (Nat.le_of_ble_eq_true rfl) (fun s6 => ?_)
          refine sim_aload_n 1 rfl dX11_lay_49 ?_
          refine sim_getR g_RX11_29 sh_0 rh_0_3 dX11_lay_50 ?_
          refine sim_getR g_RX11_72 (LWld_o lay_3) rh_3_1 dX11_lay_53 ?_
          refine sim_iload_n 3 rfl dX11_lay_56 ?_
          refine sim_iload_n 4 rfl dX11_lay_57 ?_
          refine sim_callVVm v_RX11_224 (LRow_o lay_11) dX11_lay_58 (k_Row_put SH RHO n 11 4 lay_11 lay_4 a2 a3 s6) rfl ⟨by decide, by decide⟩ (S := []) rfl (Nat.le_of_ble_eq_true rfl) (fun s7 => ?_)
          refine sim_iload 0 rfl dX11_lay_61 ?_
          exact sim_iret rfl rfl dX11_lay_63
      · refine sim_iconst dX11_lay_23 (by decide) ?_
        exact sim_iret rfl rfl dX11_lay_24
theorem dX11_why_0 : decode cX11_why 0 = .ok (.aload_n 0, 1) := by decide +kernel
theorem dX11_why_1 : decode cX11_why 1 = .ok (.iload_n 1, 1) := by decide +kernel
theorem dX11_why_2 : decode cX11_why 2 = .ok (.invokevirtual 183, 3) := by decide +kernel
theorem dX11_why_5 : decode cX11_why 5 = .ok (.ifCond .eq 18, 3) := by decide +kernel
theorem dX11_why_8 : decode cX11_why 8 = .ok (.aload_n 0, 1) := by decide +kernel
theorem dX11_why_9 : decode cX11_why 9 = .ok (.iload_n 2, 1) := by decide +kernel
theorem dX11_why_10 : decode cX11_why 10 = .ok (.invokevirtual 149, 3) := by decide +kernel
theorem dX11_why_13 : decode cX11_why 13 = .ok (.ifCond .eq 10, 3) := by decide +kernel
theorem dX11_why_16 : decode cX11_why 16 = .ok (.iload_n 3, 1) := by decide +kernel
theorem dX11_why_17 : decode cX11_why 17 = .ok (.invokestatic 211, 3) := by decide +kernel
theorem dX11_why_20 : decode cX11_why 20 = .ok (.ifCond .ne 5, 3) := by decide +kernel
theorem dX11_why_23 : decode cX11_why 23 = .ok (.iconst (-1), 1) := by decide +kernel
theorem dX11_why_24 : decode cX11_why 24 = .ok (.ireturn, 1) := by decide +kernel
theorem dX11_why_25 : decode cX11_why 25 = .ok (.aload_n 0, 1) := by decide +kernel
theorem dX11_why_26 : decode cX11_why 26 = .ok (.getfield 29, 3) := by decide +kernel
theorem dX11_why_29 : decode cX11_why 29 = .ok (.getfield 72, 3) := by decide +kernel
theorem dX11_why_32 : decode cX11_why 32 = .ok (.iload_n 1, 1) := by decide +kernel
theorem dX11_why_33 : decode cX11_why 33 = .ok (.iload_n 2, 1) := by decide +kernel
theorem dX11_why_34 : decode cX11_why 34 = .ok (.iload_n 3, 1) := by decide +kernel
theorem dX11_why_35 : decode cX11_why 35 = .ok (.invokevirtual 217, 3) := by decide +kernel
theorem dX11_why_38 : decode cX11_why 38 = .ok (.ireturn, 1) := by decide +kernel
def f_W_why   (a1 : Int) (a2 : Int) (a3 : Int) (σ : JSg) : Option (Int) :=
  bd1 (f_W_isWidow a1 σ) fun r1 => if r1 = 0 then (some (-1)) else (bd1 (f_W_isStone a2 σ) fun r2 => if r2 = 0 then (some (-1)) else (bd1 (f_W_isEnd a3 σ) fun r3 => if r3 = 0 then (some (-1)) else (bd1 (f_Row_refusal 11 4 a1 a2 a3 σ) fun r4 => some r4)))
set_option maxRecDepth 20000 in
set_option maxHeartbeats 4000000 in
theorem k_W_why     (a1 : Int) (a2 : Int) (a3 : Int) (σ : JSg) : Call yX11_why cX11_why 4 (some .int) 4 SH RHO [vR 0, vI a1, vI a2, vI a3] σ (dIp σ) (f_W_why a1 a2 a3 σ) := by
  refine call_of_sim (by decide +kernel) (Nat.le_of_ble_eq_true rfl) ?_
  show Sim RX11 cX11_why 4 (some .int) 4 SH RHO 0 [(0, vR 0), (1, vI a1), (2, vI a2), (3, vI a3)] [] σ (dIp σ) (f_W_why a1 a2 a3 σ)
  unfold f_W_why
  refine sim_aload_n 0 rfl dX11_why_0 ?_
  refine sim_iload_n 1 rfl dX11_why_1 ?_
  refine sim_callVIp v_RX11_183 sh_0 dX11_why_2 (k_W_isWidow a1 σ) rfl ⟨by decide, by decide⟩ (S := []) rfl (Nat.le_of_ble_eq_true rfl) (fun r1 => ?_)
  refine sim_if_eq (tgt := 23) dX11_why_5 (by decide) ?_ ?_
  · refine sim_iconst dX11_why_23 (by decide) ?_
    exact sim_iret rfl rfl dX11_why_24
  · refine sim_aload_n 0 rfl dX11_why_8 ?_
    refine sim_iload_n 2 rfl dX11_why_9 ?_
    refine sim_callVIp v_RX11_149 sh_0 dX11_why_10 (k_W_isStone a2 σ) rfl ⟨by decide, by decide⟩ (S := []) rfl (Nat.le_of_ble_eq_true rfl) (fun r2 => ?_)
    refine sim_if_eq (tgt := 23) dX11_why_13 (by decide) ?_ ?_
    · refine sim_iconst dX11_why_23 (by decide) ?_
      exact sim_iret rfl rfl dX11_why_24
    · refine sim_iload_n 3 rfl dX11_why_16 ?_
      refine sim_callSIp s_RX11_211 dX11_why_17 (k_W_isEnd SH RHO a3 σ) rfl ⟨by decide, by decide⟩ (S := []) rfl (Nat.le_of_ble_eq_true rfl) (fun r3 => ?_)
      refine sim_if_ne (tgt := 25) dX11_why_20 (by decide) ?_ ?_
      · refine sim_aload_n 0 rfl dX11_why_25 ?_
        refine sim_getR g_RX11_29 sh_0 rh_0_3 dX11_why_26 ?_
        refine sim_getR g_RX11_72 (LWld_o lay_3) rh_3_1 dX11_why_29 ?_
        refine sim_iload_n 1 rfl dX11_why_32 ?_
        refine sim_iload_n 2 rfl dX11_why_33 ?_
        refine sim_iload_n 3 rfl dX11_why_34 ?_
        refine sim_callVIp v_RX11_217 (LRow_o lay_11) dX11_why_35 (k_Row_refusal SH RHO 11 4 lay_11 lay_4 a1 a2 a3 σ) rfl ⟨by decide, by decide⟩ (S := []) rfl (Nat.le_of_ble_eq_true rfl) (fun r4 => ?_)
        exact sim_iret rfl rfl dX11_why_38
      · refine sim_iconst dX11_why_23 (by decide) ?_
        exact sim_iret rfl rfl dX11_why_24
theorem dX11_pips_0 : decode cX11_pips 0 = .ok (.iload_n 1, 1) := by decide +kernel
theorem dX11_pips_1 : decode cX11_pips 1 = .ok (.invokestatic 211, 3) := by decide +kernel
theorem dX11_pips_4 : decode cX11_pips 4 = .ok (.ifCond .eq 17, 3) := by decide +kernel
theorem dX11_pips_7 : decode cX11_pips 7 = .ok (.aload_n 0, 1) := by decide +kernel
theorem dX11_pips_8 : decode cX11_pips 8 = .ok (.getfield 29, 3) := by decide +kernel
theorem dX11_pips_11 : decode cX11_pips 11 = .ok (.getfield 72, 3) := by decide +kernel
theorem dX11_pips_14 : decode cX11_pips 14 = .ok (.iload_n 1, 1) := by decide +kernel
theorem dX11_pips_15 : decode cX11_pips 15 = .ok (.invokevirtual 214, 3) := by decide +kernel
theorem dX11_pips_18 : decode cX11_pips 18 = .ok (.goto 4, 3) := by decide +kernel
theorem dX11_pips_21 : decode cX11_pips 21 = .ok (.iconst (-1), 1) := by decide +kernel
theorem dX11_pips_22 : decode cX11_pips 22 = .ok (.ireturn, 1) := by decide +kernel
def f_W_pips   (a1 : Int) (σ : JSg) : Option (Int) :=
  bd1 (f_W_isEnd a1 σ) fun r1 => if r1 = 0 then (some (-1)) else (bd1 (f_Row_outer 11 4 a1 σ) fun r2 => some r2)
set_option maxRecDepth 20000 in
set_option maxHeartbeats 4000000 in
theorem k_W_pips     (a1 : Int) (σ : JSg) : Call yX11_pips cX11_pips 2 (some .int) 2 SH RHO [vR 0, vI a1] σ (dIp σ) (f_W_pips a1 σ) := by
  refine call_of_sim (by decide +kernel) (Nat.le_of_ble_eq_true rfl) ?_
  show Sim RX11 cX11_pips 2 (some .int) 2 SH RHO 0 [(0, vR 0), (1, vI a1)] [] σ (dIp σ) (f_W_pips a1 σ)
  unfold f_W_pips
  refine sim_iload_n 1 rfl dX11_pips_0 ?_
  refine sim_callSIp s_RX11_211 dX11_pips_1 (k_W_isEnd SH RHO a1 σ) rfl ⟨by decide, by decide⟩ (S := []) rfl (Nat.le_of_ble_eq_true rfl) (fun r1 => ?_)
  refine sim_if_eq (tgt := 21) dX11_pips_4 (by decide) ?_ ?_
  · refine sim_iconst dX11_pips_21 (by decide) ?_
    exact sim_iret rfl rfl dX11_pips_22
  · refine sim_aload_n 0 rfl dX11_pips_7 ?_
    refine sim_getR g_RX11_29 sh_0 rh_0_3 dX11_pips_8 ?_
    refine sim_getR g_RX11_72 (LWld_o lay_3) rh_3_1 dX11_pips_11 ?_
    refine sim_iload_n 1 rfl dX11_pips_14 ?_
    refine sim_callVIp v_RX11_214 (LRow_o lay_11) dX11_pips_15 (k_Row_outer SH RHO 11 4 lay_11 lay_4 a1 σ) rfl ⟨by decide, by decide⟩ (S := []) rfl (Nat.le_of_ble_eq_true rfl) (fun r2 => ?_)
    refine sim_goto (tgt := 22) dX11_pips_18 (by decide) ?_
    exact sim_iret rfl rfl dX11_pips_22
theorem dX11_at_0 : decode cX11_at 0 = .ok (.iload_n 1, 1) := by decide +kernel
theorem dX11_at_1 : decode cX11_at 1 = .ok (.ifCond .lt 32, 3) := by decide +kernel
theorem dX11_at_4 : decode cX11_at 4 = .ok (.iload_n 1, 1) := by decide +kernel
theorem dX11_at_5 : decode cX11_at 5 = .ok (.aload_n 0, 1) := by decide +kernel
theorem dX11_at_6 : decode cX11_at 6 = .ok (.getfield 29, 3) := by decide +kernel
theorem dX11_at_9 : decode cX11_at 9 = .ok (.getfield 72, 3) := by decide +kernel
theorem dX11_at_12 : decode cX11_at 12 = .ok (.getfield 205, 3) := by decide +kernel
theorem dX11_at_15 : decode cX11_at 15 = .ok (.if_icmp .ge 18, 3) := by decide +kernel
theorem dX11_at_18 : decode cX11_at 18 = .ok (.aload_n 0, 1) := by decide +kernel
theorem dX11_at_19 : decode cX11_at 19 = .ok (.getfield 29, 3) := by decide +kernel
theorem dX11_at_22 : decode cX11_at 22 = .ok (.getfield 72, 3) := by decide +kernel
theorem dX11_at_25 : decode cX11_at 25 = .ok (.getfield 208, 3) := by decide +kernel
theorem dX11_at_28 : decode cX11_at 28 = .ok (.iload_n 1, 1) := by decide +kernel
theorem dX11_at_29 : decode cX11_at 29 = .ok (.iaload, 1) := by decide +kernel
theorem dX11_at_30 : decode cX11_at 30 = .ok (.goto 4, 3) := by decide +kernel
theorem dX11_at_33 : decode cX11_at 33 = .ok (.iconst (-1), 1) := by decide +kernel
theorem dX11_at_34 : decode cX11_at 34 = .ok (.ireturn, 1) := by decide +kernel
def f_W_at   (a1 : Int) (σ : JSg) : Option (Int) :=
  if a1 < 0 then (some (-1)) else (if a1 < (σ 11 4) then (chk (0 ≤ a1 ∧ a1 < 28) <| some (σ 14 a1.toNat)) else (some (-1)))
set_option maxRecDepth 20000 in
set_option maxHeartbeats 4000000 in
theorem k_W_at     (a1 : Int) (σ : JSg) : Call yX11_at cX11_at 2 (some .int) 0 SH RHO [vR 0, vI a1] σ (dIp σ) (f_W_at a1 σ) := by
  refine call_of_sim (by decide +kernel) (Nat.le_of_ble_eq_true rfl) ?_
  show Sim RX11 cX11_at 2 (some .int) 0 SH RHO 0 [(0, vR 0), (1, vI a1)] [] σ (dIp σ) (f_W_at a1 σ)
  unfold f_W_at
  refine sim_iload_n 1 rfl dX11_at_0 ?_
  refine sim_if_lt (tgt := 33) dX11_at_1 (by decide) ?_ ?_
  · refine sim_iconst dX11_at_33 (by decide) ?_
    exact sim_iret rfl rfl dX11_at_34
  · refine sim_iload_n 1 rfl dX11_at_4 ?_
    refine sim_aload_n 0 rfl dX11_at_5 ?_
    refine sim_getR g_RX11_29 sh_0 rh_0_3 dX11_at_6 ?_
    refine sim_getR g_RX11_72 (LWld_o lay_3) rh_3_1 dX11_at_9 ?_
    refine sim_getI g_RX11_205 (LRow_o lay_11) dX11_at_12 ?_
    refine sim_icmp_ge (tgt := 33) dX11_at_15 (by decide) ?_ ?_
    · refine sim_iconst dX11_at_33 (by decide) ?_
      exact sim_iret rfl rfl dX11_at_34
    · refine sim_aload_n 0 rfl dX11_at_18 ?_
      refine sim_getR g_RX11_29 sh_0 rh_0_3 dX11_at_19 ?_
      refine sim_getR g_RX11_72 (LWld_o lay_3) rh_3_1 dX11_at_22 ?_
      refine sim_getR g_RX11_208 (LRow_o lay_11) rh_11_3 dX11_at_25 ?_
      refine sim_iload_n 1 rfl dX11_at_28 ?_
      refine sim_iaload sh_14 rfl dX11_at_29 ?_
      refine sim_goto (tgt := 34) dX11_at_30 (by decide) ?_
      exact sim_iret rfl rfl dX11_at_34
theorem dX11_fits_0 : decode cX11_fits 0 = .ok (.iload_n 1, 1) := by decide +kernel
theorem dX11_fits_1 : decode cX11_fits 1 = .ok (.invokestatic 198, 3) := by decide +kernel
theorem dX11_fits_4 : decode cX11_fits 4 = .ok (.ifCond .eq 10, 3) := by decide +kernel
theorem dX11_fits_7 : decode cX11_fits 7 = .ok (.iload_n 2, 1) := by decide +kernel
theorem dX11_fits_8 : decode cX11_fits 8 = .ok (.invokestatic 198, 3) := by decide +kernel
theorem dX11_fits_11 : decode cX11_fits 11 = .ok (.ifCond .ne 5, 3) := by decide +kernel
theorem dX11_fits_14 : decode cX11_fits 14 = .ok (.iconst (-1), 1) := by decide +kernel
theorem dX11_fits_15 : decode cX11_fits 15 = .ok (.ireturn, 1) := by decide +kernel
theorem dX11_fits_16 : decode cX11_fits 16 = .ok (.aload_n 0, 1) := by decide +kernel
theorem dX11_fits_17 : decode cX11_fits 17 = .ok (.getfield 29, 3) := by decide +kernel
theorem dX11_fits_20 : decode cX11_fits 20 = .ok (.getfield 54, 3) := by decide +kernel
theorem dX11_fits_23 : decode cX11_fits 23 = .ok (.iload_n 1, 1) := by decide +kernel
theorem dX11_fits_24 : decode cX11_fits 24 = .ok (.iload_n 2, 1) := by decide +kernel
theorem dX11_fits_25 : decode cX11_fits 25 = .ok (.invokevirtual 201, 3) := by decide +kernel
theorem dX11_fits_28 : decode cX11_fits 28 = .ok (.ifCond .eq 7, 3) := by decide +kernel
theorem dX11_fits_31 : decode cX11_fits 31 = .ok (.iconst 1, 1) := by decide +kernel
theorem dX11_fits_32 : decode cX11_fits 32 = .ok (.goto 4, 3) := by decide +kernel
theorem dX11_fits_35 : decode cX11_fits 35 = .ok (.iconst 0, 1) := by decide +kernel
theorem dX11_fits_36 : decode cX11_fits 36 = .ok (.ireturn, 1) := by decide +kernel
def f_W_fits   (a1 : Int) (a2 : Int) (σ : JSg) : Option (Int) :=
  bd1 (f_W_isPips a1 σ) fun r1 => if r1 = 0 then (some (-1)) else (bd1 (f_W_isPips a2 σ) fun r2 => if r2 = 0 then (some (-1)) else (bd1 (f_Isl_fit 4 a1 a2 σ) fun r3 => if r3 = 0 then (some 0) else (some 1)))
set_option maxRecDepth 20000 in
set_option maxHeartbeats 4000000 in
theorem k_W_fits     (a1 : Int) (a2 : Int) (σ : JSg) : Call yX11_fits cX11_fits 3 (some .int) 1 SH RHO [vR 0, vI a1, vI a2] σ (dIp σ) (f_W_fits a1 a2 σ) := by
  refine call_of_sim (by decide +kernel) (Nat.le_of_ble_eq_true rfl) ?_
  show Sim RX11 cX11_fits 3 (some .int) 1 SH RHO 0 [(0, vR 0), (1, vI a1), (2, vI a2)] [] σ (dIp σ) (f_W_fits a1 a2 σ)
  unfold f_W_fits
  refine sim_iload_n 1 rfl dX11_fits_0 ?_
  refine sim_callSIp s_RX11_198 dX11_fits_1 (k_W_isPips SH RHO a1 σ) rfl ⟨by decide, by decide⟩ (S := []) rfl (Nat.le_of_ble_eq_true rfl) (fun r1 => ?_)
  refine sim_if_eq (tgt := 14) dX11_fits_4 (by decide) ?_ ?_
  · refine sim_iconst dX11_fits_14 (by decide) ?_
    exact sim_iret rfl rfl dX11_fits_15
  · refine sim_iload_n 2 rfl dX11_fits_7 ?_
    refine sim_callSIp s_RX11_198 dX11_fits_8 (k_W_isPips SH RHO a2 σ) rfl ⟨by decide, by decide⟩ (S := []) rfl (Nat.le_of_ble_eq_true rfl) (fun r2 => ?_)
    refine sim_if_ne (tgt := 16) dX11_fits_11 (by decide) ?_ ?_
    · refine sim_aload_n 0 rfl dX11_fits_16 ?_
      refine sim_getR g_RX11_29 sh_0 rh_0_3 dX11_fits_17 ?_
      refine sim_getR g_RX11_54 (LWld_o lay_3) rh_3_0 dX11_fits_20 ?_
      refine sim_iload_n 1 rfl dX11_fits_23 ?_
      refine sim_iload_n 2 rfl dX11_fits_24 ?_
      refine sim_callVIp v_RX11_201 (LIsl_o lay_4) dX11_fits_25 (k_Isl_fit SH RHO 4 lay_4 a1 a2 σ) rfl ⟨by decide, by decide⟩ (S := []) rfl (Nat.le_of_ble_eq_true rfl) (fun r3 => ?_)
      refine sim_if_eq (tgt := 35) dX11_fits_28 (by decide) ?_ ?_
      · refine sim_iconst dX11_fits_35 (by decide) ?_
        exact sim_iret rfl rfl dX11_fits_36
      · refine sim_iconst dX11_fits_31 (by decide) ?_
        refine sim_goto (tgt := 36) dX11_fits_32 (by decide) ?_
        exact sim_iret rfl rfl dX11_fits_36
    · refine sim_iconst dX11_fits_14 (by decide) ?_
      exact sim_iret rfl rfl dX11_fits_15
theorem dX7_pipsInHand_0 : decode cX7_pipsInHand 0 = .ok (.iconst 0, 1) := by decide +kernel
theorem dX7_pipsInHand_1 : decode cX7_pipsInHand 1 = .ok (.istore_n 2, 1) := by decide +kernel
theorem dX7_pipsInHand_2 : decode cX7_pipsInHand 2 = .ok (.iconst 0, 1) := by decide +kernel
theorem dX7_pipsInHand_3 : decode cX7_pipsInHand 3 = .ok (.istore_n 3, 1) := by decide +kernel
theorem dX7_pipsInHand_4 : decode cX7_pipsInHand 4 = .ok (.iload_n 3, 1) := by decide +kernel
theorem dX7_pipsInHand_5 : decode cX7_pipsInHand 5 = .ok (.aload_n 0, 1) := by decide +kernel
theorem dX7_pipsInHand_6 : decode cX7_pipsInHand 6 = .ok (.getfield 34, 3) := by decide +kernel
theorem dX7_pipsInHand_9 : decode cX7_pipsInHand 9 = .ok (.getfield 55, 3) := by decide +kernel
theorem dX7_pipsInHand_12 : decode cX7_pipsInHand 12 = .ok (.if_icmp .ge 29, 3) := by decide +kernel
theorem dX7_pipsInHand_15 : decode cX7_pipsInHand 15 = .ok (.aload_n 0, 1) := by decide +kernel
theorem dX7_pipsInHand_16 : decode cX7_pipsInHand 16 = .ok (.iload_n 1, 1) := by decide +kernel
theorem dX7_pipsInHand_17 : decode cX7_pipsInHand 17 = .ok (.iload_n 3, 1) := by decide +kernel
theorem dX7_pipsInHand_18 : decode cX7_pipsInHand 18 = .ok (.invokevirtual 58, 3) := by decide +kernel
theorem dX7_pipsInHand_21 : decode cX7_pipsInHand 21 = .ok (.ifCond .eq 14, 3) := by decide +kernel
theorem dX7_pipsInHand_24 : decode cX7_pipsInHand 24 = .ok (.iload_n 2, 1) := by decide +kernel
theorem dX7_pipsInHand_25 : decode cX7_pipsInHand 25 = .ok (.aload_n 0, 1) := by decide +kernel
theorem dX7_pipsInHand_26 : decode cX7_pipsInHand 26 = .ok (.getfield 34, 3) := by decide +kernel
theorem dX7_pipsInHand_29 : decode cX7_pipsInHand 29 = .ok (.iload_n 3, 1) := by decide +kernel
theorem dX7_pipsInHand_30 : decode cX7_pipsInHand 30 = .ok (.invokevirtual 62, 3) := by decide +kernel
theorem dX7_pipsInHand_33 : decode cX7_pipsInHand 33 = .ok (.iadd, 1) := by decide +kernel
theorem dX7_pipsInHand_34 : decode cX7_pipsInHand 34 = .ok (.istore_n 2, 1) := by decide +kernel
theorem dX7_pipsInHand_35 : decode cX7_pipsInHand 35 = .ok (.iinc 3 1, 3) := by decide +kernel
theorem dX7_pipsInHand_38 : decode cX7_pipsInHand 38 = .ok (.goto (-34), 3) := by decide +kernel
theorem dX7_pipsInHand_41 : decode cX7_pipsInHand 41 = .ok (.iload_n 2, 1) := by decide +kernel
theorem dX7_pipsInHand_42 : decode cX7_pipsInHand 42 = .ok (.ireturn, 1) := by decide +kernel
def f_Row_pipsInHand (n : Nat) (p : Nat) (ip : Nat) (a1 : Int) (σ : JSg) : Option (Int) :=
  lt_ 0 fun v1 => lt_ 0 fun v2 => wh2 n (fun rc3 (x4 : Int) (x5 : Int) => if x5 < (σ ip 2) then (bd1 (f_Row_isHeldBy p ip a1 x5 σ) fun r6 => jn1 (fun (y8 : Int) => lt_ (w32 (x5 + 1)) fun v9 => rc3 y8 v9) fun j7 => if r6 = 0 then (j7 x4) else (bd1 (f_Isl_together ip x5 σ) fun r10 => lt_ (w32 (x4 + r10)) fun v11 => j7 v11)) else (some x4)) v1 v2
set_option maxRecDepth 20000 in
set_option maxHeartbeats 4000000 in
theorem k_Row_pipsInHand (Sh : JSh) (ρ : JRo) (n : Nat) (p : Nat) (ip : Nat) (hp : LRow Sh ρ p ip) (hip : LIsl Sh ρ ip) (a1 : Int) (σ : JSg) : Call yX7_pipsInHand cX7_pipsInHand 4 (some .int) 1 Sh ρ [vR p, vI a1] σ (dIp σ) (f_Row_pipsInHand n p ip a1 σ) := by
  refine call_of_sim (by decide +kernel) (Nat.le_of_ble_eq_true rfl) ?_
  show Sim RX7 cX7_pipsInHand 4 (some .int) 1 Sh ρ 0 [(0, vR p), (1, vI a1)] [] σ (dIp σ) (f_Row_pipsInHand n p ip a1 σ)
  unfold f_Row_pipsInHand
  refine sim_iconst dX7_pipsInHand_0 (by decide) ?_
  refine sim_istore_n (fun v1 => [(2, vI v1), (0, vR p), (1, vI a1)]) (fun _ => rfl) (by decide) dX7_pipsInHand_1 (fun v1 => ?_)
  refine sim_iconst dX7_pipsInHand_2 (by decide) ?_
  refine sim_istore_n (fun v2 => [(3, vI v2), (2, vI v1), (0, vR p), (1, vI a1)]) (fun _ => rfl) (by decide) dX7_pipsInHand_3 (fun v2 => ?_)
  refine sim_sub [2, 3, 1, 0] (L' := [(0, vR p), (1, vI a1), (2, vI v1), (3, vI v2)]) rfl ?_
  refine sim_wh2 (fun (x4 : Int) (x5 : Int) => [(0, vR p), (1, vI a1), (2, vI x4), (3, vI x5)]) (fun (x4 : Int) (x5 : Int) => σ) ?_ n v1 v2
  intro rc3 hrc3 x4 x5
  refine sim_iload_n 3 rfl dX7_pipsInHand_4 ?_
  refine sim_aload_n 0 rfl dX7_pipsInHand_5 ?_
  refine sim_getR g_RX7_34 (LRow_o hp) (LRow_r0 hp) dX7_pipsInHand_6 ?_
  refine sim_getI g_RX7_55 (LIsl_o hip) dX7_pipsInHand_9 ?_
  refine sim_icmp_ge (tgt := 41) dX7_pipsInHand_12 (by decide) ?_ ?_
  · refine sim_iload_n 2 rfl dX7_pipsInHand_41 ?_
    exact sim_iret rfl rfl dX7_pipsInHand_42
  · refine sim_aload_n 0 rfl dX7_pipsInHand_15 ?_
    refine sim_iload_n 1 rfl dX7_pipsInHand_16 ?_
    refine sim_iload_n 3 rfl dX7_pipsInHand_17 ?_
    refine sim_callVIp v_RX7_58 (LRow_o hp) dX7_pipsInHand_18 (k_Row_isHeldBy Sh ρ p ip hp hip a1 x5 σ) rfl ⟨by decide, by decide⟩ (S := []) rfl (Nat.le_of_ble_eq_true rfl) (fun r6 => ?_)
    refine sim_jn1 (pc' := 35) (fun (y8 : Int) => [(0, vR p), (1, vI a1), (2, vI y8), (3, vI x5)]) (fun (y8 : Int) => []) (fun (y8 : Int) => σ) ?_ (fun j7 hj7 => ?_)
    · intro y8
      refine sim_iinc 3 rfl (fun v9 => [(3, vI v9), (0, vR p), (1, vI a1), (2, vI y8)]) (fun _ => rfl) (by decide) dX7_pipsInHand_35 (fun v9 => ?_)
      refine sim_goto (tgt := 4) dX7_pipsInHand_38 (by decide) ?_
      exact sim_sub [1, 2, 3, 0] rfl (hrc3 y8 v9)
    refine sim_if_eq (tgt := 35) dX7_pipsInHand_21 (by decide) ?_ ?_
    · exact sim_sub [0, 1, 2, 3] rfl (hj7 x4)
    · refine sim_iload_n 2 rfl dX7_pipsInHand_24 ?_
      refine sim_aload_n 0 rfl dX7_pipsInHand_25 ?_
      refine sim_getR g_RX7_34 (LRow_o hp) (LRow_r0 hp) dX7_pipsInHand_26 ?_
      refine sim_iload_n 3 rfl dX7_pipsInHand_29 ?_
      refine sim_callVIp v_RX7_62 (LIsl_o hip) dX7_pipsInHand_30 (k_Isl_together Sh ρ ip hip x5 σ) rfl ⟨by decide, by decide⟩ (S := [vI x4]) rfl (Nat.le_of_ble_eq_true rfl) (fun r10 => ?_)
      refine sim_iadd dX7_pipsInHand_33 ?_
      refine sim_istore_n (fun v11 => [(2, vI v11), (0, vR p), (1, vI a1), (3, vI x5)]) (fun _ => rfl) (by decide) dX7_pipsInHand_34 (fun v11 => ?_)
      exact sim_sub [1, 2, 0, 3] rfl (hj7 v11)
theorem dX11_widow_0 : decode cX11_widow 0 = .ok (.aload_n 0, 1) := by decide +kernel
theorem dX11_widow_1 : decode cX11_widow 1 = .ok (.iload_n 1, 1) := by decide +kernel
theorem dX11_widow_2 : decode cX11_widow 2 = .ok (.invokevirtual 183, 3) := by decide +kernel
theorem dX11_widow_5 : decode cX11_widow 5 = .ok (.ifCond .ne 5, 3) := by decide +kernel
theorem dX11_widow_8 : decode cX11_widow 8 = .ok (.iconst (-1), 1) := by decide +kernel
theorem dX11_widow_9 : decode cX11_widow 9 = .ok (.ireturn, 1) := by decide +kernel
theorem dX11_widow_10 : decode cX11_widow 10 = .ok (.iload_n 2, 1) := by decide +kernel
theorem dX11_widow_11 : decode cX11_widow 11 = .ok (.tableswitch 140 0 5 #[37, 76, 89, 102, 114, 127], 37) := by decide +kernel
theorem dX11_widow_48 : decode cX11_widow 48 = .ok (.aload_n 0, 1) := by decide +kernel
theorem dX11_widow_49 : decode cX11_widow 49 = .ok (.getfield 29, 3) := by decide +kernel
theorem dX11_widow_52 : decode cX11_widow 52 = .ok (.getfield 72, 3) := by decide +kernel
theorem dX11_widow_55 : decode cX11_widow 55 = .ok (.iload_n 1, 1) := by decide +kernel
theorem dX11_widow_56 : decode cX11_widow 56 = .ok (.iconst 0, 1) := by decide +kernel
theorem dX11_widow_57 : decode cX11_widow 57 = .ok (.invokevirtual 186, 3) := by decide +kernel
theorem dX11_widow_60 : decode cX11_widow 60 = .ok (.aload_n 0, 1) := by decide +kernel
theorem dX11_widow_61 : decode cX11_widow 61 = .ok (.getfield 29, 3) := by decide +kernel
theorem dX11_widow_64 : decode cX11_widow 64 = .ok (.getfield 72, 3) := by decide +kernel
theorem dX11_widow_67 : decode cX11_widow 67 = .ok (.iload_n 1, 1) := by decide +kernel
theorem dX11_widow_68 : decode cX11_widow 68 = .ok (.iconst 1, 1) := by decide +kernel
theorem dX11_widow_69 : decode cX11_widow 69 = .ok (.invokevirtual 186, 3) := by decide +kernel
theorem dX11_widow_72 : decode cX11_widow 72 = .ok (.iadd, 1) := by decide +kernel
theorem dX11_widow_73 : decode cX11_widow 73 = .ok (.aload_n 0, 1) := by decide +kernel
theorem dX11_widow_74 : decode cX11_widow 74 = .ok (.getfield 29, 3) := by decide +kernel
theorem dX11_widow_77 : decode cX11_widow 77 = .ok (.getfield 72, 3) := by decide +kernel
theorem dX11_widow_80 : decode cX11_widow 80 = .ok (.iload_n 1, 1) := by decide +kernel
theorem dX11_widow_81 : decode cX11_widow 81 = .ok (.iconst 2, 1) := by decide +kernel
theorem dX11_widow_82 : decode cX11_widow 82 = .ok (.invokevirtual 186, 3) := by decide +kernel
theorem dX11_widow_85 : decode cX11_widow 85 = .ok (.iadd, 1) := by decide +kernel
theorem dX11_widow_86 : decode cX11_widow 86 = .ok (.ireturn, 1) := by decide +kernel
theorem dX11_widow_87 : decode cX11_widow 87 = .ok (.aload_n 0, 1) := by decide +kernel
theorem dX11_widow_88 : decode cX11_widow 88 = .ok (.getfield 29, 3) := by decide +kernel
theorem dX11_widow_91 : decode cX11_widow 91 = .ok (.getfield 72, 3) := by decide +kernel
theorem dX11_widow_94 : decode cX11_widow 94 = .ok (.iload_n 1, 1) := by decide +kernel
theorem dX11_widow_95 : decode cX11_widow 95 = .ok (.iconst 0, 1) := by decide +kernel
theorem dX11_widow_96 : decode cX11_widow 96 = .ok (.invokevirtual 186, 3) := by decide +kernel
theorem dX11_widow_99 : decode cX11_widow 99 = .ok (.ireturn, 1) := by decide +kernel
theorem dX11_widow_100 : decode cX11_widow 100 = .ok (.aload_n 0, 1) := by decide +kernel
theorem dX11_widow_101 : decode cX11_widow 101 = .ok (.getfield 29, 3) := by decide +kernel
theorem dX11_widow_104 : decode cX11_widow 104 = .ok (.getfield 72, 3) := by decide +kernel
theorem dX11_widow_107 : decode cX11_widow 107 = .ok (.iload_n 1, 1) := by decide +kernel
theorem dX11_widow_108 : decode cX11_widow 108 = .ok (.iconst 1, 1) := by decide +kernel
theorem dX11_widow_109 : decode cX11_widow 109 = .ok (.invokevirtual 186, 3) := by decide +kernel
theorem dX11_widow_112 : decode cX11_widow 112 = .ok (.ireturn, 1) := by decide +kernel
theorem dX11_widow_113 : decode cX11_widow 113 = .ok (.aload_n 0, 1) := by decide +kernel
theorem dX11_widow_114 : decode cX11_widow 114 = .ok (.getfield 29, 3) := by decide +kernel
theorem dX11_widow_117 : decode cX11_widow 117 = .ok (.getfield 72, 3) := by decide +kernel
theorem dX11_widow_120 : decode cX11_widow 120 = .ok (.iload_n 1, 1) := by decide +kernel
theorem dX11_widow_121 : decode cX11_widow 121 = .ok (.invokevirtual 189, 3) := by decide +kernel
theorem dX11_widow_124 : decode cX11_widow 124 = .ok (.ireturn, 1) := by decide +kernel
theorem dX11_widow_125 : decode cX11_widow 125 = .ok (.aload_n 0, 1) := by decide +kernel
theorem dX11_widow_126 : decode cX11_widow 126 = .ok (.getfield 29, 3) := by decide +kernel
theorem dX11_widow_129 : decode cX11_widow 129 = .ok (.getfield 72, 3) := by decide +kernel
theorem dX11_widow_132 : decode cX11_widow 132 = .ok (.getfield 192, 3) := by decide +kernel
theorem dX11_widow_135 : decode cX11_widow 135 = .ok (.iload_n 1, 1) := by decide +kernel
theorem dX11_widow_136 : decode cX11_widow 136 = .ok (.iaload, 1) := by decide +kernel
theorem dX11_widow_137 : decode cX11_widow 137 = .ok (.ireturn, 1) := by decide +kernel
theorem dX11_widow_138 : decode cX11_widow 138 = .ok (.aload_n 0, 1) := by decide +kernel
theorem dX11_widow_139 : decode cX11_widow 139 = .ok (.getfield 29, 3) := by decide +kernel
theorem dX11_widow_142 : decode cX11_widow 142 = .ok (.getfield 72, 3) := by decide +kernel
theorem dX11_widow_145 : decode cX11_widow 145 = .ok (.getfield 195, 3) := by decide +kernel
theorem dX11_widow_148 : decode cX11_widow 148 = .ok (.iload_n 1, 1) := by decide +kernel
theorem dX11_widow_149 : decode cX11_widow 149 = .ok (.iaload, 1) := by decide +kernel
theorem dX11_widow_150 : decode cX11_widow 150 = .ok (.ireturn, 1) := by decide +kernel
theorem dX11_widow_151 : decode cX11_widow 151 = .ok (.iconst (-1), 1) := by decide +kernel
theorem dX11_widow_152 : decode cX11_widow 152 = .ok (.ireturn, 1) := by decide +kernel
def f_W_widow (n : Nat)  (a1 : Int) (a2 : Int) (σ : JSg) : Option (Int) :=
  bd1 (f_W_isWidow a1 σ) fun r1 => if r1 = 0 then (some (-1)) else (sw_ a2 0 [bd1 (f_Row_owned n 11 4 a1 0 σ) fun r2 => bd1 (f_Row_owned n 11 4 a1 1 σ) fun r3 => bd1 (f_Row_owned n 11 4 a1 2 σ) fun r4 => some (w32 ((w32 (r2 + r3)) + r4)), bd1 (f_Row_owned n 11 4 a1 0 σ) fun r5 => some r5, bd1 (f_Row_owned n 11 4 a1 1 σ) fun r6 => some r6, bd1 (f_Row_pipsInHand n 11 4 a1 σ) fun r7 => some r7, chk (0 ≤ a1 ∧ a1 < 6) <| some (σ 16 a1.toNat), chk (0 ≤ a1 ∧ a1 < 6) <| some (σ 17 a1.toNat)] (some (-1)))
set_option maxRecDepth 20000 in
set_option maxHeartbeats 4000000 in
theorem k_W_widow  (n : Nat)   (a1 : Int) (a2 : Int) (σ : JSg) : Call yX11_widow cX11_widow 3 (some .int) 2 SH RHO [vR 0, vI a1, vI a2] σ (dIp σ) (f_W_widow n a1 a2 σ) := by
  refine call_of_sim (by decide +kernel) (Nat.le_of_ble_eq_true rfl) ?_
  show Sim RX11 cX11_widow 3 (some .int) 2 SH RHO 0 [(0, vR 0), (1, vI a1), (2, vI a2)] [] σ (dIp σ) (f_W_widow n a1 a2 σ)
  unfold f_W_widow
  refine sim_aload_n 0 rfl dX11_widow_0 ?_
  refine sim_iload_n 1 rfl dX11_widow_1 ?_
  refine sim_callVIp v_RX11_183 sh_0 dX11_widow_2 (k_W_isWidow a1 σ) rfl ⟨by decide, by decide⟩ (S := []) rfl (Nat.le_of_ble_eq_true rfl) (fun r1 => ?_)
  refine sim_if_ne (tgt := 10) dX11_widow_5 (by decide) ?_ ?_
  · refine sim_iload_n 2 rfl dX11_widow_10 ?_
    refine sim_tsw2 (td := 151) [48, 87, 100, 113, 125, 138] dX11_widow_11 (by decide) (by decide) (tsw_of (by decide +kernel)) ⟨?_, ?_, ?_, ?_, ?_, ?_, trivial⟩ ?_
    · refine sim_aload_n 0 rfl dX11_widow_48 ?_
      refine sim_getR g_RX11_29 sh_0 rh_0_3 dX11_widow_49 ?_
      refine sim_getR g_RX11_72 (LWld_o lay_3) rh_3_1 dX11_widow_52 ?_
      refine sim_iload_n 1 rfl dX11_widow_55 ?_
      refine sim_iconst dX11_widow_56 (by decide) ?_
      refine sim_callVIp v_RX11_186 (LRow_o lay_11) dX11_widow_57 (k_Row_owned SH RHO n 11 4 lay_11 lay_4 a1 0 σ) rfl ⟨by decide, by decide⟩ (S := []) rfl (Nat.le_of_ble_eq_true rfl) (fun r2 => ?_)
      refine sim_aload_n 0 rfl dX11_widow_60 ?_
      refine sim_getR g_RX11_29 sh_0 rh_0_3 dX11_widow_61 ?_
      refine sim_getR g_RX11_72 (LWld_o lay_3) rh_3_1 dX11_widow_64 ?_
      refine sim_iload_n 1 rfl dX11_widow_67 ?_
      refine sim_iconst dX11_widow_68 (by decide) ?_
      refine sim_callVIp v_RX11_186 (LRow_o lay_11) dX11_widow_69 (k_Row_owned SH RHO n 11 4 lay_11 lay_4 a1 1 σ) rfl ⟨by decide, by decide⟩ (S := [vI r2]) rfl (Nat.le_of_ble_eq_true rfl) (fun r3 => ?_)
      refine sim_iadd dX11_widow_72 ?_
      refine sim_aload_n 0 rfl dX11_widow_73 ?_
      refine sim_getR g_RX11_29 sh_0 rh_0_3 dX11_widow_74 ?_
      refine sim_getR g_RX11_72 (LWld_o lay_3) rh_3_1 dX11_widow_77 ?_
      refine sim_iload_n 1 rfl dX11_widow_80 ?_
      refine sim_iconst dX11_widow_81 (by decide) ?_
      refine sim_callVIp v_RX11_186 (LRow_o lay_11) dX11_widow_82 (k_Row_owned SH RHO n 11 4 lay_11 lay_4 a1 2 σ) rfl ⟨by decide, by decide⟩ (S := [vI (w32 (r2 + r3))]) rfl (Nat.le_of_ble_eq_true rfl) (fun r4 => ?_)
      refine sim_iadd dX11_widow_85 ?_
      exact sim_iret rfl rfl dX11_widow_86
    · refine sim_aload_n 0 rfl dX11_widow_87 ?_
      refine sim_getR g_RX11_29 sh_0 rh_0_3 dX11_widow_88 ?_
      refine sim_getR g_RX11_72 (LWld_o lay_3) rh_3_1 dX11_widow_91 ?_
      refine sim_iload_n 1 rfl dX11_widow_94 ?_
      refine sim_iconst dX11_widow_95 (by decide) ?_
      refine sim_callVIp v_RX11_186 (LRow_o lay_11) dX11_widow_96 (k_Row_owned SH RHO n 11 4 lay_11 lay_4 a1 0 σ) rfl ⟨by decide, by decide⟩ (S := []) rfl (Nat.le_of_ble_eq_true rfl) (fun r5 => ?_)
      exact sim_iret rfl rfl dX11_widow_99
    · refine sim_aload_n 0 rfl dX11_widow_100 ?_
      refine sim_getR g_RX11_29 sh_0 rh_0_3 dX11_widow_101 ?_
      refine sim_getR g_RX11_72 (LWld_o lay_3) rh_3_1 dX11_widow_104 ?_
      refine sim_iload_n 1 rfl dX11_widow_107 ?_
      refine sim_iconst dX11_widow_108 (by decide) ?_
      refine sim_callVIp v_RX11_186 (LRow_o lay_11) dX11_widow_109 (k_Row_owned SH RHO n 11 4 lay_11 lay_4 a1 1 σ) rfl ⟨by decide, by decide⟩ (S := []) rfl (Nat.le_of_ble_eq_true rfl) (fun r6 => ?_)
      exact sim_iret rfl rfl dX11_widow_112
    · refine sim_aload_n 0 rfl dX11_widow_113 ?_
      refine sim_getR g_RX11_29 sh_0 rh_0_3 dX11_widow_114 ?_
      refine sim_getR g_RX11_72 (LWld_o lay_3) rh_3_1 dX11_widow_117 ?_
      refine sim_iload_n 1 rfl dX11_widow_120 ?_
      refine sim_callVIp v_RX11_189 (LRow_o lay_11) dX11_widow_121 (k_Row_pipsInHand SH RHO n 11 4 lay_11 lay_4 a1 σ) rfl ⟨by decide, by decide⟩ (S := []) rfl (Nat.le_of_ble_eq_true rfl) (fun r7 => ?_)
      exact sim_iret rfl rfl dX11_widow_124
    · refine sim_aload_n 0 rfl dX11_widow_125 ?_
      refine sim_getR g_RX11_29 sh_0 rh_0_3 dX11_widow_126 ?_
      refine sim_getR g_RX11_72 (LWld_o lay_3) rh_3_1 dX11_widow_129 ?_
      refine sim_getR g_RX11_192 (LRow_o lay_11) rh_11_6 dX11_widow_132 ?_
      refine sim_iload_n 1 rfl dX11_widow_135 ?_
      refine sim_iaload sh_16 rfl dX11_widow_136 ?_
      exact sim_iret rfl rfl dX11_widow_137
    · refine sim_aload_n 0 rfl dX11_widow_138 ?_
      refine sim_getR g_RX11_29 sh_0 rh_0_3 dX11_widow_139 ?_
      refine sim_getR g_RX11_72 (LWld_o lay_3) rh_3_1 dX11_widow_142 ?_
      refine sim_getR g_RX11_195 (LRow_o lay_11) rh_11_7 dX11_widow_145 ?_
      refine sim_iload_n 1 rfl dX11_widow_148 ?_
      refine sim_iaload sh_17 rfl dX11_widow_149 ?_
      exact sim_iret rfl rfl dX11_widow_150
    · refine sim_iconst dX11_widow_151 (by decide) ?_
      exact sim_iret rfl rfl dX11_widow_152
  · refine sim_iconst dX11_widow_8 (by decide) ?_
    exact sim_iret rfl rfl dX11_widow_9
theorem dX11_find_0 : decode cX11_find 0 = .ok (.aload_n 0, 1) := by decide +kernel
theorem dX11_find_1 : decode cX11_find 1 = .ok (.getfield 29, 3) := by decide +kernel
theorem dX11_find_4 : decode cX11_find 4 = .ok (.getfield 54, 3) := by decide +kernel
theorem dX11_find_7 : decode cX11_find 7 = .ok (.iload_n 1, 1) := by decide +kernel
theorem dX11_find_8 : decode cX11_find 8 = .ok (.iload_n 2, 1) := by decide +kernel
theorem dX11_find_9 : decode cX11_find 9 = .ok (.invokevirtual 179, 3) := by decide +kernel
theorem dX11_find_12 : decode cX11_find 12 = .ok (.ireturn, 1) := by decide +kernel
def f_W_find (n : Nat)  (a1 : Int) (a2 : Int) (σ : JSg) : Option (Int) :=
  bd1 (f_Isl_stoneWith n 4 a1 a2 σ) fun r1 => some r1
set_option maxRecDepth 20000 in
set_option maxHeartbeats 4000000 in
theorem k_W_find  (n : Nat)   (a1 : Int) (a2 : Int) (σ : JSg) : Call yX11_find cX11_find 3 (some .int) 1 SH RHO [vR 0, vI a1, vI a2] σ (dIp σ) (f_W_find n a1 a2 σ) := by
  refine call_of_sim (by decide +kernel) (Nat.le_of_ble_eq_true rfl) ?_
  show Sim RX11 cX11_find 3 (some .int) 1 SH RHO 0 [(0, vR 0), (1, vI a1), (2, vI a2)] [] σ (dIp σ) (f_W_find n a1 a2 σ)
  unfold f_W_find
  refine sim_aload_n 0 rfl dX11_find_0 ?_
  refine sim_getR g_RX11_29 sh_0 rh_0_3 dX11_find_1 ?_
  refine sim_getR g_RX11_54 (LWld_o lay_3) rh_3_0 dX11_find_4 ?_
  refine sim_iload_n 1 rfl dX11_find_7 ?_
  refine sim_iload_n 2 rfl dX11_find_8 ?_
  refine sim_callVIp v_RX11_179 (LIsl_o lay_4) dX11_find_9 (k_Isl_stoneWith SH RHO n 4 lay_4 a1 a2 σ) rfl ⟨by decide, by decide⟩ (S := []) rfl (Nat.le_of_ble_eq_true rfl) (fun r1 => ?_)
  exact sim_iret rfl rfl dX11_find_12
theorem dX11_fault_0 : decode cX11_fault 0 = .ok (.aload_n 0, 1) := by decide +kernel
theorem dX11_fault_1 : decode cX11_fault 1 = .ok (.getfield 22, 3) := by decide +kernel
theorem dX11_fault_4 : decode cX11_fault 4 = .ok (.getfield 146, 3) := by decide +kernel
theorem dX11_fault_7 : decode cX11_fault 7 = .ok (.ireturn, 1) := by decide +kernel
def f_W_fault    (σ : JSg) : Option (Int) :=
  some (σ 2 12)
set_option maxRecDepth 20000 in
set_option maxHeartbeats 4000000 in
theorem k_W_fault      (σ : JSg) : Call yX11_fault cX11_fault 1 (some .int) 0 SH RHO [vR 0] σ (dIp σ) (f_W_fault  σ) := by
  refine call_of_sim (by decide +kernel) (Nat.le_of_ble_eq_true rfl) ?_
  show Sim RX11 cX11_fault 1 (some .int) 0 SH RHO 0 [(0, vR 0)] [] σ (dIp σ) (f_W_fault  σ)
  unfold f_W_fault
  refine sim_aload_n 0 rfl dX11_fault_0 ?_
  refine sim_getR g_RX11_22 sh_0 rh_0_2 dX11_fault_1 ?_
  refine sim_getI g_RX11_146 sh_2 dX11_fault_4 ?_
  exact sim_iret rfl rfl dX11_fault_7
theorem dX3_clear_0 : decode cX3_clear 0 = .ok (.aload_n 0, 1) := by decide +kernel
theorem dX3_clear_1 : decode cX3_clear 1 = .ok (.iconst 0, 1) := by decide +kernel
theorem dX3_clear_2 : decode cX3_clear 2 = .ok (.putfield 11, 3) := by decide +kernel
theorem dX3_clear_5 : decode cX3_clear 5 = .ok (.aload_n 0, 1) := by decide +kernel
theorem dX3_clear_6 : decode cX3_clear 6 = .ok (.iconst 0, 1) := by decide +kernel
theorem dX3_clear_7 : decode cX3_clear 7 = .ok (.putfield 15, 3) := by decide +kernel
theorem dX3_clear_10 : decode cX3_clear 10 = .ok (.aload_n 0, 1) := by decide +kernel
theorem dX3_clear_11 : decode cX3_clear 11 = .ok (.iconst 0, 1) := by decide +kernel
theorem dX3_clear_12 : decode cX3_clear 12 = .ok (.putfield 18, 3) := by decide +kernel
theorem dX3_clear_15 : decode cX3_clear 15 = .ok (.aload_n 0, 1) := by decide +kernel
theorem dX3_clear_16 : decode cX3_clear 16 = .ok (.iconst 0, 1) := by decide +kernel
theorem dX3_clear_17 : decode cX3_clear 17 = .ok (.putfield 21, 3) := by decide +kernel
theorem dX3_clear_20 : decode cX3_clear 20 = .ok (.aload_n 0, 1) := by decide +kernel
theorem dX3_clear_21 : decode cX3_clear 21 = .ok (.iconst 0, 1) := by decide +kernel
theorem dX3_clear_22 : decode cX3_clear 22 = .ok (.putfield 24, 3) := by decide +kernel
theorem dX3_clear_25 : decode cX3_clear 25 = .ok (.aload_n 0, 1) := by decide +kernel
theorem dX3_clear_26 : decode cX3_clear 26 = .ok (.iconst 5, 1) := by decide +kernel
theorem dX3_clear_27 : decode cX3_clear 27 = .ok (.putfield 27, 3) := by decide +kernel
theorem dX3_clear_30 : decode cX3_clear 30 = .ok (.aload_n 0, 1) := by decide +kernel
theorem dX3_clear_31 : decode cX3_clear 31 = .ok (.iconst 0, 1) := by decide +kernel
theorem dX3_clear_32 : decode cX3_clear 32 = .ok (.putfield 30, 3) := by decide +kernel
theorem dX3_clear_35 : decode cX3_clear 35 = .ok (.aload_n 0, 1) := by decide +kernel
theorem dX3_clear_36 : decode cX3_clear 36 = .ok (.getfield 48, 3) := by decide +kernel
theorem dX3_clear_39 : decode cX3_clear 39 = .ok (.iconst 0, 1) := by decide +kernel
theorem dX3_clear_40 : decode cX3_clear 40 = .ok (.invokestatic 57, 3) := by decide +kernel
theorem dX3_clear_43 : decode cX3_clear 43 = .ok (.return_, 1) := by decide +kernel
def f_Isl_clear (n : Nat) (p : Nat)  (σ : JSg) : Option (JSg) :=
  lt_ (sp σ p 0 0) fun s1 => lt_ (sp s1 p 1 0) fun s2 => lt_ (sp s2 p 2 0) fun s3 => lt_ (sp s3 p 3 0) fun s4 => lt_ (sp s4 p 4 0) fun s5 => lt_ (sp s5 p 5 5) fun s6 => lt_ (sp s6 p 6 0) fun s7 => bd1 (f_JArr_fill_53178 n (p + 5) 7 0 s7) fun s8 => some s8
set_option maxRecDepth 20000 in
set_option maxHeartbeats 4000000 in
theorem k_Isl_clear (Sh : JSh) (ρ : JRo) (n : Nat) (p : Nat) (hp : LIsl Sh ρ p)  (σ : JSg) : Call yX3_clear cX3_clear 1 none 1 Sh ρ [vR p] σ dVm (f_Isl_clear n p σ) := by
  refine call_of_sim (by decide +kernel) (Nat.le_of_ble_eq_true rfl) ?_
  show Sim RX3 cX3_clear 1 none 1 Sh ρ 0 [(0, vR p)] [] σ dVm (f_Isl_clear n p σ)
  unfold f_Isl_clear
  refine sim_aload_n 0 rfl dX3_clear_0 ?_
  refine sim_iconst dX3_clear_1 (by decide) ?_
  refine sim_putI g_RX3_11 (LIsl_o hp) dX3_clear_2 (fun s1 => ?_)
  refine sim_aload_n 0 rfl dX3_clear_5 ?_
  refine sim_iconst dX3_clear_6 (by decide) ?_
  refine sim_putI g_RX3_15 (LIsl_o hp) dX3_clear_7 (fun s2 => ?_)
  refine sim_aload_n 0 rfl dX3_clear_10 ?_
  refine sim_iconst dX3_clear_11 (by decide) ?_
  refine sim_putI g_RX3_18 (LIsl_o hp) dX3_clear_12 (fun s3 => ?_)
  refine sim_aload_n 0 rfl dX3_clear_15 ?_
  refine sim_iconst dX3_clear_16 (by decide) ?_
  refine sim_putI g_RX3_21 (LIsl_o hp) dX3_clear_17 (fun s4 => ?_)
  refine sim_aload_n 0 rfl dX3_clear_20 ?_
  refine sim_iconst dX3_clear_21 (by decide) ?_
  refine sim_putI g_RX3_24 (LIsl_o hp) dX3_clear_22 (fun s5 => ?_)
  refine sim_aload_n 0 rfl dX3_clear_25 ?_
  refine sim_iconst dX3_clear_26 (by decide) ?_
  refine sim_putI g_RX3_27 (LIsl_o hp) dX3_clear_27 (fun s6 => ?_)
  refine sim_aload_n 0 rfl dX3_clear_30 ?_
  refine sim_iconst dX3_clear_31 (by decide) ?_
  refine sim_putZ (Or.inl rfl) g_RX3_30 (LIsl_o hp) dX3_clear_32 (fun s7 => ?_)
  refine sim_aload_n 0 rfl dX3_clear_35 ?_
  refine sim_getR g_RX3_48 (LIsl_o hp) (LIsl_r11 hp) dX3_clear_36 ?_
  refine sim_iconst dX3_clear_39 (by decide) ?_
  refine sim_callSVm s_RX3_57 dX3_clear_40 (k_JArr_fill_53178 Sh ρ n (p + 5) 7 (LIsl_a11 hp) (okI_lit (by decide)) 0 s7) rfl ⟨by decide, by decide⟩ (S := []) rfl (Nat.le_of_ble_eq_true rfl) (fun s8 => ?_)
  exact sim_vret rfl rfl dX3_clear_43
theorem dX3_readPawn_0 : decode cX3_readPawn 0 = .ok (.aload_n 0, 1) := by decide +kernel
theorem dX3_readPawn_1 : decode cX3_readPawn 1 = .ok (.getfield 30, 3) := by decide +kernel
theorem dX3_readPawn_4 : decode cX3_readPawn 4 = .ok (.ifCond .eq 9, 3) := by decide +kernel
theorem dX3_readPawn_7 : decode cX3_readPawn 7 = .ok (.aload_n 1, 1) := by decide +kernel
theorem dX3_readPawn_8 : decode cX3_readPawn 8 = .ok (.iconst 3, 1) := by decide +kernel
theorem dX3_readPawn_9 : decode cX3_readPawn 9 = .ok (.invokevirtual 103, 3) := by decide +kernel
theorem dX3_readPawn_12 : decode cX3_readPawn 12 = .ok (.ireturn, 1) := by decide +kernel
theorem dX3_readPawn_13 : decode cX3_readPawn 13 = .ok (.aload_n 1, 1) := by decide +kernel
theorem dX3_readPawn_14 : decode cX3_readPawn 14 = .ok (.invokevirtual 107, 3) := by decide +kernel
theorem dX3_readPawn_17 : decode cX3_readPawn 17 = .ok (.aload_n 1, 1) := by decide +kernel
theorem dX3_readPawn_18 : decode cX3_readPawn 18 = .ok (.bipush 99, 2) := by decide +kernel
theorem dX3_readPawn_20 : decode cX3_readPawn 20 = .ok (.invokevirtual 137, 3) := by decide +kernel
theorem dX3_readPawn_23 : decode cX3_readPawn 23 = .ok (.istore_n 2, 1) := by decide +kernel
theorem dX3_readPawn_24 : decode cX3_readPawn 24 = .ok (.iload_n 2, 1) := by decide +kernel
theorem dX3_readPawn_25 : decode cX3_readPawn 25 = .ok (.iconst (-1), 1) := by decide +kernel
theorem dX3_readPawn_26 : decode cX3_readPawn 26 = .ok (.if_icmp .ne 5, 3) := by decide +kernel
theorem dX3_readPawn_29 : decode cX3_readPawn 29 = .ok (.iconst 0, 1) := by decide +kernel
theorem dX3_readPawn_30 : decode cX3_readPawn 30 = .ok (.ireturn, 1) := by decide +kernel
theorem dX3_readPawn_31 : decode cX3_readPawn 31 = .ok (.aload_n 0, 1) := by decide +kernel
theorem dX3_readPawn_32 : decode cX3_readPawn 32 = .ok (.iload_n 2, 1) := by decide +kernel
theorem dX3_readPawn_33 : decode cX3_readPawn 33 = .ok (.putfield 27, 3) := by decide +kernel
theorem dX3_readPawn_36 : decode cX3_readPawn 36 = .ok (.aload_n 0, 1) := by decide +kernel
theorem dX3_readPawn_37 : decode cX3_readPawn 37 = .ok (.iconst 1, 1) := by decide +kernel
theorem dX3_readPawn_38 : decode cX3_readPawn 38 = .ok (.putfield 30, 3) := by decide +kernel
theorem dX3_readPawn_41 : decode cX3_readPawn 41 = .ok (.aload_n 1, 1) := by decide +kernel
theorem dX3_readPawn_42 : decode cX3_readPawn 42 = .ok (.invokevirtual 107, 3) := by decide +kernel
theorem dX3_readPawn_45 : decode cX3_readPawn 45 = .ok (.iconst 1, 1) := by decide +kernel
theorem dX3_readPawn_46 : decode cX3_readPawn 46 = .ok (.ireturn, 1) := by decide +kernel
def f_Isl_readPawn (n : Nat) (p : Nat)  (σ : JSg) : Option (Int × JSg) :=
  if (σ p 6) = 0 then (bd1 (f_Tok_step n σ) fun s1 => bd2 (f_Tok_numberTo 99 s1) fun r2 s3 => lt_ r2 fun v4 => if v4 = (-1) then (some (0, s3)) else (lt_ (sp s3 p 5 v4) fun s5 => lt_ (sp s5 p 6 1) fun s6 => bd1 (f_Tok_step n s6) fun s7 => some (1, s7))) else (bd2 (f_Tok_fail 3 σ) fun r8 s9 => chk (r8 = 0 ∨ r8 = 1) <| some (r8, s9))
set_option maxRecDepth 20000 in
set_option maxHeartbeats 4000000 in
theorem k_Isl_readPawn  (n : Nat) (p : Nat) (hp : LIsl SH RHO p)  (σ : JSg) : Call yX3_readPawn cX3_readPawn 3 (some .boolean) 8 SH RHO [vR p, vR 2] σ dIm (f_Isl_readPawn n p σ) := by
  refine call_of_sim (by decide +kernel) (Nat.le_of_ble_eq_true rfl) ?_
  show Sim RX3 cX3_readPawn 3 (some .boolean) 8 SH RHO 0 [(0, vR p), (1, vR 2)] [] σ dIm (f_Isl_readPawn n p σ)
  unfold f_Isl_readPawn
  refine sim_aload_n 0 rfl dX3_readPawn_0 ?_
  refine sim_getZ g_RX3_30 (LIsl_o hp) dX3_readPawn_1 ?_
  refine sim_if_eq (tgt := 13) dX3_readPawn_4 (by decide) ?_ ?_
  · refine sim_aload_n 1 rfl dX3_readPawn_13 ?_
    refine sim_callVVm v_RX3_107 sh_2 dX3_readPawn_14 (k_Tok_step n σ) rfl ⟨by decide, by decide⟩ (S := []) rfl (Nat.le_of_ble_eq_true rfl) (fun s1 => ?_)
    refine sim_aload_n 1 rfl dX3_readPawn_17 ?_
    refine sim_bipush dX3_readPawn_18 (by decide +kernel) ?_
    refine sim_callVIm v_RX3_137 sh_2 dX3_readPawn_20 (k_Tok_numberTo 99 s1) rfl ⟨by decide, by decide⟩ (S := []) rfl (Nat.le_of_ble_eq_true rfl) (fun r2 s3 => ?_)
    refine sim_istore_n (fun v4 => [(2, vI v4), (0, vR p), (1, vR 2)]) (fun _ => rfl) (by decide) dX3_readPawn_23 (fun v4 => ?_)
    refine sim_iload_n 0 rfl dX3_readPawn_24 ?_
    refine sim_iconst dX3_readPawn_25 (by decide) ?_
    refine sim_icmp_ne (tgt := 31) dX3_readPawn_26 (by decide) ?_ ?_
    · refine sim_aload_n 1 rfl dX3_readPawn_31 ?_
      refine sim_iload_n 0 rfl dX3_readPawn_32 ?_
      refine sim_putI g_RX3_27 (LIsl_o hp) dX3_readPawn_33 (fun s5 => ?_)
      refine sim_aload_n 1 rfl dX3_readPawn_36 ?_
      refine sim_iconst dX3_readPawn_37 (by decide) ?_
      refine sim_putZ (Or.inr rfl) g_RX3_30 (LIsl_o hp) dX3_readPawn_38 (fun s6 => ?_)
      refine sim_aload_n 2 rfl dX3_readPawn_41 ?_
      refine sim_callVVm v_RX3_107 sh_2 dX3_readPawn_42 (k_Tok_step n s6) rfl ⟨by decide, by decide⟩ (S := []) rfl (Nat.le_of_ble_eq_true rfl) (fun s7 => ?_)
      refine sim_iconst dX3_readPawn_45 (by decide) ?_
      exact sim_zret (Or.inr rfl) rfl rfl dX3_readPawn_46
    · refine sim_iconst dX3_readPawn_29 (by decide) ?_
      exact sim_zret (Or.inl rfl) rfl rfl dX3_readPawn_30
  · refine sim_aload_n 1 rfl dX3_readPawn_7 ?_
    refine sim_iconst dX3_readPawn_8 (by decide) ?_
    refine sim_callVIm v_RX3_103 sh_2 dX3_readPawn_9 (k_Tok_fail 3 σ) rfl ⟨by decide, by decide⟩ (S := []) rfl (Nat.le_of_ble_eq_true rfl) (fun r8 s9 => ?_)
    exact sim_zretc rfl rfl dX3_readPawn_12
theorem dX3_areAngry_0 : decode cX3_areAngry 0 = .ok (.aload_n 0, 1) := by decide +kernel
theorem dX3_areAngry_1 : decode cX3_areAngry 1 = .ok (.getfield 48, 3) := by decide +kernel
theorem dX3_areAngry_4 : decode cX3_areAngry 4 = .ok (.iload_n 1, 1) := by decide +kernel
theorem dX3_areAngry_5 : decode cX3_areAngry 5 = .ok (.iaload, 1) := by decide +kernel
theorem dX3_areAngry_6 : decode cX3_areAngry 6 = .ok (.iload_n 2, 1) := by decide +kernel
theorem dX3_areAngry_7 : decode cX3_areAngry 7 = .ok (.ishr, 1) := by decide +kernel
theorem dX3_areAngry_8 : decode cX3_areAngry 8 = .ok (.iconst 1, 1) := by decide +kernel
theorem dX3_areAngry_9 : decode cX3_areAngry 9 = .ok (.iand, 1) := by decide +kernel
theorem dX3_areAngry_10 : decode cX3_areAngry 10 = .ok (.ifCond .eq 7, 3) := by decide +kernel
theorem dX3_areAngry_13 : decode cX3_areAngry 13 = .ok (.iconst 1, 1) := by decide +kernel
theorem dX3_areAngry_14 : decode cX3_areAngry 14 = .ok (.goto 4, 3) := by decide +kernel
theorem dX3_areAngry_17 : decode cX3_areAngry 17 = .ok (.iconst 0, 1) := by decide +kernel
theorem dX3_areAngry_18 : decode cX3_areAngry 18 = .ok (.ireturn, 1) := by decide +kernel
def f_Isl_areAngry  (p : Nat) (a1 : Int) (a2 : Int) (σ : JSg) : Option (Int) :=
  chk (0 ≤ a1 ∧ a1 < 7) <| if (an32 (sr32 (σ (p + 5) a1.toNat) a2) 1) = 0 then (some 0) else (some 1)
set_option maxRecDepth 20000 in
set_option maxHeartbeats 4000000 in
theorem k_Isl_areAngry (Sh : JSh) (ρ : JRo)  (p : Nat) (hp : LIsl Sh ρ p) (a1 : Int) (a2 : Int) (σ : JSg) : Call yX3_areAngry cX3_areAngry 3 (some .boolean) 0 Sh ρ [vR p, vI a1, vI a2] σ (dIp σ) (f_Isl_areAngry p a1 a2 σ) := by
  refine call_of_sim (by decide +kernel) (Nat.le_of_ble_eq_true rfl) ?_
  show Sim RX3 cX3_areAngry 3 (some .boolean) 0 Sh ρ 0 [(0, vR p), (1, vI a1), (2, vI a2)] [] σ (dIp σ) (f_Isl_areAngry p a1 a2 σ)
  unfold f_Isl_areAngry
  refine sim_aload_n 0 rfl dX3_areAngry_0 ?_
  refine sim_getR g_RX3_48 (LIsl_o hp) (LIsl_r11 hp) dX3_areAngry_1 ?_
  refine sim_iload_n 1 rfl dX3_areAngry_4 ?_
  refine sim_iaload (LIsl_a11 hp) rfl dX3_areAngry_5 ?_
  refine sim_iload_n 2 rfl dX3_areAngry_6 ?_
  refine sim_ishr dX3_areAngry_7 ?_
  refine sim_iconst dX3_areAngry_8 (by decide) ?_
  refine sim_iand dX3_areAngry_9 ?_
  refine sim_if_eq (tgt := 17) dX3_areAngry_10 (by decide) ?_ ?_
  · refine sim_iconst dX3_areAngry_17 (by decide) ?_
    exact sim_zret (Or.inl rfl) rfl rfl dX3_areAngry_18
  · refine sim_iconst dX3_areAngry_13 (by decide) ?_
    refine sim_goto (tgt := 18) dX3_areAngry_14 (by decide) ?_
    exact sim_zret (Or.inr rfl) rfl rfl dX3_areAngry_18
theorem dX3_readQuarrel_0 : decode cX3_readQuarrel 0 = .ok (.aload_n 1, 1) := by decide +kernel
theorem dX3_readQuarrel_1 : decode cX3_readQuarrel 1 = .ok (.invokevirtual 107, 3) := by decide +kernel
theorem dX3_readQuarrel_4 : decode cX3_readQuarrel 4 = .ok (.aload_n 1, 1) := by decide +kernel
theorem dX3_readQuarrel_5 : decode cX3_readQuarrel 5 = .ok (.invokevirtual 122, 3) := by decide +kernel
theorem dX3_readQuarrel_8 : decode cX3_readQuarrel 8 = .ok (.ifCond .ne 5, 3) := by decide +kernel
theorem dX3_readQuarrel_11 : decode cX3_readQuarrel 11 = .ok (.iconst 0, 1) := by decide +kernel
theorem dX3_readQuarrel_12 : decode cX3_readQuarrel 12 = .ok (.ireturn, 1) := by decide +kernel
theorem dX3_readQuarrel_13 : decode cX3_readQuarrel 13 = .ok (.aload_n 0, 1) := by decide +kernel
theorem dX3_readQuarrel_14 : decode cX3_readQuarrel 14 = .ok (.aload_n 1, 1) := by decide +kernel
theorem dX3_readQuarrel_15 : decode cX3_readQuarrel 15 = .ok (.getfield 125, 3) := by decide +kernel
theorem dX3_readQuarrel_18 : decode cX3_readQuarrel 18 = .ok (.aload_n 1, 1) := by decide +kernel
theorem dX3_readQuarrel_19 : decode cX3_readQuarrel 19 = .ok (.getfield 127, 3) := by decide +kernel
theorem dX3_readQuarrel_22 : decode cX3_readQuarrel 22 = .ok (.invokevirtual 144, 3) := by decide +kernel
theorem dX3_readQuarrel_25 : decode cX3_readQuarrel 25 = .ok (.ifCond .eq 9, 3) := by decide +kernel
theorem dX3_readQuarrel_28 : decode cX3_readQuarrel 28 = .ok (.aload_n 1, 1) := by decide +kernel
theorem dX3_readQuarrel_29 : decode cX3_readQuarrel 29 = .ok (.iconst 3, 1) := by decide +kernel
theorem dX3_readQuarrel_30 : decode cX3_readQuarrel 30 = .ok (.invokevirtual 103, 3) := by decide +kernel
theorem dX3_readQuarrel_33 : decode cX3_readQuarrel 33 = .ok (.ireturn, 1) := by decide +kernel
theorem dX3_readQuarrel_34 : decode cX3_readQuarrel 34 = .ok (.aload_n 0, 1) := by decide +kernel
theorem dX3_readQuarrel_35 : decode cX3_readQuarrel 35 = .ok (.getfield 48, 3) := by decide +kernel
theorem dX3_readQuarrel_38 : decode cX3_readQuarrel 38 = .ok (.aload_n 1, 1) := by decide +kernel
theorem dX3_readQuarrel_39 : decode cX3_readQuarrel 39 = .ok (.getfield 125, 3) := by decide +kernel
theorem dX3_readQuarrel_42 : decode cX3_readQuarrel 42 = .ok (.dup2, 1) := by decide +kernel
theorem dX3_readQuarrel_43 : decode cX3_readQuarrel 43 = .ok (.iaload, 1) := by decide +kernel
theorem dX3_readQuarrel_44 : decode cX3_readQuarrel 44 = .ok (.iconst 1, 1) := by decide +kernel
theorem dX3_readQuarrel_45 : decode cX3_readQuarrel 45 = .ok (.aload_n 1, 1) := by decide +kernel
theorem dX3_readQuarrel_46 : decode cX3_readQuarrel 46 = .ok (.getfield 127, 3) := by decide +kernel
theorem dX3_readQuarrel_49 : decode cX3_readQuarrel 49 = .ok (.ishl, 1) := by decide +kernel
theorem dX3_readQuarrel_50 : decode cX3_readQuarrel 50 = .ok (.ior, 1) := by decide +kernel
theorem dX3_readQuarrel_51 : decode cX3_readQuarrel 51 = .ok (.iastore, 1) := by decide +kernel
theorem dX3_readQuarrel_52 : decode cX3_readQuarrel 52 = .ok (.aload_n 0, 1) := by decide +kernel
theorem dX3_readQuarrel_53 : decode cX3_readQuarrel 53 = .ok (.getfield 48, 3) := by decide +kernel
theorem dX3_readQuarrel_56 : decode cX3_readQuarrel 56 = .ok (.aload_n 1, 1) := by decide +kernel
theorem dX3_readQuarrel_57 : decode cX3_readQuarrel 57 = .ok (.getfield 127, 3) := by decide +kernel
theorem dX3_readQuarrel_60 : decode cX3_readQuarrel 60 = .ok (.dup2, 1) := by decide +kernel
theorem dX3_readQuarrel_61 : decode cX3_readQuarrel 61 = .ok (.iaload, 1) := by decide +kernel
theorem dX3_readQuarrel_62 : decode cX3_readQuarrel 62 = .ok (.iconst 1, 1) := by decide +kernel
theorem dX3_readQuarrel_63 : decode cX3_readQuarrel 63 = .ok (.aload_n 1, 1) := by decide +kernel
theorem dX3_readQuarrel_64 : decode cX3_readQuarrel 64 = .ok (.getfield 125, 3) := by decide +kernel
theorem dX3_readQuarrel_67 : decode cX3_readQuarrel 67 = .ok (.ishl, 1) := by decide +kernel
theorem dX3_readQuarrel_68 : decode cX3_readQuarrel 68 = .ok (.ior, 1) := by decide +kernel
theorem dX3_readQuarrel_69 : decode cX3_readQuarrel 69 = .ok (.iastore, 1) := by decide +kernel
theorem dX3_readQuarrel_70 : decode cX3_readQuarrel 70 = .ok (.aload_n 0, 1) := by decide +kernel
theorem dX3_readQuarrel_71 : decode cX3_readQuarrel 71 = .ok (.dup, 1) := by decide +kernel
theorem dX3_readQuarrel_72 : decode cX3_readQuarrel 72 = .ok (.getfield 24, 3) := by decide +kernel
theorem dX3_readQuarrel_75 : decode cX3_readQuarrel 75 = .ok (.iconst 1, 1) := by decide +kernel
theorem dX3_readQuarrel_76 : decode cX3_readQuarrel 76 = .ok (.iadd, 1) := by decide +kernel
theorem dX3_readQuarrel_77 : decode cX3_readQuarrel 77 = .ok (.putfield 24, 3) := by decide +kernel
theorem dX3_readQuarrel_80 : decode cX3_readQuarrel 80 = .ok (.aload_n 1, 1) := by decide +kernel
theorem dX3_readQuarrel_81 : decode cX3_readQuarrel 81 = .ok (.invokevirtual 107, 3) := by decide +kernel
theorem dX3_readQuarrel_84 : decode cX3_readQuarrel 84 = .ok (.iconst 1, 1) := by decide +kernel
theorem dX3_readQuarrel_85 : decode cX3_readQuarrel 85 = .ok (.ireturn, 1) := by decide +kernel
def f_Isl_readQuarrel (n : Nat) (p : Nat)  (σ : JSg) : Option (Int × JSg) :=
  bd1 (f_Tok_step n σ) fun s1 => bd2 (f_Tok_readTwoPips n s1) fun r2 s3 => if r2 = 0 then (some (0, s3)) else (bd1 (f_Isl_areAngry p (s3 2 10) (s3 2 11) s3) fun r4 => if r4 = 0 then (chk (0 ≤ (s3 2 10) ∧ (s3 2 10) < 7) <| chk (0 ≤ (s3 2 10) ∧ (s3 2 10) < 7) <| lt_ (sp s3 (p + 5) (s3 2 10).toNat (or32 (s3 (p + 5) (s3 2 10).toNat) (sl32 1 (s3 2 11)))) fun s5 => chk (0 ≤ (s5 2 11) ∧ (s5 2 11) < 7) <| chk (0 ≤ (s5 2 11) ∧ (s5 2 11) < 7) <| lt_ (sp s5 (p + 5) (s5 2 11).toNat (or32 (s5 (p + 5) (s5 2 11).toNat) (sl32 1 (s5 2 10)))) fun s6 => lt_ (sp s6 p 4 (w32 ((s6 p 4) + 1))) fun s7 => bd1 (f_Tok_step n s7) fun s8 => some (1, s8)) else (bd2 (f_Tok_fail 3 s3) fun r9 s10 => chk (r9 = 0 ∨ r9 = 1) <| some (r9, s10)))
set_option maxRecDepth 20000 in
set_option maxHeartbeats 4000000 in
theorem k_Isl_readQuarrel  (n : Nat) (p : Nat) (hp : LIsl SH RHO p)  (σ : JSg) : Call yX3_readQuarrel cX3_readQuarrel 2 (some .boolean) 9 SH RHO [vR p, vR 2] σ dIm (f_Isl_readQuarrel n p σ) := by
  refine call_of_sim (by decide +kernel) (Nat.le_of_ble_eq_true rfl) ?_
  show Sim RX3 cX3_readQuarrel 2 (some .boolean) 9 SH RHO 0 [(0, vR p), (1, vR 2)] [] σ dIm (f_Isl_readQuarrel n p σ)
  unfold f_Isl_readQuarrel
  refine sim_aload_n 1 rfl dX3_readQuarrel_0 ?_
  refine sim_callVVm v_RX3_107 sh_2 dX3_readQuarrel_1 (k_Tok_step n σ) rfl ⟨by decide, by decide⟩ (S := []) rfl (Nat.le_of_ble_eq_true rfl) (fun s1 => ?_)
  refine sim_aload_n 1 rfl dX3_readQuarrel_4 ?_
  refine sim_callVIm v_RX3_122 sh_2 dX3_readQuarrel_5 (k_Tok_readTwoPips n s1) rfl ⟨by decide, by decide⟩ (S := []) rfl (Nat.le_of_ble_eq_true rfl) (fun r2 s3 => ?_)
  refine sim_if_ne (tgt := 13) dX3_readQuarrel_8 (by decide) ?_ ?_
  · refine sim_aload_n 0 rfl dX3_readQuarrel_13 ?_
    refine sim_aload_n 1 rfl dX3_readQuarrel_14 ?_
    refine sim_getI g_RX3_125 sh_2 dX3_readQuarrel_15 ?_
    refine sim_aload_n 1 rfl dX3_readQuarrel_18 ?_
    refine sim_getI g_RX3_127 sh_2 dX3_readQuarrel_19 ?_
    refine sim_callVIp v_RX3_144 (LIsl_o hp) dX3_readQuarrel_22 (k_Isl_areAngry SH RHO p hp (s3 2 10) (s3 2 11) s3) rfl ⟨by decide, by decide⟩ (S := []) rfl (Nat.le_of_ble_eq_true rfl) (fun r4 => ?_)
    refine sim_if_eq (tgt := 34) dX3_readQuarrel_25 (by decide) ?_ ?_
    · refine sim_aload_n 0 rfl dX3_readQuarrel_34 ?_
      refine sim_getR g_RX3_48 (LIsl_o hp) (LIsl_r11 hp) dX3_readQuarrel_35 ?_
      refine sim_aload_n 1 rfl dX3_readQuarrel_38 ?_
      refine sim_getI g_RX3_125 sh_2 dX3_readQuarrel_39 ?_
      refine sim_dup2 rfl rfl dX3_readQuarrel_42 ?_
      refine sim_iaload (LIsl_a11 hp) rfl dX3_readQuarrel_43 ?_
      refine sim_iconst dX3_readQuarrel_44 (by decide) ?_
      refine sim_aload_n 1 rfl dX3_readQuarrel_45 ?_
      refine sim_getI g_RX3_127 sh_2 dX3_readQuarrel_46 ?_
      refine sim_ishl dX3_readQuarrel_49 ?_
      refine sim_ior dX3_readQuarrel_50 ?_
      refine sim_iastore (LIsl_a11 hp) rfl dX3_readQuarrel_51 (fun s5 => ?_)
      refine sim_aload_n 0 rfl dX3_readQuarrel_52 ?_
      refine sim_getR g_RX3_48 (LIsl_o hp) (LIsl_r11 hp) dX3_readQuarrel_53 ?_
      refine sim_aload_n 1 rfl dX3_readQuarrel_56 ?_
      refine sim_getI g_RX3_127 sh_2 dX3_readQuarrel_57 ?_
      refine sim_dup2 rfl rfl dX3_readQuarrel_60 ?_
      refine sim_iaload (LIsl_a11 hp) rfl dX3_readQuarrel_61 ?_
      refine sim_iconst dX3_readQuarrel_62 (by decide) ?_
      refine sim_aload_n 1 rfl dX3_readQuarrel_63 ?_
      refine sim_getI g_RX3_125 sh_2 dX3_readQuarrel_64 ?_
      refine sim_ishl dX3_readQuarrel_67 ?_
      refine sim_ior dX3_readQuarrel_68 ?_
      refine sim_iastore (LIsl_a11 hp) rfl dX3_readQuarrel_69 (fun s6 => ?_)
      refine sim_aload_n 0 rfl dX3_readQuarrel_70 ?_
      refine sim_dup rfl dX3_readQuarrel_71 ?_
      refine sim_getI g_RX3_24 (LIsl_o hp) dX3_readQuarrel_72 ?_
      refine sim_iconst dX3_readQuarrel_75 (by decide) ?_
      refine sim_iadd dX3_readQuarrel_76 ?_
      refine sim_putI g_RX3_24 (LIsl_o hp) dX3_readQuarrel_77 (fun s7 => ?_)
      refine sim_aload_n 1 rfl dX3_readQuarrel_80 ?_
      refine sim_callVVm v_RX3_107 sh_2 dX3_readQuarrel_81 (k_Tok_step n s7) rfl ⟨by decide, by decide⟩ (S := []) rfl (Nat.le_of_ble_eq_true rfl) (fun s8 => ?_)
      refine sim_iconst dX3_readQuarrel_84 (by decide) ?_
      exact sim_zret (Or.inr rfl) rfl rfl dX3_readQuarrel_85
    · refine sim_aload_n 1 rfl dX3_readQuarrel_28 ?_
      refine sim_iconst dX3_readQuarrel_29 (by decide) ?_
      refine sim_callVIm v_RX3_103 sh_2 dX3_readQuarrel_30 (k_Tok_fail 3 s3) rfl ⟨by decide, by decide⟩ (S := []) rfl (Nat.le_of_ble_eq_true rfl) (fun r9 s10 => ?_)
      exact sim_zretc rfl rfl dX3_readQuarrel_33
  · refine sim_iconst dX3_readQuarrel_11 (by decide) ?_
    exact sim_zret (Or.inl rfl) rfl rfl dX3_readQuarrel_12
theorem dX3_isForgiven_0 : decode cX3_isForgiven 0 = .ok (.aload_n 0, 1) := by decide +kernel
theorem dX3_isForgiven_1 : decode cX3_isForgiven 1 = .ok (.getfield 21, 3) := by decide +kernel
theorem dX3_isForgiven_4 : decode cX3_isForgiven 4 = .ok (.iload_n 1, 1) := by decide +kernel
theorem dX3_isForgiven_5 : decode cX3_isForgiven 5 = .ok (.ishr, 1) := by decide +kernel
theorem dX3_isForgiven_6 : decode cX3_isForgiven 6 = .ok (.iconst 1, 1) := by decide +kernel
theorem dX3_isForgiven_7 : decode cX3_isForgiven 7 = .ok (.iand, 1) := by decide +kernel
theorem dX3_isForgiven_8 : decode cX3_isForgiven 8 = .ok (.ifCond .eq 7, 3) := by decide +kernel
theorem dX3_isForgiven_11 : decode cX3_isForgiven 11 = .ok (.iconst 1, 1) := by decide +kernel
theorem dX3_isForgiven_12 : decode cX3_isForgiven 12 = .ok (.goto 4, 3) := by decide +kernel
theorem dX3_isForgiven_15 : decode cX3_isForgiven 15 = .ok (.iconst 0, 1) := by decide +kernel
theorem dX3_isForgiven_16 : decode cX3_isForgiven 16 = .ok (.ireturn, 1) := by decide +kernel
def f_Isl_isForgiven  (p : Nat) (a1 : Int) (σ : JSg) : Option (Int) :=
  if (an32 (sr32 (σ p 3) a1) 1) = 0 then (some 0) else (some 1)
set_option maxRecDepth 20000 in
set_option maxHeartbeats 4000000 in
theorem k_Isl_isForgiven (Sh : JSh) (ρ : JRo)  (p : Nat) (hp : LIsl Sh ρ p) (a1 : Int) (σ : JSg) : Call yX3_isForgiven cX3_isForgiven 2 (some .boolean) 0 Sh ρ [vR p, vI a1] σ (dIp σ) (f_Isl_isForgiven p a1 σ) := by
  refine call_of_sim (by decide +kernel) (Nat.le_of_ble_eq_true rfl) ?_
  show Sim RX3 cX3_isForgiven 2 (some .boolean) 0 Sh ρ 0 [(0, vR p), (1, vI a1)] [] σ (dIp σ) (f_Isl_isForgiven p a1 σ)
  unfold f_Isl_isForgiven
  refine sim_aload_n 0 rfl dX3_isForgiven_0 ?_
  refine sim_getI g_RX3_21 (LIsl_o hp) dX3_isForgiven_1 ?_
  refine sim_iload_n 1 rfl dX3_isForgiven_4 ?_
  refine sim_ishr dX3_isForgiven_5 ?_
  refine sim_iconst dX3_isForgiven_6 (by decide) ?_
  refine sim_iand dX3_isForgiven_7 ?_
  refine sim_if_eq (tgt := 15) dX3_isForgiven_8 (by decide) ?_ ?_
  · refine sim_iconst dX3_isForgiven_15 (by decide) ?_
    exact sim_zret (Or.inl rfl) rfl rfl dX3_isForgiven_16
  · refine sim_iconst dX3_isForgiven_11 (by decide) ?_
    refine sim_goto (tgt := 16) dX3_isForgiven_12 (by decide) ?_
    exact sim_zret (Or.inr rfl) rfl rfl dX3_isForgiven_16
theorem dX3_readForgive_0 : decode cX3_readForgive 0 = .ok (.aload_n 1, 1) := by decide +kernel
theorem dX3_readForgive_1 : decode cX3_readForgive 1 = .ok (.invokevirtual 107, 3) := by decide +kernel
theorem dX3_readForgive_4 : decode cX3_readForgive 4 = .ok (.aload_n 1, 1) := by decide +kernel
theorem dX3_readForgive_5 : decode cX3_readForgive 5 = .ok (.bipush 6, 2) := by decide +kernel
theorem dX3_readForgive_7 : decode cX3_readForgive 7 = .ok (.invokevirtual 137, 3) := by decide +kernel
theorem dX3_readForgive_10 : decode cX3_readForgive 10 = .ok (.istore_n 2, 1) := by decide +kernel
theorem dX3_readForgive_11 : decode cX3_readForgive 11 = .ok (.iload_n 2, 1) := by decide +kernel
theorem dX3_readForgive_12 : decode cX3_readForgive 12 = .ok (.iconst (-1), 1) := by decide +kernel
theorem dX3_readForgive_13 : decode cX3_readForgive 13 = .ok (.if_icmp .ne 5, 3) := by decide +kernel
theorem dX3_readForgive_16 : decode cX3_readForgive 16 = .ok (.iconst 0, 1) := by decide +kernel
theorem dX3_readForgive_17 : decode cX3_readForgive 17 = .ok (.ireturn, 1) := by decide +kernel
theorem dX3_readForgive_18 : decode cX3_readForgive 18 = .ok (.aload_n 0, 1) := by decide +kernel
theorem dX3_readForgive_19 : decode cX3_readForgive 19 = .ok (.iload_n 2, 1) := by decide +kernel
theorem dX3_readForgive_20 : decode cX3_readForgive 20 = .ok (.invokevirtual 141, 3) := by decide +kernel
theorem dX3_readForgive_23 : decode cX3_readForgive 23 = .ok (.ifCond .eq 9, 3) := by decide +kernel
theorem dX3_readForgive_26 : decode cX3_readForgive 26 = .ok (.aload_n 1, 1) := by decide +kernel
theorem dX3_readForgive_27 : decode cX3_readForgive 27 = .ok (.iconst 3, 1) := by decide +kernel
theorem dX3_readForgive_28 : decode cX3_readForgive 28 = .ok (.invokevirtual 103, 3) := by decide +kernel
theorem dX3_readForgive_31 : decode cX3_readForgive 31 = .ok (.ireturn, 1) := by decide +kernel
theorem dX3_readForgive_32 : decode cX3_readForgive 32 = .ok (.aload_n 0, 1) := by decide +kernel
theorem dX3_readForgive_33 : decode cX3_readForgive 33 = .ok (.dup, 1) := by decide +kernel
theorem dX3_readForgive_34 : decode cX3_readForgive 34 = .ok (.getfield 21, 3) := by decide +kernel
theorem dX3_readForgive_37 : decode cX3_readForgive 37 = .ok (.iconst 1, 1) := by decide +kernel
theorem dX3_readForgive_38 : decode cX3_readForgive 38 = .ok (.iload_n 2, 1) := by decide +kernel
theorem dX3_readForgive_39 : decode cX3_readForgive 39 = .ok (.ishl, 1) := by decide +kernel
theorem dX3_readForgive_40 : decode cX3_readForgive 40 = .ok (.ior, 1) := by decide +kernel
theorem dX3_readForgive_41 : decode cX3_readForgive 41 = .ok (.putfield 21, 3) := by decide +kernel
theorem dX3_readForgive_44 : decode cX3_readForgive 44 = .ok (.aload_n 1, 1) := by decide +kernel
theorem dX3_readForgive_45 : decode cX3_readForgive 45 = .ok (.invokevirtual 107, 3) := by decide +kernel
theorem dX3_readForgive_48 : decode cX3_readForgive 48 = .ok (.iconst 1, 1) := by decide +kernel
theorem dX3_readForgive_49 : decode cX3_readForgive 49 = .ok (.ireturn, 1) := by decide +kernel
def f_Isl_readForgive (n : Nat) (p : Nat)  (σ : JSg) : Option (Int × JSg) :=
  bd1 (f_Tok_step n σ) fun s1 => bd2 (f_Tok_numberTo 6 s1) fun r2 s3 => lt_ r2 fun v4 => if v4 = (-1) then (some (0, s3)) else (bd1 (f_Isl_isForgiven p v4 s3) fun r5 => if r5 = 0 then (lt_ (sp s3 p 3 (or32 (s3 p 3) (sl32 1 v4))) fun s6 => bd1 (f_Tok_step n s6) fun s7 => some (1, s7)) else (bd2 (f_Tok_fail 3 s3) fun r8 s9 => chk (r8 = 0 ∨ r8 = 1) <| some (r8, s9)))
set_option maxRecDepth 20000 in
set_option maxHeartbeats 4000000 in
theorem k_Isl_readForgive  (n : Nat) (p : Nat) (hp : LIsl SH RHO p)  (σ : JSg) : Call yX3_readForgive cX3_readForgive 3 (some .boolean) 8 SH RHO [vR p, vR 2] σ dIm (f_Isl_readForgive n p σ) := by
  refine call_of_sim (by decide +kernel) (Nat.le_of_ble_eq_true rfl) ?_
  show Sim RX3 cX3_readForgive 3 (some .boolean) 8 SH RHO 0 [(0, vR p), (1, vR 2)] [] σ dIm (f_Isl_readForgive n p σ)
  unfold f_Isl_readForgive
  refine sim_aload_n 1 rfl dX3_readForgive_0 ?_
  refine sim_callVVm v_RX3_107 sh_2 dX3_readForgive_1 (k_Tok_step n σ) rfl ⟨by decide, by decide⟩ (S := []) rfl (Nat.le_of_ble_eq_true rfl) (fun s1 => ?_)
  refine sim_aload_n 1 rfl dX3_readForgive_4 ?_
  refine sim_bipush dX3_readForgive_5 (by decide +kernel) ?_
  refine sim_callVIm v_RX3_137 sh_2 dX3_readForgive_7 (k_Tok_numberTo 6 s1) rfl ⟨by decide, by decide⟩ (S := []) rfl (Nat.le_of_ble_eq_true rfl) (fun r2 s3 => ?_)
  refine sim_istore_n (fun v4 => [(2, vI v4), (0, vR p), (1, vR 2)]) (fun _ => rfl) (by decide) dX3_readForgive_10 (fun v4 => ?_)
  refine sim_iload_n 0 rfl dX3_readForgive_11 ?_
  refine sim_iconst dX3_readForgive_12 (by decide) ?_
  refine sim_icmp_ne (tgt := 18) dX3_readForgive_13 (by decide) ?_ ?_
  · refine sim_aload_n 1 rfl dX3_readForgive_18 ?_
    refine sim_iload_n 0 rfl dX3_readForgive_19 ?_
    refine sim_callVIp v_RX3_141 (LIsl_o hp) dX3_readForgive_20 (k_Isl_isForgiven SH RHO p hp v4 s3) rfl ⟨by decide, by decide⟩ (S := []) rfl (Nat.le_of_ble_eq_true rfl) (fun r5 => ?_)
    refine sim_if_eq (tgt := 32) dX3_readForgive_23 (by decide) ?_ ?_
    · refine sim_aload_n 1 rfl dX3_readForgive_32 ?_
      refine sim_dup rfl dX3_readForgive_33 ?_
      refine sim_getI g_RX3_21 (LIsl_o hp) dX3_readForgive_34 ?_
      refine sim_iconst dX3_readForgive_37 (by decide) ?_
      refine sim_iload_n 0 rfl dX3_readForgive_38 ?_
      refine sim_ishl dX3_readForgive_39 ?_
      refine sim_ior dX3_readForgive_40 ?_
      refine sim_putI g_RX3_21 (LIsl_o hp) dX3_readForgive_41 (fun s6 => ?_)
      refine sim_aload_n 2 rfl dX3_readForgive_44 ?_
      refine sim_callVVm v_RX3_107 sh_2 dX3_readForgive_45 (k_Tok_step n s6) rfl ⟨by decide, by decide⟩ (S := []) rfl (Nat.le_of_ble_eq_true rfl) (fun s7 => ?_)
      refine sim_iconst dX3_readForgive_48 (by decide) ?_
      exact sim_zret (Or.inr rfl) rfl rfl dX3_readForgive_49
    · refine sim_aload_n 2 rfl dX3_readForgive_26 ?_
      refine sim_iconst dX3_readForgive_27 (by decide) ?_
      refine sim_callVIm v_RX3_103 sh_2 dX3_readForgive_28 (k_Tok_fail 3 s3) rfl ⟨by decide, by decide⟩ (S := []) rfl (Nat.le_of_ble_eq_true rfl) (fun r8 s9 => ?_)
      exact sim_zretc rfl rfl dX3_readForgive_31
  · refine sim_iconst dX3_readForgive_16 (by decide) ?_
    exact sim_zret (Or.inl rfl) rfl rfl dX3_readForgive_17
theorem dX3_readStone_0 : decode cX3_readStone 0 = .ok (.aload_n 0, 1) := by decide +kernel
theorem dX3_readStone_1 : decode cX3_readStone 1 = .ok (.getfield 18, 3) := by decide +kernel
theorem dX3_readStone_4 : decode cX3_readStone 4 = .ok (.bipush 28, 2) := by decide +kernel
theorem dX3_readStone_6 : decode cX3_readStone 6 = .ok (.if_icmp .lt 9, 3) := by decide +kernel
theorem dX3_readStone_9 : decode cX3_readStone 9 = .ok (.aload_n 1, 1) := by decide +kernel
theorem dX3_readStone_10 : decode cX3_readStone 10 = .ok (.iconst 4, 1) := by decide +kernel
theorem dX3_readStone_11 : decode cX3_readStone 11 = .ok (.invokevirtual 103, 3) := by decide +kernel
theorem dX3_readStone_14 : decode cX3_readStone 14 = .ok (.ireturn, 1) := by decide +kernel
theorem dX3_readStone_15 : decode cX3_readStone 15 = .ok (.aload_n 1, 1) := by decide +kernel
theorem dX3_readStone_16 : decode cX3_readStone 16 = .ok (.invokevirtual 107, 3) := by decide +kernel
theorem dX3_readStone_19 : decode cX3_readStone 19 = .ok (.aload_n 1, 1) := by decide +kernel
theorem dX3_readStone_20 : decode cX3_readStone 20 = .ok (.invokevirtual 122, 3) := by decide +kernel
theorem dX3_readStone_23 : decode cX3_readStone 23 = .ok (.ifCond .ne 5, 3) := by decide +kernel
theorem dX3_readStone_26 : decode cX3_readStone 26 = .ok (.iconst 0, 1) := by decide +kernel
theorem dX3_readStone_27 : decode cX3_readStone 27 = .ok (.ireturn, 1) := by decide +kernel
theorem dX3_readStone_28 : decode cX3_readStone 28 = .ok (.aload_n 0, 1) := by decide +kernel
theorem dX3_readStone_29 : decode cX3_readStone 29 = .ok (.aload_n 1, 1) := by decide +kernel
theorem dX3_readStone_30 : decode cX3_readStone 30 = .ok (.getfield 125, 3) := by decide +kernel
theorem dX3_readStone_33 : decode cX3_readStone 33 = .ok (.aload_n 1, 1) := by decide +kernel
theorem dX3_readStone_34 : decode cX3_readStone 34 = .ok (.getfield 127, 3) := by decide +kernel
theorem dX3_readStone_37 : decode cX3_readStone 37 = .ok (.invokevirtual 129, 3) := by decide +kernel
theorem dX3_readStone_40 : decode cX3_readStone 40 = .ok (.iconst (-1), 1) := by decide +kernel
theorem dX3_readStone_41 : decode cX3_readStone 41 = .ok (.if_icmp .eq 9, 3) := by decide +kernel
theorem dX3_readStone_44 : decode cX3_readStone 44 = .ok (.aload_n 1, 1) := by decide +kernel
theorem dX3_readStone_45 : decode cX3_readStone 45 = .ok (.iconst 3, 1) := by decide +kernel
theorem dX3_readStone_46 : decode cX3_readStone 46 = .ok (.invokevirtual 103, 3) := by decide +kernel
theorem dX3_readStone_49 : decode cX3_readStone 49 = .ok (.ireturn, 1) := by decide +kernel
theorem dX3_readStone_50 : decode cX3_readStone 50 = .ok (.aload_n 1, 1) := by decide +kernel
theorem dX3_readStone_51 : decode cX3_readStone 51 = .ok (.invokevirtual 107, 3) := by decide +kernel
theorem dX3_readStone_54 : decode cX3_readStone 54 = .ok (.aload_n 0, 1) := by decide +kernel
theorem dX3_readStone_55 : decode cX3_readStone 55 = .ok (.aload_n 1, 1) := by decide +kernel
theorem dX3_readStone_56 : decode cX3_readStone 56 = .ok (.invokevirtual 133, 3) := by decide +kernel
theorem dX3_readStone_59 : decode cX3_readStone 59 = .ok (.istore_n 2, 1) := by decide +kernel
theorem dX3_readStone_60 : decode cX3_readStone 60 = .ok (.iload_n 2, 1) := by decide +kernel
theorem dX3_readStone_61 : decode cX3_readStone 61 = .ok (.iconst (-1), 1) := by decide +kernel
theorem dX3_readStone_62 : decode cX3_readStone 62 = .ok (.if_icmp .ne 5, 3) := by decide +kernel
theorem dX3_readStone_65 : decode cX3_readStone 65 = .ok (.iconst 0, 1) := by decide +kernel
theorem dX3_readStone_66 : decode cX3_readStone 66 = .ok (.ireturn, 1) := by decide +kernel
theorem dX3_readStone_67 : decode cX3_readStone 67 = .ok (.aload_n 0, 1) := by decide +kernel
theorem dX3_readStone_68 : decode cX3_readStone 68 = .ok (.getfield 38, 3) := by decide +kernel
theorem dX3_readStone_71 : decode cX3_readStone 71 = .ok (.aload_n 0, 1) := by decide +kernel
theorem dX3_readStone_72 : decode cX3_readStone 72 = .ok (.getfield 18, 3) := by decide +kernel
theorem dX3_readStone_75 : decode cX3_readStone 75 = .ok (.aload_n 1, 1) := by decide +kernel
theorem dX3_readStone_76 : decode cX3_readStone 76 = .ok (.getfield 125, 3) := by decide +kernel
theorem dX3_readStone_79 : decode cX3_readStone 79 = .ok (.iastore, 1) := by decide +kernel
theorem dX3_readStone_80 : decode cX3_readStone 80 = .ok (.aload_n 0, 1) := by decide +kernel
theorem dX3_readStone_81 : decode cX3_readStone 81 = .ok (.getfield 42, 3) := by decide +kernel
theorem dX3_readStone_84 : decode cX3_readStone 84 = .ok (.aload_n 0, 1) := by decide +kernel
theorem dX3_readStone_85 : decode cX3_readStone 85 = .ok (.getfield 18, 3) := by decide +kernel
theorem dX3_readStone_88 : decode cX3_readStone 88 = .ok (.aload_n 1, 1) := by decide +kernel
theorem dX3_readStone_89 : decode cX3_readStone 89 = .ok (.getfield 127, 3) := by decide +kernel
theorem dX3_readStone_92 : decode cX3_readStone 92 = .ok (.iastore, 1) := by decide +kernel
theorem dX3_readStone_93 : decode cX3_readStone 93 = .ok (.aload_n 0, 1) := by decide +kernel
theorem dX3_readStone_94 : decode cX3_readStone 94 = .ok (.getfield 45, 3) := by decide +kernel
theorem dX3_readStone_97 : decode cX3_readStone 97 = .ok (.aload_n 0, 1) := by decide +kernel
theorem dX3_readStone_98 : decode cX3_readStone 98 = .ok (.getfield 18, 3) := by decide +kernel
theorem dX3_readStone_101 : decode cX3_readStone 101 = .ok (.iload_n 2, 1) := by decide +kernel
theorem dX3_readStone_102 : decode cX3_readStone 102 = .ok (.iastore, 1) := by decide +kernel
theorem dX3_readStone_103 : decode cX3_readStone 103 = .ok (.aload_n 0, 1) := by decide +kernel
theorem dX3_readStone_104 : decode cX3_readStone 104 = .ok (.dup, 1) := by decide +kernel
theorem dX3_readStone_105 : decode cX3_readStone 105 = .ok (.getfield 18, 3) := by decide +kernel
theorem dX3_readStone_108 : decode cX3_readStone 108 = .ok (.iconst 1, 1) := by decide +kernel
theorem dX3_readStone_109 : decode cX3_readStone 109 = .ok (.iadd, 1) := by decide +kernel
theorem dX3_readStone_110 : decode cX3_readStone 110 = .ok (.putfield 18, 3) := by decide +kernel
theorem dX3_readStone_113 : decode cX3_readStone 113 = .ok (.aload_n 1, 1) := by decide +kernel
theorem dX3_readStone_114 : decode cX3_readStone 114 = .ok (.invokevirtual 107, 3) := by decide +kernel
theorem dX3_readStone_117 : decode cX3_readStone 117 = .ok (.iconst 1, 1) := by decide +kernel
theorem dX3_readStone_118 : decode cX3_readStone 118 = .ok (.ireturn, 1) := by decide +kernel
def f_Isl_readStone (n : Nat) (p : Nat)  (σ : JSg) : Option (Int × JSg) :=
  if (σ p 2) < 28 then (bd1 (f_Tok_step n σ) fun s1 => bd2 (f_Tok_readTwoPips n s1) fun r2 s3 => if r2 = 0 then (some (0, s3)) else (bd1 (f_Isl_stoneWith n p (s3 2 10) (s3 2 11) s3) fun r4 => if r4 = (-1) then (bd1 (f_Tok_step n s3) fun s5 => bd2 (f_Isl_widowHere n p s5) fun r6 s7 => lt_ r6 fun v8 => if v8 = (-1) then (some (0, s7)) else (chk (0 ≤ (s7 p 2) ∧ (s7 p 2) < 28) <| lt_ (sp s7 (p + 2) (s7 p 2).toNat (s7 2 10)) fun s9 => chk (0 ≤ (s9 p 2) ∧ (s9 p 2) < 28) <| lt_ (sp s9 (p + 3) (s9 p 2).toNat (s9 2 11)) fun s10 => chk (0 ≤ (s10 p 2) ∧ (s10 p 2) < 28) <| lt_ (sp s10 (p + 4) (s10 p 2).toNat v8) fun s11 => lt_ (sp s11 p 2 (w32 ((s11 p 2) + 1))) fun s12 => bd1 (f_Tok_step n s12) fun s13 => some (1, s13))) else (bd2 (f_Tok_fail 3 s3) fun r14 s15 => chk (r14 = 0 ∨ r14 = 1) <| some (r14, s15)))) else (bd2 (f_Tok_fail 4 σ) fun r16 s17 => chk (r16 = 0 ∨ r16 = 1) <| some (r16, s17))
set_option maxRecDepth 20000 in
set_option maxHeartbeats 4000000 in
theorem k_Isl_readStone  (n : Nat) (p : Nat) (hp : LIsl SH RHO p)  (σ : JSg) : Call yX3_readStone cX3_readStone 3 (some .boolean) 9 SH RHO [vR p, vR 2] σ dIm (f_Isl_readStone n p σ) := by
  refine call_of_sim (by decide +kernel) (Nat.le_of_ble_eq_true rfl) ?_
  show Sim RX3 cX3_readStone 3 (some .boolean) 9 SH RHO 0 [(0, vR p), (1, vR 2)] [] σ dIm (f_Isl_readStone n p σ)
  unfold f_Isl_readStone
  refine sim_aload_n 0 rfl dX3_readStone_0 ?_
  refine sim_getI g_RX3_18 (LIsl_o hp) dX3_readStone_1 ?_
  refine sim_bipush dX3_readStone_4 (by decide +kernel) ?_
  refine sim_icmp_lt (tgt := 15) dX3_readStone_6 (by decide) ?_ ?_
  · refine sim_aload_n 1 rfl dX3_readStone_15 ?_
    refine sim_callVVm v_RX3_107 sh_2 dX3_readStone_16 (k_Tok_step n σ) rfl ⟨by decide, by decide⟩ (S := []) rfl (Nat.le_of_ble_eq_true rfl) (fun s1 => ?_)
    refine sim_aload_n 1 rfl dX3_readStone_19 ?_
    refine sim_callVIm v_RX3_122 sh_2 dX3_readStone_20 (k_Tok_readTwoPips n s1) rfl ⟨by decide, by decide⟩ (S := []) rfl (Nat.le_of_ble_eq_true rfl) (fun r2 s3 => ?_)
    refine sim_if_ne (tgt := 28) dX3_readStone_23 (by decide) ?_ ?_
    · refine sim_aload_n 0 rfl dX3_readStone_28 ?_
      refine sim_aload_n 1 rfl dX3_readStone_29 ?_
      refine sim_getI g_RX3_125 sh_2 dX3_readStone_30 ?_
      refine sim_aload_n 1 rfl dX3_readStone_33 ?_
      refine sim_getI g_RX3_127 sh_2 dX3_readStone_34 ?_
      refine sim_callVIp v_RX3_129 (LIsl_o hp) dX3_readStone_37 (k_Isl_stoneWith SH RHO n p hp (s3 2 10) (s3 2 11) s3) rfl ⟨by decide, by decide⟩ (S := []) rfl (Nat.le_of_ble_eq_true rfl) (fun r4 => ?_)
      refine sim_iconst dX3_readStone_40 (by decide) ?_
      refine sim_icmp_eq (tgt := 50) dX3_readStone_41 (by decide) ?_ ?_
      · refine sim_aload_n 1 rfl dX3_readStone_50 ?_
        refine sim_callVVm v_RX3_107 sh_2 dX3_readStone_51 (k_Tok_step n s3) rfl ⟨by decide, by decide⟩ (S := []) rfl (Nat.le_of_ble_eq_true rfl) (fun s5 => ?_)
        refine sim_aload_n 0 rfl dX3_readStone_54 ?_
        refine sim_aload_n 1 rfl dX3_readStone_55 ?_
        refine sim_callVIm v_RX3_133 (LIsl_o hp) dX3_readStone_56 (k_Isl_widowHere n p hp s5) rfl ⟨by decide, by decide⟩ (S := []) rfl (Nat.le_of_ble_eq_true rfl) (fun r6 s7 => ?_)
        refine sim_istore_n (fun v8 => [(2, vI v8), (0, vR p), (1, vR 2)]) (fun _ => rfl) (by decide) dX3_readStone_59 (fun v8 => ?_)
        refine sim_iload_n 0 rfl dX3_readStone_60 ?_
        refine sim_iconst dX3_readStone_61 (by decide) ?_
        refine sim_icmp_ne (tgt := 67) dX3_readStone_62 (by decide) ?_ ?_
        · refine sim_aload_n 1 rfl dX3_readStone_67 ?_
          refine sim_getR g_RX3_38 (LIsl_o hp) (LIsl_r8 hp) dX3_readStone_68 ?_
          refine sim_aload_n 1 rfl dX3_readStone_71 ?_
          refine sim_getI g_RX3_18 (LIsl_o hp) dX3_readStone_72 ?_
          refine sim_aload_n 2 rfl dX3_readStone_75 ?_
          refine sim_getI g_RX3_125 sh_2 dX3_readStone_76 ?_
          refine sim_iastore (LIsl_a8 hp) rfl dX3_readStone_79 (fun s9 => ?_)
          refine sim_aload_n 1 rfl dX3_readStone_80 ?_
          refine sim_getR g_RX3_42 (LIsl_o hp) (LIsl_r9 hp) dX3_readStone_81 ?_
          refine sim_aload_n 1 rfl dX3_readStone_84 ?_
          refine sim_getI g_RX3_18 (LIsl_o hp) dX3_readStone_85 ?_
          refine sim_aload_n 2 rfl dX3_readStone_88 ?_
          refine sim_getI g_RX3_127 sh_2 dX3_readStone_89 ?_
          refine sim_iastore (LIsl_a9 hp) rfl dX3_readStone_92 (fun s10 => ?_)
          refine sim_aload_n 1 rfl dX3_readStone_93 ?_
          refine sim_getR g_RX3_45 (LIsl_o hp) (LIsl_r10 hp) dX3_readStone_94 ?_
          refine sim_aload_n 1 rfl dX3_readStone_97 ?_
          refine sim_getI g_RX3_18 (LIsl_o hp) dX3_readStone_98 ?_
          refine sim_iload_n 0 rfl dX3_readStone_101 ?_
          refine sim_iastore (LIsl_a10 hp) rfl dX3_readStone_102 (fun s11 => ?_)
          refine sim_aload_n 1 rfl dX3_readStone_103 ?_
          refine sim_dup rfl dX3_readStone_104 ?_
          refine sim_getI g_RX3_18 (LIsl_o hp) dX3_readStone_105 ?_
          refine sim_iconst dX3_readStone_108 (by decide) ?_
          refine sim_iadd dX3_readStone_109 ?_
          refine sim_putI g_RX3_18 (LIsl_o hp) dX3_readStone_110 (fun s12 => ?_)
          refine sim_aload_n 2 rfl dX3_readStone_113 ?_
          refine sim_callVVm v_RX3_107 sh_2 dX3_readStone_114 (k_Tok_step n s12) rfl ⟨by decide, by decide⟩ (S := []) rfl (Nat.le_of_ble_eq_true rfl) (fun s13 => ?_)
          refine sim_iconst dX3_readStone_117 (by decide) ?_
          exact sim_zret (Or.inr rfl) rfl rfl dX3_readStone_118
        · refine sim_iconst dX3_readStone_65 (by decide) ?_
          exact sim_zret (Or.inl rfl) rfl rfl dX3_readStone_66
      · refine sim_aload_n 1 rfl dX3_readStone_44 ?_
        refine sim_iconst dX3_readStone_45 (by decide) ?_
        refine sim_callVIm v_RX3_103 sh_2 dX3_readStone_46 (k_Tok_fail 3 s3) rfl ⟨by decide, by decide⟩ (S := []) rfl (Nat.le_of_ble_eq_true rfl) (fun r14 s15 => ?_)
        exact sim_zretc rfl rfl dX3_readStone_49
    · refine sim_iconst dX3_readStone_26 (by decide) ?_
      exact sim_zret (Or.inl rfl) rfl rfl dX3_readStone_27
  · refine sim_aload_n 1 rfl dX3_readStone_9 ?_
    refine sim_iconst dX3_readStone_10 (by decide) ?_
    refine sim_callVIm v_RX3_103 sh_2 dX3_readStone_11 (k_Tok_fail 4 σ) rfl ⟨by decide, by decide⟩ (S := []) rfl (Nat.le_of_ble_eq_true rfl) (fun r16 s17 => ?_)
    exact sim_zretc rfl rfl dX3_readStone_14
theorem dX3_readWidow_0 : decode cX3_readWidow 0 = .ok (.aload_n 0, 1) := by decide +kernel
theorem dX3_readWidow_1 : decode cX3_readWidow 1 = .ok (.getfield 15, 3) := by decide +kernel
theorem dX3_readWidow_4 : decode cX3_readWidow 4 = .ok (.bipush 6, 2) := by decide +kernel
theorem dX3_readWidow_6 : decode cX3_readWidow 6 = .ok (.if_icmp .lt 9, 3) := by decide +kernel
theorem dX3_readWidow_9 : decode cX3_readWidow 9 = .ok (.aload_n 1, 1) := by decide +kernel
theorem dX3_readWidow_10 : decode cX3_readWidow 10 = .ok (.iconst 4, 1) := by decide +kernel
theorem dX3_readWidow_11 : decode cX3_readWidow 11 = .ok (.invokevirtual 103, 3) := by decide +kernel
theorem dX3_readWidow_14 : decode cX3_readWidow 14 = .ok (.ireturn, 1) := by decide +kernel
theorem dX3_readWidow_15 : decode cX3_readWidow 15 = .ok (.aload_n 1, 1) := by decide +kernel
theorem dX3_readWidow_16 : decode cX3_readWidow 16 = .ok (.invokevirtual 107, 3) := by decide +kernel
theorem dX3_readWidow_19 : decode cX3_readWidow 19 = .ok (.aload_n 1, 1) := by decide +kernel
theorem dX3_readWidow_20 : decode cX3_readWidow 20 = .ok (.invokevirtual 110, 3) := by decide +kernel
theorem dX3_readWidow_23 : decode cX3_readWidow 23 = .ok (.ifCond .ne 9, 3) := by decide +kernel
theorem dX3_readWidow_26 : decode cX3_readWidow 26 = .ok (.aload_n 1, 1) := by decide +kernel
theorem dX3_readWidow_27 : decode cX3_readWidow 27 = .ok (.iconst 1, 1) := by decide +kernel
theorem dX3_readWidow_28 : decode cX3_readWidow 28 = .ok (.invokevirtual 103, 3) := by decide +kernel
theorem dX3_readWidow_31 : decode cX3_readWidow 31 = .ok (.ireturn, 1) := by decide +kernel
theorem dX3_readWidow_32 : decode cX3_readWidow 32 = .ok (.aload_n 0, 1) := by decide +kernel
theorem dX3_readWidow_33 : decode cX3_readWidow 33 = .ok (.aload_n 1, 1) := by decide +kernel
theorem dX3_readWidow_34 : decode cX3_readWidow 34 = .ok (.getfield 114, 3) := by decide +kernel
theorem dX3_readWidow_37 : decode cX3_readWidow 37 = .ok (.invokevirtual 118, 3) := by decide +kernel
theorem dX3_readWidow_40 : decode cX3_readWidow 40 = .ok (.iconst (-1), 1) := by decide +kernel
theorem dX3_readWidow_41 : decode cX3_readWidow 41 = .ok (.if_icmp .eq 9, 3) := by decide +kernel
theorem dX3_readWidow_44 : decode cX3_readWidow 44 = .ok (.aload_n 1, 1) := by decide +kernel
theorem dX3_readWidow_45 : decode cX3_readWidow 45 = .ok (.iconst 3, 1) := by decide +kernel
theorem dX3_readWidow_46 : decode cX3_readWidow 46 = .ok (.invokevirtual 103, 3) := by decide +kernel
theorem dX3_readWidow_49 : decode cX3_readWidow 49 = .ok (.ireturn, 1) := by decide +kernel
theorem dX3_readWidow_50 : decode cX3_readWidow 50 = .ok (.aload_n 0, 1) := by decide +kernel
theorem dX3_readWidow_51 : decode cX3_readWidow 51 = .ok (.getfield 34, 3) := by decide +kernel
theorem dX3_readWidow_54 : decode cX3_readWidow 54 = .ok (.aload_n 0, 1) := by decide +kernel
theorem dX3_readWidow_55 : decode cX3_readWidow 55 = .ok (.getfield 15, 3) := by decide +kernel
theorem dX3_readWidow_58 : decode cX3_readWidow 58 = .ok (.aload_n 1, 1) := by decide +kernel
theorem dX3_readWidow_59 : decode cX3_readWidow 59 = .ok (.getfield 114, 3) := by decide +kernel
theorem dX3_readWidow_62 : decode cX3_readWidow 62 = .ok (.lastore, 1) := by decide +kernel
theorem dX3_readWidow_63 : decode cX3_readWidow 63 = .ok (.aload_n 0, 1) := by decide +kernel
theorem dX3_readWidow_64 : decode cX3_readWidow 64 = .ok (.dup, 1) := by decide +kernel
theorem dX3_readWidow_65 : decode cX3_readWidow 65 = .ok (.getfield 15, 3) := by decide +kernel
theorem dX3_readWidow_68 : decode cX3_readWidow 68 = .ok (.iconst 1, 1) := by decide +kernel
theorem dX3_readWidow_69 : decode cX3_readWidow 69 = .ok (.iadd, 1) := by decide +kernel
theorem dX3_readWidow_70 : decode cX3_readWidow 70 = .ok (.putfield 15, 3) := by decide +kernel
theorem dX3_readWidow_73 : decode cX3_readWidow 73 = .ok (.aload_n 1, 1) := by decide +kernel
theorem dX3_readWidow_74 : decode cX3_readWidow 74 = .ok (.invokevirtual 107, 3) := by decide +kernel
theorem dX3_readWidow_77 : decode cX3_readWidow 77 = .ok (.iconst 1, 1) := by decide +kernel
theorem dX3_readWidow_78 : decode cX3_readWidow 78 = .ok (.ireturn, 1) := by decide +kernel
def f_Isl_readWidow (n : Nat) (p : Nat)  (σ : JSg) : Option (Int × JSg) :=
  if (σ p 1) < 6 then (bd1 (f_Tok_step n σ) fun s1 => bd1 (f_Tok_isName s1) fun r2 => if r2 = 0 then (bd2 (f_Tok_fail 1 s1) fun r9 s10 => chk (r9 = 0 ∨ r9 = 1) <| some (r9, s10)) else (bd1 (f_Isl_widowNamed n p (s1 2 7) s1) fun r3 => if r3 = (-1) then (chk (0 ≤ (s1 p 1) ∧ (s1 p 1) < 6) <| lt_ (sp s1 (p + 1) (s1 p 1).toNat (s1 2 7)) fun s4 => lt_ (sp s4 p 1 (w32 ((s4 p 1) + 1))) fun s5 => bd1 (f_Tok_step n s5) fun s6 => some (1, s6)) else (bd2 (f_Tok_fail 3 s1) fun r7 s8 => chk (r7 = 0 ∨ r7 = 1) <| some (r7, s8)))) else (bd2 (f_Tok_fail 4 σ) fun r11 s12 => chk (r11 = 0 ∨ r11 = 1) <| some (r11, s12))
set_option maxRecDepth 20000 in
set_option maxHeartbeats 4000000 in
theorem k_Isl_readWidow  (n : Nat) (p : Nat) (hp : LIsl SH RHO p)  (σ : JSg) : Call yX3_readWidow cX3_readWidow 2 (some .boolean) 8 SH RHO [vR p, vR 2] σ dIm (f_Isl_readWidow n p σ) := by
  refine call_of_sim (by decide +kernel) (Nat.le_of_ble_eq_true rfl) ?_
  show Sim RX3 cX3_readWidow 2 (some .boolean) 8 SH RHO 0 [(0, vR p), (1, vR 2)] [] σ dIm (f_Isl_readWidow n p σ)
  unfold f_Isl_readWidow
  refine sim_aload_n 0 rfl dX3_readWidow_0 ?_
  refine sim_getI g_RX3_15 (LIsl_o hp) dX3_readWidow_1 ?_
  refine sim_bipush dX3_readWidow_4 (by decide +kernel) ?_
  refine sim_icmp_lt (tgt := 15) dX3_readWidow_6 (by decide) ?_ ?_
  · refine sim_aload_n 1 rfl dX3_readWidow_15 ?_
    refine sim_callVVm v_RX3_107 sh_2 dX3_readWidow_16 (k_Tok_step n σ) rfl ⟨by decide, by decide⟩ (S := []) rfl (Nat.le_of_ble_eq_true rfl) (fun s1 => ?_)
    refine sim_aload_n 1 rfl dX3_readWidow_19 ?_
    refine sim_callVIp v_RX3_110 sh_2 dX3_readWidow_20 (k_Tok_isName s1) rfl ⟨by decide, by decide⟩ (S := []) rfl (Nat.le_of_ble_eq_true rfl) (fun r2 => ?_)
    refine sim_if_ne (tgt := 32) dX3_readWidow_23 (by decide) ?_ ?_
    · refine sim_aload_n 0 rfl dX3_readWidow_32 ?_
      refine sim_aload_n 1 rfl dX3_readWidow_33 ?_
      refine sim_getL g_RX3_114 sh_2 dX3_readWidow_34 ?_
      refine sim_callVIp v_RX3_118 (LIsl_o hp) dX3_readWidow_37 (k_Isl_widowNamed SH RHO n p hp (s1 2 7) s1) rfl ⟨by decide, by decide⟩ (S := []) rfl (Nat.le_of_ble_eq_true rfl) (fun r3 => ?_)
      refine sim_iconst dX3_readWidow_40 (by decide) ?_
      refine sim_icmp_eq (tgt := 50) dX3_readWidow_41 (by decide) ?_ ?_
      · refine sim_aload_n 0 rfl dX3_readWidow_50 ?_
        refine sim_getR g_RX3_34 (LIsl_o hp) (LIsl_r7 hp) dX3_readWidow_51 ?_
        refine sim_aload_n 0 rfl dX3_readWidow_54 ?_
        refine sim_getI g_RX3_15 (LIsl_o hp) dX3_readWidow_55 ?_
        refine sim_aload_n 1 rfl dX3_readWidow_58 ?_
        refine sim_getL g_RX3_114 sh_2 dX3_readWidow_59 ?_
        refine sim_lastore (LIsl_a7 hp) rfl dX3_readWidow_62 (fun s4 => ?_)
        refine sim_aload_n 0 rfl dX3_readWidow_63 ?_
        refine sim_dup rfl dX3_readWidow_64 ?_
        refine sim_getI g_RX3_15 (LIsl_o hp) dX3_readWidow_65 ?_
        refine sim_iconst dX3_readWidow_68 (by decide) ?_
        refine sim_iadd dX3_readWidow_69 ?_
        refine sim_putI g_RX3_15 (LIsl_o hp) dX3_readWidow_70 (fun s5 => ?_)
        refine sim_aload_n 1 rfl dX3_readWidow_73 ?_
        refine sim_callVVm v_RX3_107 sh_2 dX3_readWidow_74 (k_Tok_step n s5) rfl ⟨by decide, by decide⟩ (S := []) rfl (Nat.le_of_ble_eq_true rfl) (fun s6 => ?_)
        refine sim_iconst dX3_readWidow_77 (by decide) ?_
        exact sim_zret (Or.inr rfl) rfl rfl dX3_readWidow_78
      · refine sim_aload_n 1 rfl dX3_readWidow_44 ?_
        refine sim_iconst dX3_readWidow_45 (by decide) ?_
        refine sim_callVIm v_RX3_103 sh_2 dX3_readWidow_46 (k_Tok_fail 3 s1) rfl ⟨by decide, by decide⟩ (S := []) rfl (Nat.le_of_ble_eq_true rfl) (fun r7 s8 => ?_)
        exact sim_zretc rfl rfl dX3_readWidow_49
    · refine sim_aload_n 1 rfl dX3_readWidow_26 ?_
      refine sim_iconst dX3_readWidow_27 (by decide) ?_
      refine sim_callVIm v_RX3_103 sh_2 dX3_readWidow_28 (k_Tok_fail 1 s1) rfl ⟨by decide, by decide⟩ (S := []) rfl (Nat.le_of_ble_eq_true rfl) (fun r9 s10 => ?_)
      exact sim_zretc rfl rfl dX3_readWidow_31
  · refine sim_aload_n 1 rfl dX3_readWidow_9 ?_
    refine sim_iconst dX3_readWidow_10 (by decide) ?_
    refine sim_callVIm v_RX3_103 sh_2 dX3_readWidow_11 (k_Tok_fail 4 σ) rfl ⟨by decide, by decide⟩ (S := []) rfl (Nat.le_of_ble_eq_true rfl) (fun r11 s12 => ?_)
    exact sim_zretc rfl rfl dX3_readWidow_14
