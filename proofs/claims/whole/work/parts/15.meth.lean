theorem dX12_layLongest_0 : decode cX12_layLongest 0 = .ok (.iconst 1, 1) := by decide +kernel
theorem dX12_layLongest_1 : decode cX12_layLongest 1 = .ok (.iload_n 1, 1) := by decide +kernel
theorem dX12_layLongest_2 : decode cX12_layLongest 2 = .ok (.ishl, 1) := by decide +kernel
theorem dX12_layLongest_3 : decode cX12_layLongest 3 = .ok (.iconst 1, 1) := by decide +kernel
theorem dX12_layLongest_4 : decode cX12_layLongest 4 = .ok (.isub, 1) := by decide +kernel
theorem dX12_layLongest_5 : decode cX12_layLongest 5 = .ok (.istore_n 2, 1) := by decide +kernel
theorem dX12_layLongest_6 : decode cX12_layLongest 6 = .ok (.iload_n 2, 1) := by decide +kernel
theorem dX12_layLongest_7 : decode cX12_layLongest 7 = .ok (.ifCond .lt 141, 3) := by decide +kernel
theorem dX12_layLongest_10 : decode cX12_layLongest 10 = .ok (.iconst 0, 1) := by decide +kernel
theorem dX12_layLongest_11 : decode cX12_layLongest 11 = .ok (.istore_n 3, 1) := by decide +kernel
theorem dX12_layLongest_12 : decode cX12_layLongest 12 = .ok (.iload_n 3, 1) := by decide +kernel
theorem dX12_layLongest_13 : decode cX12_layLongest 13 = .ok (.bipush 7, 2) := by decide +kernel
theorem dX12_layLongest_15 : decode cX12_layLongest 15 = .ok (.if_icmp .ge 127, 3) := by decide +kernel
theorem dX12_layLongest_18 : decode cX12_layLongest 18 = .ok (.iconst 0, 1) := by decide +kernel
theorem dX12_layLongest_19 : decode cX12_layLongest 19 = .ok (.istore 4, 2) := by decide +kernel
theorem dX12_layLongest_21 : decode cX12_layLongest 21 = .ok (.iconst 0, 1) := by decide +kernel
theorem dX12_layLongest_22 : decode cX12_layLongest 22 = .ok (.istore 5, 2) := by decide +kernel
theorem dX12_layLongest_24 : decode cX12_layLongest 24 = .ok (.iload 5, 2) := by decide +kernel
theorem dX12_layLongest_26 : decode cX12_layLongest 26 = .ok (.iload_n 1, 1) := by decide +kernel
theorem dX12_layLongest_27 : decode cX12_layLongest 27 = .ok (.if_icmp .ge 96, 3) := by decide +kernel
theorem dX12_layLongest_30 : decode cX12_layLongest 30 = .ok (.iload_n 2, 1) := by decide +kernel
theorem dX12_layLongest_31 : decode cX12_layLongest 31 = .ok (.iload 5, 2) := by decide +kernel
theorem dX12_layLongest_33 : decode cX12_layLongest 33 = .ok (.invokestatic 201, 3) := by decide +kernel
theorem dX12_layLongest_36 : decode cX12_layLongest 36 = .ok (.ifCond .eq 6, 3) := by decide +kernel
theorem dX12_layLongest_39 : decode cX12_layLongest 39 = .ok (.goto 78, 3) := by decide +kernel
theorem dX12_layLongest_42 : decode cX12_layLongest 42 = .ok (.iconst 0, 1) := by decide +kernel
theorem dX12_layLongest_43 : decode cX12_layLongest 43 = .ok (.istore 6, 2) := by decide +kernel
theorem dX12_layLongest_45 : decode cX12_layLongest 45 = .ok (.iload 6, 2) := by decide +kernel
theorem dX12_layLongest_47 : decode cX12_layLongest 47 = .ok (.iconst 2, 1) := by decide +kernel
theorem dX12_layLongest_48 : decode cX12_layLongest 48 = .ok (.if_icmp .ge 69, 3) := by decide +kernel
theorem dX12_layLongest_51 : decode cX12_layLongest 51 = .ok (.aload_n 0, 1) := by decide +kernel
theorem dX12_layLongest_52 : decode cX12_layLongest 52 = .ok (.aload_n 0, 1) := by decide +kernel
theorem dX12_layLongest_53 : decode cX12_layLongest 53 = .ok (.aload_n 0, 1) := by decide +kernel
theorem dX12_layLongest_54 : decode cX12_layLongest 54 = .ok (.getfield 39, 3) := by decide +kernel
theorem dX12_layLongest_57 : decode cX12_layLongest 57 = .ok (.iload 5, 2) := by decide +kernel
theorem dX12_layLongest_59 : decode cX12_layLongest 59 = .ok (.iaload, 1) := by decide +kernel
theorem dX12_layLongest_60 : decode cX12_layLongest 60 = .ok (.iload 6, 2) := by decide +kernel
theorem dX12_layLongest_62 : decode cX12_layLongest 62 = .ok (.invokevirtual 243, 3) := by decide +kernel
theorem dX12_layLongest_65 : decode cX12_layLongest 65 = .ok (.iload_n 3, 1) := by decide +kernel
theorem dX12_layLongest_66 : decode cX12_layLongest 66 = .ok (.invokevirtual 271, 3) := by decide +kernel
theorem dX12_layLongest_69 : decode cX12_layLongest 69 = .ok (.ifCond .eq 42, 3) := by decide +kernel
theorem dX12_layLongest_72 : decode cX12_layLongest 72 = .ok (.iload 4, 2) := by decide +kernel
theorem dX12_layLongest_74 : decode cX12_layLongest 74 = .ok (.iconst 1, 1) := by decide +kernel
theorem dX12_layLongest_75 : decode cX12_layLongest 75 = .ok (.aload_n 0, 1) := by decide +kernel
theorem dX12_layLongest_76 : decode cX12_layLongest 76 = .ok (.getfield 42, 3) := by decide +kernel
theorem dX12_layLongest_79 : decode cX12_layLongest 79 = .ok (.bipush 7, 2) := by decide +kernel
theorem dX12_layLongest_81 : decode cX12_layLongest 81 = .ok (.iload_n 2, 1) := by decide +kernel
theorem dX12_layLongest_82 : decode cX12_layLongest 82 = .ok (.iconst 1, 1) := by decide +kernel
theorem dX12_layLongest_83 : decode cX12_layLongest 83 = .ok (.iload 5, 2) := by decide +kernel
theorem dX12_layLongest_85 : decode cX12_layLongest 85 = .ok (.ishl, 1) := by decide +kernel
theorem dX12_layLongest_86 : decode cX12_layLongest 86 = .ok (.ior, 1) := by decide +kernel
theorem dX12_layLongest_87 : decode cX12_layLongest 87 = .ok (.imul, 1) := by decide +kernel
theorem dX12_layLongest_88 : decode cX12_layLongest 88 = .ok (.aload_n 0, 1) := by decide +kernel
theorem dX12_layLongest_89 : decode cX12_layLongest 89 = .ok (.aload_n 0, 1) := by decide +kernel
theorem dX12_layLongest_90 : decode cX12_layLongest 90 = .ok (.getfield 39, 3) := by decide +kernel
theorem dX12_layLongest_93 : decode cX12_layLongest 93 = .ok (.iload 5, 2) := by decide +kernel
theorem dX12_layLongest_95 : decode cX12_layLongest 95 = .ok (.iaload, 1) := by decide +kernel
theorem dX12_layLongest_96 : decode cX12_layLongest 96 = .ok (.iconst 1, 1) := by decide +kernel
theorem dX12_layLongest_97 : decode cX12_layLongest 97 = .ok (.iload 6, 2) := by decide +kernel
theorem dX12_layLongest_99 : decode cX12_layLongest 99 = .ok (.isub, 1) := by decide +kernel
theorem dX12_layLongest_100 : decode cX12_layLongest 100 = .ok (.invokevirtual 243, 3) := by decide +kernel
theorem dX12_layLongest_103 : decode cX12_layLongest 103 = .ok (.iadd, 1) := by decide +kernel
theorem dX12_layLongest_104 : decode cX12_layLongest 104 = .ok (.iaload, 1) := by decide +kernel
theorem dX12_layLongest_105 : decode cX12_layLongest 105 = .ok (.iadd, 1) := by decide +kernel
theorem dX12_layLongest_106 : decode cX12_layLongest 106 = .ok (.invokestatic 309, 3) := by decide +kernel
theorem dX12_layLongest_109 : decode cX12_layLongest 109 = .ok (.istore 4, 2) := by decide +kernel
theorem dX12_layLongest_111 : decode cX12_layLongest 111 = .ok (.iinc 6 1, 3) := by decide +kernel
theorem dX12_layLongest_114 : decode cX12_layLongest 114 = .ok (.goto (-69), 3) := by decide +kernel
theorem dX12_layLongest_117 : decode cX12_layLongest 117 = .ok (.iinc 5 1, 3) := by decide +kernel
theorem dX12_layLongest_120 : decode cX12_layLongest 120 = .ok (.goto (-96), 3) := by decide +kernel
theorem dX12_layLongest_123 : decode cX12_layLongest 123 = .ok (.aload_n 0, 1) := by decide +kernel
theorem dX12_layLongest_124 : decode cX12_layLongest 124 = .ok (.getfield 42, 3) := by decide +kernel
theorem dX12_layLongest_127 : decode cX12_layLongest 127 = .ok (.bipush 7, 2) := by decide +kernel
theorem dX12_layLongest_129 : decode cX12_layLongest 129 = .ok (.iload_n 2, 1) := by decide +kernel
theorem dX12_layLongest_130 : decode cX12_layLongest 130 = .ok (.imul, 1) := by decide +kernel
theorem dX12_layLongest_131 : decode cX12_layLongest 131 = .ok (.iload_n 3, 1) := by decide +kernel
theorem dX12_layLongest_132 : decode cX12_layLongest 132 = .ok (.iadd, 1) := by decide +kernel
theorem dX12_layLongest_133 : decode cX12_layLongest 133 = .ok (.iload 4, 2) := by decide +kernel
theorem dX12_layLongest_135 : decode cX12_layLongest 135 = .ok (.iastore, 1) := by decide +kernel
theorem dX12_layLongest_136 : decode cX12_layLongest 136 = .ok (.iinc 3 1, 3) := by decide +kernel
theorem dX12_layLongest_139 : decode cX12_layLongest 139 = .ok (.goto (-127), 3) := by decide +kernel
theorem dX12_layLongest_142 : decode cX12_layLongest 142 = .ok (.iinc 2 (-1), 3) := by decide +kernel
theorem dX12_layLongest_145 : decode cX12_layLongest 145 = .ok (.goto (-139), 3) := by decide +kernel
theorem dX12_layLongest_148 : decode cX12_layLongest 148 = .ok (.return_, 1) := by decide +kernel
def f_M_layLongest (n : Nat)  (a1 : Int) (σ : JSg) : Option (JSg) :=
  lt_ (w32 ((sl32 1 a1) - 1)) fun v1 => wh2 n (fun rc2 (x3 : Int) (s4 : JSg) => if x3 < 0 then (some s4) else (lt_ 0 fun v5 => wh2 n (fun rc6 (x7 : Int) (s8 : JSg) => if x7 < 7 then (lt_ 0 fun v10 => lt_ 0 fun v11 => wh2 n (fun rc12 (x13 : Int) (x14 : Int) => if x14 < a1 then (bd1 (f_M_has x3 x14 s8) fun r17 => jn1 (fun (y19 : Int) => lt_ (w32 (x14 + 1)) fun v20 => rc12 y19 v20) fun j18 => if r17 = 0 then (lt_ 0 fun v21 => wh2 n (fun rc22 (x23 : Int) (x24 : Int) => if x24 < 2 then (chk (0 ≤ x14 ∧ x14 < 28) <| bd1 (f_M_pip (s8 189 x14.toNat) x24 s8) fun r25 => bd1 (f_M_fit r25 x7 s8) fun r26 => jn1 (fun (y28 : Int) => lt_ (w32 (x24 + 1)) fun v29 => rc22 y28 v29) fun j27 => if r26 = 0 then (j27 x23) else (chk (0 ≤ x14 ∧ x14 < 28) <| bd1 (f_M_pip (s8 189 x14.toNat) (w32 (1 - x24)) s8) fun r30 => chk (0 ≤ (w32 ((w32 (7 * (or32 x3 (sl32 1 x14)))) + r30)) ∧ (w32 ((w32 (7 * (or32 x3 (sl32 1 x14)))) + r30)) < 28672) <| lt_ (w32 (1 + (s8 190 (w32 ((w32 (7 * (or32 x3 (sl32 1 x14)))) + r30)).toNat))) fun t31 => bd1 (f_M_most x23 t31 s8) fun r32 => lt_ r32 fun v33 => j27 v33)) else (j18 x23)) x13 v21) else (j18 x13)) else (chk (0 ≤ (w32 ((w32 (7 * x3)) + x7)) ∧ (w32 ((w32 (7 * x3)) + x7)) < 28672) <| lt_ (sp s8 190 (w32 ((w32 (7 * x3)) + x7)).toNat x13) fun s15 => lt_ (w32 (x7 + 1)) fun v16 => rc6 v16 s15)) v10 v11) else (lt_ (w32 (x3 + (-1))) fun v9 => rc2 v9 s8)) v5 s4)) v1 (σ)
set_option maxRecDepth 20000 in
set_option maxHeartbeats 4000000 in
theorem k_M_layLongest  (n : Nat)   (a1 : Int) (σ : JSg) : Call yX12_layLongest cX12_layLongest 7 none 2 SH RHO [vR 179, vI a1] σ dVm (f_M_layLongest n a1 σ) := by
  refine call_of_sim (by decide +kernel) (Nat.le_of_ble_eq_true rfl) ?_
  show Sim RX12 cX12_layLongest 7 none 2 SH RHO 0 [(0, vR 179), (1, vI a1)] [] σ dVm (f_M_layLongest n a1 σ)
  unfold f_M_layLongest
  refine sim_iconst dX12_layLongest_0 (by decide) ?_
  refine sim_iload_n 1 rfl dX12_layLongest_1 ?_
  refine sim_ishl dX12_layLongest_2 ?_
  refine sim_iconst dX12_layLongest_3 (by decide) ?_
  refine sim_isub dX12_layLongest_4 ?_
  refine sim_istore_n (fun v1 => [(2, vI v1), (0, vR 179), (1, vI a1)]) (fun _ => rfl) (by decide) dX12_layLongest_5 (fun v1 => ?_)
  refine sim_sub [1, 2, 0] (L' := [(0, vR 179), (1, vI a1), (2, vI v1)]) rfl ?_
  refine sim_wh2 (fun (x3 : Int) (s4 : JSg) => [(0, vR 179), (1, vI a1), (2, vI x3)]) (fun (x3 : Int) (s4 : JSg) => s4) ?_ n v1 (σ)
  intro rc2 hrc2 x3 s4
  refine sim_iload_n 2 rfl dX12_layLongest_6 ?_
  refine sim_if_lt (tgt := 148) dX12_layLongest_7 (by decide) ?_ ?_
  · exact sim_vret rfl rfl dX12_layLongest_148
  · refine sim_iconst dX12_layLongest_10 (by decide) ?_
    refine sim_istore_n (fun v5 => [(3, vI v5), (0, vR 179), (1, vI a1), (2, vI x3)]) (fun _ => rfl) (by decide) dX12_layLongest_11 (fun v5 => ?_)
    refine sim_sub [1, 2, 3, 0] (L' := [(0, vR 179), (1, vI a1), (2, vI x3), (3, vI v5)]) rfl ?_
    refine sim_wh2 (fun (x7 : Int) (s8 : JSg) => [(0, vR 179), (1, vI a1), (2, vI x3), (3, vI x7)]) (fun (x7 : Int) (s8 : JSg) => s8) ?_ n v5 s4
    intro rc6 hrc6 x7 s8
    refine sim_iload_n 3 rfl dX12_layLongest_12 ?_
    refine sim_bipush dX12_layLongest_13 (by decide +kernel) ?_
    refine sim_icmp_ge (tgt := 142) dX12_layLongest_15 (by decide) ?_ ?_
    · refine sim_iinc 2 rfl (fun v9 => [(2, vI v9), (0, vR 179), (1, vI a1), (3, vI x7)]) (fun _ => rfl) (by decide) dX12_layLongest_142 (fun v9 => ?_)
      refine sim_goto (tgt := 6) dX12_layLongest_145 (by decide) ?_
      exact sim_sub [1, 2, 0] rfl (hrc2 v9 s8)
    · refine sim_iconst dX12_layLongest_18 (by decide) ?_
      refine sim_istore (fun v10 => [(4, vI v10), (0, vR 179), (1, vI a1), (2, vI x3), (3, vI x7)]) (fun _ => rfl) (by decide) dX12_layLongest_19 (fun v10 => ?_)
      refine sim_iconst dX12_layLongest_21 (by decide) ?_
      refine sim_istore (fun v11 => [(5, vI v11), (4, vI v10), (0, vR 179), (1, vI a1), (2, vI x3), (3, vI x7)]) (fun _ => rfl) (by decide) dX12_layLongest_22 (fun v11 => ?_)
      refine sim_sub [2, 3, 4, 5, 1, 0] (L' := [(0, vR 179), (1, vI a1), (2, vI x3), (3, vI x7), (4, vI v10), (5, vI v11)]) rfl ?_
      refine sim_wh2 (fun (x13 : Int) (x14 : Int) => [(0, vR 179), (1, vI a1), (2, vI x3), (3, vI x7), (4, vI x13), (5, vI x14)]) (fun (x13 : Int) (x14 : Int) => s8) ?_ n v10 v11
      intro rc12 hrc12 x13 x14
      refine sim_iload 5 rfl dX12_layLongest_24 ?_
      refine sim_iload_n 1 rfl dX12_layLongest_26 ?_
      refine sim_icmp_ge (tgt := 123) dX12_layLongest_27 (by decide) ?_ ?_
      · refine sim_aload_n 0 rfl dX12_layLongest_123 ?_
        refine sim_getR g_RX12_42 sh_179 rh_179_26 dX12_layLongest_124 ?_
        refine sim_bipush dX12_layLongest_127 (by decide +kernel) ?_
        refine sim_iload_n 2 rfl dX12_layLongest_129 ?_
        refine sim_imul dX12_layLongest_130 ?_
        refine sim_iload_n 3 rfl dX12_layLongest_131 ?_
        refine sim_iadd dX12_layLongest_132 ?_
        refine sim_iload 4 rfl dX12_layLongest_133 ?_
        refine sim_iastore sh_190 rfl dX12_layLongest_135 (fun s15 => ?_)
        refine sim_iinc 3 rfl (fun v16 => [(3, vI v16), (0, vR 179), (1, vI a1), (2, vI x3), (4, vI x13), (5, vI x14)]) (fun _ => rfl) (by decide) dX12_layLongest_136 (fun v16 => ?_)
        refine sim_goto (tgt := 12) dX12_layLongest_139 (by decide) ?_
        exact sim_sub [1, 2, 3, 0] rfl (hrc6 v16 s15)
      · refine sim_iload_n 2 rfl dX12_layLongest_30 ?_
        refine sim_iload 5 rfl dX12_layLongest_31 ?_
        refine sim_callSIp s_RX12_201 dX12_layLongest_33 (k_M_has SH RHO x3 x14 s8) rfl ⟨by decide, by decide⟩ (S := []) rfl (Nat.le_of_ble_eq_true rfl) (fun r17 => ?_)
        refine sim_jn1 (pc' := 117) (fun (y19 : Int) => [(0, vR 179), (1, vI a1), (2, vI x3), (3, vI x7), (4, vI y19), (5, vI x14)]) (fun (y19 : Int) => []) (fun (y19 : Int) => s8) ?_ (fun j18 hj18 => ?_)
        · intro y19
          refine sim_iinc 5 rfl (fun v20 => [(5, vI v20), (0, vR 179), (1, vI a1), (2, vI x3), (3, vI x7), (4, vI y19)]) (fun _ => rfl) (by decide) dX12_layLongest_117 (fun v20 => ?_)
          refine sim_goto (tgt := 24) dX12_layLongest_120 (by decide) ?_
          exact sim_sub [1, 2, 3, 4, 5, 0] rfl (hrc12 y19 v20)
        refine sim_if_eq (tgt := 42) dX12_layLongest_36 (by decide) ?_ ?_
        · refine sim_iconst dX12_layLongest_42 (by decide) ?_
          refine sim_istore (fun v21 => [(6, vI v21), (0, vR 179), (1, vI a1), (2, vI x3), (3, vI x7), (4, vI x13), (5, vI x14)]) (fun _ => rfl) (by decide) dX12_layLongest_43 (fun v21 => ?_)
          refine sim_sub [1, 2, 3, 4, 5, 6, 0] (L' := [(0, vR 179), (1, vI a1), (2, vI x3), (3, vI x7), (4, vI x13), (5, vI x14), (6, vI v21)]) rfl ?_
          refine sim_wh2 (fun (x23 : Int) (x24 : Int) => [(0, vR 179), (1, vI a1), (2, vI x3), (3, vI x7), (4, vI x23), (5, vI x14), (6, vI x24)]) (fun (x23 : Int) (x24 : Int) => s8) ?_ n x13 v21
          intro rc22 hrc22 x23 x24
          refine sim_iload 6 rfl dX12_layLongest_45 ?_
          refine sim_iconst dX12_layLongest_47 (by decide) ?_
          refine sim_icmp_ge (tgt := 117) dX12_layLongest_48 (by decide) ?_ ?_
          · exact sim_sub [0, 1, 2, 3, 4, 5] rfl (hj18 x23)
          · refine sim_aload_n 0 rfl dX12_layLongest_51 ?_
            refine sim_aload_n 0 rfl dX12_layLongest_52 ?_
            refine sim_aload_n 0 rfl dX12_layLongest_53 ?_
            refine sim_getR g_RX12_39 sh_179 rh_179_25 dX12_layLongest_54 ?_
            refine sim_iload 5 rfl dX12_layLongest_57 ?_
            refine sim_iaload sh_189 rfl dX12_layLongest_59 ?_
            refine sim_iload 6 rfl dX12_layLongest_60 ?_
            refine sim_callVIp v_RX12_243 sh_179 dX12_layLongest_62 (k_M_pip (s8 189 x14.toNat) x24 s8) rfl ⟨by decide, by decide⟩ (S := [vR 179]) rfl (Nat.le_of_ble_eq_true rfl) (fun r25 => ?_)
            refine sim_iload_n 3 rfl dX12_layLongest_65 ?_
            refine sim_callVIp v_RX12_271 sh_179 dX12_layLongest_66 (k_M_fit r25 x7 s8) rfl ⟨by decide, by decide⟩ (S := []) rfl (Nat.le_of_ble_eq_true rfl) (fun r26 => ?_)
            refine sim_jn1 (pc' := 111) (fun (y28 : Int) => [(0, vR 179), (1, vI a1), (2, vI x3), (3, vI x7), (4, vI y28), (5, vI x14), (6, vI x24)]) (fun (y28 : Int) => []) (fun (y28 : Int) => s8) ?_ (fun j27 hj27 => ?_)
            · intro y28
              refine sim_iinc 6 rfl (fun v29 => [(6, vI v29), (0, vR 179), (1, vI a1), (2, vI x3), (3, vI x7), (4, vI y28), (5, vI x14)]) (fun _ => rfl) (by decide) dX12_layLongest_111 (fun v29 => ?_)
              refine sim_goto (tgt := 45) dX12_layLongest_114 (by decide) ?_
              exact sim_sub [1, 2, 3, 4, 5, 6, 0] rfl (hrc22 y28 v29)
            refine sim_if_eq (tgt := 111) dX12_layLongest_69 (by decide) ?_ ?_
            · exact sim_sub [0, 1, 2, 3, 4, 5, 6] rfl (hj27 x23)
            · refine sim_iload 4 rfl dX12_layLongest_72 ?_
              refine sim_iconst dX12_layLongest_74 (by decide) ?_
              refine sim_aload_n 0 rfl dX12_layLongest_75 ?_
              refine sim_getR g_RX12_42 sh_179 rh_179_26 dX12_layLongest_76 ?_
              refine sim_bipush dX12_layLongest_79 (by decide +kernel) ?_
              refine sim_iload_n 2 rfl dX12_layLongest_81 ?_
              refine sim_iconst dX12_layLongest_82 (by decide) ?_
              refine sim_iload 5 rfl dX12_layLongest_83 ?_
              refine sim_ishl dX12_layLongest_85 ?_
              refine sim_ior dX12_layLongest_86 ?_
              refine sim_imul dX12_layLongest_87 ?_
              refine sim_aload_n 0 rfl dX12_layLongest_88 ?_
              refine sim_aload_n 0 rfl dX12_layLongest_89 ?_
              refine sim_getR g_RX12_39 sh_179 rh_179_25 dX12_layLongest_90 ?_
              refine sim_iload 5 rfl dX12_layLongest_93 ?_
              refine sim_iaload sh_189 rfl dX12_layLongest_95 ?_
              refine sim_iconst dX12_layLongest_96 (by decide) ?_
              refine sim_iload 6 rfl dX12_layLongest_97 ?_
              refine sim_isub dX12_layLongest_99 ?_
              refine sim_callVIp v_RX12_243 sh_179 dX12_layLongest_100 (k_M_pip (s8 189 x14.toNat) (w32 (1 - x24)) s8) rfl ⟨by decide, by decide⟩ (S := [vI (w32 (7 * (or32 x3 (sl32 1 x14)))), vR 190, vI 1, vI x23]) rfl (Nat.le_of_ble_eq_true rfl) (fun r30 => ?_)
              refine sim_iadd dX12_layLongest_103 ?_
              refine sim_iaload sh_190 rfl dX12_layLongest_104 ?_
              refine sim_iadd dX12_layLongest_105 ?_
              refine sim_name (fun t31 => ?_)
              refine sim_callSIp s_RX12_309 dX12_layLongest_106 (k_M_most SH RHO x23 t31 s8) rfl ⟨by decide, by decide⟩ (S := []) rfl (Nat.le_of_ble_eq_true rfl) (fun r32 => ?_)
              refine sim_istore (fun v33 => [(4, vI v33), (0, vR 179), (1, vI a1), (2, vI x3), (3, vI x7), (5, vI x14), (6, vI x24)]) (fun _ => rfl) (by decide) dX12_layLongest_109 (fun v33 => ?_)
              exact sim_sub [1, 2, 3, 4, 0, 5, 6] rfl (hj27 v33)
        · refine sim_goto (tgt := 117) dX12_layLongest_39 (by decide) ?_
          exact sim_sub [0, 1, 2, 3, 4, 5] rfl (hj18 x13)
theorem dX12_longest_0 : decode cX12_longest 0 = .ok (.aload_n 0, 1) := by decide +kernel
theorem dX12_longest_1 : decode cX12_longest 1 = .ok (.iconst 0, 1) := by decide +kernel
theorem dX12_longest_2 : decode cX12_longest 2 = .ok (.putfield 87, 3) := by decide +kernel
theorem dX12_longest_5 : decode cX12_longest 5 = .ok (.aload_n 0, 1) := by decide +kernel
theorem dX12_longest_6 : decode cX12_longest 6 = .ok (.invokevirtual 312, 3) := by decide +kernel
theorem dX12_longest_9 : decode cX12_longest 9 = .ok (.istore_n 1, 1) := by decide +kernel
theorem dX12_longest_10 : decode cX12_longest 10 = .ok (.iload_n 1, 1) := by decide +kernel
theorem dX12_longest_11 : decode cX12_longest 11 = .ok (.bipush 12, 2) := by decide +kernel
theorem dX12_longest_13 : decode cX12_longest 13 = .ok (.if_icmp .le 5, 3) := by decide +kernel
theorem dX12_longest_16 : decode cX12_longest 16 = .ok (.iconst (-1), 1) := by decide +kernel
theorem dX12_longest_17 : decode cX12_longest 17 = .ok (.ireturn, 1) := by decide +kernel
theorem dX12_longest_18 : decode cX12_longest 18 = .ok (.aload_n 0, 1) := by decide +kernel
theorem dX12_longest_19 : decode cX12_longest 19 = .ok (.iload_n 1, 1) := by decide +kernel
theorem dX12_longest_20 : decode cX12_longest 20 = .ok (.invokevirtual 315, 3) := by decide +kernel
theorem dX12_longest_23 : decode cX12_longest 23 = .ok (.iconst 0, 1) := by decide +kernel
theorem dX12_longest_24 : decode cX12_longest 24 = .ok (.istore_n 2, 1) := by decide +kernel
theorem dX12_longest_25 : decode cX12_longest 25 = .ok (.aload_n 0, 1) := by decide +kernel
theorem dX12_longest_26 : decode cX12_longest 26 = .ok (.iconst 1, 1) := by decide +kernel
theorem dX12_longest_27 : decode cX12_longest 27 = .ok (.invokevirtual 280, 3) := by decide +kernel
theorem dX12_longest_30 : decode cX12_longest 30 = .ok (.istore_n 3, 1) := by decide +kernel
theorem dX12_longest_31 : decode cX12_longest 31 = .ok (.iload_n 3, 1) := by decide +kernel
theorem dX12_longest_32 : decode cX12_longest 32 = .ok (.iconst (-1), 1) := by decide +kernel
theorem dX12_longest_33 : decode cX12_longest 33 = .ok (.if_icmp .eq 10, 3) := by decide +kernel
theorem dX12_longest_36 : decode cX12_longest 36 = .ok (.aload_n 0, 1) := by decide +kernel
theorem dX12_longest_37 : decode cX12_longest 37 = .ok (.getfield 42, 3) := by decide +kernel
theorem dX12_longest_40 : decode cX12_longest 40 = .ok (.iload_n 3, 1) := by decide +kernel
theorem dX12_longest_41 : decode cX12_longest 41 = .ok (.iaload, 1) := by decide +kernel
theorem dX12_longest_42 : decode cX12_longest 42 = .ok (.istore_n 2, 1) := by decide +kernel
theorem dX12_longest_43 : decode cX12_longest 43 = .ok (.iconst 0, 1) := by decide +kernel
theorem dX12_longest_44 : decode cX12_longest 44 = .ok (.istore 4, 2) := by decide +kernel
theorem dX12_longest_46 : decode cX12_longest 46 = .ok (.iload 4, 2) := by decide +kernel
theorem dX12_longest_48 : decode cX12_longest 48 = .ok (.iload_n 1, 1) := by decide +kernel
theorem dX12_longest_49 : decode cX12_longest 49 = .ok (.if_icmp .ge 64, 3) := by decide +kernel
theorem dX12_longest_52 : decode cX12_longest 52 = .ok (.iload_n 3, 1) := by decide +kernel
theorem dX12_longest_53 : decode cX12_longest 53 = .ok (.iconst (-1), 1) := by decide +kernel
theorem dX12_longest_54 : decode cX12_longest 54 = .ok (.if_icmp .ne 59, 3) := by decide +kernel
theorem dX12_longest_57 : decode cX12_longest 57 = .ok (.iconst 0, 1) := by decide +kernel
theorem dX12_longest_58 : decode cX12_longest 58 = .ok (.istore 5, 2) := by decide +kernel
theorem dX12_longest_60 : decode cX12_longest 60 = .ok (.iload 5, 2) := by decide +kernel
theorem dX12_longest_62 : decode cX12_longest 62 = .ok (.iconst 2, 1) := by decide +kernel
theorem dX12_longest_63 : decode cX12_longest 63 = .ok (.if_icmp .ge 44, 3) := by decide +kernel
theorem dX12_longest_66 : decode cX12_longest 66 = .ok (.iload_n 2, 1) := by decide +kernel
theorem dX12_longest_67 : decode cX12_longest 67 = .ok (.iconst 1, 1) := by decide +kernel
theorem dX12_longest_68 : decode cX12_longest 68 = .ok (.aload_n 0, 1) := by decide +kernel
theorem dX12_longest_69 : decode cX12_longest 69 = .ok (.getfield 42, 3) := by decide +kernel
theorem dX12_longest_72 : decode cX12_longest 72 = .ok (.bipush 7, 2) := by decide +kernel
theorem dX12_longest_74 : decode cX12_longest 74 = .ok (.iconst 1, 1) := by decide +kernel
theorem dX12_longest_75 : decode cX12_longest 75 = .ok (.iload 4, 2) := by decide +kernel
theorem dX12_longest_77 : decode cX12_longest 77 = .ok (.ishl, 1) := by decide +kernel
theorem dX12_longest_78 : decode cX12_longest 78 = .ok (.imul, 1) := by decide +kernel
theorem dX12_longest_79 : decode cX12_longest 79 = .ok (.aload_n 0, 1) := by decide +kernel
theorem dX12_longest_80 : decode cX12_longest 80 = .ok (.aload_n 0, 1) := by decide +kernel
theorem dX12_longest_81 : decode cX12_longest 81 = .ok (.getfield 39, 3) := by decide +kernel
theorem dX12_longest_84 : decode cX12_longest 84 = .ok (.iload 4, 2) := by decide +kernel
theorem dX12_longest_86 : decode cX12_longest 86 = .ok (.iaload, 1) := by decide +kernel
theorem dX12_longest_87 : decode cX12_longest 87 = .ok (.iconst 1, 1) := by decide +kernel
theorem dX12_longest_88 : decode cX12_longest 88 = .ok (.iload 5, 2) := by decide +kernel
theorem dX12_longest_90 : decode cX12_longest 90 = .ok (.isub, 1) := by decide +kernel
theorem dX12_longest_91 : decode cX12_longest 91 = .ok (.invokevirtual 243, 3) := by decide +kernel
theorem dX12_longest_94 : decode cX12_longest 94 = .ok (.iadd, 1) := by decide +kernel
theorem dX12_longest_95 : decode cX12_longest 95 = .ok (.iaload, 1) := by decide +kernel
theorem dX12_longest_96 : decode cX12_longest 96 = .ok (.iadd, 1) := by decide +kernel
theorem dX12_longest_97 : decode cX12_longest 97 = .ok (.invokestatic 309, 3) := by decide +kernel
theorem dX12_longest_100 : decode cX12_longest 100 = .ok (.istore_n 2, 1) := by decide +kernel
theorem dX12_longest_101 : decode cX12_longest 101 = .ok (.iinc 5 1, 3) := by decide +kernel
theorem dX12_longest_104 : decode cX12_longest 104 = .ok (.goto (-44), 3) := by decide +kernel
theorem dX12_longest_107 : decode cX12_longest 107 = .ok (.iinc 4 1, 3) := by decide +kernel
theorem dX12_longest_110 : decode cX12_longest 110 = .ok (.goto (-64), 3) := by decide +kernel
theorem dX12_longest_113 : decode cX12_longest 113 = .ok (.iload_n 2, 1) := by decide +kernel
theorem dX12_longest_114 : decode cX12_longest 114 = .ok (.istore 4, 2) := by decide +kernel
theorem dX12_longest_116 : decode cX12_longest 116 = .ok (.iconst 0, 1) := by decide +kernel
theorem dX12_longest_117 : decode cX12_longest 117 = .ok (.istore 5, 2) := by decide +kernel
theorem dX12_longest_119 : decode cX12_longest 119 = .ok (.aload_n 0, 1) := by decide +kernel
theorem dX12_longest_120 : decode cX12_longest 120 = .ok (.iconst 0, 1) := by decide +kernel
theorem dX12_longest_121 : decode cX12_longest 121 = .ok (.putfield 318, 3) := by decide +kernel
theorem dX12_longest_124 : decode cX12_longest 124 = .ok (.iload_n 2, 1) := by decide +kernel
theorem dX12_longest_125 : decode cX12_longest 125 = .ok (.ifCond .le 97, 3) := by decide +kernel
theorem dX12_longest_128 : decode cX12_longest 128 = .ok (.iconst 0, 1) := by decide +kernel
theorem dX12_longest_129 : decode cX12_longest 129 = .ok (.istore 6, 2) := by decide +kernel
theorem dX12_longest_131 : decode cX12_longest 131 = .ok (.aload_n 0, 1) := by decide +kernel
theorem dX12_longest_132 : decode cX12_longest 132 = .ok (.iload 6, 2) := by decide +kernel
theorem dX12_longest_134 : decode cX12_longest 134 = .ok (.iload 5, 2) := by decide +kernel
theorem dX12_longest_136 : decode cX12_longest 136 = .ok (.iload_n 3, 1) := by decide +kernel
theorem dX12_longest_137 : decode cX12_longest 137 = .ok (.iload_n 2, 1) := by decide +kernel
theorem dX12_longest_138 : decode cX12_longest 138 = .ok (.invokevirtual 321, 3) := by decide +kernel
theorem dX12_longest_141 : decode cX12_longest 141 = .ok (.ifCond .ne 9, 3) := by decide +kernel
theorem dX12_longest_144 : decode cX12_longest 144 = .ok (.iinc 6 1, 3) := by decide +kernel
theorem dX12_longest_147 : decode cX12_longest 147 = .ok (.goto (-16), 3) := by decide +kernel
theorem dX12_longest_150 : decode cX12_longest 150 = .ok (.iload 6, 2) := by decide +kernel
theorem dX12_longest_152 : decode cX12_longest 152 = .ok (.iconst 2, 1) := by decide +kernel
theorem dX12_longest_153 : decode cX12_longest 153 = .ok (.idiv, 1) := by decide +kernel
theorem dX12_longest_154 : decode cX12_longest 154 = .ok (.istore 7, 2) := by decide +kernel
theorem dX12_longest_156 : decode cX12_longest 156 = .ok (.aload_n 0, 1) := by decide +kernel
theorem dX12_longest_157 : decode cX12_longest 157 = .ok (.aload_n 0, 1) := by decide +kernel
theorem dX12_longest_158 : decode cX12_longest 158 = .ok (.getfield 39, 3) := by decide +kernel
theorem dX12_longest_161 : decode cX12_longest 161 = .ok (.iload 7, 2) := by decide +kernel
theorem dX12_longest_163 : decode cX12_longest 163 = .ok (.iaload, 1) := by decide +kernel
theorem dX12_longest_164 : decode cX12_longest 164 = .ok (.iconst 1, 1) := by decide +kernel
theorem dX12_longest_165 : decode cX12_longest 165 = .ok (.iload 6, 2) := by decide +kernel
theorem dX12_longest_167 : decode cX12_longest 167 = .ok (.iconst 2, 1) := by decide +kernel
theorem dX12_longest_168 : decode cX12_longest 168 = .ok (.irem, 1) := by decide +kernel
theorem dX12_longest_169 : decode cX12_longest 169 = .ok (.isub, 1) := by decide +kernel
theorem dX12_longest_170 : decode cX12_longest 170 = .ok (.invokevirtual 243, 3) := by decide +kernel
theorem dX12_longest_173 : decode cX12_longest 173 = .ok (.istore_n 3, 1) := by decide +kernel
theorem dX12_longest_174 : decode cX12_longest 174 = .ok (.iload 5, 2) := by decide +kernel
theorem dX12_longest_176 : decode cX12_longest 176 = .ok (.iconst 1, 1) := by decide +kernel
theorem dX12_longest_177 : decode cX12_longest 177 = .ok (.iload 7, 2) := by decide +kernel
theorem dX12_longest_179 : decode cX12_longest 179 = .ok (.ishl, 1) := by decide +kernel
theorem dX12_longest_180 : decode cX12_longest 180 = .ok (.ior, 1) := by decide +kernel
theorem dX12_longest_181 : decode cX12_longest 181 = .ok (.istore 5, 2) := by decide +kernel
theorem dX12_longest_183 : decode cX12_longest 183 = .ok (.iinc 2 (-1), 3) := by decide +kernel
theorem dX12_longest_186 : decode cX12_longest 186 = .ok (.aload_n 0, 1) := by decide +kernel
theorem dX12_longest_187 : decode cX12_longest 187 = .ok (.getfield 45, 3) := by decide +kernel
theorem dX12_longest_190 : decode cX12_longest 190 = .ok (.aload_n 0, 1) := by decide +kernel
theorem dX12_longest_191 : decode cX12_longest 191 = .ok (.getfield 318, 3) := by decide +kernel
theorem dX12_longest_194 : decode cX12_longest 194 = .ok (.iconst 2, 1) := by decide +kernel
theorem dX12_longest_195 : decode cX12_longest 195 = .ok (.aload_n 0, 1) := by decide +kernel
theorem dX12_longest_196 : decode cX12_longest 196 = .ok (.getfield 39, 3) := by decide +kernel
theorem dX12_longest_199 : decode cX12_longest 199 = .ok (.iload 7, 2) := by decide +kernel
theorem dX12_longest_201 : decode cX12_longest 201 = .ok (.iaload, 1) := by decide +kernel
theorem dX12_longest_202 : decode cX12_longest 202 = .ok (.imul, 1) := by decide +kernel
theorem dX12_longest_203 : decode cX12_longest 203 = .ok (.iload 6, 2) := by decide +kernel
theorem dX12_longest_205 : decode cX12_longest 205 = .ok (.iconst 2, 1) := by decide +kernel
theorem dX12_longest_206 : decode cX12_longest 206 = .ok (.irem, 1) := by decide +kernel
theorem dX12_longest_207 : decode cX12_longest 207 = .ok (.iadd, 1) := by decide +kernel
theorem dX12_longest_208 : decode cX12_longest 208 = .ok (.iastore, 1) := by decide +kernel
theorem dX12_longest_209 : decode cX12_longest 209 = .ok (.aload_n 0, 1) := by decide +kernel
theorem dX12_longest_210 : decode cX12_longest 210 = .ok (.dup, 1) := by decide +kernel
theorem dX12_longest_211 : decode cX12_longest 211 = .ok (.getfield 318, 3) := by decide +kernel
theorem dX12_longest_214 : decode cX12_longest 214 = .ok (.iconst 1, 1) := by decide +kernel
theorem dX12_longest_215 : decode cX12_longest 215 = .ok (.iadd, 1) := by decide +kernel
theorem dX12_longest_216 : decode cX12_longest 216 = .ok (.putfield 318, 3) := by decide +kernel
theorem dX12_longest_219 : decode cX12_longest 219 = .ok (.goto (-95), 3) := by decide +kernel
theorem dX12_longest_222 : decode cX12_longest 222 = .ok (.iload 4, 2) := by decide +kernel
theorem dX12_longest_224 : decode cX12_longest 224 = .ok (.ireturn, 1) := by decide +kernel
def f_M_longest (n : Nat)   (σ : JSg) : Option (Int × JSg) :=
  lt_ (sp σ 179 0 0) fun s1 => bd2 (f_M_layHand n s1) fun r2 s3 => lt_ r2 fun v4 => if 12 < v4 then (some ((-1), s3)) else (bd1 (f_M_layLongest n v4 s3) fun s5 => lt_ 0 fun v6 => bd1 (f_M_pipsAt 1 s5) fun r7 => lt_ r7 fun v8 => jn1 (fun (y10 : Int) => lt_ 0 fun v11 => wh2 n (fun rc12 (x13 : Int) (x14 : Int) => jn0 (lt_ x13 fun v16 => lt_ 0 fun v17 => lt_ (sp s5 179 28 0) fun s18 => wh4 n (fun rc19 (x20 : Int) (x21 : Int) (x22 : Int) (s23 : JSg) => if 0 < x20 then (lt_ 0 fun v24 => wh1 n (fun rc25 (x26 : Int) => bd1 (f_M_isNext x26 x22 x21 x20 s23) fun r27 => if r27 = 0 then (lt_ (w32 (x26 + 1)) fun v35 => rc25 v35) else (lt_ (dv32 x26 2) fun v28 => chk (0 ≤ v28 ∧ v28 < 28) <| bd1 (f_M_pip (s23 189 v28.toNat) (w32 (1 - (rm32 x26 2))) s23) fun r29 => lt_ r29 fun v30 => lt_ (or32 x22 (sl32 1 v28)) fun v31 => lt_ (w32 (x20 + (-1))) fun v32 => chk (0 ≤ v28 ∧ v28 < 28) <| chk (0 ≤ (s23 179 28) ∧ (s23 179 28) < 12) <| lt_ (sp s23 191 (s23 179 28).toNat (w32 ((w32 (2 * (s23 189 v28.toNat))) + (rm32 x26 2)))) fun s33 => lt_ (sp s33 179 28 (w32 ((s33 179 28) + 1))) fun s34 => rc19 v32 v30 v31 s34)) v24) else (some (v16, s23))) x13 v8 v17 s18) fun j15 => if x14 < v4 then (if v8 = (-1) then (lt_ 0 fun v36 => wh2 n (fun rc37 (x38 : Int) (x39 : Int) => if x39 < 2 then (chk (0 ≤ x14 ∧ x14 < 28) <| bd1 (f_M_pip (s5 189 x14.toNat) (w32 (1 - x39)) s5) fun r41 => chk (0 ≤ (w32 ((w32 (7 * (sl32 1 x14))) + r41)) ∧ (w32 ((w32 (7 * (sl32 1 x14))) + r41)) < 28672) <| bd1 (f_M_most x38 (w32 (1 + (s5 190 (w32 ((w32 (7 * (sl32 1 x14))) + r41)).toNat))) s5) fun r42 => lt_ r42 fun v43 => lt_ (w32 (x39 + 1)) fun v44 => rc37 v43 v44) else (lt_ (w32 (x14 + 1)) fun v40 => rc12 x38 v40)) x13 v36) else (j15)) else (j15)) y10 v11) fun j9 => if v8 = (-1) then (j9 v6) else (chk (0 ≤ v8 ∧ v8 < 28672) <| lt_ (s5 190 v8.toNat) fun v45 => j9 v45))
set_option maxRecDepth 20000 in
set_option maxHeartbeats 4000000 in
theorem k_M_longest  (n : Nat)    (σ : JSg) : Call yX12_longest cX12_longest 8 (some .int) 3 SH RHO [vR 179] σ dIm (f_M_longest n σ) := by
  refine call_of_sim (by decide +kernel) (Nat.le_of_ble_eq_true rfl) ?_
  show Sim RX12 cX12_longest 8 (some .int) 3 SH RHO 0 [(0, vR 179)] [] σ dIm (f_M_longest n σ)
  unfold f_M_longest
  refine sim_aload_n 0 rfl dX12_longest_0 ?_
  refine sim_iconst dX12_longest_1 (by decide) ?_
  refine sim_putI g_RX12_87 sh_179 dX12_longest_2 (fun s1 => ?_)
  refine sim_aload_n 0 rfl dX12_longest_5 ?_
  refine sim_callVIm v_RX12_312 sh_179 dX12_longest_6 (k_M_layHand n s1) rfl ⟨by decide, by decide⟩ (S := []) rfl (Nat.le_of_ble_eq_true rfl) (fun r2 s3 => ?_)
  refine sim_istore_n (fun v4 => [(1, vI v4), (0, vR 179)]) (fun _ => rfl) (by decide) dX12_longest_9 (fun v4 => ?_)
  refine sim_iload_n 0 rfl dX12_longest_10 ?_
  refine sim_bipush dX12_longest_11 (by decide +kernel) ?_
  refine sim_icmp_le (tgt := 18) dX12_longest_13 (by decide) ?_ ?_
  · refine sim_aload_n 1 rfl dX12_longest_18 ?_
    refine sim_iload_n 0 rfl dX12_longest_19 ?_
    refine sim_callVVm v_RX12_315 sh_179 dX12_longest_20 (k_M_layLongest n v4 s3) rfl ⟨by decide, by decide⟩ (S := []) rfl (Nat.le_of_ble_eq_true rfl) (fun s5 => ?_)
    refine sim_iconst dX12_longest_23 (by decide) ?_
    refine sim_istore_n (fun v6 => [(2, vI v6), (1, vI v4), (0, vR 179)]) (fun _ => rfl) (by decide) dX12_longest_24 (fun v6 => ?_)
    refine sim_aload_n 2 rfl dX12_longest_25 ?_
    refine sim_iconst dX12_longest_26 (by decide) ?_
    refine sim_callVIp v_RX12_280 sh_179 dX12_longest_27 (k_M_pipsAt 1 s5) rfl ⟨by decide, by decide⟩ (S := []) rfl (Nat.le_of_ble_eq_true rfl) (fun r7 => ?_)
    refine sim_istore_n (fun v8 => [(3, vI v8), (2, vI v6), (1, vI v4), (0, vR 179)]) (fun _ => rfl) (by decide) dX12_longest_30 (fun v8 => ?_)
    refine sim_iload_n 0 rfl dX12_longest_31 ?_
    refine sim_iconst dX12_longest_32 (by decide) ?_
    refine sim_jn1 (pc' := 43) (fun (y10 : Int) => [(0, vR 179), (1, vI v4), (2, vI y10), (3, vI v8)]) (fun (y10 : Int) => []) (fun (y10 : Int) => s5) ?_ (fun j9 hj9 => ?_)
    · intro y10
      refine sim_iconst dX12_longest_43 (by decide) ?_
      refine sim_istore (fun v11 => [(4, vI v11), (0, vR 179), (1, vI v4), (2, vI y10), (3, vI v8)]) (fun _ => rfl) (by decide) dX12_longest_44 (fun v11 => ?_)
      refine sim_sub [1, 2, 3, 4, 0] (L' := [(0, vR 179), (1, vI v4), (2, vI y10), (3, vI v8), (4, vI v11)]) rfl ?_
      refine sim_wh2 (fun (x13 : Int) (x14 : Int) => [(0, vR 179), (1, vI v4), (2, vI x13), (3, vI v8), (4, vI x14)]) (fun (x13 : Int) (x14 : Int) => s5) ?_ n y10 v11
      intro rc12 hrc12 x13 x14
      refine sim_iload 4 rfl dX12_longest_46 ?_
      refine sim_iload_n 1 rfl dX12_longest_48 ?_
      refine sim_jn0 (pc' := 113) ([(0, vR 179), (2, vI x13), (3, vI v8)]) ([]) (s5) ?_ (fun j15 hj15 => ?_)
      · refine sim_iload_n 1 rfl dX12_longest_113 ?_
        refine sim_istore (fun v16 => [(4, vI v16), (0, vR 179), (2, vI x13), (3, vI v8)]) (fun _ => rfl) (by decide) dX12_longest_114 (fun v16 => ?_)
        refine sim_iconst dX12_longest_116 (by decide) ?_
        refine sim_istore (fun v17 => [(5, vI v17), (4, vI v16), (0, vR 179), (2, vI x13), (3, vI v8)]) (fun _ => rfl) (by decide) dX12_longest_117 (fun v17 => ?_)
        refine sim_aload_n 2 rfl dX12_longest_119 ?_
        refine sim_iconst dX12_longest_120 (by decide) ?_
        refine sim_putI g_RX12_318 sh_179 dX12_longest_121 (fun s18 => ?_)
        refine sim_sub [2, 3, 4, 1, 0] (L' := [(0, vR 179), (2, vI x13), (3, vI v8), (4, vI v16), (5, vI v17)]) rfl ?_
        refine sim_wh4 (fun (x20 : Int) (x21 : Int) (x22 : Int) (s23 : JSg) => [(0, vR 179), (2, vI x20), (3, vI x21), (4, vI v16), (5, vI x22)]) (fun (x20 : Int) (x21 : Int) (x22 : Int) (s23 : JSg) => s23) ?_ n x13 v8 v17 s18
        intro rc19 hrc19 x20 x21 x22 s23
        refine sim_iload_n 1 rfl dX12_longest_124 ?_
        refine sim_if_le (tgt := 222) dX12_longest_125 (by decide) ?_ ?_
        · refine sim_iload 3 rfl dX12_longest_222 ?_
          exact sim_iret rfl rfl dX12_longest_224
        · refine sim_iconst dX12_longest_128 (by decide) ?_
          refine sim_istore (fun v24 => [(6, vI v24), (0, vR 179), (2, vI x20), (3, vI x21), (4, vI v16), (5, vI x22)]) (fun _ => rfl) (by decide) dX12_longest_129 (fun v24 => ?_)
          refine sim_sub [1, 2, 3, 4, 5, 0] (L' := [(0, vR 179), (2, vI x20), (3, vI x21), (4, vI v16), (5, vI x22), (6, vI v24)]) rfl ?_
          refine sim_wh1 (fun (x26 : Int) => [(0, vR 179), (2, vI x20), (3, vI x21), (4, vI v16), (5, vI x22), (6, vI x26)]) (fun (x26 : Int) => s23) ?_ n v24
          intro rc25 hrc25 x26
          refine sim_aload_n 0 rfl dX12_longest_131 ?_
          refine sim_iload 5 rfl dX12_longest_132 ?_
          refine sim_iload 4 rfl dX12_longest_134 ?_
          refine sim_iload_n 2 rfl dX12_longest_136 ?_
          refine sim_iload_n 1 rfl dX12_longest_137 ?_
          refine sim_callVIp v_RX12_321 sh_179 dX12_longest_138 (k_M_isNext x26 x22 x21 x20 s23) rfl ⟨by decide, by decide⟩ (S := []) rfl (Nat.le_of_ble_eq_true rfl) (fun r27 => ?_)
          refine sim_if_ne (tgt := 150) dX12_longest_141 (by decide) ?_ ?_
          · refine sim_iload 5 rfl dX12_longest_150 ?_
            refine sim_iconst dX12_longest_152 (by decide) ?_
            refine sim_idivK (by decide) dX12_longest_153 ?_
            refine sim_istore (fun v28 => [(7, vI v28), (0, vR 179), (2, vI x20), (3, vI x21), (4, vI v16), (5, vI x22), (6, vI x26)]) (fun _ => rfl) (by decide) dX12_longest_154 (fun v28 => ?_)
            refine sim_aload_n 1 rfl dX12_longest_156 ?_
            refine sim_aload_n 1 rfl dX12_longest_157 ?_
            refine sim_getR g_RX12_39 sh_179 rh_179_25 dX12_longest_158 ?_
            refine sim_iload 0 rfl dX12_longest_161 ?_
            refine sim_iaload sh_189 rfl dX12_longest_163 ?_
            refine sim_iconst dX12_longest_164 (by decide) ?_
            refine sim_iload 6 rfl dX12_longest_165 ?_
            refine sim_iconst dX12_longest_167 (by decide) ?_
            refine sim_iremK (by decide) dX12_longest_168 ?_
            refine sim_isub dX12_longest_169 ?_
            refine sim_callVIp v_RX12_243 sh_179 dX12_longest_170 (k_M_pip (s23 189 v28.toNat) (w32 (1 - (rm32 x26 2))) s23) rfl ⟨by decide, by decide⟩ (S := []) rfl (Nat.le_of_ble_eq_true rfl) (fun r29 => ?_)
            refine sim_istore_n (fun v30 => [(3, vI v30), (7, vI v28), (0, vR 179), (2, vI x20), (4, vI v16), (5, vI x22), (6, vI x26)]) (fun _ => rfl) (by decide) dX12_longest_173 (fun v30 => ?_)
            refine sim_iload 5 rfl dX12_longest_174 ?_
            refine sim_iconst dX12_longest_176 (by decide) ?_
            refine sim_iload 1 rfl dX12_longest_177 ?_
            refine sim_ishl dX12_longest_179 ?_
            refine sim_ior dX12_longest_180 ?_
            refine sim_istore (fun v31 => [(5, vI v31), (3, vI v30), (7, vI v28), (0, vR 179), (2, vI x20), (4, vI v16), (6, vI x26)]) (fun _ => rfl) (by decide) dX12_longest_181 (fun v31 => ?_)
            refine sim_iinc 4 rfl (fun v32 => [(2, vI v32), (5, vI v31), (3, vI v30), (7, vI v28), (0, vR 179), (4, vI v16), (6, vI x26)]) (fun _ => rfl) (by decide) dX12_longest_183 (fun v32 => ?_)
            refine sim_aload_n 4 rfl dX12_longest_186 ?_
            refine sim_getR g_RX12_45 sh_179 rh_179_27 dX12_longest_187 ?_
            refine sim_aload_n 4 rfl dX12_longest_190 ?_
            refine sim_getI g_RX12_318 sh_179 dX12_longest_191 ?_
            refine sim_iconst dX12_longest_194 (by decide) ?_
            refine sim_aload_n 4 rfl dX12_longest_195 ?_
            refine sim_getR g_RX12_39 sh_179 rh_179_25 dX12_longest_196 ?_
            refine sim_iload 3 rfl dX12_longest_199 ?_
            refine sim_iaload sh_189 rfl dX12_longest_201 ?_
            refine sim_imul dX12_longest_202 ?_
            refine sim_iload 6 rfl dX12_longest_203 ?_
            refine sim_iconst dX12_longest_205 (by decide) ?_
            refine sim_iremK (by decide) dX12_longest_206 ?_
            refine sim_iadd dX12_longest_207 ?_
            refine sim_iastore sh_191 rfl dX12_longest_208 (fun s33 => ?_)
            refine sim_aload_n 4 rfl dX12_longest_209 ?_
            refine sim_dup rfl dX12_longest_210 ?_
            refine sim_getI g_RX12_318 sh_179 dX12_longest_211 ?_
            refine sim_iconst dX12_longest_214 (by decide) ?_
            refine sim_iadd dX12_longest_215 ?_
            refine sim_putI g_RX12_318 sh_179 dX12_longest_216 (fun s34 => ?_)
            refine sim_goto (tgt := 124) dX12_longest_219 (by decide) ?_
            exact sim_sub [4, 0, 2, 5, 1] rfl (hrc19 v32 v30 v31 s34)
          · refine sim_iinc 5 rfl (fun v35 => [(6, vI v35), (0, vR 179), (2, vI x20), (3, vI x21), (4, vI v16), (5, vI x22)]) (fun _ => rfl) (by decide) dX12_longest_144 (fun v35 => ?_)
            refine sim_goto (tgt := 131) dX12_longest_147 (by decide) ?_
            exact sim_sub [1, 2, 3, 4, 5, 0] rfl (hrc25 v35)
      refine sim_icmp_ge (tgt := 113) dX12_longest_49 (by decide) ?_ ?_
      · exact sim_sub [0, 2, 3] rfl (hj15 )
      · refine sim_iload_n 3 rfl dX12_longest_52 ?_
        refine sim_iconst dX12_longest_53 (by decide) ?_
        refine sim_icmp_ne (tgt := 113) dX12_longest_54 (by decide) ?_ ?_
        · exact sim_sub [0, 2, 3] rfl (hj15 )
        · refine sim_iconst dX12_longest_57 (by decide) ?_
          refine sim_istore (fun v36 => [(5, vI v36), (0, vR 179), (1, vI v4), (2, vI x13), (3, vI v8), (4, vI x14)]) (fun _ => rfl) (by decide) dX12_longest_58 (fun v36 => ?_)
          refine sim_sub [1, 2, 3, 4, 5, 0] (L' := [(0, vR 179), (1, vI v4), (2, vI x13), (3, vI v8), (4, vI x14), (5, vI v36)]) rfl ?_
          refine sim_wh2 (fun (x38 : Int) (x39 : Int) => [(0, vR 179), (1, vI v4), (2, vI x38), (3, vI v8), (4, vI x14), (5, vI x39)]) (fun (x38 : Int) (x39 : Int) => s5) ?_ n x13 v36
          intro rc37 hrc37 x38 x39
          refine sim_iload 5 rfl dX12_longest_60 ?_
          refine sim_iconst dX12_longest_62 (by decide) ?_
          refine sim_icmp_ge (tgt := 107) dX12_longest_63 (by decide) ?_ ?_
          · refine sim_iinc 4 rfl (fun v40 => [(4, vI v40), (0, vR 179), (1, vI v4), (2, vI x38), (3, vI v8), (5, vI x39)]) (fun _ => rfl) (by decide) dX12_longest_107 (fun v40 => ?_)
            refine sim_goto (tgt := 46) dX12_longest_110 (by decide) ?_
            exact sim_sub [1, 2, 3, 4, 0] rfl (hrc12 x38 v40)
          · refine sim_iload_n 2 rfl dX12_longest_66 ?_
            refine sim_iconst dX12_longest_67 (by decide) ?_
            refine sim_aload_n 0 rfl dX12_longest_68 ?_
            refine sim_getR g_RX12_42 sh_179 rh_179_26 dX12_longest_69 ?_
            refine sim_bipush dX12_longest_72 (by decide +kernel) ?_
            refine sim_iconst dX12_longest_74 (by decide) ?_
            refine sim_iload 4 rfl dX12_longest_75 ?_
            refine sim_ishl dX12_longest_77 ?_
            refine sim_imul dX12_longest_78 ?_
            refine sim_aload_n 0 rfl dX12_longest_79 ?_
            refine sim_aload_n 0 rfl dX12_longest_80 ?_
            refine sim_getR g_RX12_39 sh_179 rh_179_25 dX12_longest_81 ?_
            refine sim_iload 4 rfl dX12_longest_84 ?_
            refine sim_iaload sh_189 rfl dX12_longest_86 ?_
            refine sim_iconst dX12_longest_87 (by decide) ?_
            refine sim_iload 5 rfl dX12_longest_88 ?_
            refine sim_isub dX12_longest_90 ?_
            refine sim_callVIp v_RX12_243 sh_179 dX12_longest_91 (k_M_pip (s5 189 x14.toNat) (w32 (1 - x39)) s5) rfl ⟨by decide, by decide⟩ (S := [vI (w32 (7 * (sl32 1 x14))), vR 190, vI 1, vI x38]) rfl (Nat.le_of_ble_eq_true rfl) (fun r41 => ?_)
            refine sim_iadd dX12_longest_94 ?_
            refine sim_iaload sh_190 rfl dX12_longest_95 ?_
            refine sim_iadd dX12_longest_96 ?_
            refine sim_callSIp s_RX12_309 dX12_longest_97 (k_M_most SH RHO x38 (w32 (1 + (s5 190 (w32 ((w32 (7 * (sl32 1 x14))) + r41)).toNat))) s5) rfl ⟨by decide, by decide⟩ (S := []) rfl (Nat.le_of_ble_eq_true rfl) (fun r42 => ?_)
            refine sim_istore_n (fun v43 => [(2, vI v43), (0, vR 179), (1, vI v4), (3, vI v8), (4, vI x14), (5, vI x39)]) (fun _ => rfl) (by decide) dX12_longest_100 (fun v43 => ?_)
            refine sim_iinc 5 rfl (fun v44 => [(5, vI v44), (2, vI v43), (0, vR 179), (1, vI v4), (3, vI v8), (4, vI x14)]) (fun _ => rfl) (by decide) dX12_longest_101 (fun v44 => ?_)
            refine sim_goto (tgt := 60) dX12_longest_104 (by decide) ?_
            exact sim_sub [2, 3, 1, 4, 5, 0] rfl (hrc37 v43 v44)
    refine sim_icmp_eq (tgt := 43) dX12_longest_33 (by decide) ?_ ?_
    · exact sim_sub [3, 2, 1, 0] rfl (hj9 v6)
    · refine sim_aload_n 3 rfl dX12_longest_36 ?_
      refine sim_getR g_RX12_42 sh_179 rh_179_26 dX12_longest_37 ?_
      refine sim_iload_n 0 rfl dX12_longest_40 ?_
      refine sim_iaload sh_190 rfl dX12_longest_41 ?_
      refine sim_istore_n (fun v45 => [(2, vI v45), (3, vI v8), (1, vI v4), (0, vR 179)]) (fun _ => rfl) (by decide) dX12_longest_42 (fun v45 => ?_)
      exact sim_sub [3, 2, 0, 1] rfl (hj9 v45)
  · refine sim_iconst dX12_longest_16 (by decide) ?_
    exact sim_iret rfl rfl dX12_longest_17
theorem dX12_isEnd_0 : decode cX12_isEnd 0 = .ok (.iload_n 0, 1) := by decide +kernel
theorem dX12_isEnd_1 : decode cX12_isEnd 1 = .ok (.iconst 0, 1) := by decide +kernel
theorem dX12_isEnd_2 : decode cX12_isEnd 2 = .ok (.iconst 1, 1) := by decide +kernel
theorem dX12_isEnd_3 : decode cX12_isEnd 3 = .ok (.invokestatic 158, 3) := by decide +kernel
theorem dX12_isEnd_6 : decode cX12_isEnd 6 = .ok (.ireturn, 1) := by decide +kernel
def f_M_isEnd   (a1 : Int) (σ : JSg) : Option (Int) :=
  bd1 (f_M_isIn a1 0 1 σ) fun r1 => chk (r1 = 0 ∨ r1 = 1) <| some r1
set_option maxRecDepth 20000 in
set_option maxHeartbeats 4000000 in
theorem k_M_isEnd (Sh : JSh) (ρ : JRo)    (a1 : Int) (σ : JSg) : Call yX12_isEnd cX12_isEnd 1 (some .boolean) 1 Sh ρ [vI a1] σ (dIp σ) (f_M_isEnd a1 σ) := by
  refine call_of_sim (by decide +kernel) (Nat.le_of_ble_eq_true rfl) ?_
  show Sim RX12 cX12_isEnd 1 (some .boolean) 1 Sh ρ 0 [(0, vI a1)] [] σ (dIp σ) (f_M_isEnd a1 σ)
  unfold f_M_isEnd
  refine sim_iload_n 0 rfl dX12_isEnd_0 ?_
  refine sim_iconst dX12_isEnd_1 (by decide) ?_
  refine sim_iconst dX12_isEnd_2 (by decide) ?_
  refine sim_callSIp s_RX12_158 dX12_isEnd_3 (k_M_isIn Sh ρ a1 0 1 σ) rfl ⟨by decide, by decide⟩ (S := []) rfl (Nat.le_of_ble_eq_true rfl) (fun r1 => ?_)
  exact sim_zretc rfl rfl dX12_isEnd_6
theorem dX12_open_0 : decode cX12_open 0 = .ok (.aload_n 0, 1) := by decide +kernel
theorem dX12_open_1 : decode cX12_open 1 = .ok (.iconst 0, 1) := by decide +kernel
theorem dX12_open_2 : decode cX12_open 2 = .ok (.putfield 87, 3) := by decide +kernel
theorem dX12_open_5 : decode cX12_open 5 = .ok (.iload_n 1, 1) := by decide +kernel
theorem dX12_open_6 : decode cX12_open 6 = .ok (.invokestatic 286, 3) := by decide +kernel
theorem dX12_open_9 : decode cX12_open 9 = .ok (.ifCond .ne 5, 3) := by decide +kernel
theorem dX12_open_12 : decode cX12_open 12 = .ok (.iconst (-1), 1) := by decide +kernel
theorem dX12_open_13 : decode cX12_open 13 = .ok (.ireturn, 1) := by decide +kernel
theorem dX12_open_14 : decode cX12_open 14 = .ok (.iconst 0, 1) := by decide +kernel
theorem dX12_open_15 : decode cX12_open 15 = .ok (.istore_n 2, 1) := by decide +kernel
theorem dX12_open_16 : decode cX12_open 16 = .ok (.iconst 0, 1) := by decide +kernel
theorem dX12_open_17 : decode cX12_open 17 = .ok (.istore_n 3, 1) := by decide +kernel
theorem dX12_open_18 : decode cX12_open 18 = .ok (.iload_n 3, 1) := by decide +kernel
theorem dX12_open_19 : decode cX12_open 19 = .ok (.aload_n 0, 1) := by decide +kernel
theorem dX12_open_20 : decode cX12_open 20 = .ok (.invokevirtual 240, 3) := by decide +kernel
theorem dX12_open_23 : decode cX12_open 23 = .ok (.if_icmp .ge 39, 3) := by decide +kernel
theorem dX12_open_26 : decode cX12_open 26 = .ok (.aload_n 0, 1) := by decide +kernel
theorem dX12_open_27 : decode cX12_open 27 = .ok (.iload_n 3, 1) := by decide +kernel
theorem dX12_open_28 : decode cX12_open 28 = .ok (.invokevirtual 265, 3) := by decide +kernel
theorem dX12_open_31 : decode cX12_open 31 = .ok (.ifCond .eq 25, 3) := by decide +kernel
theorem dX12_open_34 : decode cX12_open 34 = .ok (.aload_n 0, 1) := by decide +kernel
theorem dX12_open_35 : decode cX12_open 35 = .ok (.invokevirtual 250, 3) := by decide +kernel
theorem dX12_open_38 : decode cX12_open 38 = .ok (.ifCond .eq 12, 3) := by decide +kernel
theorem dX12_open_41 : decode cX12_open 41 = .ok (.aload_n 0, 1) := by decide +kernel
theorem dX12_open_42 : decode cX12_open 42 = .ok (.iload_n 3, 1) := by decide +kernel
theorem dX12_open_43 : decode cX12_open 43 = .ok (.iload_n 1, 1) := by decide +kernel
theorem dX12_open_44 : decode cX12_open 44 = .ok (.invokevirtual 306, 3) := by decide +kernel
theorem dX12_open_47 : decode cX12_open 47 = .ok (.ifCond .eq 9, 3) := by decide +kernel
theorem dX12_open_50 : decode cX12_open 50 = .ok (.iload_n 2, 1) := by decide +kernel
theorem dX12_open_51 : decode cX12_open 51 = .ok (.iconst 1, 1) := by decide +kernel
theorem dX12_open_52 : decode cX12_open 52 = .ok (.iload_n 3, 1) := by decide +kernel
theorem dX12_open_53 : decode cX12_open 53 = .ok (.ishl, 1) := by decide +kernel
theorem dX12_open_54 : decode cX12_open 54 = .ok (.ior, 1) := by decide +kernel
theorem dX12_open_55 : decode cX12_open 55 = .ok (.istore_n 2, 1) := by decide +kernel
theorem dX12_open_56 : decode cX12_open 56 = .ok (.iinc 3 1, 3) := by decide +kernel
theorem dX12_open_59 : decode cX12_open 59 = .ok (.goto (-41), 3) := by decide +kernel
theorem dX12_open_62 : decode cX12_open 62 = .ok (.iload_n 2, 1) := by decide +kernel
theorem dX12_open_63 : decode cX12_open 63 = .ok (.ireturn, 1) := by decide +kernel
def f_M_open (n : Nat)  (a1 : Int) (σ : JSg) : Option (Int × JSg) :=
  lt_ (sp σ 179 0 0) fun s1 => bd1 (f_M_isEnd a1 s1) fun r2 => if r2 = 0 then (some ((-1), s1)) else (lt_ 0 fun v3 => lt_ 0 fun v4 => wh2 n (fun rc5 (x6 : Int) (x7 : Int) => bd1 (f_M_stones s1) fun r8 => if x7 < r8 then (bd1 (f_M_isHeld x7 s1) fun r9 => jn1 (fun (y11 : Int) => lt_ (w32 (x7 + 1)) fun v12 => rc5 y11 v12) fun j10 => if r9 = 0 then (j10 x6) else (bd1 (f_M_rowMany s1) fun r13 => jn0 (lt_ (or32 x6 (sl32 1 x7)) fun v15 => j10 v15) fun j14 => if r13 = 0 then (j14) else (bd1 (f_M_fitsEnd x7 a1 s1) fun r16 => if r16 = 0 then (j10 x6) else (j14)))) else (some (x6, s1))) v3 v4)
set_option maxRecDepth 20000 in
set_option maxHeartbeats 4000000 in
theorem k_M_open  (n : Nat)   (a1 : Int) (σ : JSg) : Call yX12_open cX12_open 4 (some .int) 4 SH RHO [vR 179, vI a1] σ dIm (f_M_open n a1 σ) := by
  refine call_of_sim (by decide +kernel) (Nat.le_of_ble_eq_true rfl) ?_
  show Sim RX12 cX12_open 4 (some .int) 4 SH RHO 0 [(0, vR 179), (1, vI a1)] [] σ dIm (f_M_open n a1 σ)
  unfold f_M_open
  refine sim_aload_n 0 rfl dX12_open_0 ?_
  refine sim_iconst dX12_open_1 (by decide) ?_
  refine sim_putI g_RX12_87 sh_179 dX12_open_2 (fun s1 => ?_)
  refine sim_iload_n 1 rfl dX12_open_5 ?_
  refine sim_callSIp s_RX12_286 dX12_open_6 (k_M_isEnd SH RHO a1 s1) rfl ⟨by decide, by decide⟩ (S := []) rfl (Nat.le_of_ble_eq_true rfl) (fun r2 => ?_)
  refine sim_if_ne (tgt := 14) dX12_open_9 (by decide) ?_ ?_
  · refine sim_iconst dX12_open_14 (by decide) ?_
    refine sim_istore_n (fun v3 => [(2, vI v3), (0, vR 179), (1, vI a1)]) (fun _ => rfl) (by decide) dX12_open_15 (fun v3 => ?_)
    refine sim_iconst dX12_open_16 (by decide) ?_
    refine sim_istore_n (fun v4 => [(3, vI v4), (2, vI v3), (0, vR 179), (1, vI a1)]) (fun _ => rfl) (by decide) dX12_open_17 (fun v4 => ?_)
    refine sim_sub [2, 3, 1, 0] (L' := [(0, vR 179), (1, vI a1), (2, vI v3), (3, vI v4)]) rfl ?_
    refine sim_wh2 (fun (x6 : Int) (x7 : Int) => [(0, vR 179), (1, vI a1), (2, vI x6), (3, vI x7)]) (fun (x6 : Int) (x7 : Int) => s1) ?_ n v3 v4
    intro rc5 hrc5 x6 x7
    refine sim_iload_n 3 rfl dX12_open_18 ?_
    refine sim_aload_n 0 rfl dX12_open_19 ?_
    refine sim_callVIp v_RX12_240 sh_179 dX12_open_20 (k_M_stones s1) rfl ⟨by decide, by decide⟩ (S := [vI x7]) rfl (Nat.le_of_ble_eq_true rfl) (fun r8 => ?_)
    refine sim_icmp_ge (tgt := 62) dX12_open_23 (by decide) ?_ ?_
    · refine sim_iload_n 2 rfl dX12_open_62 ?_
      exact sim_iret rfl rfl dX12_open_63
    · refine sim_aload_n 0 rfl dX12_open_26 ?_
      refine sim_iload_n 3 rfl dX12_open_27 ?_
      refine sim_callVIp v_RX12_265 sh_179 dX12_open_28 (k_M_isHeld x7 s1) rfl ⟨by decide, by decide⟩ (S := []) rfl (Nat.le_of_ble_eq_true rfl) (fun r9 => ?_)
      refine sim_jn1 (pc' := 56) (fun (y11 : Int) => [(0, vR 179), (1, vI a1), (2, vI y11), (3, vI x7)]) (fun (y11 : Int) => []) (fun (y11 : Int) => s1) ?_ (fun j10 hj10 => ?_)
      · intro y11
        refine sim_iinc 3 rfl (fun v12 => [(3, vI v12), (0, vR 179), (1, vI a1), (2, vI y11)]) (fun _ => rfl) (by decide) dX12_open_56 (fun v12 => ?_)
        refine sim_goto (tgt := 18) dX12_open_59 (by decide) ?_
        exact sim_sub [1, 2, 3, 0] rfl (hrc5 y11 v12)
      refine sim_if_eq (tgt := 56) dX12_open_31 (by decide) ?_ ?_
      · exact sim_sub [0, 1, 2, 3] rfl (hj10 x6)
      · refine sim_aload_n 0 rfl dX12_open_34 ?_
        refine sim_callVIp v_RX12_250 sh_179 dX12_open_35 (k_M_rowMany s1) rfl ⟨by decide, by decide⟩ (S := []) rfl (Nat.le_of_ble_eq_true rfl) (fun r13 => ?_)
        refine sim_jn0 (pc' := 50) ([(0, vR 179), (1, vI a1), (2, vI x6), (3, vI x7)]) ([]) (s1) ?_ (fun j14 hj14 => ?_)
        · refine sim_iload_n 2 rfl dX12_open_50 ?_
          refine sim_iconst dX12_open_51 (by decide) ?_
          refine sim_iload_n 3 rfl dX12_open_52 ?_
          refine sim_ishl dX12_open_53 ?_
          refine sim_ior dX12_open_54 ?_
          refine sim_istore_n (fun v15 => [(2, vI v15), (0, vR 179), (1, vI a1), (3, vI x7)]) (fun _ => rfl) (by decide) dX12_open_55 (fun v15 => ?_)
          exact sim_sub [1, 2, 0, 3] rfl (hj10 v15)
        refine sim_if_eq (tgt := 50) dX12_open_38 (by decide) ?_ ?_
        · exact sim_sub [0, 1, 2, 3] rfl (hj14 )
        · refine sim_aload_n 0 rfl dX12_open_41 ?_
          refine sim_iload_n 3 rfl dX12_open_42 ?_
          refine sim_iload_n 1 rfl dX12_open_43 ?_
          refine sim_callVIp v_RX12_306 sh_179 dX12_open_44 (k_M_fitsEnd x7 a1 s1) rfl ⟨by decide, by decide⟩ (S := []) rfl (Nat.le_of_ble_eq_true rfl) (fun r16 => ?_)
          refine sim_if_eq (tgt := 56) dX12_open_47 (by decide) ?_ ?_
          · exact sim_sub [0, 1, 2, 3] rfl (hj10 x6)
          · exact sim_sub [0, 1, 2, 3] rfl (hj14 )
  · refine sim_iconst dX12_open_12 (by decide) ?_
    exact sim_iret rfl rfl dX12_open_13
theorem dX12_able_0 : decode cX12_able 0 = .ok (.aload_n 0, 1) := by decide +kernel
theorem dX12_able_1 : decode cX12_able 1 = .ok (.iconst 0, 1) := by decide +kernel
theorem dX12_able_2 : decode cX12_able 2 = .ok (.putfield 87, 3) := by decide +kernel
theorem dX12_able_5 : decode cX12_able 5 = .ok (.iload_n 1, 1) := by decide +kernel
theorem dX12_able_6 : decode cX12_able 6 = .ok (.invokestatic 286, 3) := by decide +kernel
theorem dX12_able_9 : decode cX12_able 9 = .ok (.ifCond .ne 5, 3) := by decide +kernel
theorem dX12_able_12 : decode cX12_able 12 = .ok (.iconst (-1), 1) := by decide +kernel
theorem dX12_able_13 : decode cX12_able 13 = .ok (.ireturn, 1) := by decide +kernel
theorem dX12_able_14 : decode cX12_able 14 = .ok (.iconst 0, 1) := by decide +kernel
theorem dX12_able_15 : decode cX12_able 15 = .ok (.istore_n 2, 1) := by decide +kernel
theorem dX12_able_16 : decode cX12_able 16 = .ok (.iconst 0, 1) := by decide +kernel
theorem dX12_able_17 : decode cX12_able 17 = .ok (.istore_n 3, 1) := by decide +kernel
theorem dX12_able_18 : decode cX12_able 18 = .ok (.iload_n 3, 1) := by decide +kernel
theorem dX12_able_19 : decode cX12_able 19 = .ok (.aload_n 0, 1) := by decide +kernel
theorem dX12_able_20 : decode cX12_able 20 = .ok (.invokevirtual 240, 3) := by decide +kernel
theorem dX12_able_23 : decode cX12_able 23 = .ok (.if_icmp .ge 41, 3) := by decide +kernel
theorem dX12_able_26 : decode cX12_able 26 = .ok (.aload_n 0, 1) := by decide +kernel
theorem dX12_able_27 : decode cX12_able 27 = .ok (.aload_n 0, 1) := by decide +kernel
theorem dX12_able_28 : decode cX12_able 28 = .ok (.getfield 13, 3) := by decide +kernel
theorem dX12_able_31 : decode cX12_able 31 = .ok (.bipush 67, 2) := by decide +kernel
theorem dX12_able_33 : decode cX12_able 33 = .ok (.iload_n 3, 1) := by decide +kernel
theorem dX12_able_34 : decode cX12_able 34 = .ok (.iadd, 1) := by decide +kernel
theorem dX12_able_35 : decode cX12_able 35 = .ok (.iaload, 1) := by decide +kernel
theorem dX12_able_36 : decode cX12_able 36 = .ok (.iload_n 3, 1) := by decide +kernel
theorem dX12_able_37 : decode cX12_able 37 = .ok (.iload_n 1, 1) := by decide +kernel
theorem dX12_able_38 : decode cX12_able 38 = .ok (.invokevirtual 289, 3) := by decide +kernel
theorem dX12_able_41 : decode cX12_able 41 = .ok (.ifCond .ne 17, 3) := by decide +kernel
theorem dX12_able_44 : decode cX12_able 44 = .ok (.iload_n 2, 1) := by decide +kernel
theorem dX12_able_45 : decode cX12_able 45 = .ok (.iconst 1, 1) := by decide +kernel
theorem dX12_able_46 : decode cX12_able 46 = .ok (.aload_n 0, 1) := by decide +kernel
theorem dX12_able_47 : decode cX12_able 47 = .ok (.getfield 13, 3) := by decide +kernel
theorem dX12_able_50 : decode cX12_able 50 = .ok (.bipush 67, 2) := by decide +kernel
theorem dX12_able_52 : decode cX12_able 52 = .ok (.iload_n 3, 1) := by decide +kernel
theorem dX12_able_53 : decode cX12_able 53 = .ok (.iadd, 1) := by decide +kernel
theorem dX12_able_54 : decode cX12_able 54 = .ok (.iaload, 1) := by decide +kernel
theorem dX12_able_55 : decode cX12_able 55 = .ok (.ishl, 1) := by decide +kernel
theorem dX12_able_56 : decode cX12_able 56 = .ok (.ior, 1) := by decide +kernel
theorem dX12_able_57 : decode cX12_able 57 = .ok (.istore_n 2, 1) := by decide +kernel
theorem dX12_able_58 : decode cX12_able 58 = .ok (.iinc 3 1, 3) := by decide +kernel
theorem dX12_able_61 : decode cX12_able 61 = .ok (.goto (-43), 3) := by decide +kernel
theorem dX12_able_64 : decode cX12_able 64 = .ok (.iload_n 2, 1) := by decide +kernel
theorem dX12_able_65 : decode cX12_able 65 = .ok (.ireturn, 1) := by decide +kernel
def f_M_able (n : Nat)  (a1 : Int) (σ : JSg) : Option (Int × JSg) :=
  lt_ (sp σ 179 0 0) fun s1 => bd1 (f_M_isEnd a1 s1) fun r2 => if r2 = 0 then (some ((-1), s1)) else (lt_ 0 fun v3 => lt_ 0 fun v4 => wh2 n (fun rc5 (x6 : Int) (x7 : Int) => bd1 (f_M_stones s1) fun r8 => if x7 < r8 then (chk (0 ≤ (w32 (67 + x7)) ∧ (w32 (67 + x7)) < 448) <| bd1 (f_M_whyNot (s1 181 (w32 (67 + x7)).toNat) x7 a1 s1) fun r9 => jn1 (fun (y11 : Int) => lt_ (w32 (x7 + 1)) fun v12 => rc5 y11 v12) fun j10 => if r9 = 0 then (chk (0 ≤ (w32 (67 + x7)) ∧ (w32 (67 + x7)) < 448) <| lt_ (or32 x6 (sl32 1 (s1 181 (w32 (67 + x7)).toNat))) fun v13 => j10 v13) else (j10 x6)) else (some (x6, s1))) v3 v4)
set_option maxRecDepth 20000 in
set_option maxHeartbeats 4000000 in
theorem k_M_able  (n : Nat)   (a1 : Int) (σ : JSg) : Call yX12_able cX12_able 4 (some .int) 4 SH RHO [vR 179, vI a1] σ dIm (f_M_able n a1 σ) := by
  refine call_of_sim (by decide +kernel) (Nat.le_of_ble_eq_true rfl) ?_
  show Sim RX12 cX12_able 4 (some .int) 4 SH RHO 0 [(0, vR 179), (1, vI a1)] [] σ dIm (f_M_able n a1 σ)
  unfold f_M_able
  refine sim_aload_n 0 rfl dX12_able_0 ?_
  refine sim_iconst dX12_able_1 (by decide) ?_
  refine sim_putI g_RX12_87 sh_179 dX12_able_2 (fun s1 => ?_)
  refine sim_iload_n 1 rfl dX12_able_5 ?_
  refine sim_callSIp s_RX12_286 dX12_able_6 (k_M_isEnd SH RHO a1 s1) rfl ⟨by decide, by decide⟩ (S := []) rfl (Nat.le_of_ble_eq_true rfl) (fun r2 => ?_)
  refine sim_if_ne (tgt := 14) dX12_able_9 (by decide) ?_ ?_
  · refine sim_iconst dX12_able_14 (by decide) ?_
    refine sim_istore_n (fun v3 => [(2, vI v3), (0, vR 179), (1, vI a1)]) (fun _ => rfl) (by decide) dX12_able_15 (fun v3 => ?_)
    refine sim_iconst dX12_able_16 (by decide) ?_
    refine sim_istore_n (fun v4 => [(3, vI v4), (2, vI v3), (0, vR 179), (1, vI a1)]) (fun _ => rfl) (by decide) dX12_able_17 (fun v4 => ?_)
    refine sim_sub [2, 3, 1, 0] (L' := [(0, vR 179), (1, vI a1), (2, vI v3), (3, vI v4)]) rfl ?_
    refine sim_wh2 (fun (x6 : Int) (x7 : Int) => [(0, vR 179), (1, vI a1), (2, vI x6), (3, vI x7)]) (fun (x6 : Int) (x7 : Int) => s1) ?_ n v3 v4
    intro rc5 hrc5 x6 x7
    refine sim_iload_n 3 rfl dX12_able_18 ?_
    refine sim_aload_n 0 rfl dX12_able_19 ?_
    refine sim_callVIp v_RX12_240 sh_179 dX12_able_20 (k_M_stones s1) rfl ⟨by decide, by decide⟩ (S := [vI x7]) rfl (Nat.le_of_ble_eq_true rfl) (fun r8 => ?_)
    refine sim_icmp_ge (tgt := 64) dX12_able_23 (by decide) ?_ ?_
    · refine sim_iload_n 2 rfl dX12_able_64 ?_
      exact sim_iret rfl rfl dX12_able_65
    · refine sim_aload_n 0 rfl dX12_able_26 ?_
      refine sim_aload_n 0 rfl dX12_able_27 ?_
      refine sim_getR g_RX12_13 sh_179 rh_179_14 dX12_able_28 ?_
      refine sim_bipush dX12_able_31 (by decide +kernel) ?_
      refine sim_iload_n 3 rfl dX12_able_33 ?_
      refine sim_iadd dX12_able_34 ?_
      refine sim_iaload sh_181 rfl dX12_able_35 ?_
      refine sim_iload_n 3 rfl dX12_able_36 ?_
      refine sim_iload_n 1 rfl dX12_able_37 ?_
      refine sim_callVIp v_RX12_289 sh_179 dX12_able_38 (k_M_whyNot (s1 181 (w32 (67 + x7)).toNat) x7 a1 s1) rfl ⟨by decide, by decide⟩ (S := []) rfl (Nat.le_of_ble_eq_true rfl) (fun r9 => ?_)
      refine sim_jn1 (pc' := 58) (fun (y11 : Int) => [(0, vR 179), (1, vI a1), (2, vI y11), (3, vI x7)]) (fun (y11 : Int) => []) (fun (y11 : Int) => s1) ?_ (fun j10 hj10 => ?_)
      · intro y11
        refine sim_iinc 3 rfl (fun v12 => [(3, vI v12), (0, vR 179), (1, vI a1), (2, vI y11)]) (fun _ => rfl) (by decide) dX12_able_58 (fun v12 => ?_)
        refine sim_goto (tgt := 18) dX12_able_61 (by decide) ?_
        exact sim_sub [1, 2, 3, 0] rfl (hrc5 y11 v12)
      refine sim_if_ne (tgt := 58) dX12_able_41 (by decide) ?_ ?_
      · exact sim_sub [0, 1, 2, 3] rfl (hj10 x6)
      · refine sim_iload_n 2 rfl dX12_able_44 ?_
        refine sim_iconst dX12_able_45 (by decide) ?_
        refine sim_aload_n 0 rfl dX12_able_46 ?_
        refine sim_getR g_RX12_13 sh_179 rh_179_14 dX12_able_47 ?_
        refine sim_bipush dX12_able_50 (by decide +kernel) ?_
        refine sim_iload_n 3 rfl dX12_able_52 ?_
        refine sim_iadd dX12_able_53 ?_
        refine sim_iaload sh_181 rfl dX12_able_54 ?_
        refine sim_ishl dX12_able_55 ?_
        refine sim_ior dX12_able_56 ?_
        refine sim_istore_n (fun v13 => [(2, vI v13), (0, vR 179), (1, vI a1), (3, vI x7)]) (fun _ => rfl) (by decide) dX12_able_57 (fun v13 => ?_)
        exact sim_sub [1, 2, 0, 3] rfl (hj10 v13)
  · refine sim_iconst dX12_able_12 (by decide) ?_
    exact sim_iret rfl rfl dX12_able_13
theorem dX12_visits_0 : decode cX12_visits 0 = .ok (.aload_n 0, 1) := by decide +kernel
theorem dX12_visits_1 : decode cX12_visits 1 = .ok (.iconst 0, 1) := by decide +kernel
theorem dX12_visits_2 : decode cX12_visits 2 = .ok (.putfield 87, 3) := by decide +kernel
theorem dX12_visits_5 : decode cX12_visits 5 = .ok (.aload_n 0, 1) := by decide +kernel
theorem dX12_visits_6 : decode cX12_visits 6 = .ok (.iload_n 1, 1) := by decide +kernel
theorem dX12_visits_7 : decode cX12_visits 7 = .ok (.invokevirtual 262, 3) := by decide +kernel
theorem dX12_visits_10 : decode cX12_visits 10 = .ok (.ifCond .ne 5, 3) := by decide +kernel
theorem dX12_visits_13 : decode cX12_visits 13 = .ok (.iconst (-1), 1) := by decide +kernel
theorem dX12_visits_14 : decode cX12_visits 14 = .ok (.ireturn, 1) := by decide +kernel
theorem dX12_visits_15 : decode cX12_visits 15 = .ok (.iconst 0, 1) := by decide +kernel
theorem dX12_visits_16 : decode cX12_visits 16 = .ok (.istore_n 2, 1) := by decide +kernel
theorem dX12_visits_17 : decode cX12_visits 17 = .ok (.iconst 0, 1) := by decide +kernel
theorem dX12_visits_18 : decode cX12_visits 18 = .ok (.istore_n 3, 1) := by decide +kernel
theorem dX12_visits_19 : decode cX12_visits 19 = .ok (.iload_n 3, 1) := by decide +kernel
theorem dX12_visits_20 : decode cX12_visits 20 = .ok (.iconst 2, 1) := by decide +kernel
theorem dX12_visits_21 : decode cX12_visits 21 = .ok (.if_icmp .ge 55, 3) := by decide +kernel
theorem dX12_visits_24 : decode cX12_visits 24 = .ok (.aload_n 0, 1) := by decide +kernel
theorem dX12_visits_25 : decode cX12_visits 25 = .ok (.invokevirtual 250, 3) := by decide +kernel
theorem dX12_visits_28 : decode cX12_visits 28 = .ok (.ifCond .le 48, 3) := by decide +kernel
theorem dX12_visits_31 : decode cX12_visits 31 = .ok (.iconst 0, 1) := by decide +kernel
theorem dX12_visits_32 : decode cX12_visits 32 = .ok (.istore 4, 2) := by decide +kernel
theorem dX12_visits_34 : decode cX12_visits 34 = .ok (.iload 4, 2) := by decide +kernel
theorem dX12_visits_36 : decode cX12_visits 36 = .ok (.aload_n 0, 1) := by decide +kernel
theorem dX12_visits_37 : decode cX12_visits 37 = .ok (.invokevirtual 240, 3) := by decide +kernel
theorem dX12_visits_40 : decode cX12_visits 40 = .ok (.if_icmp .ge 30, 3) := by decide +kernel
theorem dX12_visits_43 : decode cX12_visits 43 = .ok (.aload_n 0, 1) := by decide +kernel
theorem dX12_visits_44 : decode cX12_visits 44 = .ok (.iload_n 1, 1) := by decide +kernel
theorem dX12_visits_45 : decode cX12_visits 45 = .ok (.iload 4, 2) := by decide +kernel
theorem dX12_visits_47 : decode cX12_visits 47 = .ok (.iload_n 3, 1) := by decide +kernel
theorem dX12_visits_48 : decode cX12_visits 48 = .ok (.invokevirtual 289, 3) := by decide +kernel
theorem dX12_visits_51 : decode cX12_visits 51 = .ok (.ifCond .ne 13, 3) := by decide +kernel
theorem dX12_visits_54 : decode cX12_visits 54 = .ok (.iload_n 2, 1) := by decide +kernel
theorem dX12_visits_55 : decode cX12_visits 55 = .ok (.iconst 1, 1) := by decide +kernel
theorem dX12_visits_56 : decode cX12_visits 56 = .ok (.aload_n 0, 1) := by decide +kernel
theorem dX12_visits_57 : decode cX12_visits 57 = .ok (.iload_n 3, 1) := by decide +kernel
theorem dX12_visits_58 : decode cX12_visits 58 = .ok (.invokevirtual 283, 3) := by decide +kernel
theorem dX12_visits_61 : decode cX12_visits 61 = .ok (.ishl, 1) := by decide +kernel
theorem dX12_visits_62 : decode cX12_visits 62 = .ok (.ior, 1) := by decide +kernel
theorem dX12_visits_63 : decode cX12_visits 63 = .ok (.istore_n 2, 1) := by decide +kernel
theorem dX12_visits_64 : decode cX12_visits 64 = .ok (.iinc 4 1, 3) := by decide +kernel
theorem dX12_visits_67 : decode cX12_visits 67 = .ok (.goto (-33), 3) := by decide +kernel
theorem dX12_visits_70 : decode cX12_visits 70 = .ok (.iinc 3 1, 3) := by decide +kernel
theorem dX12_visits_73 : decode cX12_visits 73 = .ok (.goto (-54), 3) := by decide +kernel
theorem dX12_visits_76 : decode cX12_visits 76 = .ok (.iload_n 2, 1) := by decide +kernel
theorem dX12_visits_77 : decode cX12_visits 77 = .ok (.ireturn, 1) := by decide +kernel
def f_M_visits (n : Nat)  (a1 : Int) (σ : JSg) : Option (Int × JSg) :=
  lt_ (sp σ 179 0 0) fun s1 => bd1 (f_M_isWidow a1 s1) fun r2 => if r2 = 0 then (some ((-1), s1)) else (lt_ 0 fun v3 => lt_ 0 fun v4 => wh2 n (fun rc5 (x6 : Int) (x7 : Int) => if x7 < 2 then (bd1 (f_M_rowMany s1) fun r8 => if 0 < r8 then (lt_ 0 fun v9 => wh2 n (fun rc10 (x11 : Int) (x12 : Int) => bd1 (f_M_stones s1) fun r13 => if x12 < r13 then (bd1 (f_M_whyNot a1 x12 x7 s1) fun r15 => jn1 (fun (y17 : Int) => lt_ (w32 (x12 + 1)) fun v18 => rc10 y17 v18) fun j16 => if r15 = 0 then (bd1 (f_M_layerAt x7 s1) fun r19 => lt_ (or32 x11 (sl32 1 r19)) fun v20 => j16 v20) else (j16 x11)) else (lt_ (w32 (x7 + 1)) fun v14 => rc5 x11 v14)) x6 v9) else (some (x6, s1))) else (some (x6, s1))) v3 v4)
set_option maxRecDepth 20000 in
set_option maxHeartbeats 4000000 in
theorem k_M_visits  (n : Nat)   (a1 : Int) (σ : JSg) : Call yX12_visits cX12_visits 5 (some .int) 4 SH RHO [vR 179, vI a1] σ dIm (f_M_visits n a1 σ) := by
  refine call_of_sim (by decide +kernel) (Nat.le_of_ble_eq_true rfl) ?_
  show Sim RX12 cX12_visits 5 (some .int) 4 SH RHO 0 [(0, vR 179), (1, vI a1)] [] σ dIm (f_M_visits n a1 σ)
  unfold f_M_visits
  refine sim_aload_n 0 rfl dX12_visits_0 ?_
  refine sim_iconst dX12_visits_1 (by decide) ?_
  refine sim_putI g_RX12_87 sh_179 dX12_visits_2 (fun s1 => ?_)
  refine sim_aload_n 0 rfl dX12_visits_5 ?_
  refine sim_iload_n 1 rfl dX12_visits_6 ?_
  refine sim_callVIp v_RX12_262 sh_179 dX12_visits_7 (k_M_isWidow a1 s1) rfl ⟨by decide, by decide⟩ (S := []) rfl (Nat.le_of_ble_eq_true rfl) (fun r2 => ?_)
  refine sim_if_ne (tgt := 15) dX12_visits_10 (by decide) ?_ ?_
  · refine sim_iconst dX12_visits_15 (by decide) ?_
    refine sim_istore_n (fun v3 => [(2, vI v3), (0, vR 179), (1, vI a1)]) (fun _ => rfl) (by decide) dX12_visits_16 (fun v3 => ?_)
    refine sim_iconst dX12_visits_17 (by decide) ?_
    refine sim_istore_n (fun v4 => [(3, vI v4), (2, vI v3), (0, vR 179), (1, vI a1)]) (fun _ => rfl) (by decide) dX12_visits_18 (fun v4 => ?_)
    refine sim_sub [2, 3, 1, 0] (L' := [(0, vR 179), (1, vI a1), (2, vI v3), (3, vI v4)]) rfl ?_
    refine sim_wh2 (fun (x6 : Int) (x7 : Int) => [(0, vR 179), (1, vI a1), (2, vI x6), (3, vI x7)]) (fun (x6 : Int) (x7 : Int) => s1) ?_ n v3 v4
    intro rc5 hrc5 x6 x7
    refine sim_iload_n 3 rfl dX12_visits_19 ?_
    refine sim_iconst dX12_visits_20 (by decide) ?_
    refine sim_icmp_ge (tgt := 76) dX12_visits_21 (by decide) ?_ ?_
    · refine sim_iload_n 2 rfl dX12_visits_76 ?_
      exact sim_iret rfl rfl dX12_visits_77
    · refine sim_aload_n 0 rfl dX12_visits_24 ?_
      refine sim_callVIp v_RX12_250 sh_179 dX12_visits_25 (k_M_rowMany s1) rfl ⟨by decide, by decide⟩ (S := []) rfl (Nat.le_of_ble_eq_true rfl) (fun r8 => ?_)
      refine sim_if_le (tgt := 76) dX12_visits_28 (by decide) ?_ ?_
      · refine sim_iload_n 2 rfl dX12_visits_76 ?_
        exact sim_iret rfl rfl dX12_visits_77
      · refine sim_iconst dX12_visits_31 (by decide) ?_
        refine sim_istore (fun v9 => [(4, vI v9), (0, vR 179), (1, vI a1), (2, vI x6), (3, vI x7)]) (fun _ => rfl) (by decide) dX12_visits_32 (fun v9 => ?_)
        refine sim_sub [1, 2, 3, 4, 0] (L' := [(0, vR 179), (1, vI a1), (2, vI x6), (3, vI x7), (4, vI v9)]) rfl ?_
        refine sim_wh2 (fun (x11 : Int) (x12 : Int) => [(0, vR 179), (1, vI a1), (2, vI x11), (3, vI x7), (4, vI x12)]) (fun (x11 : Int) (x12 : Int) => s1) ?_ n x6 v9
        intro rc10 hrc10 x11 x12
        refine sim_iload 4 rfl dX12_visits_34 ?_
        refine sim_aload_n 0 rfl dX12_visits_36 ?_
        refine sim_callVIp v_RX12_240 sh_179 dX12_visits_37 (k_M_stones s1) rfl ⟨by decide, by decide⟩ (S := [vI x12]) rfl (Nat.le_of_ble_eq_true rfl) (fun r13 => ?_)
        refine sim_icmp_ge (tgt := 70) dX12_visits_40 (by decide) ?_ ?_
        · refine sim_iinc 3 rfl (fun v14 => [(3, vI v14), (0, vR 179), (1, vI a1), (2, vI x11), (4, vI x12)]) (fun _ => rfl) (by decide) dX12_visits_70 (fun v14 => ?_)
          refine sim_goto (tgt := 19) dX12_visits_73 (by decide) ?_
          exact sim_sub [1, 2, 3, 0] rfl (hrc5 x11 v14)
        · refine sim_aload_n 0 rfl dX12_visits_43 ?_
          refine sim_iload_n 1 rfl dX12_visits_44 ?_
          refine sim_iload 4 rfl dX12_visits_45 ?_
          refine sim_iload_n 3 rfl dX12_visits_47 ?_
          refine sim_callVIp v_RX12_289 sh_179 dX12_visits_48 (k_M_whyNot a1 x12 x7 s1) rfl ⟨by decide, by decide⟩ (S := []) rfl (Nat.le_of_ble_eq_true rfl) (fun r15 => ?_)
          refine sim_jn1 (pc' := 64) (fun (y17 : Int) => [(0, vR 179), (1, vI a1), (2, vI y17), (3, vI x7), (4, vI x12)]) (fun (y17 : Int) => []) (fun (y17 : Int) => s1) ?_ (fun j16 hj16 => ?_)
          · intro y17
            refine sim_iinc 4 rfl (fun v18 => [(4, vI v18), (0, vR 179), (1, vI a1), (2, vI y17), (3, vI x7)]) (fun _ => rfl) (by decide) dX12_visits_64 (fun v18 => ?_)
            refine sim_goto (tgt := 34) dX12_visits_67 (by decide) ?_
            exact sim_sub [1, 2, 3, 4, 0] rfl (hrc10 y17 v18)
          refine sim_if_ne (tgt := 64) dX12_visits_51 (by decide) ?_ ?_
          · exact sim_sub [0, 1, 2, 3, 4] rfl (hj16 x11)
          · refine sim_iload_n 2 rfl dX12_visits_54 ?_
            refine sim_iconst dX12_visits_55 (by decide) ?_
            refine sim_aload_n 0 rfl dX12_visits_56 ?_
            refine sim_iload_n 3 rfl dX12_visits_57 ?_
            refine sim_callVIp v_RX12_283 sh_179 dX12_visits_58 (k_M_layerAt x7 s1) rfl ⟨by decide, by decide⟩ (S := [vI 1, vI x11]) rfl (Nat.le_of_ble_eq_true rfl) (fun r19 => ?_)
            refine sim_ishl dX12_visits_61 ?_
            refine sim_ior dX12_visits_62 ?_
            refine sim_istore_n (fun v20 => [(2, vI v20), (0, vR 179), (1, vI a1), (3, vI x7), (4, vI x12)]) (fun _ => rfl) (by decide) dX12_visits_63 (fun v20 => ?_)
            exact sim_sub [1, 2, 0, 3, 4] rfl (hj16 v20)
  · refine sim_iconst dX12_visits_13 (by decide) ?_
    exact sim_iret rfl rfl dX12_visits_14
theorem dX12_will_0 : decode cX12_will 0 = .ok (.aload_n 0, 1) := by decide +kernel
theorem dX12_will_1 : decode cX12_will 1 = .ok (.iconst 0, 1) := by decide +kernel
theorem dX12_will_2 : decode cX12_will 2 = .ok (.putfield 87, 3) := by decide +kernel
theorem dX12_will_5 : decode cX12_will 5 = .ok (.aload_n 0, 1) := by decide +kernel
theorem dX12_will_6 : decode cX12_will 6 = .ok (.iload_n 1, 1) := by decide +kernel
theorem dX12_will_7 : decode cX12_will 7 = .ok (.invokevirtual 262, 3) := by decide +kernel
theorem dX12_will_10 : decode cX12_will 10 = .ok (.ifCond .eq 16, 3) := by decide +kernel
theorem dX12_will_13 : decode cX12_will 13 = .ok (.aload_n 0, 1) := by decide +kernel
theorem dX12_will_14 : decode cX12_will 14 = .ok (.iload_n 2, 1) := by decide +kernel
theorem dX12_will_15 : decode cX12_will 15 = .ok (.invokevirtual 262, 3) := by decide +kernel
theorem dX12_will_18 : decode cX12_will 18 = .ok (.ifCond .eq 8, 3) := by decide +kernel
theorem dX12_will_21 : decode cX12_will 21 = .ok (.iload_n 1, 1) := by decide +kernel
theorem dX12_will_22 : decode cX12_will 22 = .ok (.iload_n 2, 1) := by decide +kernel
theorem dX12_will_23 : decode cX12_will 23 = .ok (.if_icmp .ne 5, 3) := by decide +kernel
theorem dX12_will_26 : decode cX12_will 26 = .ok (.iconst (-1), 1) := by decide +kernel
theorem dX12_will_27 : decode cX12_will 27 = .ok (.ireturn, 1) := by decide +kernel
theorem dX12_will_28 : decode cX12_will 28 = .ok (.aload_n 0, 1) := by decide +kernel
theorem dX12_will_29 : decode cX12_will 29 = .ok (.invokevirtual 293, 3) := by decide +kernel
theorem dX12_will_32 : decode cX12_will 32 = .ok (.iconst 0, 1) := by decide +kernel
theorem dX12_will_33 : decode cX12_will 33 = .ok (.istore_n 3, 1) := by decide +kernel
theorem dX12_will_34 : decode cX12_will 34 = .ok (.iconst 0, 1) := by decide +kernel
theorem dX12_will_35 : decode cX12_will 35 = .ok (.istore 4, 2) := by decide +kernel
theorem dX12_will_37 : decode cX12_will 37 = .ok (.iload 4, 2) := by decide +kernel
theorem dX12_will_39 : decode cX12_will 39 = .ok (.aload_n 0, 1) := by decide +kernel
theorem dX12_will_40 : decode cX12_will 40 = .ok (.invokevirtual 240, 3) := by decide +kernel
theorem dX12_will_43 : decode cX12_will 43 = .ok (.if_icmp .ge 54, 3) := by decide +kernel
theorem dX12_will_46 : decode cX12_will 46 = .ok (.aload_n 0, 1) := by decide +kernel
theorem dX12_will_47 : decode cX12_will 47 = .ok (.getfield 13, 3) := by decide +kernel
theorem dX12_will_50 : decode cX12_will 50 = .ok (.bipush 67, 2) := by decide +kernel
theorem dX12_will_52 : decode cX12_will 52 = .ok (.iload 4, 2) := by decide +kernel
theorem dX12_will_54 : decode cX12_will 54 = .ok (.iadd, 1) := by decide +kernel
theorem dX12_will_55 : decode cX12_will 55 = .ok (.iaload, 1) := by decide +kernel
theorem dX12_will_56 : decode cX12_will 56 = .ok (.iload_n 1, 1) := by decide +kernel
theorem dX12_will_57 : decode cX12_will 57 = .ok (.if_icmp .ne 34, 3) := by decide +kernel
theorem dX12_will_60 : decode cX12_will 60 = .ok (.aload_n 0, 1) := by decide +kernel
theorem dX12_will_61 : decode cX12_will 61 = .ok (.getfield 13, 3) := by decide +kernel
theorem dX12_will_64 : decode cX12_will 64 = .ok (.bipush 95, 2) := by decide +kernel
theorem dX12_will_66 : decode cX12_will 66 = .ok (.iload 4, 2) := by decide +kernel
theorem dX12_will_68 : decode cX12_will 68 = .ok (.iadd, 1) := by decide +kernel
theorem dX12_will_69 : decode cX12_will 69 = .ok (.iaload, 1) := by decide +kernel
theorem dX12_will_70 : decode cX12_will 70 = .ok (.iconst 2, 1) := by decide +kernel
theorem dX12_will_71 : decode cX12_will 71 = .ok (.if_icmp .ne 6, 3) := by decide +kernel
theorem dX12_will_74 : decode cX12_will 74 = .ok (.goto 17, 3) := by decide +kernel
theorem dX12_will_77 : decode cX12_will 77 = .ok (.aload_n 0, 1) := by decide +kernel
theorem dX12_will_78 : decode cX12_will 78 = .ok (.getfield 13, 3) := by decide +kernel
theorem dX12_will_81 : decode cX12_will 81 = .ok (.bipush 67, 2) := by decide +kernel
theorem dX12_will_83 : decode cX12_will 83 = .ok (.iload 4, 2) := by decide +kernel
theorem dX12_will_85 : decode cX12_will 85 = .ok (.iadd, 1) := by decide +kernel
theorem dX12_will_86 : decode cX12_will 86 = .ok (.iload_n 2, 1) := by decide +kernel
theorem dX12_will_87 : decode cX12_will 87 = .ok (.iastore, 1) := by decide +kernel
theorem dX12_will_88 : decode cX12_will 88 = .ok (.iinc 3 1, 3) := by decide +kernel
theorem dX12_will_91 : decode cX12_will 91 = .ok (.iinc 4 1, 3) := by decide +kernel
theorem dX12_will_94 : decode cX12_will 94 = .ok (.goto (-57), 3) := by decide +kernel
theorem dX12_will_97 : decode cX12_will 97 = .ok (.iload_n 3, 1) := by decide +kernel
theorem dX12_will_98 : decode cX12_will 98 = .ok (.ireturn, 1) := by decide +kernel
def f_M_will (n : Nat)  (a1 : Int) (a2 : Int) (σ : JSg) : Option (Int × JSg) :=
  lt_ (sp σ 179 0 0) fun s1 => bd1 (f_M_isWidow a1 s1) fun r2 => if r2 = 0 then (some ((-1), s1)) else (bd1 (f_M_isWidow a2 s1) fun r3 => if r3 = 0 then (some ((-1), s1)) else (if a1 = a2 then (some ((-1), s1)) else (bd1 (f_M_snap n s1) fun s4 => lt_ 0 fun v5 => lt_ 0 fun v6 => wh3 n (fun rc7 (x8 : Int) (x9 : Int) (s10 : JSg) => bd1 (f_M_stones s10) fun r11 => if x9 < r11 then (chk (0 ≤ (w32 (67 + x9)) ∧ (w32 (67 + x9)) < 448) <| jn2 (fun (y13 : Int) (s14 : JSg) => lt_ (w32 (x9 + 1)) fun v15 => rc7 y13 v15 s14) fun j12 => if (s10 181 (w32 (67 + x9)).toNat) = a1 then (chk (0 ≤ (w32 (95 + x9)) ∧ (w32 (95 + x9)) < 448) <| if (s10 181 (w32 (95 + x9)).toNat) = 2 then (j12 x8 s10) else (chk (0 ≤ (w32 (67 + x9)) ∧ (w32 (67 + x9)) < 448) <| lt_ (sp s10 181 (w32 (67 + x9)).toNat a2) fun s16 => lt_ (w32 (x8 + 1)) fun v17 => j12 v17 s16)) else (j12 x8 s10)) else (some (x8, s10))) v5 v6 s4)))
set_option maxRecDepth 20000 in
set_option maxHeartbeats 4000000 in
theorem k_M_will  (n : Nat)   (a1 : Int) (a2 : Int) (σ : JSg) : Call yX12_will cX12_will 5 (some .int) 2 SH RHO [vR 179, vI a1, vI a2] σ dIm (f_M_will n a1 a2 σ) := by
  refine call_of_sim (by decide +kernel) (Nat.le_of_ble_eq_true rfl) ?_
  show Sim RX12 cX12_will 5 (some .int) 2 SH RHO 0 [(0, vR 179), (1, vI a1), (2, vI a2)] [] σ dIm (f_M_will n a1 a2 σ)
  unfold f_M_will
  refine sim_aload_n 0 rfl dX12_will_0 ?_
  refine sim_iconst dX12_will_1 (by decide) ?_
  refine sim_putI g_RX12_87 sh_179 dX12_will_2 (fun s1 => ?_)
  refine sim_aload_n 0 rfl dX12_will_5 ?_
  refine sim_iload_n 1 rfl dX12_will_6 ?_
  refine sim_callVIp v_RX12_262 sh_179 dX12_will_7 (k_M_isWidow a1 s1) rfl ⟨by decide, by decide⟩ (S := []) rfl (Nat.le_of_ble_eq_true rfl) (fun r2 => ?_)
  refine sim_if_eq (tgt := 26) dX12_will_10 (by decide) ?_ ?_
  · refine sim_iconst dX12_will_26 (by decide) ?_
    exact sim_iret rfl rfl dX12_will_27
  · refine sim_aload_n 0 rfl dX12_will_13 ?_
    refine sim_iload_n 2 rfl dX12_will_14 ?_
    refine sim_callVIp v_RX12_262 sh_179 dX12_will_15 (k_M_isWidow a2 s1) rfl ⟨by decide, by decide⟩ (S := []) rfl (Nat.le_of_ble_eq_true rfl) (fun r3 => ?_)
    refine sim_if_eq (tgt := 26) dX12_will_18 (by decide) ?_ ?_
    · refine sim_iconst dX12_will_26 (by decide) ?_
      exact sim_iret rfl rfl dX12_will_27
    · refine sim_iload_n 1 rfl dX12_will_21 ?_
      refine sim_iload_n 2 rfl dX12_will_22 ?_
      refine sim_icmp_ne (tgt := 28) dX12_will_23 (by decide) ?_ ?_
      · refine sim_aload_n 0 rfl dX12_will_28 ?_
        refine sim_callVVm v_RX12_293 sh_179 dX12_will_29 (k_M_snap n s1) rfl ⟨by decide, by decide⟩ (S := []) rfl (Nat.le_of_ble_eq_true rfl) (fun s4 => ?_)
        refine sim_iconst dX12_will_32 (by decide) ?_
        refine sim_istore_n (fun v5 => [(3, vI v5), (0, vR 179), (1, vI a1), (2, vI a2)]) (fun _ => rfl) (by decide) dX12_will_33 (fun v5 => ?_)
        refine sim_iconst dX12_will_34 (by decide) ?_
        refine sim_istore (fun v6 => [(4, vI v6), (3, vI v5), (0, vR 179), (1, vI a1), (2, vI a2)]) (fun _ => rfl) (by decide) dX12_will_35 (fun v6 => ?_)
        refine sim_sub [2, 3, 4, 1, 0] (L' := [(0, vR 179), (1, vI a1), (2, vI a2), (3, vI v5), (4, vI v6)]) rfl ?_
        refine sim_wh3 (fun (x8 : Int) (x9 : Int) (s10 : JSg) => [(0, vR 179), (1, vI a1), (2, vI a2), (3, vI x8), (4, vI x9)]) (fun (x8 : Int) (x9 : Int) (s10 : JSg) => s10) ?_ n v5 v6 s4
        intro rc7 hrc7 x8 x9 s10
        refine sim_iload 4 rfl dX12_will_37 ?_
        refine sim_aload_n 0 rfl dX12_will_39 ?_
        refine sim_callVIp v_RX12_240 sh_179 dX12_will_40 (k_M_stones s10) rfl ⟨by decide, by decide⟩ (S := [vI x9]) rfl (Nat.le_of_ble_eq_true rfl) (fun r11 => ?_)
        refine sim_icmp_ge (tgt := 97) dX12_will_43 (by decide) ?_ ?_
        · refine sim_iload_n 3 rfl dX12_will_97 ?_
          exact sim_iret rfl rfl dX12_will_98
        · refine sim_aload_n 0 rfl dX12_will_46 ?_
          refine sim_getR g_RX12_13 sh_179 rh_179_14 dX12_will_47 ?_
          refine sim_bipush dX12_will_50 (by decide +kernel) ?_
          refine sim_iload 4 rfl dX12_will_52 ?_
          refine sim_iadd dX12_will_54 ?_
          refine sim_iaload sh_181 rfl dX12_will_55 ?_
          refine sim_iload_n 1 rfl dX12_will_56 ?_
          refine sim_jn2 (pc' := 91) (fun (y13 : Int) (s14 : JSg) => [(0, vR 179), (1, vI a1), (2, vI a2), (3, vI y13), (4, vI x9)]) (fun (y13 : Int) (s14 : JSg) => []) (fun (y13 : Int) (s14 : JSg) => s14) ?_ (fun j12 hj12 => ?_)
          · intro y13 s14
            refine sim_iinc 4 rfl (fun v15 => [(4, vI v15), (0, vR 179), (1, vI a1), (2, vI a2), (3, vI y13)]) (fun _ => rfl) (by decide) dX12_will_91 (fun v15 => ?_)
            refine sim_goto (tgt := 37) dX12_will_94 (by decide) ?_
            exact sim_sub [1, 2, 3, 4, 0] rfl (hrc7 y13 v15 s14)
          refine sim_icmp_ne (tgt := 91) dX12_will_57 (by decide) ?_ ?_
          · exact sim_sub [0, 1, 2, 3, 4] rfl (hj12 x8 s10)
          · refine sim_aload_n 0 rfl dX12_will_60 ?_
            refine sim_getR g_RX12_13 sh_179 rh_179_14 dX12_will_61 ?_
            refine sim_bipush dX12_will_64 (by decide +kernel) ?_
            refine sim_iload 4 rfl dX12_will_66 ?_
            refine sim_iadd dX12_will_68 ?_
            refine sim_iaload sh_181 rfl dX12_will_69 ?_
            refine sim_iconst dX12_will_70 (by decide) ?_
            refine sim_icmp_ne (tgt := 77) dX12_will_71 (by decide) ?_ ?_
            · refine sim_aload_n 0 rfl dX12_will_77 ?_
              refine sim_getR g_RX12_13 sh_179 rh_179_14 dX12_will_78 ?_
              refine sim_bipush dX12_will_81 (by decide +kernel) ?_
              refine sim_iload 4 rfl dX12_will_83 ?_
              refine sim_iadd dX12_will_85 ?_
              refine sim_iload_n 2 rfl dX12_will_86 ?_
              refine sim_iastore sh_181 rfl dX12_will_87 (fun s16 => ?_)
              refine sim_iinc 3 rfl (fun v17 => [(3, vI v17), (0, vR 179), (1, vI a1), (2, vI a2), (4, vI x9)]) (fun _ => rfl) (by decide) dX12_will_88 (fun v17 => ?_)
              exact sim_sub [1, 2, 3, 0, 4] rfl (hj12 v17 s16)
            · refine sim_goto (tgt := 91) dX12_will_74 (by decide) ?_
              exact sim_sub [0, 1, 2, 3, 4] rfl (hj12 x8 s10)
      · refine sim_iconst dX12_will_26 (by decide) ?_
        exact sim_iret rfl rfl dX12_will_27
theorem dX12_redeem_0 : decode cX12_redeem 0 = .ok (.aload_n 0, 1) := by decide +kernel
theorem dX12_redeem_1 : decode cX12_redeem 1 = .ok (.iconst 0, 1) := by decide +kernel
theorem dX12_redeem_2 : decode cX12_redeem 2 = .ok (.putfield 87, 3) := by decide +kernel
theorem dX12_redeem_5 : decode cX12_redeem 5 = .ok (.aload_n 0, 1) := by decide +kernel
theorem dX12_redeem_6 : decode cX12_redeem 6 = .ok (.iload_n 1, 1) := by decide +kernel
theorem dX12_redeem_7 : decode cX12_redeem 7 = .ok (.invokevirtual 253, 3) := by decide +kernel
theorem dX12_redeem_10 : decode cX12_redeem 10 = .ok (.ifCond .eq 16, 3) := by decide +kernel
theorem dX12_redeem_13 : decode cX12_redeem 13 = .ok (.aload_n 0, 1) := by decide +kernel
theorem dX12_redeem_14 : decode cX12_redeem 14 = .ok (.getfield 13, 3) := by decide +kernel
theorem dX12_redeem_17 : decode cX12_redeem 17 = .ok (.bipush 95, 2) := by decide +kernel
theorem dX12_redeem_19 : decode cX12_redeem 19 = .ok (.iload_n 1, 1) := by decide +kernel
theorem dX12_redeem_20 : decode cX12_redeem 20 = .ok (.iadd, 1) := by decide +kernel
theorem dX12_redeem_21 : decode cX12_redeem 21 = .ok (.iaload, 1) := by decide +kernel
theorem dX12_redeem_22 : decode cX12_redeem 22 = .ok (.iconst 1, 1) := by decide +kernel
theorem dX12_redeem_23 : decode cX12_redeem 23 = .ok (.if_icmp .eq 5, 3) := by decide +kernel
theorem dX12_redeem_26 : decode cX12_redeem 26 = .ok (.iconst 0, 1) := by decide +kernel
theorem dX12_redeem_27 : decode cX12_redeem 27 = .ok (.ireturn, 1) := by decide +kernel
theorem dX12_redeem_28 : decode cX12_redeem 28 = .ok (.aload_n 0, 1) := by decide +kernel
theorem dX12_redeem_29 : decode cX12_redeem 29 = .ok (.invokevirtual 293, 3) := by decide +kernel
theorem dX12_redeem_32 : decode cX12_redeem 32 = .ok (.aload_n 0, 1) := by decide +kernel
theorem dX12_redeem_33 : decode cX12_redeem 33 = .ok (.getfield 13, 3) := by decide +kernel
theorem dX12_redeem_36 : decode cX12_redeem 36 = .ok (.bipush 95, 2) := by decide +kernel
theorem dX12_redeem_38 : decode cX12_redeem 38 = .ok (.iload_n 1, 1) := by decide +kernel
theorem dX12_redeem_39 : decode cX12_redeem 39 = .ok (.iadd, 1) := by decide +kernel
theorem dX12_redeem_40 : decode cX12_redeem 40 = .ok (.iconst 0, 1) := by decide +kernel
theorem dX12_redeem_41 : decode cX12_redeem 41 = .ok (.iastore, 1) := by decide +kernel
theorem dX12_redeem_42 : decode cX12_redeem 42 = .ok (.iconst 1, 1) := by decide +kernel
theorem dX12_redeem_43 : decode cX12_redeem 43 = .ok (.ireturn, 1) := by decide +kernel
def f_M_redeem (n : Nat)  (a1 : Int) (σ : JSg) : Option (Int × JSg) :=
  lt_ (sp σ 179 0 0) fun s1 => bd1 (f_M_isStone a1 s1) fun r2 => if r2 = 0 then (some (0, s1)) else (chk (0 ≤ (w32 (95 + a1)) ∧ (w32 (95 + a1)) < 448) <| if (s1 181 (w32 (95 + a1)).toNat) = 1 then (bd1 (f_M_snap n s1) fun s3 => chk (0 ≤ (w32 (95 + a1)) ∧ (w32 (95 + a1)) < 448) <| lt_ (sp s3 181 (w32 (95 + a1)).toNat 0) fun s4 => some (1, s4)) else (some (0, s1)))
set_option maxRecDepth 20000 in
set_option maxHeartbeats 4000000 in
theorem k_M_redeem  (n : Nat)   (a1 : Int) (σ : JSg) : Call yX12_redeem cX12_redeem 2 (some .boolean) 2 SH RHO [vR 179, vI a1] σ dIm (f_M_redeem n a1 σ) := by
  refine call_of_sim (by decide +kernel) (Nat.le_of_ble_eq_true rfl) ?_
  show Sim RX12 cX12_redeem 2 (some .boolean) 2 SH RHO 0 [(0, vR 179), (1, vI a1)] [] σ dIm (f_M_redeem n a1 σ)
  unfold f_M_redeem
  refine sim_aload_n 0 rfl dX12_redeem_0 ?_
  refine sim_iconst dX12_redeem_1 (by decide) ?_
  refine sim_putI g_RX12_87 sh_179 dX12_redeem_2 (fun s1 => ?_)
  refine sim_aload_n 0 rfl dX12_redeem_5 ?_
  refine sim_iload_n 1 rfl dX12_redeem_6 ?_
  refine sim_callVIp v_RX12_253 sh_179 dX12_redeem_7 (k_M_isStone a1 s1) rfl ⟨by decide, by decide⟩ (S := []) rfl (Nat.le_of_ble_eq_true rfl) (fun r2 => ?_)
  refine sim_if_eq (tgt := 26) dX12_redeem_10 (by decide) ?_ ?_
  · refine sim_iconst dX12_redeem_26 (by decide) ?_
    exact sim_zret (Or.inl rfl) rfl rfl dX12_redeem_27
  · refine sim_aload_n 0 rfl dX12_redeem_13 ?_
    refine sim_getR g_RX12_13 sh_179 rh_179_14 dX12_redeem_14 ?_
    refine sim_bipush dX12_redeem_17 (by decide +kernel) ?_
    refine sim_iload_n 1 rfl dX12_redeem_19 ?_
    refine sim_iadd dX12_redeem_20 ?_
    refine sim_iaload sh_181 rfl dX12_redeem_21 ?_
    refine sim_iconst dX12_redeem_22 (by decide) ?_
    refine sim_icmp_eq (tgt := 28) dX12_redeem_23 (by decide) ?_ ?_
    · refine sim_aload_n 0 rfl dX12_redeem_28 ?_
      refine sim_callVVm v_RX12_293 sh_179 dX12_redeem_29 (k_M_snap n s1) rfl ⟨by decide, by decide⟩ (S := []) rfl (Nat.le_of_ble_eq_true rfl) (fun s3 => ?_)
      refine sim_aload_n 0 rfl dX12_redeem_32 ?_
      refine sim_getR g_RX12_13 sh_179 rh_179_14 dX12_redeem_33 ?_
      refine sim_bipush dX12_redeem_36 (by decide +kernel) ?_
      refine sim_iload_n 1 rfl dX12_redeem_38 ?_
      refine sim_iadd dX12_redeem_39 ?_
      refine sim_iconst dX12_redeem_40 (by decide) ?_
      refine sim_iastore sh_181 rfl dX12_redeem_41 (fun s4 => ?_)
      refine sim_iconst dX12_redeem_42 (by decide) ?_
      exact sim_zret (Or.inr rfl) rfl rfl dX12_redeem_43
    · refine sim_iconst dX12_redeem_26 (by decide) ?_
      exact sim_zret (Or.inl rfl) rfl rfl dX12_redeem_27
theorem dX12_pawn_0 : decode cX12_pawn 0 = .ok (.aload_n 0, 1) := by decide +kernel
theorem dX12_pawn_1 : decode cX12_pawn 1 = .ok (.iconst 0, 1) := by decide +kernel
theorem dX12_pawn_2 : decode cX12_pawn 2 = .ok (.putfield 87, 3) := by decide +kernel
theorem dX12_pawn_5 : decode cX12_pawn 5 = .ok (.aload_n 0, 1) := by decide +kernel
theorem dX12_pawn_6 : decode cX12_pawn 6 = .ok (.invokevirtual 175, 3) := by decide +kernel
theorem dX12_pawn_9 : decode cX12_pawn 9 = .ok (.aload_n 0, 1) := by decide +kernel
theorem dX12_pawn_10 : decode cX12_pawn 10 = .ok (.iload_n 1, 1) := by decide +kernel
theorem dX12_pawn_11 : decode cX12_pawn 11 = .ok (.invokevirtual 253, 3) := by decide +kernel
theorem dX12_pawn_14 : decode cX12_pawn 14 = .ok (.ifCond .eq 11, 3) := by decide +kernel
theorem dX12_pawn_17 : decode cX12_pawn 17 = .ok (.aload_n 0, 1) := by decide +kernel
theorem dX12_pawn_18 : decode cX12_pawn 18 = .ok (.iload_n 1, 1) := by decide +kernel
theorem dX12_pawn_19 : decode cX12_pawn 19 = .ok (.invokevirtual 265, 3) := by decide +kernel
theorem dX12_pawn_22 : decode cX12_pawn 22 = .ok (.ifCond .ne 5, 3) := by decide +kernel
theorem dX12_pawn_25 : decode cX12_pawn 25 = .ok (.iconst (-1), 1) := by decide +kernel
theorem dX12_pawn_26 : decode cX12_pawn 26 = .ok (.ireturn, 1) := by decide +kernel
theorem dX12_pawn_27 : decode cX12_pawn 27 = .ok (.aload_n 0, 1) := by decide +kernel
theorem dX12_pawn_28 : decode cX12_pawn 28 = .ok (.invokevirtual 293, 3) := by decide +kernel
theorem dX12_pawn_31 : decode cX12_pawn 31 = .ok (.aload_n 0, 1) := by decide +kernel
theorem dX12_pawn_32 : decode cX12_pawn 32 = .ok (.getfield 13, 3) := by decide +kernel
theorem dX12_pawn_35 : decode cX12_pawn 35 = .ok (.bipush 95, 2) := by decide +kernel
theorem dX12_pawn_37 : decode cX12_pawn 37 = .ok (.iload_n 1, 1) := by decide +kernel
theorem dX12_pawn_38 : decode cX12_pawn 38 = .ok (.iadd, 1) := by decide +kernel
theorem dX12_pawn_39 : decode cX12_pawn 39 = .ok (.iconst 1, 1) := by decide +kernel
theorem dX12_pawn_40 : decode cX12_pawn 40 = .ok (.iastore, 1) := by decide +kernel
theorem dX12_pawn_41 : decode cX12_pawn 41 = .ok (.aload_n 0, 1) := by decide +kernel
theorem dX12_pawn_42 : decode cX12_pawn 42 = .ok (.iload_n 1, 1) := by decide +kernel
theorem dX12_pawn_43 : decode cX12_pawn 43 = .ok (.invokevirtual 268, 3) := by decide +kernel
theorem dX12_pawn_46 : decode cX12_pawn 46 = .ok (.aload_n 0, 1) := by decide +kernel
theorem dX12_pawn_47 : decode cX12_pawn 47 = .ok (.getfield 13, 3) := by decide +kernel
theorem dX12_pawn_50 : decode cX12_pawn 50 = .ok (.iconst 3, 1) := by decide +kernel
theorem dX12_pawn_51 : decode cX12_pawn 51 = .ok (.iaload, 1) := by decide +kernel
theorem dX12_pawn_52 : decode cX12_pawn 52 = .ok (.imul, 1) := by decide +kernel
theorem dX12_pawn_53 : decode cX12_pawn 53 = .ok (.ireturn, 1) := by decide +kernel
def f_M_pawn (n : Nat)  (a1 : Int) (σ : JSg) : Option (Int × JSg) :=
  lt_ (sp σ 179 0 0) fun s1 => bd1 (f_M_layAll s1) fun s2 => bd1 (f_M_isStone a1 s2) fun r3 => if r3 = 0 then (some ((-1), s2)) else (bd1 (f_M_isHeld a1 s2) fun r4 => if r4 = 0 then (some ((-1), s2)) else (bd1 (f_M_snap n s2) fun s5 => chk (0 ≤ (w32 (95 + a1)) ∧ (w32 (95 + a1)) < 448) <| lt_ (sp s5 181 (w32 (95 + a1)).toNat 1) fun s6 => bd1 (f_M_sum a1 s6) fun r7 => some (w32 (r7 * (s6 181 3)), s6)))
set_option maxRecDepth 20000 in
set_option maxHeartbeats 4000000 in
theorem k_M_pawn  (n : Nat)   (a1 : Int) (σ : JSg) : Call yX12_pawn cX12_pawn 2 (some .int) 2 SH RHO [vR 179, vI a1] σ dIm (f_M_pawn n a1 σ) := by
  refine call_of_sim (by decide +kernel) (Nat.le_of_ble_eq_true rfl) ?_
  show Sim RX12 cX12_pawn 2 (some .int) 2 SH RHO 0 [(0, vR 179), (1, vI a1)] [] σ dIm (f_M_pawn n a1 σ)
  unfold f_M_pawn
  refine sim_aload_n 0 rfl dX12_pawn_0 ?_
  refine sim_iconst dX12_pawn_1 (by decide) ?_
  refine sim_putI g_RX12_87 sh_179 dX12_pawn_2 (fun s1 => ?_)
  refine sim_aload_n 0 rfl dX12_pawn_5 ?_
  refine sim_callVVm v_RX12_175 sh_179 dX12_pawn_6 (k_M_layAll s1) rfl ⟨by decide, by decide⟩ (S := []) rfl (Nat.le_of_ble_eq_true rfl) (fun s2 => ?_)
  refine sim_aload_n 0 rfl dX12_pawn_9 ?_
  refine sim_iload_n 1 rfl dX12_pawn_10 ?_
  refine sim_callVIp v_RX12_253 sh_179 dX12_pawn_11 (k_M_isStone a1 s2) rfl ⟨by decide, by decide⟩ (S := []) rfl (Nat.le_of_ble_eq_true rfl) (fun r3 => ?_)
  refine sim_if_eq (tgt := 25) dX12_pawn_14 (by decide) ?_ ?_
  · refine sim_iconst dX12_pawn_25 (by decide) ?_
    exact sim_iret rfl rfl dX12_pawn_26
  · refine sim_aload_n 0 rfl dX12_pawn_17 ?_
    refine sim_iload_n 1 rfl dX12_pawn_18 ?_
    refine sim_callVIp v_RX12_265 sh_179 dX12_pawn_19 (k_M_isHeld a1 s2) rfl ⟨by decide, by decide⟩ (S := []) rfl (Nat.le_of_ble_eq_true rfl) (fun r4 => ?_)
    refine sim_if_ne (tgt := 27) dX12_pawn_22 (by decide) ?_ ?_
    · refine sim_aload_n 0 rfl dX12_pawn_27 ?_
      refine sim_callVVm v_RX12_293 sh_179 dX12_pawn_28 (k_M_snap n s2) rfl ⟨by decide, by decide⟩ (S := []) rfl (Nat.le_of_ble_eq_true rfl) (fun s5 => ?_)
      refine sim_aload_n 0 rfl dX12_pawn_31 ?_
      refine sim_getR g_RX12_13 sh_179 rh_179_14 dX12_pawn_32 ?_
      refine sim_bipush dX12_pawn_35 (by decide +kernel) ?_
      refine sim_iload_n 1 rfl dX12_pawn_37 ?_
      refine sim_iadd dX12_pawn_38 ?_
      refine sim_iconst dX12_pawn_39 (by decide) ?_
      refine sim_iastore sh_181 rfl dX12_pawn_40 (fun s6 => ?_)
      refine sim_aload_n 0 rfl dX12_pawn_41 ?_
      refine sim_iload_n 1 rfl dX12_pawn_42 ?_
      refine sim_callVIp v_RX12_268 sh_179 dX12_pawn_43 (k_M_sum a1 s6) rfl ⟨by decide, by decide⟩ (S := []) rfl (Nat.le_of_ble_eq_true rfl) (fun r7 => ?_)
      refine sim_aload_n 0 rfl dX12_pawn_46 ?_
      refine sim_getR g_RX12_13 sh_179 rh_179_14 dX12_pawn_47 ?_
      refine sim_iconst dX12_pawn_50 (by decide) ?_
      refine sim_ialoadK (j := 3) sh_181 rfl (by decide) dX12_pawn_51 ?_
      refine sim_imul dX12_pawn_52 ?_
      exact sim_iret rfl rfl dX12_pawn_53
    · refine sim_iconst dX12_pawn_25 (by decide) ?_
      exact sim_iret rfl rfl dX12_pawn_26
theorem dX12_tide_0 : decode cX12_tide 0 = .ok (.aload_n 0, 1) := by decide +kernel
theorem dX12_tide_1 : decode cX12_tide 1 = .ok (.iconst 0, 1) := by decide +kernel
theorem dX12_tide_2 : decode cX12_tide 2 = .ok (.putfield 87, 3) := by decide +kernel
theorem dX12_tide_5 : decode cX12_tide 5 = .ok (.aload_n 0, 1) := by decide +kernel
theorem dX12_tide_6 : decode cX12_tide 6 = .ok (.invokevirtual 250, 3) := by decide +kernel
theorem dX12_tide_9 : decode cX12_tide 9 = .ok (.ifCond .ne 5, 3) := by decide +kernel
theorem dX12_tide_12 : decode cX12_tide 12 = .ok (.iconst (-1), 1) := by decide +kernel
theorem dX12_tide_13 : decode cX12_tide 13 = .ok (.ireturn, 1) := by decide +kernel
theorem dX12_tide_14 : decode cX12_tide 14 = .ok (.aload_n 0, 1) := by decide +kernel
theorem dX12_tide_15 : decode cX12_tide 15 = .ok (.invokevirtual 293, 3) := by decide +kernel
theorem dX12_tide_18 : decode cX12_tide 18 = .ok (.aload_n 0, 1) := by decide +kernel
theorem dX12_tide_19 : decode cX12_tide 19 = .ok (.invokevirtual 303, 3) := by decide +kernel
theorem dX12_tide_22 : decode cX12_tide 22 = .ok (.aload_n 0, 1) := by decide +kernel
theorem dX12_tide_23 : decode cX12_tide 23 = .ok (.iconst 1, 1) := by decide +kernel
theorem dX12_tide_24 : decode cX12_tide 24 = .ok (.invokevirtual 280, 3) := by decide +kernel
theorem dX12_tide_27 : decode cX12_tide 27 = .ok (.ireturn, 1) := by decide +kernel
def f_M_tide (n : Nat)   (σ : JSg) : Option (Int × JSg) :=
  lt_ (sp σ 179 0 0) fun s1 => bd1 (f_M_rowMany s1) fun r2 => if r2 = 0 then (some ((-1), s1)) else (bd1 (f_M_snap n s1) fun s3 => bd1 (f_M_turnLast s3) fun s4 => bd1 (f_M_pipsAt 1 s4) fun r5 => some (r5, s4))
set_option maxRecDepth 20000 in
set_option maxHeartbeats 4000000 in
theorem k_M_tide  (n : Nat)    (σ : JSg) : Call yX12_tide cX12_tide 1 (some .int) 3 SH RHO [vR 179] σ dIm (f_M_tide n σ) := by
  refine call_of_sim (by decide +kernel) (Nat.le_of_ble_eq_true rfl) ?_
  show Sim RX12 cX12_tide 1 (some .int) 3 SH RHO 0 [(0, vR 179)] [] σ dIm (f_M_tide n σ)
  unfold f_M_tide
  refine sim_aload_n 0 rfl dX12_tide_0 ?_
  refine sim_iconst dX12_tide_1 (by decide) ?_
  refine sim_putI g_RX12_87 sh_179 dX12_tide_2 (fun s1 => ?_)
  refine sim_aload_n 0 rfl dX12_tide_5 ?_
  refine sim_callVIp v_RX12_250 sh_179 dX12_tide_6 (k_M_rowMany s1) rfl ⟨by decide, by decide⟩ (S := []) rfl (Nat.le_of_ble_eq_true rfl) (fun r2 => ?_)
  refine sim_if_ne (tgt := 14) dX12_tide_9 (by decide) ?_ ?_
  · refine sim_aload_n 0 rfl dX12_tide_14 ?_
    refine sim_callVVm v_RX12_293 sh_179 dX12_tide_15 (k_M_snap n s1) rfl ⟨by decide, by decide⟩ (S := []) rfl (Nat.le_of_ble_eq_true rfl) (fun s3 => ?_)
    refine sim_aload_n 0 rfl dX12_tide_18 ?_
    refine sim_callVVm v_RX12_303 sh_179 dX12_tide_19 (k_M_turnLast s3) rfl ⟨by decide, by decide⟩ (S := []) rfl (Nat.le_of_ble_eq_true rfl) (fun s4 => ?_)
    refine sim_aload_n 0 rfl dX12_tide_22 ?_
    refine sim_iconst dX12_tide_23 (by decide) ?_
    refine sim_callVIp v_RX12_280 sh_179 dX12_tide_24 (k_M_pipsAt 1 s4) rfl ⟨by decide, by decide⟩ (S := []) rfl (Nat.le_of_ble_eq_true rfl) (fun r5 => ?_)
    exact sim_iret rfl rfl dX12_tide_27
  · refine sim_iconst dX12_tide_12 (by decide) ?_
    exact sim_iret rfl rfl dX12_tide_13
theorem dX12_cat_0 : decode cX12_cat 0 = .ok (.aload_n 0, 1) := by decide +kernel
theorem dX12_cat_1 : decode cX12_cat 1 = .ok (.iconst 0, 1) := by decide +kernel
theorem dX12_cat_2 : decode cX12_cat 2 = .ok (.putfield 87, 3) := by decide +kernel
theorem dX12_cat_5 : decode cX12_cat 5 = .ok (.iload_n 1, 1) := by decide +kernel
theorem dX12_cat_6 : decode cX12_cat 6 = .ok (.invokestatic 286, 3) := by decide +kernel
theorem dX12_cat_9 : decode cX12_cat 9 = .ok (.ifCond .eq 10, 3) := by decide +kernel
theorem dX12_cat_12 : decode cX12_cat 12 = .ok (.aload_n 0, 1) := by decide +kernel
theorem dX12_cat_13 : decode cX12_cat 13 = .ok (.invokevirtual 250, 3) := by decide +kernel
theorem dX12_cat_16 : decode cX12_cat 16 = .ok (.ifCond .ne 5, 3) := by decide +kernel
theorem dX12_cat_19 : decode cX12_cat 19 = .ok (.iconst (-1), 1) := by decide +kernel
theorem dX12_cat_20 : decode cX12_cat 20 = .ok (.ireturn, 1) := by decide +kernel
theorem dX12_cat_21 : decode cX12_cat 21 = .ok (.aload_n 0, 1) := by decide +kernel
theorem dX12_cat_22 : decode cX12_cat 22 = .ok (.invokevirtual 293, 3) := by decide +kernel
theorem dX12_cat_25 : decode cX12_cat 25 = .ok (.aload_n 0, 1) := by decide +kernel
theorem dX12_cat_26 : decode cX12_cat 26 = .ok (.iload_n 1, 1) := by decide +kernel
theorem dX12_cat_27 : decode cX12_cat 27 = .ok (.invokevirtual 300, 3) := by decide +kernel
theorem dX12_cat_30 : decode cX12_cat 30 = .ok (.ireturn, 1) := by decide +kernel
def f_M_cat (n : Nat)  (a1 : Int) (σ : JSg) : Option (Int × JSg) :=
  lt_ (sp σ 179 0 0) fun s1 => bd1 (f_M_isEnd a1 s1) fun r2 => if r2 = 0 then (some ((-1), s1)) else (bd1 (f_M_rowMany s1) fun r3 => if r3 = 0 then (some ((-1), s1)) else (bd1 (f_M_snap n s1) fun s4 => bd2 (f_M_catAt n a1 s4) fun r5 s6 => some (r5, s6)))
set_option maxRecDepth 20000 in
set_option maxHeartbeats 4000000 in
theorem k_M_cat  (n : Nat)   (a1 : Int) (σ : JSg) : Call yX12_cat cX12_cat 2 (some .int) 3 SH RHO [vR 179, vI a1] σ dIm (f_M_cat n a1 σ) := by
  refine call_of_sim (by decide +kernel) (Nat.le_of_ble_eq_true rfl) ?_
  show Sim RX12 cX12_cat 2 (some .int) 3 SH RHO 0 [(0, vR 179), (1, vI a1)] [] σ dIm (f_M_cat n a1 σ)
  unfold f_M_cat
  refine sim_aload_n 0 rfl dX12_cat_0 ?_
  refine sim_iconst dX12_cat_1 (by decide) ?_
  refine sim_putI g_RX12_87 sh_179 dX12_cat_2 (fun s1 => ?_)
  refine sim_iload_n 1 rfl dX12_cat_5 ?_
  refine sim_callSIp s_RX12_286 dX12_cat_6 (k_M_isEnd SH RHO a1 s1) rfl ⟨by decide, by decide⟩ (S := []) rfl (Nat.le_of_ble_eq_true rfl) (fun r2 => ?_)
  refine sim_if_eq (tgt := 19) dX12_cat_9 (by decide) ?_ ?_
  · refine sim_iconst dX12_cat_19 (by decide) ?_
    exact sim_iret rfl rfl dX12_cat_20
  · refine sim_aload_n 0 rfl dX12_cat_12 ?_
    refine sim_callVIp v_RX12_250 sh_179 dX12_cat_13 (k_M_rowMany s1) rfl ⟨by decide, by decide⟩ (S := []) rfl (Nat.le_of_ble_eq_true rfl) (fun r3 => ?_)
    refine sim_if_ne (tgt := 21) dX12_cat_16 (by decide) ?_ ?_
    · refine sim_aload_n 0 rfl dX12_cat_21 ?_
      refine sim_callVVm v_RX12_293 sh_179 dX12_cat_22 (k_M_snap n s1) rfl ⟨by decide, by decide⟩ (S := []) rfl (Nat.le_of_ble_eq_true rfl) (fun s4 => ?_)
      refine sim_aload_n 0 rfl dX12_cat_25 ?_
      refine sim_iload_n 1 rfl dX12_cat_26 ?_
      refine sim_callVIm v_RX12_300 sh_179 dX12_cat_27 (k_M_catAt n a1 s4) rfl ⟨by decide, by decide⟩ (S := []) rfl (Nat.le_of_ble_eq_true rfl) (fun r5 s6 => ?_)
      exact sim_iret rfl rfl dX12_cat_30
    · refine sim_iconst dX12_cat_19 (by decide) ?_
      exact sim_iret rfl rfl dX12_cat_20
theorem dX12_lay_0 : decode cX12_lay 0 = .ok (.aload_n 0, 1) := by decide +kernel
theorem dX12_lay_1 : decode cX12_lay 1 = .ok (.iconst 0, 1) := by decide +kernel
theorem dX12_lay_2 : decode cX12_lay 2 = .ok (.putfield 87, 3) := by decide +kernel
theorem dX12_lay_5 : decode cX12_lay 5 = .ok (.aload_n 0, 1) := by decide +kernel
theorem dX12_lay_6 : decode cX12_lay 6 = .ok (.iload_n 1, 1) := by decide +kernel
theorem dX12_lay_7 : decode cX12_lay 7 = .ok (.invokevirtual 262, 3) := by decide +kernel
theorem dX12_lay_10 : decode cX12_lay 10 = .ok (.ifCond .eq 18, 3) := by decide +kernel
theorem dX12_lay_13 : decode cX12_lay 13 = .ok (.aload_n 0, 1) := by decide +kernel
theorem dX12_lay_14 : decode cX12_lay 14 = .ok (.iload_n 2, 1) := by decide +kernel
theorem dX12_lay_15 : decode cX12_lay 15 = .ok (.invokevirtual 253, 3) := by decide +kernel
theorem dX12_lay_18 : decode cX12_lay 18 = .ok (.ifCond .eq 10, 3) := by decide +kernel
theorem dX12_lay_21 : decode cX12_lay 21 = .ok (.iload_n 3, 1) := by decide +kernel
theorem dX12_lay_22 : decode cX12_lay 22 = .ok (.invokestatic 286, 3) := by decide +kernel
theorem dX12_lay_25 : decode cX12_lay 25 = .ok (.ifCond .ne 5, 3) := by decide +kernel
theorem dX12_lay_28 : decode cX12_lay 28 = .ok (.iconst (-1), 1) := by decide +kernel
theorem dX12_lay_29 : decode cX12_lay 29 = .ok (.ireturn, 1) := by decide +kernel
theorem dX12_lay_30 : decode cX12_lay 30 = .ok (.aload_n 0, 1) := by decide +kernel
theorem dX12_lay_31 : decode cX12_lay 31 = .ok (.iload_n 1, 1) := by decide +kernel
theorem dX12_lay_32 : decode cX12_lay 32 = .ok (.iload_n 2, 1) := by decide +kernel
theorem dX12_lay_33 : decode cX12_lay 33 = .ok (.iload_n 3, 1) := by decide +kernel
theorem dX12_lay_34 : decode cX12_lay 34 = .ok (.invokevirtual 289, 3) := by decide +kernel
theorem dX12_lay_37 : decode cX12_lay 37 = .ok (.istore 4, 2) := by decide +kernel
theorem dX12_lay_39 : decode cX12_lay 39 = .ok (.iload 4, 2) := by decide +kernel
theorem dX12_lay_41 : decode cX12_lay 41 = .ok (.ifCond .eq 6, 3) := by decide +kernel
theorem dX12_lay_44 : decode cX12_lay 44 = .ok (.iload 4, 2) := by decide +kernel
theorem dX12_lay_46 : decode cX12_lay 46 = .ok (.ireturn, 1) := by decide +kernel
theorem dX12_lay_47 : decode cX12_lay 47 = .ok (.aload_n 0, 1) := by decide +kernel
theorem dX12_lay_48 : decode cX12_lay 48 = .ok (.invokevirtual 293, 3) := by decide +kernel
theorem dX12_lay_51 : decode cX12_lay 51 = .ok (.aload_n 0, 1) := by decide +kernel
theorem dX12_lay_52 : decode cX12_lay 52 = .ok (.iload_n 1, 1) := by decide +kernel
theorem dX12_lay_53 : decode cX12_lay 53 = .ok (.iload_n 2, 1) := by decide +kernel
theorem dX12_lay_54 : decode cX12_lay 54 = .ok (.iload_n 3, 1) := by decide +kernel
theorem dX12_lay_55 : decode cX12_lay 55 = .ok (.invokevirtual 296, 3) := by decide +kernel
theorem dX12_lay_58 : decode cX12_lay 58 = .ok (.iconst 0, 1) := by decide +kernel
theorem dX12_lay_59 : decode cX12_lay 59 = .ok (.ireturn, 1) := by decide +kernel
def f_M_lay (n : Nat)  (a1 : Int) (a2 : Int) (a3 : Int) (σ : JSg) : Option (Int × JSg) :=
  lt_ (sp σ 179 0 0) fun s1 => bd1 (f_M_isWidow a1 s1) fun r2 => if r2 = 0 then (some ((-1), s1)) else (bd1 (f_M_isStone a2 s1) fun r3 => if r3 = 0 then (some ((-1), s1)) else (bd1 (f_M_isEnd a3 s1) fun r4 => if r4 = 0 then (some ((-1), s1)) else (bd1 (f_M_whyNot a1 a2 a3 s1) fun r5 => lt_ r5 fun v6 => if v6 = 0 then (bd1 (f_M_snap n s1) fun s7 => bd1 (f_M_lays n a1 a2 a3 s7) fun s8 => some (0, s8)) else (some (v6, s1)))))
set_option maxRecDepth 20000 in
set_option maxHeartbeats 4000000 in
theorem k_M_lay  (n : Nat)   (a1 : Int) (a2 : Int) (a3 : Int) (σ : JSg) : Call yX12_lay cX12_lay 5 (some .int) 4 SH RHO [vR 179, vI a1, vI a2, vI a3] σ dIm (f_M_lay n a1 a2 a3 σ) := by
  refine call_of_sim (by decide +kernel) (Nat.le_of_ble_eq_true rfl) ?_
  show Sim RX12 cX12_lay 5 (some .int) 4 SH RHO 0 [(0, vR 179), (1, vI a1), (2, vI a2), (3, vI a3)] [] σ dIm (f_M_lay n a1 a2 a3 σ)
  unfold f_M_lay
  refine sim_aload_n 0 rfl dX12_lay_0 ?_
  refine sim_iconst dX12_lay_1 (by decide) ?_
  refine sim_putI g_RX12_87 sh_179 dX12_lay_2 (fun s1 => ?_)
  refine sim_aload_n 0 rfl dX12_lay_5 ?_
  refine sim_iload_n 1 rfl dX12_lay_6 ?_
  refine sim_callVIp v_RX12_262 sh_179 dX12_lay_7 (k_M_isWidow a1 s1) rfl ⟨by decide, by decide⟩ (S := []) rfl (Nat.le_of_ble_eq_true rfl) (fun r2 => ?_)
  refine sim_if_eq (tgt := 28) dX12_lay_10 (by decide) ?_ ?_
  · refine sim_iconst dX12_lay_28 (by decide) ?_
    exact sim_iret rfl rfl dX12_lay_29
  · refine sim_aload_n 0 rfl dX12_lay_13 ?_
    refine sim_iload_n 2 rfl dX12_lay_14 ?_
    refine sim_callVIp v_RX12_253 sh_179 dX12_lay_15 (k_M_isStone a2 s1) rfl ⟨by decide, by decide⟩ (S := []) rfl (Nat.le_of_ble_eq_true rfl) (fun r3 => ?_)
    refine sim_if_eq (tgt := 28) dX12_lay_18 (by decide) ?_ ?_
    · refine sim_iconst dX12_lay_28 (by decide) ?_
      exact sim_iret rfl rfl dX12_lay_29
    · refine sim_iload_n 3 rfl dX12_lay_21 ?_
      refine sim_callSIp s_RX12_286 dX12_lay_22 (k_M_isEnd SH RHO a3 s1) rfl ⟨by decide, by decide⟩ (S := []) rfl (Nat.le_of_ble_eq_true rfl) (fun r4 => ?_)
      refine sim_if_ne (tgt := 30) dX12_lay_25 (by decide) ?_ ?_
      · refine sim_aload_n 0 rfl dX12_lay_30 ?_
        refine sim_iload_n 1 rfl dX12_lay_31 ?_
        refine sim_iload_n 2 rfl dX12_lay_32 ?_
        refine sim_iload_n 3 rfl dX12_lay_33 ?_
        refine sim_callVIp v_RX12_289 sh_179 dX12_lay_34 (k_M_whyNot a1 a2 a3 s1) rfl ⟨by decide, by decide⟩ (S := []) rfl (Nat.le_of_ble_eq_true rfl) (fun r5 => ?_)
        refine sim_istore (fun v6 => [(4, vI v6), (0, vR 179), (1, vI a1), (2, vI a2), (3, vI a3)]) (fun _ => rfl) (by decide) dX12_lay_37 (fun v6 => ?_)
        refine sim_iload 0 rfl dX12_lay_39 ?_
        refine sim_if_eq (tgt := 47) dX12_lay_41 (by decide) ?_ ?_
        · refine sim_aload_n 1 rfl dX12_lay_47 ?_
          refine sim_callVVm v_RX12_293 sh_179 dX12_lay_48 (k_M_snap n s1) rfl ⟨by decide, by decide⟩ (S := []) rfl (Nat.le_of_ble_eq_true rfl) (fun s7 => ?_)
          refine sim_aload_n 1 rfl dX12_lay_51 ?_
          refine sim_iload_n 2 rfl dX12_lay_52 ?_
          refine sim_iload_n 3 rfl dX12_lay_53 ?_
          refine sim_iload_n 4 rfl dX12_lay_54 ?_
          refine sim_callVVm v_RX12_296 sh_179 dX12_lay_55 (k_M_lays n a1 a2 a3 s7) rfl ⟨by decide, by decide⟩ (S := []) rfl (Nat.le_of_ble_eq_true rfl) (fun s8 => ?_)
          refine sim_iconst dX12_lay_58 (by decide) ?_
          exact sim_iret rfl rfl dX12_lay_59
        · refine sim_iload 0 rfl dX12_lay_44 ?_
          exact sim_iret rfl rfl dX12_lay_46
      · refine sim_iconst dX12_lay_28 (by decide) ?_
        exact sim_iret rfl rfl dX12_lay_29
theorem dX12_undo_0 : decode cX12_undo 0 = .ok (.aload_n 0, 1) := by decide +kernel
theorem dX12_undo_1 : decode cX12_undo 1 = .ok (.iconst 0, 1) := by decide +kernel
theorem dX12_undo_2 : decode cX12_undo 2 = .ok (.putfield 87, 3) := by decide +kernel
theorem dX12_undo_5 : decode cX12_undo 5 = .ok (.aload_n 0, 1) := by decide +kernel
theorem dX12_undo_6 : decode cX12_undo 6 = .ok (.getfield 234, 3) := by decide +kernel
theorem dX12_undo_9 : decode cX12_undo 9 = .ok (.ifCond .ne 5, 3) := by decide +kernel
theorem dX12_undo_12 : decode cX12_undo 12 = .ok (.iconst (-1), 1) := by decide +kernel
theorem dX12_undo_13 : decode cX12_undo 13 = .ok (.ireturn, 1) := by decide +kernel
theorem dX12_undo_14 : decode cX12_undo 14 = .ok (.aload_n 0, 1) := by decide +kernel
theorem dX12_undo_15 : decode cX12_undo 15 = .ok (.dup, 1) := by decide +kernel
theorem dX12_undo_16 : decode cX12_undo 16 = .ok (.getfield 234, 3) := by decide +kernel
theorem dX12_undo_19 : decode cX12_undo 19 = .ok (.iconst 1, 1) := by decide +kernel
theorem dX12_undo_20 : decode cX12_undo 20 = .ok (.isub, 1) := by decide +kernel
theorem dX12_undo_21 : decode cX12_undo 21 = .ok (.putfield 234, 3) := by decide +kernel
theorem dX12_undo_24 : decode cX12_undo 24 = .ok (.iconst 0, 1) := by decide +kernel
theorem dX12_undo_25 : decode cX12_undo 25 = .ok (.istore_n 1, 1) := by decide +kernel
theorem dX12_undo_26 : decode cX12_undo 26 = .ok (.iload_n 1, 1) := by decide +kernel
theorem dX12_undo_27 : decode cX12_undo 27 = .ok (.bipush 125, 2) := by decide +kernel
theorem dX12_undo_29 : decode cX12_undo 29 = .ok (.if_icmp .ge 32, 3) := by decide +kernel
theorem dX12_undo_32 : decode cX12_undo 32 = .ok (.aload_n 0, 1) := by decide +kernel
theorem dX12_undo_33 : decode cX12_undo 33 = .ok (.getfield 13, 3) := by decide +kernel
theorem dX12_undo_36 : decode cX12_undo 36 = .ok (.bipush 67, 2) := by decide +kernel
theorem dX12_undo_38 : decode cX12_undo 38 = .ok (.iload_n 1, 1) := by decide +kernel
theorem dX12_undo_39 : decode cX12_undo 39 = .ok (.iadd, 1) := by decide +kernel
theorem dX12_undo_40 : decode cX12_undo 40 = .ok (.aload_n 0, 1) := by decide +kernel
theorem dX12_undo_41 : decode cX12_undo 41 = .ok (.getfield 22, 3) := by decide +kernel
theorem dX12_undo_44 : decode cX12_undo 44 = .ok (.bipush 125, 2) := by decide +kernel
theorem dX12_undo_46 : decode cX12_undo 46 = .ok (.aload_n 0, 1) := by decide +kernel
theorem dX12_undo_47 : decode cX12_undo 47 = .ok (.getfield 234, 3) := by decide +kernel
theorem dX12_undo_50 : decode cX12_undo 50 = .ok (.imul, 1) := by decide +kernel
theorem dX12_undo_51 : decode cX12_undo 51 = .ok (.iload_n 1, 1) := by decide +kernel
theorem dX12_undo_52 : decode cX12_undo 52 = .ok (.iadd, 1) := by decide +kernel
theorem dX12_undo_53 : decode cX12_undo 53 = .ok (.iaload, 1) := by decide +kernel
theorem dX12_undo_54 : decode cX12_undo 54 = .ok (.iastore, 1) := by decide +kernel
theorem dX12_undo_55 : decode cX12_undo 55 = .ok (.iinc 1 1, 3) := by decide +kernel
theorem dX12_undo_58 : decode cX12_undo 58 = .ok (.goto (-32), 3) := by decide +kernel
theorem dX12_undo_61 : decode cX12_undo 61 = .ok (.aload_n 0, 1) := by decide +kernel
theorem dX12_undo_62 : decode cX12_undo 62 = .ok (.getfield 234, 3) := by decide +kernel
theorem dX12_undo_65 : decode cX12_undo 65 = .ok (.ireturn, 1) := by decide +kernel
def f_M_undo (n : Nat)   (σ : JSg) : Option (Int × JSg) :=
  lt_ (sp σ 179 0 0) fun s1 => if (s1 179 22) = 0 then (some ((-1), s1)) else (lt_ (sp s1 179 22 (w32 ((s1 179 22) - 1))) fun s2 => lt_ 0 fun v3 => wh2 n (fun rc4 (x5 : Int) (s6 : JSg) => if x5 < 125 then (chk (0 ≤ (w32 ((w32 (125 * (s6 179 22))) + x5)) ∧ (w32 ((w32 (125 * (s6 179 22))) + x5)) < 1000) <| chk (0 ≤ (w32 (67 + x5)) ∧ (w32 (67 + x5)) < 448) <| lt_ (sp s6 181 (w32 (67 + x5)).toNat (s6 184 (w32 ((w32 (125 * (s6 179 22))) + x5)).toNat)) fun s7 => lt_ (w32 (x5 + 1)) fun v8 => rc4 v8 s7) else (some (s6 179 22, s6))) v3 s2)
set_option maxRecDepth 20000 in
set_option maxHeartbeats 4000000 in
theorem k_M_undo  (n : Nat)    (σ : JSg) : Call yX12_undo cX12_undo 2 (some .int) 0 SH RHO [vR 179] σ dIm (f_M_undo n σ) := by
  refine call_of_sim (by decide +kernel) (Nat.le_of_ble_eq_true rfl) ?_
  show Sim RX12 cX12_undo 2 (some .int) 0 SH RHO 0 [(0, vR 179)] [] σ dIm (f_M_undo n σ)
  unfold f_M_undo
  refine sim_aload_n 0 rfl dX12_undo_0 ?_
  refine sim_iconst dX12_undo_1 (by decide) ?_
  refine sim_putI g_RX12_87 sh_179 dX12_undo_2 (fun s1 => ?_)
  refine sim_aload_n 0 rfl dX12_undo_5 ?_
  refine sim_getI g_RX12_234 sh_179 dX12_undo_6 ?_
  refine sim_if_ne (tgt := 14) dX12_undo_9 (by decide) ?_ ?_
  · refine sim_aload_n 0 rfl dX12_undo_14 ?_
    refine sim_dup rfl dX12_undo_15 ?_
    refine sim_getI g_RX12_234 sh_179 dX12_undo_16 ?_
    refine sim_iconst dX12_undo_19 (by decide) ?_
    refine sim_isub dX12_undo_20 ?_
    refine sim_putI g_RX12_234 sh_179 dX12_undo_21 (fun s2 => ?_)
    refine sim_iconst dX12_undo_24 (by decide) ?_
    refine sim_istore_n (fun v3 => [(1, vI v3), (0, vR 179)]) (fun _ => rfl) (by decide) dX12_undo_25 (fun v3 => ?_)
    refine sim_sub [1, 0] (L' := [(0, vR 179), (1, vI v3)]) rfl ?_
    refine sim_wh2 (fun (x5 : Int) (s6 : JSg) => [(0, vR 179), (1, vI x5)]) (fun (x5 : Int) (s6 : JSg) => s6) ?_ n v3 s2
    intro rc4 hrc4 x5 s6
    refine sim_iload_n 1 rfl dX12_undo_26 ?_
    refine sim_bipush dX12_undo_27 (by decide +kernel) ?_
    refine sim_icmp_ge (tgt := 61) dX12_undo_29 (by decide) ?_ ?_
    · refine sim_aload_n 0 rfl dX12_undo_61 ?_
      refine sim_getI g_RX12_234 sh_179 dX12_undo_62 ?_
      exact sim_iret rfl rfl dX12_undo_65
    · refine sim_aload_n 0 rfl dX12_undo_32 ?_
      refine sim_getR g_RX12_13 sh_179 rh_179_14 dX12_undo_33 ?_
      refine sim_bipush dX12_undo_36 (by decide +kernel) ?_
      refine sim_iload_n 1 rfl dX12_undo_38 ?_
      refine sim_iadd dX12_undo_39 ?_
      refine sim_aload_n 0 rfl dX12_undo_40 ?_
      refine sim_getR g_RX12_22 sh_179 rh_179_17 dX12_undo_41 ?_
      refine sim_bipush dX12_undo_44 (by decide +kernel) ?_
      refine sim_aload_n 0 rfl dX12_undo_46 ?_
      refine sim_getI g_RX12_234 sh_179 dX12_undo_47 ?_
      refine sim_imul dX12_undo_50 ?_
      refine sim_iload_n 1 rfl dX12_undo_51 ?_
      refine sim_iadd dX12_undo_52 ?_
      refine sim_iaload sh_184 rfl dX12_undo_53 ?_
      refine sim_iastore sh_181 rfl dX12_undo_54 (fun s7 => ?_)
      refine sim_iinc 1 rfl (fun v8 => [(1, vI v8), (0, vR 179)]) (fun _ => rfl) (by decide) dX12_undo_55 (fun v8 => ?_)
      refine sim_goto (tgt := 26) dX12_undo_58 (by decide) ?_
      exact sim_sub [1, 0] rfl (hrc4 v8 s7)
  · refine sim_iconst dX12_undo_12 (by decide) ?_
    exact sim_iret rfl rfl dX12_undo_13
theorem dX12_why_0 : decode cX12_why 0 = .ok (.aload_n 0, 1) := by decide +kernel
theorem dX12_why_1 : decode cX12_why 1 = .ok (.iconst 0, 1) := by decide +kernel
theorem dX12_why_2 : decode cX12_why 2 = .ok (.putfield 87, 3) := by decide +kernel
theorem dX12_why_5 : decode cX12_why 5 = .ok (.aload_n 0, 1) := by decide +kernel
theorem dX12_why_6 : decode cX12_why 6 = .ok (.iload_n 1, 1) := by decide +kernel
theorem dX12_why_7 : decode cX12_why 7 = .ok (.invokevirtual 262, 3) := by decide +kernel
theorem dX12_why_10 : decode cX12_why 10 = .ok (.ifCond .eq 28, 3) := by decide +kernel
theorem dX12_why_13 : decode cX12_why 13 = .ok (.aload_n 0, 1) := by decide +kernel
theorem dX12_why_14 : decode cX12_why 14 = .ok (.iload_n 2, 1) := by decide +kernel
theorem dX12_why_15 : decode cX12_why 15 = .ok (.invokevirtual 253, 3) := by decide +kernel
theorem dX12_why_18 : decode cX12_why 18 = .ok (.ifCond .eq 20, 3) := by decide +kernel
theorem dX12_why_21 : decode cX12_why 21 = .ok (.iload_n 3, 1) := by decide +kernel
theorem dX12_why_22 : decode cX12_why 22 = .ok (.invokestatic 286, 3) := by decide +kernel
theorem dX12_why_25 : decode cX12_why 25 = .ok (.ifCond .eq 13, 3) := by decide +kernel
theorem dX12_why_28 : decode cX12_why 28 = .ok (.aload_n 0, 1) := by decide +kernel
theorem dX12_why_29 : decode cX12_why 29 = .ok (.iload_n 1, 1) := by decide +kernel
theorem dX12_why_30 : decode cX12_why 30 = .ok (.iload_n 2, 1) := by decide +kernel
theorem dX12_why_31 : decode cX12_why 31 = .ok (.iload_n 3, 1) := by decide +kernel
theorem dX12_why_32 : decode cX12_why 32 = .ok (.invokevirtual 289, 3) := by decide +kernel
theorem dX12_why_35 : decode cX12_why 35 = .ok (.goto 4, 3) := by decide +kernel
theorem dX12_why_38 : decode cX12_why 38 = .ok (.iconst (-1), 1) := by decide +kernel
theorem dX12_why_39 : decode cX12_why 39 = .ok (.ireturn, 1) := by decide +kernel
def f_M_why   (a1 : Int) (a2 : Int) (a3 : Int) (σ : JSg) : Option (Int × JSg) :=
  lt_ (sp σ 179 0 0) fun s1 => bd1 (f_M_isWidow a1 s1) fun r2 => if r2 = 0 then (some ((-1), s1)) else (bd1 (f_M_isStone a2 s1) fun r3 => if r3 = 0 then (some ((-1), s1)) else (bd1 (f_M_isEnd a3 s1) fun r4 => if r4 = 0 then (some ((-1), s1)) else (bd1 (f_M_whyNot a1 a2 a3 s1) fun r5 => some (r5, s1))))
set_option maxRecDepth 20000 in
set_option maxHeartbeats 4000000 in
theorem k_M_why     (a1 : Int) (a2 : Int) (a3 : Int) (σ : JSg) : Call yX12_why cX12_why 4 (some .int) 4 SH RHO [vR 179, vI a1, vI a2, vI a3] σ dIm (f_M_why a1 a2 a3 σ) := by
  refine call_of_sim (by decide +kernel) (Nat.le_of_ble_eq_true rfl) ?_
  show Sim RX12 cX12_why 4 (some .int) 4 SH RHO 0 [(0, vR 179), (1, vI a1), (2, vI a2), (3, vI a3)] [] σ dIm (f_M_why a1 a2 a3 σ)
  unfold f_M_why
  refine sim_aload_n 0 rfl dX12_why_0 ?_
  refine sim_iconst dX12_why_1 (by decide) ?_
  refine sim_putI g_RX12_87 sh_179 dX12_why_2 (fun s1 => ?_)
  refine sim_aload_n 0 rfl dX12_why_5 ?_
  refine sim_iload_n 1 rfl dX12_why_6 ?_
  refine sim_callVIp v_RX12_262 sh_179 dX12_why_7 (k_M_isWidow a1 s1) rfl ⟨by decide, by decide⟩ (S := []) rfl (Nat.le_of_ble_eq_true rfl) (fun r2 => ?_)
  refine sim_if_eq (tgt := 38) dX12_why_10 (by decide) ?_ ?_
  · refine sim_iconst dX12_why_38 (by decide) ?_
    exact sim_iret rfl rfl dX12_why_39
  · refine sim_aload_n 0 rfl dX12_why_13 ?_
    refine sim_iload_n 2 rfl dX12_why_14 ?_
    refine sim_callVIp v_RX12_253 sh_179 dX12_why_15 (k_M_isStone a2 s1) rfl ⟨by decide, by decide⟩ (S := []) rfl (Nat.le_of_ble_eq_true rfl) (fun r3 => ?_)
    refine sim_if_eq (tgt := 38) dX12_why_18 (by decide) ?_ ?_
    · refine sim_iconst dX12_why_38 (by decide) ?_
      exact sim_iret rfl rfl dX12_why_39
    · refine sim_iload_n 3 rfl dX12_why_21 ?_
      refine sim_callSIp s_RX12_286 dX12_why_22 (k_M_isEnd SH RHO a3 s1) rfl ⟨by decide, by decide⟩ (S := []) rfl (Nat.le_of_ble_eq_true rfl) (fun r4 => ?_)
      refine sim_if_eq (tgt := 38) dX12_why_25 (by decide) ?_ ?_
      · refine sim_iconst dX12_why_38 (by decide) ?_
        exact sim_iret rfl rfl dX12_why_39
      · refine sim_aload_n 0 rfl dX12_why_28 ?_
        refine sim_iload_n 1 rfl dX12_why_29 ?_
        refine sim_iload_n 2 rfl dX12_why_30 ?_
        refine sim_iload_n 3 rfl dX12_why_31 ?_
        refine sim_callVIp v_RX12_289 sh_179 dX12_why_32 (k_M_whyNot a1 a2 a3 s1) rfl ⟨by decide, by decide⟩ (S := []) rfl (Nat.le_of_ble_eq_true rfl) (fun r5 => ?_)
        refine sim_goto (tgt := 39) dX12_why_35 (by decide) ?_
        exact sim_iret rfl rfl dX12_why_39
theorem dX12_pips_0 : decode cX12_pips 0 = .ok (.aload_n 0, 1) := by decide +kernel
theorem dX12_pips_1 : decode cX12_pips 1 = .ok (.iconst 0, 1) := by decide +kernel
theorem dX12_pips_2 : decode cX12_pips 2 = .ok (.putfield 87, 3) := by decide +kernel
theorem dX12_pips_5 : decode cX12_pips 5 = .ok (.iload_n 1, 1) := by decide +kernel
theorem dX12_pips_6 : decode cX12_pips 6 = .ok (.iconst 0, 1) := by decide +kernel
theorem dX12_pips_7 : decode cX12_pips 7 = .ok (.iconst 1, 1) := by decide +kernel
theorem dX12_pips_8 : decode cX12_pips 8 = .ok (.invokestatic 158, 3) := by decide +kernel
theorem dX12_pips_11 : decode cX12_pips 11 = .ok (.ifCond .eq 11, 3) := by decide +kernel
theorem dX12_pips_14 : decode cX12_pips 14 = .ok (.aload_n 0, 1) := by decide +kernel
theorem dX12_pips_15 : decode cX12_pips 15 = .ok (.iload_n 1, 1) := by decide +kernel
theorem dX12_pips_16 : decode cX12_pips 16 = .ok (.invokevirtual 280, 3) := by decide +kernel
theorem dX12_pips_19 : decode cX12_pips 19 = .ok (.goto 4, 3) := by decide +kernel
theorem dX12_pips_22 : decode cX12_pips 22 = .ok (.iconst (-1), 1) := by decide +kernel
theorem dX12_pips_23 : decode cX12_pips 23 = .ok (.ireturn, 1) := by decide +kernel
def f_M_pips   (a1 : Int) (σ : JSg) : Option (Int × JSg) :=
  lt_ (sp σ 179 0 0) fun s1 => bd1 (f_M_isIn a1 0 1 s1) fun r2 => if r2 = 0 then (some ((-1), s1)) else (bd1 (f_M_pipsAt a1 s1) fun r3 => some (r3, s1))
set_option maxRecDepth 20000 in
set_option maxHeartbeats 4000000 in
theorem k_M_pips     (a1 : Int) (σ : JSg) : Call yX12_pips cX12_pips 2 (some .int) 3 SH RHO [vR 179, vI a1] σ dIm (f_M_pips a1 σ) := by
  refine call_of_sim (by decide +kernel) (Nat.le_of_ble_eq_true rfl) ?_
  show Sim RX12 cX12_pips 2 (some .int) 3 SH RHO 0 [(0, vR 179), (1, vI a1)] [] σ dIm (f_M_pips a1 σ)
  unfold f_M_pips
  refine sim_aload_n 0 rfl dX12_pips_0 ?_
  refine sim_iconst dX12_pips_1 (by decide) ?_
  refine sim_putI g_RX12_87 sh_179 dX12_pips_2 (fun s1 => ?_)
  refine sim_iload_n 1 rfl dX12_pips_5 ?_
  refine sim_iconst dX12_pips_6 (by decide) ?_
  refine sim_iconst dX12_pips_7 (by decide) ?_
  refine sim_callSIp s_RX12_158 dX12_pips_8 (k_M_isIn SH RHO a1 0 1 s1) rfl ⟨by decide, by decide⟩ (S := []) rfl (Nat.le_of_ble_eq_true rfl) (fun r2 => ?_)
  refine sim_if_eq (tgt := 22) dX12_pips_11 (by decide) ?_ ?_
  · refine sim_iconst dX12_pips_22 (by decide) ?_
    exact sim_iret rfl rfl dX12_pips_23
  · refine sim_aload_n 0 rfl dX12_pips_14 ?_
    refine sim_iload_n 1 rfl dX12_pips_15 ?_
    refine sim_callVIp v_RX12_280 sh_179 dX12_pips_16 (k_M_pipsAt a1 s1) rfl ⟨by decide, by decide⟩ (S := []) rfl (Nat.le_of_ble_eq_true rfl) (fun r3 => ?_)
    refine sim_goto (tgt := 23) dX12_pips_19 (by decide) ?_
    exact sim_iret rfl rfl dX12_pips_23
theorem dX12_at_0 : decode cX12_at 0 = .ok (.aload_n 0, 1) := by decide +kernel
theorem dX12_at_1 : decode cX12_at 1 = .ok (.iconst 0, 1) := by decide +kernel
theorem dX12_at_2 : decode cX12_at 2 = .ok (.putfield 87, 3) := by decide +kernel
theorem dX12_at_5 : decode cX12_at 5 = .ok (.iload_n 1, 1) := by decide +kernel
theorem dX12_at_6 : decode cX12_at 6 = .ok (.ifCond .lt 19, 3) := by decide +kernel
theorem dX12_at_9 : decode cX12_at 9 = .ok (.iload_n 1, 1) := by decide +kernel
theorem dX12_at_10 : decode cX12_at 10 = .ok (.aload_n 0, 1) := by decide +kernel
theorem dX12_at_11 : decode cX12_at 11 = .ok (.invokevirtual 250, 3) := by decide +kernel
theorem dX12_at_14 : decode cX12_at 14 = .ok (.if_icmp .ge 11, 3) := by decide +kernel
theorem dX12_at_17 : decode cX12_at 17 = .ok (.aload_n 0, 1) := by decide +kernel
theorem dX12_at_18 : decode cX12_at 18 = .ok (.iload_n 1, 1) := by decide +kernel
theorem dX12_at_19 : decode cX12_at 19 = .ok (.invokevirtual 247, 3) := by decide +kernel
theorem dX12_at_22 : decode cX12_at 22 = .ok (.goto 4, 3) := by decide +kernel
theorem dX12_at_25 : decode cX12_at 25 = .ok (.iconst (-1), 1) := by decide +kernel
theorem dX12_at_26 : decode cX12_at 26 = .ok (.ireturn, 1) := by decide +kernel
def f_M_at   (a1 : Int) (σ : JSg) : Option (Int × JSg) :=
  lt_ (sp σ 179 0 0) fun s1 => if a1 < 0 then (some ((-1), s1)) else (bd1 (f_M_rowMany s1) fun r2 => if a1 < r2 then (bd1 (f_M_rowStone a1 s1) fun r3 => some (r3, s1)) else (some ((-1), s1)))
set_option maxRecDepth 20000 in
set_option maxHeartbeats 4000000 in
theorem k_M_at     (a1 : Int) (σ : JSg) : Call yX12_at cX12_at 2 (some .int) 1 SH RHO [vR 179, vI a1] σ dIm (f_M_at a1 σ) := by
  refine call_of_sim (by decide +kernel) (Nat.le_of_ble_eq_true rfl) ?_
  show Sim RX12 cX12_at 2 (some .int) 1 SH RHO 0 [(0, vR 179), (1, vI a1)] [] σ dIm (f_M_at a1 σ)
  unfold f_M_at
  refine sim_aload_n 0 rfl dX12_at_0 ?_
  refine sim_iconst dX12_at_1 (by decide) ?_
  refine sim_putI g_RX12_87 sh_179 dX12_at_2 (fun s1 => ?_)
  refine sim_iload_n 1 rfl dX12_at_5 ?_
  refine sim_if_lt (tgt := 25) dX12_at_6 (by decide) ?_ ?_
  · refine sim_iconst dX12_at_25 (by decide) ?_
    exact sim_iret rfl rfl dX12_at_26
  · refine sim_iload_n 1 rfl dX12_at_9 ?_
    refine sim_aload_n 0 rfl dX12_at_10 ?_
    refine sim_callVIp v_RX12_250 sh_179 dX12_at_11 (k_M_rowMany s1) rfl ⟨by decide, by decide⟩ (S := [vI a1]) rfl (Nat.le_of_ble_eq_true rfl) (fun r2 => ?_)
    refine sim_icmp_ge (tgt := 25) dX12_at_14 (by decide) ?_ ?_
    · refine sim_iconst dX12_at_25 (by decide) ?_
      exact sim_iret rfl rfl dX12_at_26
    · refine sim_aload_n 0 rfl dX12_at_17 ?_
      refine sim_iload_n 1 rfl dX12_at_18 ?_
      refine sim_callVIp v_RX12_247 sh_179 dX12_at_19 (k_M_rowStone a1 s1) rfl ⟨by decide, by decide⟩ (S := []) rfl (Nat.le_of_ble_eq_true rfl) (fun r3 => ?_)
      refine sim_goto (tgt := 26) dX12_at_22 (by decide) ?_
      exact sim_iret rfl rfl dX12_at_26
theorem dX12_fits_0 : decode cX12_fits 0 = .ok (.aload_n 0, 1) := by decide +kernel
theorem dX12_fits_1 : decode cX12_fits 1 = .ok (.iconst 0, 1) := by decide +kernel
theorem dX12_fits_2 : decode cX12_fits 2 = .ok (.putfield 87, 3) := by decide +kernel
theorem dX12_fits_5 : decode cX12_fits 5 = .ok (.iload_n 1, 1) := by decide +kernel
theorem dX12_fits_6 : decode cX12_fits 6 = .ok (.iconst 0, 1) := by decide +kernel
theorem dX12_fits_7 : decode cX12_fits 7 = .ok (.bipush 6, 2) := by decide +kernel
theorem dX12_fits_9 : decode cX12_fits 9 = .ok (.invokestatic 158, 3) := by decide +kernel
theorem dX12_fits_12 : decode cX12_fits 12 = .ok (.ifCond .eq 30, 3) := by decide +kernel
theorem dX12_fits_15 : decode cX12_fits 15 = .ok (.iload_n 2, 1) := by decide +kernel
theorem dX12_fits_16 : decode cX12_fits 16 = .ok (.iconst 0, 1) := by decide +kernel
theorem dX12_fits_17 : decode cX12_fits 17 = .ok (.bipush 6, 2) := by decide +kernel
theorem dX12_fits_19 : decode cX12_fits 19 = .ok (.invokestatic 158, 3) := by decide +kernel
theorem dX12_fits_22 : decode cX12_fits 22 = .ok (.ifCond .eq 20, 3) := by decide +kernel
theorem dX12_fits_25 : decode cX12_fits 25 = .ok (.aload_n 0, 1) := by decide +kernel
theorem dX12_fits_26 : decode cX12_fits 26 = .ok (.iload_n 1, 1) := by decide +kernel
theorem dX12_fits_27 : decode cX12_fits 27 = .ok (.iload_n 2, 1) := by decide +kernel
theorem dX12_fits_28 : decode cX12_fits 28 = .ok (.invokevirtual 271, 3) := by decide +kernel
theorem dX12_fits_31 : decode cX12_fits 31 = .ok (.ifCond .eq 7, 3) := by decide +kernel
theorem dX12_fits_34 : decode cX12_fits 34 = .ok (.iconst 1, 1) := by decide +kernel
theorem dX12_fits_35 : decode cX12_fits 35 = .ok (.goto 8, 3) := by decide +kernel
theorem dX12_fits_38 : decode cX12_fits 38 = .ok (.iconst 0, 1) := by decide +kernel
theorem dX12_fits_39 : decode cX12_fits 39 = .ok (.goto 4, 3) := by decide +kernel
theorem dX12_fits_42 : decode cX12_fits 42 = .ok (.iconst (-1), 1) := by decide +kernel
theorem dX12_fits_43 : decode cX12_fits 43 = .ok (.ireturn, 1) := by decide +kernel
def f_M_fits   (a1 : Int) (a2 : Int) (σ : JSg) : Option (Int × JSg) :=
  lt_ (sp σ 179 0 0) fun s1 => bd1 (f_M_isIn a1 0 6 s1) fun r2 => if r2 = 0 then (some ((-1), s1)) else (bd1 (f_M_isIn a2 0 6 s1) fun r3 => if r3 = 0 then (some ((-1), s1)) else (bd1 (f_M_fit a1 a2 s1) fun r4 => if r4 = 0 then (some (0, s1)) else (some (1, s1))))
set_option maxRecDepth 20000 in
set_option maxHeartbeats 4000000 in
theorem k_M_fits     (a1 : Int) (a2 : Int) (σ : JSg) : Call yX12_fits cX12_fits 3 (some .int) 2 SH RHO [vR 179, vI a1, vI a2] σ dIm (f_M_fits a1 a2 σ) := by
  refine call_of_sim (by decide +kernel) (Nat.le_of_ble_eq_true rfl) ?_
  show Sim RX12 cX12_fits 3 (some .int) 2 SH RHO 0 [(0, vR 179), (1, vI a1), (2, vI a2)] [] σ dIm (f_M_fits a1 a2 σ)
  unfold f_M_fits
  refine sim_aload_n 0 rfl dX12_fits_0 ?_
  refine sim_iconst dX12_fits_1 (by decide) ?_
  refine sim_putI g_RX12_87 sh_179 dX12_fits_2 (fun s1 => ?_)
  refine sim_iload_n 1 rfl dX12_fits_5 ?_
  refine sim_iconst dX12_fits_6 (by decide) ?_
  refine sim_bipush dX12_fits_7 (by decide +kernel) ?_
  refine sim_callSIp s_RX12_158 dX12_fits_9 (k_M_isIn SH RHO a1 0 6 s1) rfl ⟨by decide, by decide⟩ (S := []) rfl (Nat.le_of_ble_eq_true rfl) (fun r2 => ?_)
  refine sim_if_eq (tgt := 42) dX12_fits_12 (by decide) ?_ ?_
  · refine sim_iconst dX12_fits_42 (by decide) ?_
    exact sim_iret rfl rfl dX12_fits_43
  · refine sim_iload_n 2 rfl dX12_fits_15 ?_
    refine sim_iconst dX12_fits_16 (by decide) ?_
    refine sim_bipush dX12_fits_17 (by decide +kernel) ?_
    refine sim_callSIp s_RX12_158 dX12_fits_19 (k_M_isIn SH RHO a2 0 6 s1) rfl ⟨by decide, by decide⟩ (S := []) rfl (Nat.le_of_ble_eq_true rfl) (fun r3 => ?_)
    refine sim_if_eq (tgt := 42) dX12_fits_22 (by decide) ?_ ?_
    · refine sim_iconst dX12_fits_42 (by decide) ?_
      exact sim_iret rfl rfl dX12_fits_43
    · refine sim_aload_n 0 rfl dX12_fits_25 ?_
      refine sim_iload_n 1 rfl dX12_fits_26 ?_
      refine sim_iload_n 2 rfl dX12_fits_27 ?_
      refine sim_callVIp v_RX12_271 sh_179 dX12_fits_28 (k_M_fit a1 a2 s1) rfl ⟨by decide, by decide⟩ (S := []) rfl (Nat.le_of_ble_eq_true rfl) (fun r4 => ?_)
      refine sim_if_eq (tgt := 38) dX12_fits_31 (by decide) ?_ ?_
      · refine sim_iconst dX12_fits_38 (by decide) ?_
        refine sim_goto (tgt := 43) dX12_fits_39 (by decide) ?_
        exact sim_iret rfl rfl dX12_fits_43
      · refine sim_iconst dX12_fits_34 (by decide) ?_
        refine sim_goto (tgt := 43) dX12_fits_35 (by decide) ?_
        exact sim_iret rfl rfl dX12_fits_43
theorem dX12_widow_0 : decode cX12_widow 0 = .ok (.aload_n 0, 1) := by decide +kernel
theorem dX12_widow_1 : decode cX12_widow 1 = .ok (.iconst 0, 1) := by decide +kernel
theorem dX12_widow_2 : decode cX12_widow 2 = .ok (.putfield 87, 3) := by decide +kernel
theorem dX12_widow_5 : decode cX12_widow 5 = .ok (.aload_n 0, 1) := by decide +kernel
theorem dX12_widow_6 : decode cX12_widow 6 = .ok (.iload_n 1, 1) := by decide +kernel
theorem dX12_widow_7 : decode cX12_widow 7 = .ok (.invokevirtual 262, 3) := by decide +kernel
theorem dX12_widow_10 : decode cX12_widow 10 = .ok (.ifCond .eq 12, 3) := by decide +kernel
theorem dX12_widow_13 : decode cX12_widow 13 = .ok (.iload_n 2, 1) := by decide +kernel
theorem dX12_widow_14 : decode cX12_widow 14 = .ok (.iconst 0, 1) := by decide +kernel
theorem dX12_widow_15 : decode cX12_widow 15 = .ok (.iconst 5, 1) := by decide +kernel
theorem dX12_widow_16 : decode cX12_widow 16 = .ok (.invokestatic 158, 3) := by decide +kernel
theorem dX12_widow_19 : decode cX12_widow 19 = .ok (.ifCond .ne 5, 3) := by decide +kernel
theorem dX12_widow_22 : decode cX12_widow 22 = .ok (.iconst (-1), 1) := by decide +kernel
theorem dX12_widow_23 : decode cX12_widow 23 = .ok (.ireturn, 1) := by decide +kernel
theorem dX12_widow_24 : decode cX12_widow 24 = .ok (.iload_n 2, 1) := by decide +kernel
theorem dX12_widow_25 : decode cX12_widow 25 = .ok (.iconst 3, 1) := by decide +kernel
theorem dX12_widow_26 : decode cX12_widow 26 = .ok (.if_icmp .le 25, 3) := by decide +kernel
theorem dX12_widow_29 : decode cX12_widow 29 = .ok (.aload_n 0, 1) := by decide +kernel
theorem dX12_widow_30 : decode cX12_widow 30 = .ok (.getfield 13, 3) := by decide +kernel
theorem dX12_widow_33 : decode cX12_widow 33 = .ok (.iload_n 2, 1) := by decide +kernel
theorem dX12_widow_34 : decode cX12_widow 34 = .ok (.iconst 4, 1) := by decide +kernel
theorem dX12_widow_35 : decode cX12_widow 35 = .ok (.if_icmp .ne 9, 3) := by decide +kernel
theorem dX12_widow_38 : decode cX12_widow 38 = .ok (.sipush 180, 3) := by decide +kernel
theorem dX12_widow_41 : decode cX12_widow 41 = .ok (.goto 6, 3) := by decide +kernel
theorem dX12_widow_44 : decode cX12_widow 44 = .ok (.sipush 186, 3) := by decide +kernel
theorem dX12_widow_47 : decode cX12_widow 47 = .ok (.iload_n 1, 1) := by decide +kernel
theorem dX12_widow_48 : decode cX12_widow 48 = .ok (.iadd, 1) := by decide +kernel
theorem dX12_widow_49 : decode cX12_widow 49 = .ok (.iaload, 1) := by decide +kernel
theorem dX12_widow_50 : decode cX12_widow 50 = .ok (.ireturn, 1) := by decide +kernel
theorem dX12_widow_51 : decode cX12_widow 51 = .ok (.iconst 0, 1) := by decide +kernel
theorem dX12_widow_52 : decode cX12_widow 52 = .ok (.istore_n 3, 1) := by decide +kernel
theorem dX12_widow_53 : decode cX12_widow 53 = .ok (.iconst 0, 1) := by decide +kernel
theorem dX12_widow_54 : decode cX12_widow 54 = .ok (.istore 4, 2) := by decide +kernel
theorem dX12_widow_56 : decode cX12_widow 56 = .ok (.iload 4, 2) := by decide +kernel
theorem dX12_widow_58 : decode cX12_widow 58 = .ok (.aload_n 0, 1) := by decide +kernel
theorem dX12_widow_59 : decode cX12_widow 59 = .ok (.invokevirtual 240, 3) := by decide +kernel
theorem dX12_widow_62 : decode cX12_widow 62 = .ok (.if_icmp .ge 89, 3) := by decide +kernel
theorem dX12_widow_65 : decode cX12_widow 65 = .ok (.aload_n 0, 1) := by decide +kernel
theorem dX12_widow_66 : decode cX12_widow 66 = .ok (.getfield 13, 3) := by decide +kernel
theorem dX12_widow_69 : decode cX12_widow 69 = .ok (.bipush 67, 2) := by decide +kernel
theorem dX12_widow_71 : decode cX12_widow 71 = .ok (.iload 4, 2) := by decide +kernel
theorem dX12_widow_73 : decode cX12_widow 73 = .ok (.iadd, 1) := by decide +kernel
theorem dX12_widow_74 : decode cX12_widow 74 = .ok (.iaload, 1) := by decide +kernel
theorem dX12_widow_75 : decode cX12_widow 75 = .ok (.iload_n 1, 1) := by decide +kernel
theorem dX12_widow_76 : decode cX12_widow 76 = .ok (.if_icmp .eq 6, 3) := by decide +kernel
theorem dX12_widow_79 : decode cX12_widow 79 = .ok (.goto 66, 3) := by decide +kernel
theorem dX12_widow_82 : decode cX12_widow 82 = .ok (.iload_n 2, 1) := by decide +kernel
theorem dX12_widow_83 : decode cX12_widow 83 = .ok (.ifCond .eq 36, 3) := by decide +kernel
theorem dX12_widow_86 : decode cX12_widow 86 = .ok (.iload_n 2, 1) := by decide +kernel
theorem dX12_widow_87 : decode cX12_widow 87 = .ok (.iconst 1, 1) := by decide +kernel
theorem dX12_widow_88 : decode cX12_widow 88 = .ok (.if_icmp .ne 12, 3) := by decide +kernel
theorem dX12_widow_91 : decode cX12_widow 91 = .ok (.aload_n 0, 1) := by decide +kernel
theorem dX12_widow_92 : decode cX12_widow 92 = .ok (.iload 4, 2) := by decide +kernel
theorem dX12_widow_94 : decode cX12_widow 94 = .ok (.invokevirtual 265, 3) := by decide +kernel
theorem dX12_widow_97 : decode cX12_widow 97 = .ok (.ifCond .ne 22, 3) := by decide +kernel
theorem dX12_widow_100 : decode cX12_widow 100 = .ok (.iload_n 2, 1) := by decide +kernel
theorem dX12_widow_101 : decode cX12_widow 101 = .ok (.iconst 2, 1) := by decide +kernel
theorem dX12_widow_102 : decode cX12_widow 102 = .ok (.if_icmp .ne 20, 3) := by decide +kernel
theorem dX12_widow_105 : decode cX12_widow 105 = .ok (.aload_n 0, 1) := by decide +kernel
theorem dX12_widow_106 : decode cX12_widow 106 = .ok (.getfield 13, 3) := by decide +kernel
theorem dX12_widow_109 : decode cX12_widow 109 = .ok (.bipush 95, 2) := by decide +kernel
theorem dX12_widow_111 : decode cX12_widow 111 = .ok (.iload 4, 2) := by decide +kernel
theorem dX12_widow_113 : decode cX12_widow 113 = .ok (.iadd, 1) := by decide +kernel
theorem dX12_widow_114 : decode cX12_widow 114 = .ok (.iaload, 1) := by decide +kernel
theorem dX12_widow_115 : decode cX12_widow 115 = .ok (.iconst 1, 1) := by decide +kernel
theorem dX12_widow_116 : decode cX12_widow 116 = .ok (.if_icmp .ne 6, 3) := by decide +kernel
theorem dX12_widow_119 : decode cX12_widow 119 = .ok (.iinc 3 1, 3) := by decide +kernel
theorem dX12_widow_122 : decode cX12_widow 122 = .ok (.iload_n 2, 1) := by decide +kernel
theorem dX12_widow_123 : decode cX12_widow 123 = .ok (.iconst 3, 1) := by decide +kernel
theorem dX12_widow_124 : decode cX12_widow 124 = .ok (.if_icmp .ne 21, 3) := by decide +kernel
theorem dX12_widow_127 : decode cX12_widow 127 = .ok (.aload_n 0, 1) := by decide +kernel
theorem dX12_widow_128 : decode cX12_widow 128 = .ok (.iload 4, 2) := by decide +kernel
theorem dX12_widow_130 : decode cX12_widow 130 = .ok (.invokevirtual 265, 3) := by decide +kernel
theorem dX12_widow_133 : decode cX12_widow 133 = .ok (.ifCond .eq 12, 3) := by decide +kernel
theorem dX12_widow_136 : decode cX12_widow 136 = .ok (.iload_n 3, 1) := by decide +kernel
theorem dX12_widow_137 : decode cX12_widow 137 = .ok (.aload_n 0, 1) := by decide +kernel
theorem dX12_widow_138 : decode cX12_widow 138 = .ok (.iload 4, 2) := by decide +kernel
theorem dX12_widow_140 : decode cX12_widow 140 = .ok (.invokevirtual 268, 3) := by decide +kernel
theorem dX12_widow_143 : decode cX12_widow 143 = .ok (.iadd, 1) := by decide +kernel
theorem dX12_widow_144 : decode cX12_widow 144 = .ok (.istore_n 3, 1) := by decide +kernel
theorem dX12_widow_145 : decode cX12_widow 145 = .ok (.iinc 4 1, 3) := by decide +kernel
theorem dX12_widow_148 : decode cX12_widow 148 = .ok (.goto (-92), 3) := by decide +kernel
theorem dX12_widow_151 : decode cX12_widow 151 = .ok (.iload_n 3, 1) := by decide +kernel
theorem dX12_widow_152 : decode cX12_widow 152 = .ok (.ireturn, 1) := by decide +kernel
def f_M_widow (n : Nat)  (a1 : Int) (a2 : Int) (σ : JSg) : Option (Int × JSg) :=
  lt_ (sp σ 179 0 0) fun s1 => bd1 (f_M_isWidow a1 s1) fun r2 => if r2 = 0 then (some ((-1), s1)) else (bd1 (f_M_isIn a2 0 5 s1) fun r3 => if r3 = 0 then (some ((-1), s1)) else (if 3 < a2 then (jn1 (fun (u23 : Int) => chk (0 ≤ (w32 (u23 + a1)) ∧ (w32 (u23 + a1)) < 448) <| some (s1 181 (w32 (u23 + a1)).toNat, s1)) fun j22 => if a2 = 4 then (j22 180) else (j22 186)) else (lt_ 0 fun v4 => lt_ 0 fun v5 => wh2 n (fun rc6 (x7 : Int) (x8 : Int) => bd1 (f_M_stones s1) fun r9 => if x8 < r9 then (chk (0 ≤ (w32 (67 + x8)) ∧ (w32 (67 + x8)) < 448) <| jn1 (fun (y11 : Int) => lt_ (w32 (x8 + 1)) fun v12 => rc6 y11 v12) fun j10 => if (s1 181 (w32 (67 + x8)).toNat) = a1 then (jn1 (fun (y14 : Int) => if a2 = 3 then (bd1 (f_M_isHeld x8 s1) fun r15 => if r15 = 0 then (j10 y14) else (bd1 (f_M_sum x8 s1) fun r16 => lt_ (w32 (y14 + r16)) fun v17 => j10 v17)) else (j10 y14)) fun j13 => jn0 (lt_ (w32 (x7 + 1)) fun v19 => j13 v19) fun j18 => if a2 = 0 then (j18) else (jn0 (if a2 = 2 then (chk (0 ≤ (w32 (95 + x8)) ∧ (w32 (95 + x8)) < 448) <| if (s1 181 (w32 (95 + x8)).toNat) = 1 then (j18) else (j13 x7)) else (j13 x7)) fun j20 => if a2 = 1 then (bd1 (f_M_isHeld x8 s1) fun r21 => if r21 = 0 then (j20) else (j18)) else (j20))) else (j10 x7)) else (some (x7, s1))) v4 v5)))
set_option maxRecDepth 20000 in
set_option maxHeartbeats 4000000 in
theorem k_M_widow  (n : Nat)   (a1 : Int) (a2 : Int) (σ : JSg) : Call yX12_widow cX12_widow 5 (some .int) 2 SH RHO [vR 179, vI a1, vI a2] σ dIm (f_M_widow n a1 a2 σ) := by
  refine call_of_sim (by decide +kernel) (Nat.le_of_ble_eq_true rfl) ?_
  show Sim RX12 cX12_widow 5 (some .int) 2 SH RHO 0 [(0, vR 179), (1, vI a1), (2, vI a2)] [] σ dIm (f_M_widow n a1 a2 σ)
  unfold f_M_widow
  refine sim_aload_n 0 rfl dX12_widow_0 ?_
  refine sim_iconst dX12_widow_1 (by decide) ?_
  refine sim_putI g_RX12_87 sh_179 dX12_widow_2 (fun s1 => ?_)
  refine sim_aload_n 0 rfl dX12_widow_5 ?_
  refine sim_iload_n 1 rfl dX12_widow_6 ?_
  refine sim_callVIp v_RX12_262 sh_179 dX12_widow_7 (k_M_isWidow a1 s1) rfl ⟨by decide, by decide⟩ (S := []) rfl (Nat.le_of_ble_eq_true rfl) (fun r2 => ?_)
  refine sim_if_eq (tgt := 22) dX12_widow_10 (by decide) ?_ ?_
  · refine sim_iconst dX12_widow_22 (by decide) ?_
    exact sim_iret rfl rfl dX12_widow_23
  · refine sim_iload_n 2 rfl dX12_widow_13 ?_
    refine sim_iconst dX12_widow_14 (by decide) ?_
    refine sim_iconst dX12_widow_15 (by decide) ?_
    refine sim_callSIp s_RX12_158 dX12_widow_16 (k_M_isIn SH RHO a2 0 5 s1) rfl ⟨by decide, by decide⟩ (S := []) rfl (Nat.le_of_ble_eq_true rfl) (fun r3 => ?_)
    refine sim_if_ne (tgt := 24) dX12_widow_19 (by decide) ?_ ?_
    · refine sim_iload_n 2 rfl dX12_widow_24 ?_
      refine sim_iconst dX12_widow_25 (by decide) ?_
      refine sim_icmp_le (tgt := 51) dX12_widow_26 (by decide) ?_ ?_
      · refine sim_iconst dX12_widow_51 (by decide) ?_
        refine sim_istore_n (fun v4 => [(3, vI v4), (0, vR 179), (1, vI a1), (2, vI a2)]) (fun _ => rfl) (by decide) dX12_widow_52 (fun v4 => ?_)
        refine sim_iconst dX12_widow_53 (by decide) ?_
        refine sim_istore (fun v5 => [(4, vI v5), (3, vI v4), (0, vR 179), (1, vI a1), (2, vI a2)]) (fun _ => rfl) (by decide) dX12_widow_54 (fun v5 => ?_)
        refine sim_sub [2, 3, 4, 1, 0] (L' := [(0, vR 179), (1, vI a1), (2, vI a2), (3, vI v4), (4, vI v5)]) rfl ?_
        refine sim_wh2 (fun (x7 : Int) (x8 : Int) => [(0, vR 179), (1, vI a1), (2, vI a2), (3, vI x7), (4, vI x8)]) (fun (x7 : Int) (x8 : Int) => s1) ?_ n v4 v5
        intro rc6 hrc6 x7 x8
        refine sim_iload 4 rfl dX12_widow_56 ?_
        refine sim_aload_n 0 rfl dX12_widow_58 ?_
        refine sim_callVIp v_RX12_240 sh_179 dX12_widow_59 (k_M_stones s1) rfl ⟨by decide, by decide⟩ (S := [vI x8]) rfl (Nat.le_of_ble_eq_true rfl) (fun r9 => ?_)
        refine sim_icmp_ge (tgt := 151) dX12_widow_62 (by decide) ?_ ?_
        · refine sim_iload_n 3 rfl dX12_widow_151 ?_
          exact sim_iret rfl rfl dX12_widow_152
        · refine sim_aload_n 0 rfl dX12_widow_65 ?_
          refine sim_getR g_RX12_13 sh_179 rh_179_14 dX12_widow_66 ?_
          refine sim_bipush dX12_widow_69 (by decide +kernel) ?_
          refine sim_iload 4 rfl dX12_widow_71 ?_
          refine sim_iadd dX12_widow_73 ?_
          refine sim_iaload sh_181 rfl dX12_widow_74 ?_
          refine sim_iload_n 1 rfl dX12_widow_75 ?_
          refine sim_jn1 (pc' := 145) (fun (y11 : Int) => [(0, vR 179), (1, vI a1), (2, vI a2), (3, vI y11), (4, vI x8)]) (fun (y11 : Int) => []) (fun (y11 : Int) => s1) ?_ (fun j10 hj10 => ?_)
          · intro y11
            refine sim_iinc 4 rfl (fun v12 => [(4, vI v12), (0, vR 179), (1, vI a1), (2, vI a2), (3, vI y11)]) (fun _ => rfl) (by decide) dX12_widow_145 (fun v12 => ?_)
            refine sim_goto (tgt := 56) dX12_widow_148 (by decide) ?_
            exact sim_sub [1, 2, 3, 4, 0] rfl (hrc6 y11 v12)
          refine sim_icmp_eq (tgt := 82) dX12_widow_76 (by decide) ?_ ?_
          · refine sim_iload_n 2 rfl dX12_widow_82 ?_
            refine sim_jn1 (pc' := 122) (fun (y14 : Int) => [(0, vR 179), (1, vI a1), (2, vI a2), (3, vI y14), (4, vI x8)]) (fun (y14 : Int) => []) (fun (y14 : Int) => s1) ?_ (fun j13 hj13 => ?_)
            · intro y14
              refine sim_iload_n 2 rfl dX12_widow_122 ?_
              refine sim_iconst dX12_widow_123 (by decide) ?_
              refine sim_icmp_ne (tgt := 145) dX12_widow_124 (by decide) ?_ ?_
              · exact sim_sub [0, 1, 2, 3, 4] rfl (hj10 y14)
              · refine sim_aload_n 0 rfl dX12_widow_127 ?_
                refine sim_iload 4 rfl dX12_widow_128 ?_
                refine sim_callVIp v_RX12_265 sh_179 dX12_widow_130 (k_M_isHeld x8 s1) rfl ⟨by decide, by decide⟩ (S := []) rfl (Nat.le_of_ble_eq_true rfl) (fun r15 => ?_)
                refine sim_if_eq (tgt := 145) dX12_widow_133 (by decide) ?_ ?_
                · exact sim_sub [0, 1, 2, 3, 4] rfl (hj10 y14)
                · refine sim_iload_n 3 rfl dX12_widow_136 ?_
                  refine sim_aload_n 0 rfl dX12_widow_137 ?_
                  refine sim_iload 4 rfl dX12_widow_138 ?_
                  refine sim_callVIp v_RX12_268 sh_179 dX12_widow_140 (k_M_sum x8 s1) rfl ⟨by decide, by decide⟩ (S := [vI y14]) rfl (Nat.le_of_ble_eq_true rfl) (fun r16 => ?_)
                  refine sim_iadd dX12_widow_143 ?_
                  refine sim_istore_n (fun v17 => [(3, vI v17), (0, vR 179), (1, vI a1), (2, vI a2), (4, vI x8)]) (fun _ => rfl) (by decide) dX12_widow_144 (fun v17 => ?_)
                  exact sim_sub [1, 2, 3, 0, 4] rfl (hj10 v17)
            refine sim_jn0 (pc' := 119) ([(0, vR 179), (1, vI a1), (2, vI a2), (3, vI x7), (4, vI x8)]) ([]) (s1) ?_ (fun j18 hj18 => ?_)
            · refine sim_iinc 3 rfl (fun v19 => [(3, vI v19), (0, vR 179), (1, vI a1), (2, vI a2), (4, vI x8)]) (fun _ => rfl) (by decide) dX12_widow_119 (fun v19 => ?_)
              exact sim_sub [1, 2, 3, 0, 4] rfl (hj13 v19)
            refine sim_if_eq (tgt := 119) dX12_widow_83 (by decide) ?_ ?_
            · exact sim_sub [0, 1, 2, 3, 4] rfl (hj18 )
            · refine sim_iload_n 2 rfl dX12_widow_86 ?_
              refine sim_iconst dX12_widow_87 (by decide) ?_
              refine sim_jn0 (pc' := 100) ([(0, vR 179), (1, vI a1), (2, vI a2), (3, vI x7), (4, vI x8)]) ([]) (s1) ?_ (fun j20 hj20 => ?_)
              · refine sim_iload_n 2 rfl dX12_widow_100 ?_
                refine sim_iconst dX12_widow_101 (by decide) ?_
                refine sim_icmp_ne (tgt := 122) dX12_widow_102 (by decide) ?_ ?_
                · exact sim_sub [0, 1, 2, 3, 4] rfl (hj13 x7)
                · refine sim_aload_n 0 rfl dX12_widow_105 ?_
                  refine sim_getR g_RX12_13 sh_179 rh_179_14 dX12_widow_106 ?_
                  refine sim_bipush dX12_widow_109 (by decide +kernel) ?_
                  refine sim_iload 4 rfl dX12_widow_111 ?_
                  refine sim_iadd dX12_widow_113 ?_
                  refine sim_iaload sh_181 rfl dX12_widow_114 ?_
                  refine sim_iconst dX12_widow_115 (by decide) ?_
                  refine sim_icmp_ne (tgt := 122) dX12_widow_116 (by decide) ?_ ?_
                  · exact sim_sub [0, 1, 2, 3, 4] rfl (hj13 x7)
                  · exact sim_sub [0, 1, 2, 3, 4] rfl (hj18 )
              refine sim_icmp_ne (tgt := 100) dX12_widow_88 (by decide) ?_ ?_
              · exact sim_sub [0, 1, 2, 3, 4] rfl (hj20 )
              · refine sim_aload_n 0 rfl dX12_widow_91 ?_
                refine sim_iload 4 rfl dX12_widow_92 ?_
                refine sim_callVIp v_RX12_265 sh_179 dX12_widow_94 (k_M_isHeld x8 s1) rfl ⟨by decide, by decide⟩ (S := []) rfl (Nat.le_of_ble_eq_true rfl) (fun r21 => ?_)
                refine sim_if_ne (tgt := 119) dX12_widow_97 (by decide) ?_ ?_
                · exact sim_sub [0, 1, 2, 3, 4] rfl (hj18 )
                · exact sim_sub [0, 1, 2, 3, 4] rfl (hj20 )
          · refine sim_goto (tgt := 145) dX12_widow_79 (by decide) ?_
            exact sim_sub [0, 1, 2, 3, 4] rfl (hj10 x7)
      · refine sim_aload_n 0 rfl dX12_widow_29 ?_
        refine sim_getR g_RX12_13 sh_179 rh_179_14 dX12_widow_30 ?_
        refine sim_iload_n 2 rfl dX12_widow_33 ?_
        refine sim_iconst dX12_widow_34 (by decide) ?_
        refine sim_jn1 (pc' := 47) (fun (u23 : Int) => [(1, vI a1)]) (fun (u23 : Int) => [vI u23, vR 181]) (fun (u23 : Int) => s1) ?_ (fun j22 hj22 => ?_)
        · intro u23
          refine sim_iload_n 0 rfl dX12_widow_47 ?_
          refine sim_iadd dX12_widow_48 ?_
          refine sim_iaload sh_181 rfl dX12_widow_49 ?_
          exact sim_iret rfl rfl dX12_widow_50
        refine sim_icmp_ne (tgt := 44) dX12_widow_35 (by decide) ?_ ?_
        · refine sim_sipush dX12_widow_44 (by decide +kernel) ?_
          exact sim_sub [1] rfl (hj22 186)
        · refine sim_sipush dX12_widow_38 (by decide +kernel) ?_
          refine sim_goto (tgt := 47) dX12_widow_41 (by decide) ?_
          exact sim_sub [1] rfl (hj22 180)
    · refine sim_iconst dX12_widow_22 (by decide) ?_
      exact sim_iret rfl rfl dX12_widow_23
theorem dX12_find_0 : decode cX12_find 0 = .ok (.aload_n 0, 1) := by decide +kernel
theorem dX12_find_1 : decode cX12_find 1 = .ok (.iconst 0, 1) := by decide +kernel
theorem dX12_find_2 : decode cX12_find 2 = .ok (.putfield 87, 3) := by decide +kernel
theorem dX12_find_5 : decode cX12_find 5 = .ok (.aload_n 0, 1) := by decide +kernel
theorem dX12_find_6 : decode cX12_find 6 = .ok (.getfield 13, 3) := by decide +kernel
theorem dX12_find_9 : decode cX12_find 9 = .ok (.iload_n 1, 1) := by decide +kernel
theorem dX12_find_10 : decode cX12_find 10 = .ok (.iload_n 2, 1) := by decide +kernel
theorem dX12_find_11 : decode cX12_find 11 = .ok (.invokestatic 197, 3) := by decide +kernel
theorem dX12_find_14 : decode cX12_find 14 = .ok (.ireturn, 1) := by decide +kernel
def f_M_find (n : Nat)  (a1 : Int) (a2 : Int) (σ : JSg) : Option (Int × JSg) :=
  lt_ (sp σ 179 0 0) fun s1 => bd1 (f_M_findStone n 181 448 a1 a2 s1) fun r2 => some (r2, s1)
set_option maxRecDepth 20000 in
set_option maxHeartbeats 4000000 in
theorem k_M_find  (n : Nat)   (a1 : Int) (a2 : Int) (σ : JSg) : Call yX12_find cX12_find 3 (some .int) 1 SH RHO [vR 179, vI a1, vI a2] σ dIm (f_M_find n a1 a2 σ) := by
  refine call_of_sim (by decide +kernel) (Nat.le_of_ble_eq_true rfl) ?_
  show Sim RX12 cX12_find 3 (some .int) 1 SH RHO 0 [(0, vR 179), (1, vI a1), (2, vI a2)] [] σ dIm (f_M_find n a1 a2 σ)
  unfold f_M_find
  refine sim_aload_n 0 rfl dX12_find_0 ?_
  refine sim_iconst dX12_find_1 (by decide) ?_
  refine sim_putI g_RX12_87 sh_179 dX12_find_2 (fun s1 => ?_)
  refine sim_aload_n 0 rfl dX12_find_5 ?_
  refine sim_getR g_RX12_13 sh_179 rh_179_14 dX12_find_6 ?_
  refine sim_iload_n 1 rfl dX12_find_9 ?_
  refine sim_iload_n 2 rfl dX12_find_10 ?_
  refine sim_callSIp s_RX12_197 dX12_find_11 (k_M_findStone SH RHO n 181 448 sh_181 (okI_lit (by decide)) a1 a2 s1) rfl ⟨by decide, by decide⟩ (S := []) rfl (Nat.le_of_ble_eq_true rfl) (fun r2 => ?_)
  exact sim_iret rfl rfl dX12_find_14
theorem dX12_refuse_0 : decode cX12_refuse 0 = .ok (.aload_n 0, 1) := by decide +kernel
theorem dX12_refuse_1 : decode cX12_refuse 1 = .ok (.iconst 1, 1) := by decide +kernel
theorem dX12_refuse_2 : decode cX12_refuse 2 = .ok (.putfield 87, 3) := by decide +kernel
theorem dX12_refuse_5 : decode cX12_refuse 5 = .ok (.iconst 0, 1) := by decide +kernel
theorem dX12_refuse_6 : decode cX12_refuse 6 = .ok (.ireturn, 1) := by decide +kernel
def f_M_refuse    (σ : JSg) : Option (Int × JSg) :=
  lt_ (sp σ 179 0 1) fun s1 => some (0, s1)
set_option maxRecDepth 20000 in
set_option maxHeartbeats 4000000 in
theorem k_M_refuse      (σ : JSg) : Call yX12_refuse cX12_refuse 1 (some .int) 0 SH RHO [vR 179] σ dIm (f_M_refuse  σ) := by
  refine call_of_sim (by decide +kernel) (Nat.le_of_ble_eq_true rfl) ?_
  show Sim RX12 cX12_refuse 1 (some .int) 0 SH RHO 0 [(0, vR 179)] [] σ dIm (f_M_refuse  σ)
  unfold f_M_refuse
  refine sim_aload_n 0 rfl dX12_refuse_0 ?_
  refine sim_iconst dX12_refuse_1 (by decide) ?_
  refine sim_putI g_RX12_87 sh_179 dX12_refuse_2 (fun s1 => ?_)
  refine sim_iconst dX12_refuse_5 (by decide) ?_
  exact sim_iret rfl rfl dX12_refuse_6
theorem dX12_stone_0 : decode cX12_stone 0 = .ok (.aload_n 0, 1) := by decide +kernel
theorem dX12_stone_1 : decode cX12_stone 1 = .ok (.iload_n 1, 1) := by decide +kernel
theorem dX12_stone_2 : decode cX12_stone 2 = .ok (.invokevirtual 253, 3) := by decide +kernel
theorem dX12_stone_5 : decode cX12_stone 5 = .ok (.ifCond .eq 12, 3) := by decide +kernel
theorem dX12_stone_8 : decode cX12_stone 8 = .ok (.iload_n 2, 1) := by decide +kernel
theorem dX12_stone_9 : decode cX12_stone 9 = .ok (.iconst 0, 1) := by decide +kernel
theorem dX12_stone_10 : decode cX12_stone 10 = .ok (.iconst 5, 1) := by decide +kernel
theorem dX12_stone_11 : decode cX12_stone 11 = .ok (.invokestatic 158, 3) := by decide +kernel
theorem dX12_stone_14 : decode cX12_stone 14 = .ok (.ifCond .ne 8, 3) := by decide +kernel
theorem dX12_stone_17 : decode cX12_stone 17 = .ok (.aload_n 0, 1) := by decide +kernel
theorem dX12_stone_18 : decode cX12_stone 18 = .ok (.invokevirtual 256, 3) := by decide +kernel
theorem dX12_stone_21 : decode cX12_stone 21 = .ok (.ireturn, 1) := by decide +kernel
theorem dX12_stone_22 : decode cX12_stone 22 = .ok (.aload_n 0, 1) := by decide +kernel
theorem dX12_stone_23 : decode cX12_stone 23 = .ok (.iconst 0, 1) := by decide +kernel
theorem dX12_stone_24 : decode cX12_stone 24 = .ok (.putfield 87, 3) := by decide +kernel
theorem dX12_stone_27 : decode cX12_stone 27 = .ok (.iload_n 2, 1) := by decide +kernel
theorem dX12_stone_28 : decode cX12_stone 28 = .ok (.tableswitch 76 0 4 #[36, 43, 50, 60, 70], 36) := by decide +kernel
theorem dX12_stone_64 : decode cX12_stone 64 = .ok (.aload_n 0, 1) := by decide +kernel
theorem dX12_stone_65 : decode cX12_stone 65 = .ok (.iload_n 1, 1) := by decide +kernel
theorem dX12_stone_66 : decode cX12_stone 66 = .ok (.iconst 0, 1) := by decide +kernel
theorem dX12_stone_67 : decode cX12_stone 67 = .ok (.invokevirtual 243, 3) := by decide +kernel
theorem dX12_stone_70 : decode cX12_stone 70 = .ok (.ireturn, 1) := by decide +kernel
theorem dX12_stone_71 : decode cX12_stone 71 = .ok (.aload_n 0, 1) := by decide +kernel
theorem dX12_stone_72 : decode cX12_stone 72 = .ok (.iload_n 1, 1) := by decide +kernel
theorem dX12_stone_73 : decode cX12_stone 73 = .ok (.iconst 1, 1) := by decide +kernel
theorem dX12_stone_74 : decode cX12_stone 74 = .ok (.invokevirtual 243, 3) := by decide +kernel
theorem dX12_stone_77 : decode cX12_stone 77 = .ok (.ireturn, 1) := by decide +kernel
theorem dX12_stone_78 : decode cX12_stone 78 = .ok (.aload_n 0, 1) := by decide +kernel
theorem dX12_stone_79 : decode cX12_stone 79 = .ok (.getfield 13, 3) := by decide +kernel
theorem dX12_stone_82 : decode cX12_stone 82 = .ok (.bipush 67, 2) := by decide +kernel
theorem dX12_stone_84 : decode cX12_stone 84 = .ok (.iload_n 1, 1) := by decide +kernel
theorem dX12_stone_85 : decode cX12_stone 85 = .ok (.iadd, 1) := by decide +kernel
theorem dX12_stone_86 : decode cX12_stone 86 = .ok (.iaload, 1) := by decide +kernel
theorem dX12_stone_87 : decode cX12_stone 87 = .ok (.ireturn, 1) := by decide +kernel
theorem dX12_stone_88 : decode cX12_stone 88 = .ok (.aload_n 0, 1) := by decide +kernel
theorem dX12_stone_89 : decode cX12_stone 89 = .ok (.getfield 13, 3) := by decide +kernel
theorem dX12_stone_92 : decode cX12_stone 92 = .ok (.bipush 95, 2) := by decide +kernel
theorem dX12_stone_94 : decode cX12_stone 94 = .ok (.iload_n 1, 1) := by decide +kernel
theorem dX12_stone_95 : decode cX12_stone 95 = .ok (.iadd, 1) := by decide +kernel
theorem dX12_stone_96 : decode cX12_stone 96 = .ok (.iaload, 1) := by decide +kernel
theorem dX12_stone_97 : decode cX12_stone 97 = .ok (.ireturn, 1) := by decide +kernel
theorem dX12_stone_98 : decode cX12_stone 98 = .ok (.aload_n 0, 1) := by decide +kernel
theorem dX12_stone_99 : decode cX12_stone 99 = .ok (.iload_n 1, 1) := by decide +kernel
theorem dX12_stone_100 : decode cX12_stone 100 = .ok (.invokevirtual 259, 3) := by decide +kernel
theorem dX12_stone_103 : decode cX12_stone 103 = .ok (.ireturn, 1) := by decide +kernel
theorem dX12_stone_104 : decode cX12_stone 104 = .ok (.aload_n 0, 1) := by decide +kernel
theorem dX12_stone_105 : decode cX12_stone 105 = .ok (.getfield 13, 3) := by decide +kernel
theorem dX12_stone_108 : decode cX12_stone 108 = .ok (.bipush 95, 2) := by decide +kernel
theorem dX12_stone_110 : decode cX12_stone 110 = .ok (.iload_n 1, 1) := by decide +kernel
theorem dX12_stone_111 : decode cX12_stone 111 = .ok (.iadd, 1) := by decide +kernel
theorem dX12_stone_112 : decode cX12_stone 112 = .ok (.iaload, 1) := by decide +kernel
theorem dX12_stone_113 : decode cX12_stone 113 = .ok (.iconst 2, 1) := by decide +kernel
theorem dX12_stone_114 : decode cX12_stone 114 = .ok (.if_icmp .ne 15, 3) := by decide +kernel
theorem dX12_stone_117 : decode cX12_stone 117 = .ok (.aload_n 0, 1) := by decide +kernel
theorem dX12_stone_118 : decode cX12_stone 118 = .ok (.getfield 13, 3) := by decide +kernel
theorem dX12_stone_121 : decode cX12_stone 121 = .ok (.bipush 123, 2) := by decide +kernel
theorem dX12_stone_123 : decode cX12_stone 123 = .ok (.iload_n 1, 1) := by decide +kernel
theorem dX12_stone_124 : decode cX12_stone 124 = .ok (.iadd, 1) := by decide +kernel
theorem dX12_stone_125 : decode cX12_stone 125 = .ok (.iaload, 1) := by decide +kernel
theorem dX12_stone_126 : decode cX12_stone 126 = .ok (.goto 4, 3) := by decide +kernel
theorem dX12_stone_129 : decode cX12_stone 129 = .ok (.iconst (-1), 1) := by decide +kernel
theorem dX12_stone_130 : decode cX12_stone 130 = .ok (.ireturn, 1) := by decide +kernel
def f_M_stone (n : Nat)  (a1 : Int) (a2 : Int) (σ : JSg) : Option (Int × JSg) :=
  bd1 (f_M_isStone a1 σ) fun r1 => jn0 (bd2 (f_M_refuse σ) fun r3 s4 => some (r3, s4)) fun j2 => if r1 = 0 then (j2) else (bd1 (f_M_isIn a2 0 5 σ) fun r5 => if r5 = 0 then (j2) else (lt_ (sp σ 179 0 0) fun s6 => sw_ a2 0 [bd1 (f_M_pip a1 0 s6) fun r7 => some (r7, s6), bd1 (f_M_pip a1 1 s6) fun r8 => some (r8, s6), chk (0 ≤ (w32 (67 + a1)) ∧ (w32 (67 + a1)) < 448) <| some (s6 181 (w32 (67 + a1)).toNat, s6), chk (0 ≤ (w32 (95 + a1)) ∧ (w32 (95 + a1)) < 448) <| some (s6 181 (w32 (95 + a1)).toNat, s6), bd1 (f_M_placeOf n a1 s6) fun r9 => some (r9, s6)] (chk (0 ≤ (w32 (95 + a1)) ∧ (w32 (95 + a1)) < 448) <| if (s6 181 (w32 (95 + a1)).toNat) = 2 then (chk (0 ≤ (w32 (123 + a1)) ∧ (w32 (123 + a1)) < 448) <| some (s6 181 (w32 (123 + a1)).toNat, s6)) else (some ((-1), s6)))))
set_option maxRecDepth 20000 in
set_option maxHeartbeats 4000000 in
theorem k_M_stone  (n : Nat)   (a1 : Int) (a2 : Int) (σ : JSg) : Call yX12_stone cX12_stone 3 (some .int) 2 SH RHO [vR 179, vI a1, vI a2] σ dIm (f_M_stone n a1 a2 σ) := by
  refine call_of_sim (by decide +kernel) (Nat.le_of_ble_eq_true rfl) ?_
  show Sim RX12 cX12_stone 3 (some .int) 2 SH RHO 0 [(0, vR 179), (1, vI a1), (2, vI a2)] [] σ dIm (f_M_stone n a1 a2 σ)
  unfold f_M_stone
  refine sim_aload_n 0 rfl dX12_stone_0 ?_
  refine sim_iload_n 1 rfl dX12_stone_1 ?_
  refine sim_callVIp v_RX12_253 sh_179 dX12_stone_2 (k_M_isStone a1 σ) rfl ⟨by decide, by decide⟩ (S := []) rfl (Nat.le_of_ble_eq_true rfl) (fun r1 => ?_)
  refine sim_jn0 (pc' := 17) ([(0, vR 179)]) ([]) (σ) ?_ (fun j2 hj2 => ?_)
  · refine sim_aload_n 0 rfl dX12_stone_17 ?_
    refine sim_callVIm v_RX12_256 sh_179 dX12_stone_18 (k_M_refuse σ) rfl ⟨by decide, by decide⟩ (S := []) rfl (Nat.le_of_ble_eq_true rfl) (fun r3 s4 => ?_)
    exact sim_iret rfl rfl dX12_stone_21
  refine sim_if_eq (tgt := 17) dX12_stone_5 (by decide) ?_ ?_
  · exact sim_sub [0] rfl (hj2 )
  · refine sim_iload_n 2 rfl dX12_stone_8 ?_
    refine sim_iconst dX12_stone_9 (by decide) ?_
    refine sim_iconst dX12_stone_10 (by decide) ?_
    refine sim_callSIp s_RX12_158 dX12_stone_11 (k_M_isIn SH RHO a2 0 5 σ) rfl ⟨by decide, by decide⟩ (S := []) rfl (Nat.le_of_ble_eq_true rfl) (fun r5 => ?_)
    refine sim_if_ne (tgt := 22) dX12_stone_14 (by decide) ?_ ?_
    · refine sim_aload_n 0 rfl dX12_stone_22 ?_
      refine sim_iconst dX12_stone_23 (by decide) ?_
      refine sim_putI g_RX12_87 sh_179 dX12_stone_24 (fun s6 => ?_)
      refine sim_iload_n 2 rfl dX12_stone_27 ?_
      refine sim_tsw2 (td := 104) [64, 71, 78, 88, 98] dX12_stone_28 (by decide) (by decide) (tsw_of (by decide +kernel)) ⟨?_, ?_, ?_, ?_, ?_, trivial⟩ ?_
      · refine sim_aload_n 0 rfl dX12_stone_64 ?_
        refine sim_iload_n 1 rfl dX12_stone_65 ?_
        refine sim_iconst dX12_stone_66 (by decide) ?_
        refine sim_callVIp v_RX12_243 sh_179 dX12_stone_67 (k_M_pip a1 0 s6) rfl ⟨by decide, by decide⟩ (S := []) rfl (Nat.le_of_ble_eq_true rfl) (fun r7 => ?_)
        exact sim_iret rfl rfl dX12_stone_70
      · refine sim_aload_n 0 rfl dX12_stone_71 ?_
        refine sim_iload_n 1 rfl dX12_stone_72 ?_
        refine sim_iconst dX12_stone_73 (by decide) ?_
        refine sim_callVIp v_RX12_243 sh_179 dX12_stone_74 (k_M_pip a1 1 s6) rfl ⟨by decide, by decide⟩ (S := []) rfl (Nat.le_of_ble_eq_true rfl) (fun r8 => ?_)
        exact sim_iret rfl rfl dX12_stone_77
      · refine sim_aload_n 0 rfl dX12_stone_78 ?_
        refine sim_getR g_RX12_13 sh_179 rh_179_14 dX12_stone_79 ?_
        refine sim_bipush dX12_stone_82 (by decide +kernel) ?_
        refine sim_iload_n 1 rfl dX12_stone_84 ?_
        refine sim_iadd dX12_stone_85 ?_
        refine sim_iaload sh_181 rfl dX12_stone_86 ?_
        exact sim_iret rfl rfl dX12_stone_87
      · refine sim_aload_n 0 rfl dX12_stone_88 ?_
        refine sim_getR g_RX12_13 sh_179 rh_179_14 dX12_stone_89 ?_
        refine sim_bipush dX12_stone_92 (by decide +kernel) ?_
        refine sim_iload_n 1 rfl dX12_stone_94 ?_
        refine sim_iadd dX12_stone_95 ?_
        refine sim_iaload sh_181 rfl dX12_stone_96 ?_
        exact sim_iret rfl rfl dX12_stone_97
      · refine sim_aload_n 0 rfl dX12_stone_98 ?_
        refine sim_iload_n 1 rfl dX12_stone_99 ?_
        refine sim_callVIp v_RX12_259 sh_179 dX12_stone_100 (k_M_placeOf n a1 s6) rfl ⟨by decide, by decide⟩ (S := []) rfl (Nat.le_of_ble_eq_true rfl) (fun r9 => ?_)
        exact sim_iret rfl rfl dX12_stone_103
      · refine sim_aload_n 0 rfl dX12_stone_104 ?_
        refine sim_getR g_RX12_13 sh_179 rh_179_14 dX12_stone_105 ?_
        refine sim_bipush dX12_stone_108 (by decide +kernel) ?_
        refine sim_iload_n 1 rfl dX12_stone_110 ?_
        refine sim_iadd dX12_stone_111 ?_
        refine sim_iaload sh_181 rfl dX12_stone_112 ?_
        refine sim_iconst dX12_stone_113 (by decide) ?_
        refine sim_icmp_ne (tgt := 129) dX12_stone_114 (by decide) ?_ ?_
        · refine sim_iconst dX12_stone_129 (by decide) ?_
          exact sim_iret rfl rfl dX12_stone_130
        · refine sim_aload_n 0 rfl dX12_stone_117 ?_
          refine sim_getR g_RX12_13 sh_179 rh_179_14 dX12_stone_118 ?_
          refine sim_bipush dX12_stone_121 (by decide +kernel) ?_
          refine sim_iload_n 1 rfl dX12_stone_123 ?_
          refine sim_iadd dX12_stone_124 ?_
          refine sim_iaload sh_181 rfl dX12_stone_125 ?_
          refine sim_goto (tgt := 130) dX12_stone_126 (by decide) ?_
          exact sim_iret rfl rfl dX12_stone_130
    · exact sim_sub [0] rfl (hj2 )
theorem dX12_fault_0 : decode cX12_fault 0 = .ok (.aload_n 0, 1) := by decide +kernel
theorem dX12_fault_1 : decode cX12_fault 1 = .ok (.iconst 0, 1) := by decide +kernel
theorem dX12_fault_2 : decode cX12_fault 2 = .ok (.putfield 87, 3) := by decide +kernel
theorem dX12_fault_5 : decode cX12_fault 5 = .ok (.aload_n 0, 1) := by decide +kernel
theorem dX12_fault_6 : decode cX12_fault 6 = .ok (.getfield 149, 3) := by decide +kernel
theorem dX12_fault_9 : decode cX12_fault 9 = .ok (.ireturn, 1) := by decide +kernel
def f_M_fault    (σ : JSg) : Option (Int × JSg) :=
  lt_ (sp σ 179 0 0) fun s1 => some (s1 179 10, s1)
set_option maxRecDepth 20000 in
set_option maxHeartbeats 4000000 in
theorem k_M_fault      (σ : JSg) : Call yX12_fault cX12_fault 1 (some .int) 0 SH RHO [vR 179] σ dIm (f_M_fault  σ) := by
  refine call_of_sim (by decide +kernel) (Nat.le_of_ble_eq_true rfl) ?_
  show Sim RX12 cX12_fault 1 (some .int) 0 SH RHO 0 [(0, vR 179)] [] σ dIm (f_M_fault  σ)
  unfold f_M_fault
  refine sim_aload_n 0 rfl dX12_fault_0 ?_
  refine sim_iconst dX12_fault_1 (by decide) ?_
  refine sim_putI g_RX12_87 sh_179 dX12_fault_2 (fun s1 => ?_)
  refine sim_aload_n 0 rfl dX12_fault_5 ?_
  refine sim_getI g_RX12_149 sh_179 dX12_fault_6 ?_
  exact sim_iret rfl rfl dX12_fault_9
theorem dX12_readWidow_0 : decode cX12_readWidow 0 = .ok (.aload_n 0, 1) := by decide +kernel
theorem dX12_readWidow_1 : decode cX12_readWidow 1 = .ok (.getfield 16, 3) := by decide +kernel
theorem dX12_readWidow_4 : decode cX12_readWidow 4 = .ok (.iconst 0, 1) := by decide +kernel
theorem dX12_readWidow_5 : decode cX12_readWidow 5 = .ok (.iaload, 1) := by decide +kernel
theorem dX12_readWidow_6 : decode cX12_readWidow 6 = .ok (.istore_n 1, 1) := by decide +kernel
theorem dX12_readWidow_7 : decode cX12_readWidow 7 = .ok (.iload_n 1, 1) := by decide +kernel
theorem dX12_readWidow_8 : decode cX12_readWidow 8 = .ok (.bipush 6, 2) := by decide +kernel
theorem dX12_readWidow_10 : decode cX12_readWidow 10 = .ok (.if_icmp .ne 9, 3) := by decide +kernel
theorem dX12_readWidow_13 : decode cX12_readWidow 13 = .ok (.aload_n 0, 1) := by decide +kernel
theorem dX12_readWidow_14 : decode cX12_readWidow 14 = .ok (.iconst 4, 1) := by decide +kernel
theorem dX12_readWidow_15 : decode cX12_readWidow 15 = .ok (.invokevirtual 155, 3) := by decide +kernel
theorem dX12_readWidow_18 : decode cX12_readWidow 18 = .ok (.ireturn, 1) := by decide +kernel
theorem dX12_readWidow_19 : decode cX12_readWidow 19 = .ok (.aload_n 0, 1) := by decide +kernel
theorem dX12_readWidow_20 : decode cX12_readWidow 20 = .ok (.invokevirtual 169, 3) := by decide +kernel
theorem dX12_readWidow_23 : decode cX12_readWidow 23 = .ok (.aload_n 0, 1) := by decide +kernel
theorem dX12_readWidow_24 : decode cX12_readWidow 24 = .ok (.invokevirtual 186, 3) := by decide +kernel
theorem dX12_readWidow_27 : decode cX12_readWidow 27 = .ok (.ifCond .ne 9, 3) := by decide +kernel
theorem dX12_readWidow_30 : decode cX12_readWidow 30 = .ok (.aload_n 0, 1) := by decide +kernel
theorem dX12_readWidow_31 : decode cX12_readWidow 31 = .ok (.iconst 1, 1) := by decide +kernel
theorem dX12_readWidow_32 : decode cX12_readWidow 32 = .ok (.invokevirtual 155, 3) := by decide +kernel
theorem dX12_readWidow_35 : decode cX12_readWidow 35 = .ok (.ireturn, 1) := by decide +kernel
theorem dX12_readWidow_36 : decode cX12_readWidow 36 = .ok (.aload_n 0, 1) := by decide +kernel
theorem dX12_readWidow_37 : decode cX12_readWidow 37 = .ok (.getfield 29, 3) := by decide +kernel
theorem dX12_readWidow_40 : decode cX12_readWidow 40 = .ok (.iload_n 1, 1) := by decide +kernel
theorem dX12_readWidow_41 : decode cX12_readWidow 41 = .ok (.aload_n 0, 1) := by decide +kernel
theorem dX12_readWidow_42 : decode cX12_readWidow 42 = .ok (.getfield 122, 3) := by decide +kernel
theorem dX12_readWidow_45 : decode cX12_readWidow 45 = .ok (.invokestatic 190, 3) := by decide +kernel
theorem dX12_readWidow_48 : decode cX12_readWidow 48 = .ok (.iconst (-1), 1) := by decide +kernel
theorem dX12_readWidow_49 : decode cX12_readWidow 49 = .ok (.if_icmp .eq 9, 3) := by decide +kernel
theorem dX12_readWidow_52 : decode cX12_readWidow 52 = .ok (.aload_n 0, 1) := by decide +kernel
theorem dX12_readWidow_53 : decode cX12_readWidow 53 = .ok (.iconst 3, 1) := by decide +kernel
theorem dX12_readWidow_54 : decode cX12_readWidow 54 = .ok (.invokevirtual 155, 3) := by decide +kernel
theorem dX12_readWidow_57 : decode cX12_readWidow 57 = .ok (.ireturn, 1) := by decide +kernel
theorem dX12_readWidow_58 : decode cX12_readWidow 58 = .ok (.aload_n 0, 1) := by decide +kernel
theorem dX12_readWidow_59 : decode cX12_readWidow 59 = .ok (.getfield 29, 3) := by decide +kernel
theorem dX12_readWidow_62 : decode cX12_readWidow 62 = .ok (.iload_n 1, 1) := by decide +kernel
theorem dX12_readWidow_63 : decode cX12_readWidow 63 = .ok (.aload_n 0, 1) := by decide +kernel
theorem dX12_readWidow_64 : decode cX12_readWidow 64 = .ok (.getfield 122, 3) := by decide +kernel
theorem dX12_readWidow_67 : decode cX12_readWidow 67 = .ok (.lastore, 1) := by decide +kernel
theorem dX12_readWidow_68 : decode cX12_readWidow 68 = .ok (.aload_n 0, 1) := by decide +kernel
theorem dX12_readWidow_69 : decode cX12_readWidow 69 = .ok (.getfield 16, 3) := by decide +kernel
theorem dX12_readWidow_72 : decode cX12_readWidow 72 = .ok (.iconst 0, 1) := by decide +kernel
theorem dX12_readWidow_73 : decode cX12_readWidow 73 = .ok (.dup2, 1) := by decide +kernel
theorem dX12_readWidow_74 : decode cX12_readWidow 74 = .ok (.iaload, 1) := by decide +kernel
theorem dX12_readWidow_75 : decode cX12_readWidow 75 = .ok (.iconst 1, 1) := by decide +kernel
theorem dX12_readWidow_76 : decode cX12_readWidow 76 = .ok (.iadd, 1) := by decide +kernel
theorem dX12_readWidow_77 : decode cX12_readWidow 77 = .ok (.iastore, 1) := by decide +kernel
theorem dX12_readWidow_78 : decode cX12_readWidow 78 = .ok (.aload_n 0, 1) := by decide +kernel
theorem dX12_readWidow_79 : decode cX12_readWidow 79 = .ok (.invokevirtual 169, 3) := by decide +kernel
theorem dX12_readWidow_82 : decode cX12_readWidow 82 = .ok (.iconst 1, 1) := by decide +kernel
theorem dX12_readWidow_83 : decode cX12_readWidow 83 = .ok (.ireturn, 1) := by decide +kernel
def f_M_readWidow (n : Nat)   (σ : JSg) : Option (Int × JSg) :=
  lt_ (σ 182 0) fun v1 => if v1 = 6 then (bd2 (f_M_bad 4 σ) fun r12 s13 => chk (r12 = 0 ∨ r12 = 1) <| some (r12, s13)) else (bd1 (f_M_go n σ) fun s2 => bd1 (f_M_isName n s2) fun r3 => if r3 = 0 then (bd2 (f_M_bad 1 s2) fun r10 s11 => chk (r10 = 0 ∨ r10 = 1) <| some (r10, s11)) else (bd1 (f_M_findIn n 186 6 v1 (s2 179 12) s2) fun r4 => if r4 = (-1) then (chk (0 ≤ v1 ∧ v1 < 6) <| lt_ (sp s2 186 v1.toNat (s2 179 12)) fun s5 => lt_ (sp s5 182 0 (w32 ((s5 182 0) + 1))) fun s6 => bd1 (f_M_go n s6) fun s7 => some (1, s7)) else (bd2 (f_M_bad 3 s2) fun r8 s9 => chk (r8 = 0 ∨ r8 = 1) <| some (r8, s9))))
set_option maxRecDepth 20000 in
set_option maxHeartbeats 4000000 in
theorem k_M_readWidow  (n : Nat)    (σ : JSg) : Call yX12_readWidow cX12_readWidow 2 (some .boolean) 3 SH RHO [vR 179] σ dIm (f_M_readWidow n σ) := by
  refine call_of_sim (by decide +kernel) (Nat.le_of_ble_eq_true rfl) ?_
  show Sim RX12 cX12_readWidow 2 (some .boolean) 3 SH RHO 0 [(0, vR 179)] [] σ dIm (f_M_readWidow n σ)
  unfold f_M_readWidow
  refine sim_aload_n 0 rfl dX12_readWidow_0 ?_
  refine sim_getR g_RX12_16 sh_179 rh_179_15 dX12_readWidow_1 ?_
  refine sim_iconst dX12_readWidow_4 (by decide) ?_
  refine sim_ialoadK (j := 0) sh_182 rfl (by decide) dX12_readWidow_5 ?_
  refine sim_istore_n (fun v1 => [(1, vI v1), (0, vR 179)]) (fun _ => rfl) (by decide) dX12_readWidow_6 (fun v1 => ?_)
  refine sim_iload_n 0 rfl dX12_readWidow_7 ?_
  refine sim_bipush dX12_readWidow_8 (by decide +kernel) ?_
  refine sim_icmp_ne (tgt := 19) dX12_readWidow_10 (by decide) ?_ ?_
  · refine sim_aload_n 1 rfl dX12_readWidow_19 ?_
    refine sim_callVVm v_RX12_169 sh_179 dX12_readWidow_20 (k_M_go n σ) rfl ⟨by decide, by decide⟩ (S := []) rfl (Nat.le_of_ble_eq_true rfl) (fun s2 => ?_)
    refine sim_aload_n 1 rfl dX12_readWidow_23 ?_
    refine sim_callVIp v_RX12_186 sh_179 dX12_readWidow_24 (k_M_isName n s2) rfl ⟨by decide, by decide⟩ (S := []) rfl (Nat.le_of_ble_eq_true rfl) (fun r3 => ?_)
    refine sim_if_ne (tgt := 36) dX12_readWidow_27 (by decide) ?_ ?_
    · refine sim_aload_n 1 rfl dX12_readWidow_36 ?_
      refine sim_getR g_RX12_29 sh_179 rh_179_19 dX12_readWidow_37 ?_
      refine sim_iload_n 0 rfl dX12_readWidow_40 ?_
      refine sim_aload_n 1 rfl dX12_readWidow_41 ?_
      refine sim_getL g_RX12_122 sh_179 dX12_readWidow_42 ?_
      refine sim_callSIp s_RX12_190 dX12_readWidow_45 (k_M_findIn SH RHO n 186 6 sh_186 (okI_lit (by decide)) v1 (s2 179 12) s2) rfl ⟨by decide, by decide⟩ (S := []) rfl (Nat.le_of_ble_eq_true rfl) (fun r4 => ?_)
      refine sim_iconst dX12_readWidow_48 (by decide) ?_
      refine sim_icmp_eq (tgt := 58) dX12_readWidow_49 (by decide) ?_ ?_
      · refine sim_aload_n 1 rfl dX12_readWidow_58 ?_
        refine sim_getR g_RX12_29 sh_179 rh_179_19 dX12_readWidow_59 ?_
        refine sim_iload_n 0 rfl dX12_readWidow_62 ?_
        refine sim_aload_n 1 rfl dX12_readWidow_63 ?_
        refine sim_getL g_RX12_122 sh_179 dX12_readWidow_64 ?_
        refine sim_lastore sh_186 rfl dX12_readWidow_67 (fun s5 => ?_)
        refine sim_aload_n 1 rfl dX12_readWidow_68 ?_
        refine sim_getR g_RX12_16 sh_179 rh_179_15 dX12_readWidow_69 ?_
        refine sim_iconst dX12_readWidow_72 (by decide) ?_
        refine sim_dup2 rfl rfl dX12_readWidow_73 ?_
        refine sim_ialoadK (j := 0) sh_182 rfl (by decide) dX12_readWidow_74 ?_
        refine sim_iconst dX12_readWidow_75 (by decide) ?_
        refine sim_iadd dX12_readWidow_76 ?_
        refine sim_iastoreK (j := 0) sh_182 rfl (by decide) dX12_readWidow_77 (fun s6 => ?_)
        refine sim_aload_n 1 rfl dX12_readWidow_78 ?_
        refine sim_callVVm v_RX12_169 sh_179 dX12_readWidow_79 (k_M_go n s6) rfl ⟨by decide, by decide⟩ (S := []) rfl (Nat.le_of_ble_eq_true rfl) (fun s7 => ?_)
        refine sim_iconst dX12_readWidow_82 (by decide) ?_
        exact sim_zret (Or.inr rfl) rfl rfl dX12_readWidow_83
      · refine sim_aload_n 1 rfl dX12_readWidow_52 ?_
        refine sim_iconst dX12_readWidow_53 (by decide) ?_
        refine sim_callVIm v_RX12_155 sh_179 dX12_readWidow_54 (k_M_bad 3 s2) rfl ⟨by decide, by decide⟩ (S := []) rfl (Nat.le_of_ble_eq_true rfl) (fun r8 s9 => ?_)
        exact sim_zretc rfl rfl dX12_readWidow_57
    · refine sim_aload_n 1 rfl dX12_readWidow_30 ?_
      refine sim_iconst dX12_readWidow_31 (by decide) ?_
      refine sim_callVIm v_RX12_155 sh_179 dX12_readWidow_32 (k_M_bad 1 s2) rfl ⟨by decide, by decide⟩ (S := []) rfl (Nat.le_of_ble_eq_true rfl) (fun r10 s11 => ?_)
      exact sim_zretc rfl rfl dX12_readWidow_35
  · refine sim_aload_n 1 rfl dX12_readWidow_13 ?_
    refine sim_iconst dX12_readWidow_14 (by decide) ?_
    refine sim_callVIm v_RX12_155 sh_179 dX12_readWidow_15 (k_M_bad 4 σ) rfl ⟨by decide, by decide⟩ (S := []) rfl (Nat.le_of_ble_eq_true rfl) (fun r12 s13 => ?_)
    exact sim_zretc rfl rfl dX12_readWidow_18
