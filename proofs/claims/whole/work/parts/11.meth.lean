theorem dX12_isSign_0 : decode cX12_isSign 0 = .ok (.aload_n 0, 1) := by decide +kernel
theorem dX12_isSign_1 : decode cX12_isSign 1 = .ok (.getfield 109, 3) := by decide +kernel
theorem dX12_isSign_4 : decode cX12_isSign 4 = .ok (.iconst 4, 1) := by decide +kernel
theorem dX12_isSign_5 : decode cX12_isSign 5 = .ok (.if_icmp .ne 15, 3) := by decide +kernel
theorem dX12_isSign_8 : decode cX12_isSign 8 = .ok (.aload_n 0, 1) := by decide +kernel
theorem dX12_isSign_9 : decode cX12_isSign 9 = .ok (.getfield 119, 3) := by decide +kernel
theorem dX12_isSign_12 : decode cX12_isSign 12 = .ok (.iload_n 1, 1) := by decide +kernel
theorem dX12_isSign_13 : decode cX12_isSign 13 = .ok (.if_icmp .ne 7, 3) := by decide +kernel
theorem dX12_isSign_16 : decode cX12_isSign 16 = .ok (.iconst 1, 1) := by decide +kernel
theorem dX12_isSign_17 : decode cX12_isSign 17 = .ok (.goto 4, 3) := by decide +kernel
theorem dX12_isSign_20 : decode cX12_isSign 20 = .ok (.iconst 0, 1) := by decide +kernel
theorem dX12_isSign_21 : decode cX12_isSign 21 = .ok (.ireturn, 1) := by decide +kernel
def f_M_isSign   (a1 : Int) (σ : JSg) : Option (Int) :=
  if (σ 179 7) = 4 then (if (σ 179 9) = a1 then (some 1) else (some 0)) else (some 0)
set_option maxRecDepth 20000 in
set_option maxHeartbeats 4000000 in
theorem k_M_isSign     (a1 : Int) (σ : JSg) : Call yX12_isSign cX12_isSign 2 (some .boolean) 0 SH RHO [vR 179, vI a1] σ (dIp σ) (f_M_isSign a1 σ) := by
  refine call_of_sim (by decide +kernel) (Nat.le_of_ble_eq_true rfl) ?_
  show Sim RX12 cX12_isSign 2 (some .boolean) 0 SH RHO 0 [(0, vR 179), (1, vI a1)] [] σ (dIp σ) (f_M_isSign a1 σ)
  unfold f_M_isSign
  refine sim_aload_n 0 rfl dX12_isSign_0 ?_
  refine sim_getI g_RX12_109 sh_179 dX12_isSign_1 ?_
  refine sim_iconst dX12_isSign_4 (by decide) ?_
  refine sim_icmp_ne (tgt := 20) dX12_isSign_5 (by decide) ?_ ?_
  · refine sim_iconst dX12_isSign_20 (by decide) ?_
    exact sim_zret (Or.inl rfl) rfl rfl dX12_isSign_21
  · refine sim_aload_n 0 rfl dX12_isSign_8 ?_
    refine sim_getI g_RX12_119 sh_179 dX12_isSign_9 ?_
    refine sim_iload_n 1 rfl dX12_isSign_12 ?_
    refine sim_icmp_ne (tgt := 20) dX12_isSign_13 (by decide) ?_ ?_
    · refine sim_iconst dX12_isSign_20 (by decide) ?_
      exact sim_zret (Or.inl rfl) rfl rfl dX12_isSign_21
    · refine sim_iconst dX12_isSign_16 (by decide) ?_
      refine sim_goto (tgt := 21) dX12_isSign_17 (by decide) ?_
      exact sim_zret (Or.inr rfl) rfl rfl dX12_isSign_21
theorem dX12_spelt_0 : decode cX12_spelt 0 = .ok (.ldc2_w 133, 3) := by decide +kernel
theorem dX12_spelt_3 : decode cX12_spelt 3 = .ok (.iload_n 0, 1) := by decide +kernel
theorem dX12_spelt_4 : decode cX12_spelt 4 = .ok (.i2l, 1) := by decide +kernel
theorem dX12_spelt_5 : decode cX12_spelt 5 = .ok (.ldc2_w 135, 3) := by decide +kernel
theorem dX12_spelt_8 : decode cX12_spelt 8 = .ok (.lsub, 1) := by decide +kernel
theorem dX12_spelt_9 : decode cX12_spelt 9 = .ok (.lmul, 1) := by decide +kernel
theorem dX12_spelt_10 : decode cX12_spelt 10 = .ok (.iload_n 1, 1) := by decide +kernel
theorem dX12_spelt_11 : decode cX12_spelt 11 = .ok (.i2l, 1) := by decide +kernel
theorem dX12_spelt_12 : decode cX12_spelt 12 = .ok (.ladd, 1) := by decide +kernel
theorem dX12_spelt_13 : decode cX12_spelt 13 = .ok (.ldc2_w 135, 3) := by decide +kernel
theorem dX12_spelt_16 : decode cX12_spelt 16 = .ok (.lsub, 1) := by decide +kernel
theorem dX12_spelt_17 : decode cX12_spelt 17 = .ok (.lstore 4, 2) := by decide +kernel
theorem dX12_spelt_19 : decode cX12_spelt 19 = .ok (.iload_n 2, 1) := by decide +kernel
theorem dX12_spelt_20 : decode cX12_spelt 20 = .ok (.ifCond .le 18, 3) := by decide +kernel
theorem dX12_spelt_23 : decode cX12_spelt 23 = .ok (.ldc2_w 133, 3) := by decide +kernel
theorem dX12_spelt_26 : decode cX12_spelt 26 = .ok (.lload 4, 2) := by decide +kernel
theorem dX12_spelt_28 : decode cX12_spelt 28 = .ok (.lmul, 1) := by decide +kernel
theorem dX12_spelt_29 : decode cX12_spelt 29 = .ok (.iload_n 2, 1) := by decide +kernel
theorem dX12_spelt_30 : decode cX12_spelt 30 = .ok (.i2l, 1) := by decide +kernel
theorem dX12_spelt_31 : decode cX12_spelt 31 = .ok (.ladd, 1) := by decide +kernel
theorem dX12_spelt_32 : decode cX12_spelt 32 = .ok (.ldc2_w 135, 3) := by decide +kernel
theorem dX12_spelt_35 : decode cX12_spelt 35 = .ok (.lsub, 1) := by decide +kernel
theorem dX12_spelt_36 : decode cX12_spelt 36 = .ok (.lstore 4, 2) := by decide +kernel
theorem dX12_spelt_38 : decode cX12_spelt 38 = .ok (.iload_n 3, 1) := by decide +kernel
theorem dX12_spelt_39 : decode cX12_spelt 39 = .ok (.ifCond .le 19, 3) := by decide +kernel
theorem dX12_spelt_42 : decode cX12_spelt 42 = .ok (.ldc2_w 133, 3) := by decide +kernel
theorem dX12_spelt_45 : decode cX12_spelt 45 = .ok (.lload 4, 2) := by decide +kernel
theorem dX12_spelt_47 : decode cX12_spelt 47 = .ok (.lmul, 1) := by decide +kernel
theorem dX12_spelt_48 : decode cX12_spelt 48 = .ok (.iload_n 3, 1) := by decide +kernel
theorem dX12_spelt_49 : decode cX12_spelt 49 = .ok (.i2l, 1) := by decide +kernel
theorem dX12_spelt_50 : decode cX12_spelt 50 = .ok (.ladd, 1) := by decide +kernel
theorem dX12_spelt_51 : decode cX12_spelt 51 = .ok (.ldc2_w 135, 3) := by decide +kernel
theorem dX12_spelt_54 : decode cX12_spelt 54 = .ok (.lsub, 1) := by decide +kernel
theorem dX12_spelt_55 : decode cX12_spelt 55 = .ok (.goto 5, 3) := by decide +kernel
theorem dX12_spelt_58 : decode cX12_spelt 58 = .ok (.lload 4, 2) := by decide +kernel
theorem dX12_spelt_60 : decode cX12_spelt 60 = .ok (.lreturn, 1) := by decide +kernel
def f_M_spelt   (a1 : Int) (a2 : Int) (a3 : Int) (a4 : Int) (σ : JSg) : Option (Int) :=
  lt_ (w64 ((w64 ((w64 (27 * (w64 (a1 - 96)))) + a2)) - 96)) fun v1 => jn1 (fun (y3 : Int) => if 0 < a4 then (some (w64 ((w64 ((w64 (27 * y3)) + a4)) - 96))) else (some y3)) fun j2 => if 0 < a3 then (lt_ (w64 ((w64 ((w64 (27 * v1)) + a3)) - 96)) fun v4 => j2 v4) else (j2 v1)
set_option maxRecDepth 20000 in
set_option maxHeartbeats 4000000 in
theorem k_M_spelt (Sh : JSh) (ρ : JRo)    (a1 : Int) (a2 : Int) (a3 : Int) (a4 : Int) (σ : JSg) : Call yX12_spelt cX12_spelt 6 (some .long) 0 Sh ρ [vI a1, vI a2, vI a3, vI a4] σ (dLp σ) (f_M_spelt a1 a2 a3 a4 σ) := by
  refine call_of_sim (by decide +kernel) (Nat.le_of_ble_eq_true rfl) ?_
  show Sim RX12 cX12_spelt 6 (some .long) 0 Sh ρ 0 [(0, vI a1), (1, vI a2), (2, vI a3), (3, vI a4)] [] σ (dLp σ) (f_M_spelt a1 a2 a3 a4 σ)
  unfold f_M_spelt
  refine sim_ldc2 (v := 27) w_1687 (by decide +kernel) dX12_spelt_0 ?_
  refine sim_iload_n 0 rfl dX12_spelt_3 ?_
  refine sim_i2l dX12_spelt_4 ?_
  refine sim_ldc2 (v := 96) w_1688 (by decide +kernel) dX12_spelt_5 ?_
  refine sim_lsub dX12_spelt_8 ?_
  refine sim_lmul dX12_spelt_9 ?_
  refine sim_iload_n 1 rfl dX12_spelt_10 ?_
  refine sim_i2l dX12_spelt_11 ?_
  refine sim_ladd dX12_spelt_12 ?_
  refine sim_ldc2 (v := 96) w_1688 (by decide +kernel) dX12_spelt_13 ?_
  refine sim_lsub dX12_spelt_16 ?_
  refine sim_lstore (fun v1 => [(4, vL v1), (0, vI a1), (1, vI a2), (2, vI a3), (3, vI a4)]) (fun _ => rfl) (by decide) dX12_spelt_17 (fun v1 => ?_)
  refine sim_iload_n 3 rfl dX12_spelt_19 ?_
  refine sim_jn1 (pc' := 38) (fun (y3 : Int) => [(3, vI a4), (4, vL y3)]) (fun (y3 : Int) => []) (fun (y3 : Int) => σ) ?_ (fun j2 hj2 => ?_)
  · intro y3
    refine sim_iload_n 0 rfl dX12_spelt_38 ?_
    refine sim_if_le (tgt := 58) dX12_spelt_39 (by decide) ?_ ?_
    · refine sim_lload 1 rfl dX12_spelt_58 ?_
      exact sim_lret rfl rfl dX12_spelt_60
    · refine sim_ldc2 (v := 27) w_1687 (by decide +kernel) dX12_spelt_42 ?_
      refine sim_lload 1 rfl dX12_spelt_45 ?_
      refine sim_lmul dX12_spelt_47 ?_
      refine sim_iload_n 0 rfl dX12_spelt_48 ?_
      refine sim_i2l dX12_spelt_49 ?_
      refine sim_ladd dX12_spelt_50 ?_
      refine sim_ldc2 (v := 96) w_1688 (by decide +kernel) dX12_spelt_51 ?_
      refine sim_lsub dX12_spelt_54 ?_
      refine sim_goto (tgt := 60) dX12_spelt_55 (by decide) ?_
      exact sim_lret rfl rfl dX12_spelt_60
  refine sim_if_le (tgt := 38) dX12_spelt_20 (by decide) ?_ ?_
  · exact sim_sub [4, 0] rfl (hj2 v1)
  · refine sim_ldc2 (v := 27) w_1687 (by decide +kernel) dX12_spelt_23 ?_
    refine sim_lload 0 rfl dX12_spelt_26 ?_
    refine sim_lmul dX12_spelt_28 ?_
    refine sim_iload_n 3 rfl dX12_spelt_29 ?_
    refine sim_i2l dX12_spelt_30 ?_
    refine sim_ladd dX12_spelt_31 ?_
    refine sim_ldc2 (v := 96) w_1688 (by decide +kernel) dX12_spelt_32 ?_
    refine sim_lsub dX12_spelt_35 ?_
    refine sim_lstore (fun v4 => [(4, vL v4), (0, vI a1), (1, vI a2), (2, vI a3), (3, vI a4)]) (fun _ => rfl) (by decide) dX12_spelt_36 (fun v4 => ?_)
    exact sim_sub [4, 0] rfl (hj2 v4)
theorem dX12_on_0 : decode cX12_on 0 = .ok (.ldc2_w 133, 3) := by decide +kernel
theorem dX12_on_3 : decode cX12_on 3 = .ok (.lload_n 0, 1) := by decide +kernel
theorem dX12_on_4 : decode cX12_on 4 = .ok (.lmul, 1) := by decide +kernel
theorem dX12_on_5 : decode cX12_on 5 = .ok (.iload_n 2, 1) := by decide +kernel
theorem dX12_on_6 : decode cX12_on 6 = .ok (.i2l, 1) := by decide +kernel
theorem dX12_on_7 : decode cX12_on 7 = .ok (.ladd, 1) := by decide +kernel
theorem dX12_on_8 : decode cX12_on 8 = .ok (.ldc2_w 135, 3) := by decide +kernel
theorem dX12_on_11 : decode cX12_on 11 = .ok (.lsub, 1) := by decide +kernel
theorem dX12_on_12 : decode cX12_on 12 = .ok (.lstore 5, 2) := by decide +kernel
theorem dX12_on_14 : decode cX12_on 14 = .ok (.iload_n 3, 1) := by decide +kernel
theorem dX12_on_15 : decode cX12_on 15 = .ok (.ifCond .le 18, 3) := by decide +kernel
theorem dX12_on_18 : decode cX12_on 18 = .ok (.ldc2_w 133, 3) := by decide +kernel
theorem dX12_on_21 : decode cX12_on 21 = .ok (.lload 5, 2) := by decide +kernel
theorem dX12_on_23 : decode cX12_on 23 = .ok (.lmul, 1) := by decide +kernel
theorem dX12_on_24 : decode cX12_on 24 = .ok (.iload_n 3, 1) := by decide +kernel
theorem dX12_on_25 : decode cX12_on 25 = .ok (.i2l, 1) := by decide +kernel
theorem dX12_on_26 : decode cX12_on 26 = .ok (.ladd, 1) := by decide +kernel
theorem dX12_on_27 : decode cX12_on 27 = .ok (.ldc2_w 135, 3) := by decide +kernel
theorem dX12_on_30 : decode cX12_on 30 = .ok (.lsub, 1) := by decide +kernel
theorem dX12_on_31 : decode cX12_on 31 = .ok (.lstore 5, 2) := by decide +kernel
theorem dX12_on_33 : decode cX12_on 33 = .ok (.iload 4, 2) := by decide +kernel
theorem dX12_on_35 : decode cX12_on 35 = .ok (.ifCond .le 20, 3) := by decide +kernel
theorem dX12_on_38 : decode cX12_on 38 = .ok (.ldc2_w 133, 3) := by decide +kernel
theorem dX12_on_41 : decode cX12_on 41 = .ok (.lload 5, 2) := by decide +kernel
theorem dX12_on_43 : decode cX12_on 43 = .ok (.lmul, 1) := by decide +kernel
theorem dX12_on_44 : decode cX12_on 44 = .ok (.iload 4, 2) := by decide +kernel
theorem dX12_on_46 : decode cX12_on 46 = .ok (.i2l, 1) := by decide +kernel
theorem dX12_on_47 : decode cX12_on 47 = .ok (.ladd, 1) := by decide +kernel
theorem dX12_on_48 : decode cX12_on 48 = .ok (.ldc2_w 135, 3) := by decide +kernel
theorem dX12_on_51 : decode cX12_on 51 = .ok (.lsub, 1) := by decide +kernel
theorem dX12_on_52 : decode cX12_on 52 = .ok (.goto 5, 3) := by decide +kernel
theorem dX12_on_55 : decode cX12_on 55 = .ok (.lload 5, 2) := by decide +kernel
theorem dX12_on_57 : decode cX12_on 57 = .ok (.lreturn, 1) := by decide +kernel
def f_M_on   (a1 : Int) (a2 : Int) (a3 : Int) (a4 : Int) (σ : JSg) : Option (Int) :=
  lt_ (w64 ((w64 ((w64 (27 * a1)) + a2)) - 96)) fun v1 => jn1 (fun (y3 : Int) => if 0 < a4 then (some (w64 ((w64 ((w64 (27 * y3)) + a4)) - 96))) else (some y3)) fun j2 => if 0 < a3 then (lt_ (w64 ((w64 ((w64 (27 * v1)) + a3)) - 96)) fun v4 => j2 v4) else (j2 v1)
set_option maxRecDepth 20000 in
set_option maxHeartbeats 4000000 in
theorem k_M_on (Sh : JSh) (ρ : JRo)    (a1 : Int) (a2 : Int) (a3 : Int) (a4 : Int) (σ : JSg) : Call yX12_on cX12_on 7 (some .long) 0 Sh ρ [vL a1, vI a2, vI a3, vI a4] σ (dLp σ) (f_M_on a1 a2 a3 a4 σ) := by
  refine call_of_sim (by decide +kernel) (Nat.le_of_ble_eq_true rfl) ?_
  show Sim RX12 cX12_on 7 (some .long) 0 Sh ρ 0 [(0, vL a1), (2, vI a2), (3, vI a3), (4, vI a4)] [] σ (dLp σ) (f_M_on a1 a2 a3 a4 σ)
  unfold f_M_on
  refine sim_ldc2 (v := 27) w_1687 (by decide +kernel) dX12_on_0 ?_
  refine sim_lload_n 0 rfl dX12_on_3 ?_
  refine sim_lmul dX12_on_4 ?_
  refine sim_iload_n 1 rfl dX12_on_5 ?_
  refine sim_i2l dX12_on_6 ?_
  refine sim_ladd dX12_on_7 ?_
  refine sim_ldc2 (v := 96) w_1688 (by decide +kernel) dX12_on_8 ?_
  refine sim_lsub dX12_on_11 ?_
  refine sim_lstore (fun v1 => [(5, vL v1), (0, vL a1), (2, vI a2), (3, vI a3), (4, vI a4)]) (fun _ => rfl) (by decide) dX12_on_12 (fun v1 => ?_)
  refine sim_iload_n 3 rfl dX12_on_14 ?_
  refine sim_jn1 (pc' := 33) (fun (y3 : Int) => [(4, vI a4), (5, vL y3)]) (fun (y3 : Int) => []) (fun (y3 : Int) => σ) ?_ (fun j2 hj2 => ?_)
  · intro y3
    refine sim_iload 0 rfl dX12_on_33 ?_
    refine sim_if_le (tgt := 55) dX12_on_35 (by decide) ?_ ?_
    · refine sim_lload 1 rfl dX12_on_55 ?_
      exact sim_lret rfl rfl dX12_on_57
    · refine sim_ldc2 (v := 27) w_1687 (by decide +kernel) dX12_on_38 ?_
      refine sim_lload 1 rfl dX12_on_41 ?_
      refine sim_lmul dX12_on_43 ?_
      refine sim_iload 0 rfl dX12_on_44 ?_
      refine sim_i2l dX12_on_46 ?_
      refine sim_ladd dX12_on_47 ?_
      refine sim_ldc2 (v := 96) w_1688 (by decide +kernel) dX12_on_48 ?_
      refine sim_lsub dX12_on_51 ?_
      refine sim_goto (tgt := 57) dX12_on_52 (by decide) ?_
      exact sim_lret rfl rfl dX12_on_57
  refine sim_if_le (tgt := 33) dX12_on_15 (by decide) ?_ ?_
  · exact sim_sub [4, 0] rfl (hj2 v1)
  · refine sim_ldc2 (v := 27) w_1687 (by decide +kernel) dX12_on_18 ?_
    refine sim_lload 0 rfl dX12_on_21 ?_
    refine sim_lmul dX12_on_23 ?_
    refine sim_iload_n 3 rfl dX12_on_24 ?_
    refine sim_i2l dX12_on_25 ?_
    refine sim_ladd dX12_on_26 ?_
    refine sim_ldc2 (v := 96) w_1688 (by decide +kernel) dX12_on_27 ?_
    refine sim_lsub dX12_on_30 ?_
    refine sim_lstore (fun v4 => [(5, vL v4), (0, vL a1), (2, vI a2), (3, vI a3), (4, vI a4)]) (fun _ => rfl) (by decide) dX12_on_31 (fun v4 => ?_)
    exact sim_sub [4, 0] rfl (hj2 v4)
theorem dX12_wordOf_0 : decode cX12_wordOf 0 = .ok (.iload_n 0, 1) := by decide +kernel
theorem dX12_wordOf_1 : decode cX12_wordOf 1 = .ok (.tableswitch 360 0 18 #[91, 110, 129, 150, 171, 183, 195, 207, 227, 237, 248, 259, 279, 291, 303, 313, 325, 337, 349], 91) := by decide +kernel
theorem dX12_wordOf_92 : decode cX12_wordOf 92 = .ok (.bipush 119, 2) := by decide +kernel
theorem dX12_wordOf_94 : decode cX12_wordOf 94 = .ok (.bipush 105, 2) := by decide +kernel
theorem dX12_wordOf_96 : decode cX12_wordOf 96 = .ok (.bipush 100, 2) := by decide +kernel
theorem dX12_wordOf_98 : decode cX12_wordOf 98 = .ok (.bipush 111, 2) := by decide +kernel
theorem dX12_wordOf_100 : decode cX12_wordOf 100 = .ok (.invokestatic 137, 3) := by decide +kernel
theorem dX12_wordOf_103 : decode cX12_wordOf 103 = .ok (.bipush 119, 2) := by decide +kernel
theorem dX12_wordOf_105 : decode cX12_wordOf 105 = .ok (.iconst 0, 1) := by decide +kernel
theorem dX12_wordOf_106 : decode cX12_wordOf 106 = .ok (.iconst 0, 1) := by decide +kernel
theorem dX12_wordOf_107 : decode cX12_wordOf 107 = .ok (.invokestatic 141, 3) := by decide +kernel
theorem dX12_wordOf_110 : decode cX12_wordOf 110 = .ok (.lreturn, 1) := by decide +kernel
theorem dX12_wordOf_111 : decode cX12_wordOf 111 = .ok (.bipush 115, 2) := by decide +kernel
theorem dX12_wordOf_113 : decode cX12_wordOf 113 = .ok (.bipush 116, 2) := by decide +kernel
theorem dX12_wordOf_115 : decode cX12_wordOf 115 = .ok (.bipush 111, 2) := by decide +kernel
theorem dX12_wordOf_117 : decode cX12_wordOf 117 = .ok (.bipush 110, 2) := by decide +kernel
theorem dX12_wordOf_119 : decode cX12_wordOf 119 = .ok (.invokestatic 137, 3) := by decide +kernel
theorem dX12_wordOf_122 : decode cX12_wordOf 122 = .ok (.bipush 101, 2) := by decide +kernel
theorem dX12_wordOf_124 : decode cX12_wordOf 124 = .ok (.iconst 0, 1) := by decide +kernel
theorem dX12_wordOf_125 : decode cX12_wordOf 125 = .ok (.iconst 0, 1) := by decide +kernel
theorem dX12_wordOf_126 : decode cX12_wordOf 126 = .ok (.invokestatic 141, 3) := by decide +kernel
theorem dX12_wordOf_129 : decode cX12_wordOf 129 = .ok (.lreturn, 1) := by decide +kernel
theorem dX12_wordOf_130 : decode cX12_wordOf 130 = .ok (.bipush 102, 2) := by decide +kernel
theorem dX12_wordOf_132 : decode cX12_wordOf 132 = .ok (.bipush 111, 2) := by decide +kernel
theorem dX12_wordOf_134 : decode cX12_wordOf 134 = .ok (.bipush 114, 2) := by decide +kernel
theorem dX12_wordOf_136 : decode cX12_wordOf 136 = .ok (.bipush 103, 2) := by decide +kernel
theorem dX12_wordOf_138 : decode cX12_wordOf 138 = .ok (.invokestatic 137, 3) := by decide +kernel
theorem dX12_wordOf_141 : decode cX12_wordOf 141 = .ok (.bipush 105, 2) := by decide +kernel
theorem dX12_wordOf_143 : decode cX12_wordOf 143 = .ok (.bipush 118, 2) := by decide +kernel
theorem dX12_wordOf_145 : decode cX12_wordOf 145 = .ok (.bipush 101, 2) := by decide +kernel
theorem dX12_wordOf_147 : decode cX12_wordOf 147 = .ok (.invokestatic 141, 3) := by decide +kernel
theorem dX12_wordOf_150 : decode cX12_wordOf 150 = .ok (.lreturn, 1) := by decide +kernel
theorem dX12_wordOf_151 : decode cX12_wordOf 151 = .ok (.bipush 113, 2) := by decide +kernel
theorem dX12_wordOf_153 : decode cX12_wordOf 153 = .ok (.bipush 117, 2) := by decide +kernel
theorem dX12_wordOf_155 : decode cX12_wordOf 155 = .ok (.bipush 97, 2) := by decide +kernel
theorem dX12_wordOf_157 : decode cX12_wordOf 157 = .ok (.bipush 114, 2) := by decide +kernel
theorem dX12_wordOf_159 : decode cX12_wordOf 159 = .ok (.invokestatic 137, 3) := by decide +kernel
theorem dX12_wordOf_162 : decode cX12_wordOf 162 = .ok (.bipush 114, 2) := by decide +kernel
theorem dX12_wordOf_164 : decode cX12_wordOf 164 = .ok (.bipush 101, 2) := by decide +kernel
theorem dX12_wordOf_166 : decode cX12_wordOf 166 = .ok (.bipush 108, 2) := by decide +kernel
theorem dX12_wordOf_168 : decode cX12_wordOf 168 = .ok (.invokestatic 141, 3) := by decide +kernel
theorem dX12_wordOf_171 : decode cX12_wordOf 171 = .ok (.lreturn, 1) := by decide +kernel
theorem dX12_wordOf_172 : decode cX12_wordOf 172 = .ok (.bipush 112, 2) := by decide +kernel
theorem dX12_wordOf_174 : decode cX12_wordOf 174 = .ok (.bipush 97, 2) := by decide +kernel
theorem dX12_wordOf_176 : decode cX12_wordOf 176 = .ok (.bipush 119, 2) := by decide +kernel
theorem dX12_wordOf_178 : decode cX12_wordOf 178 = .ok (.bipush 110, 2) := by decide +kernel
theorem dX12_wordOf_180 : decode cX12_wordOf 180 = .ok (.invokestatic 137, 3) := by decide +kernel
theorem dX12_wordOf_183 : decode cX12_wordOf 183 = .ok (.lreturn, 1) := by decide +kernel
theorem dX12_wordOf_184 : decode cX12_wordOf 184 = .ok (.bipush 100, 2) := by decide +kernel
theorem dX12_wordOf_186 : decode cX12_wordOf 186 = .ok (.bipush 101, 2) := by decide +kernel
theorem dX12_wordOf_188 : decode cX12_wordOf 188 = .ok (.bipush 97, 2) := by decide +kernel
theorem dX12_wordOf_190 : decode cX12_wordOf 190 = .ok (.bipush 108, 2) := by decide +kernel
theorem dX12_wordOf_192 : decode cX12_wordOf 192 = .ok (.invokestatic 137, 3) := by decide +kernel
theorem dX12_wordOf_195 : decode cX12_wordOf 195 = .ok (.lreturn, 1) := by decide +kernel
theorem dX12_wordOf_196 : decode cX12_wordOf 196 = .ok (.bipush 115, 2) := by decide +kernel
theorem dX12_wordOf_198 : decode cX12_wordOf 198 = .ok (.bipush 101, 2) := by decide +kernel
theorem dX12_wordOf_200 : decode cX12_wordOf 200 = .ok (.bipush 101, 2) := by decide +kernel
theorem dX12_wordOf_202 : decode cX12_wordOf 202 = .ok (.bipush 110, 2) := by decide +kernel
theorem dX12_wordOf_204 : decode cX12_wordOf 204 = .ok (.invokestatic 137, 3) := by decide +kernel
theorem dX12_wordOf_207 : decode cX12_wordOf 207 = .ok (.lreturn, 1) := by decide +kernel
theorem dX12_wordOf_208 : decode cX12_wordOf 208 = .ok (.bipush 112, 2) := by decide +kernel
theorem dX12_wordOf_210 : decode cX12_wordOf 210 = .ok (.bipush 97, 2) := by decide +kernel
theorem dX12_wordOf_212 : decode cX12_wordOf 212 = .ok (.bipush 115, 2) := by decide +kernel
theorem dX12_wordOf_214 : decode cX12_wordOf 214 = .ok (.bipush 115, 2) := by decide +kernel
theorem dX12_wordOf_216 : decode cX12_wordOf 216 = .ok (.invokestatic 137, 3) := by decide +kernel
theorem dX12_wordOf_219 : decode cX12_wordOf 219 = .ok (.bipush 101, 2) := by decide +kernel
theorem dX12_wordOf_221 : decode cX12_wordOf 221 = .ok (.bipush 100, 2) := by decide +kernel
theorem dX12_wordOf_223 : decode cX12_wordOf 223 = .ok (.iconst 0, 1) := by decide +kernel
theorem dX12_wordOf_224 : decode cX12_wordOf 224 = .ok (.invokestatic 141, 3) := by decide +kernel
theorem dX12_wordOf_227 : decode cX12_wordOf 227 = .ok (.lreturn, 1) := by decide +kernel
theorem dX12_wordOf_228 : decode cX12_wordOf 228 = .ok (.bipush 111, 2) := by decide +kernel
theorem dX12_wordOf_230 : decode cX12_wordOf 230 = .ok (.bipush 114, 2) := by decide +kernel
theorem dX12_wordOf_232 : decode cX12_wordOf 232 = .ok (.iconst 0, 1) := by decide +kernel
theorem dX12_wordOf_233 : decode cX12_wordOf 233 = .ok (.iconst 0, 1) := by decide +kernel
theorem dX12_wordOf_234 : decode cX12_wordOf 234 = .ok (.invokestatic 137, 3) := by decide +kernel
theorem dX12_wordOf_237 : decode cX12_wordOf 237 = .ok (.lreturn, 1) := by decide +kernel
theorem dX12_wordOf_238 : decode cX12_wordOf 238 = .ok (.bipush 97, 2) := by decide +kernel
theorem dX12_wordOf_240 : decode cX12_wordOf 240 = .ok (.bipush 110, 2) := by decide +kernel
theorem dX12_wordOf_242 : decode cX12_wordOf 242 = .ok (.bipush 100, 2) := by decide +kernel
theorem dX12_wordOf_244 : decode cX12_wordOf 244 = .ok (.iconst 0, 1) := by decide +kernel
theorem dX12_wordOf_245 : decode cX12_wordOf 245 = .ok (.invokestatic 137, 3) := by decide +kernel
theorem dX12_wordOf_248 : decode cX12_wordOf 248 = .ok (.lreturn, 1) := by decide +kernel
theorem dX12_wordOf_249 : decode cX12_wordOf 249 = .ok (.bipush 110, 2) := by decide +kernel
theorem dX12_wordOf_251 : decode cX12_wordOf 251 = .ok (.bipush 111, 2) := by decide +kernel
theorem dX12_wordOf_253 : decode cX12_wordOf 253 = .ok (.bipush 116, 2) := by decide +kernel
theorem dX12_wordOf_255 : decode cX12_wordOf 255 = .ok (.iconst 0, 1) := by decide +kernel
theorem dX12_wordOf_256 : decode cX12_wordOf 256 = .ok (.invokestatic 137, 3) := by decide +kernel
theorem dX12_wordOf_259 : decode cX12_wordOf 259 = .ok (.lreturn, 1) := by decide +kernel
theorem dX12_wordOf_260 : decode cX12_wordOf 260 = .ok (.bipush 100, 2) := by decide +kernel
theorem dX12_wordOf_262 : decode cX12_wordOf 262 = .ok (.bipush 111, 2) := by decide +kernel
theorem dX12_wordOf_264 : decode cX12_wordOf 264 = .ok (.bipush 117, 2) := by decide +kernel
theorem dX12_wordOf_266 : decode cX12_wordOf 266 = .ok (.bipush 98, 2) := by decide +kernel
theorem dX12_wordOf_268 : decode cX12_wordOf 268 = .ok (.invokestatic 137, 3) := by decide +kernel
theorem dX12_wordOf_271 : decode cX12_wordOf 271 = .ok (.bipush 108, 2) := by decide +kernel
theorem dX12_wordOf_273 : decode cX12_wordOf 273 = .ok (.bipush 101, 2) := by decide +kernel
theorem dX12_wordOf_275 : decode cX12_wordOf 275 = .ok (.iconst 0, 1) := by decide +kernel
theorem dX12_wordOf_276 : decode cX12_wordOf 276 = .ok (.invokestatic 141, 3) := by decide +kernel
theorem dX12_wordOf_279 : decode cX12_wordOf 279 = .ok (.lreturn, 1) := by decide +kernel
theorem dX12_wordOf_280 : decode cX12_wordOf 280 = .ok (.bipush 108, 2) := by decide +kernel
theorem dX12_wordOf_282 : decode cX12_wordOf 282 = .ok (.bipush 97, 2) := by decide +kernel
theorem dX12_wordOf_284 : decode cX12_wordOf 284 = .ok (.bipush 105, 2) := by decide +kernel
theorem dX12_wordOf_286 : decode cX12_wordOf 286 = .ok (.bipush 100, 2) := by decide +kernel
theorem dX12_wordOf_288 : decode cX12_wordOf 288 = .ok (.invokestatic 137, 3) := by decide +kernel
theorem dX12_wordOf_291 : decode cX12_wordOf 291 = .ok (.lreturn, 1) := by decide +kernel
theorem dX12_wordOf_292 : decode cX12_wordOf 292 = .ok (.bipush 104, 2) := by decide +kernel
theorem dX12_wordOf_294 : decode cX12_wordOf 294 = .ok (.bipush 101, 2) := by decide +kernel
theorem dX12_wordOf_296 : decode cX12_wordOf 296 = .ok (.bipush 108, 2) := by decide +kernel
theorem dX12_wordOf_298 : decode cX12_wordOf 298 = .ok (.bipush 100, 2) := by decide +kernel
theorem dX12_wordOf_300 : decode cX12_wordOf 300 = .ok (.invokestatic 137, 3) := by decide +kernel
theorem dX12_wordOf_303 : decode cX12_wordOf 303 = .ok (.lreturn, 1) := by decide +kernel
theorem dX12_wordOf_304 : decode cX12_wordOf 304 = .ok (.bipush 111, 2) := by decide +kernel
theorem dX12_wordOf_306 : decode cX12_wordOf 306 = .ok (.bipush 102, 2) := by decide +kernel
theorem dX12_wordOf_308 : decode cX12_wordOf 308 = .ok (.iconst 0, 1) := by decide +kernel
theorem dX12_wordOf_309 : decode cX12_wordOf 309 = .ok (.iconst 0, 1) := by decide +kernel
theorem dX12_wordOf_310 : decode cX12_wordOf 310 = .ok (.invokestatic 137, 3) := by decide +kernel
theorem dX12_wordOf_313 : decode cX12_wordOf 313 = .ok (.lreturn, 1) := by decide +kernel
theorem dX12_wordOf_314 : decode cX12_wordOf 314 = .ok (.bipush 102, 2) := by decide +kernel
theorem dX12_wordOf_316 : decode cX12_wordOf 316 = .ok (.bipush 105, 2) := by decide +kernel
theorem dX12_wordOf_318 : decode cX12_wordOf 318 = .ok (.bipush 116, 2) := by decide +kernel
theorem dX12_wordOf_320 : decode cX12_wordOf 320 = .ok (.bipush 115, 2) := by decide +kernel
theorem dX12_wordOf_322 : decode cX12_wordOf 322 = .ok (.invokestatic 137, 3) := by decide +kernel
theorem dX12_wordOf_325 : decode cX12_wordOf 325 = .ok (.lreturn, 1) := by decide +kernel
theorem dX12_wordOf_326 : decode cX12_wordOf 326 = .ok (.bipush 112, 2) := by decide +kernel
theorem dX12_wordOf_328 : decode cX12_wordOf 328 = .ok (.bipush 105, 2) := by decide +kernel
theorem dX12_wordOf_330 : decode cX12_wordOf 330 = .ok (.bipush 112, 2) := by decide +kernel
theorem dX12_wordOf_332 : decode cX12_wordOf 332 = .ok (.bipush 115, 2) := by decide +kernel
theorem dX12_wordOf_334 : decode cX12_wordOf 334 = .ok (.invokestatic 137, 3) := by decide +kernel
theorem dX12_wordOf_337 : decode cX12_wordOf 337 = .ok (.lreturn, 1) := by decide +kernel
theorem dX12_wordOf_338 : decode cX12_wordOf 338 = .ok (.bipush 104, 2) := by decide +kernel
theorem dX12_wordOf_340 : decode cX12_wordOf 340 = .ok (.bipush 105, 2) := by decide +kernel
theorem dX12_wordOf_342 : decode cX12_wordOf 342 = .ok (.bipush 103, 2) := by decide +kernel
theorem dX12_wordOf_344 : decode cX12_wordOf 344 = .ok (.bipush 104, 2) := by decide +kernel
theorem dX12_wordOf_346 : decode cX12_wordOf 346 = .ok (.invokestatic 137, 3) := by decide +kernel
theorem dX12_wordOf_349 : decode cX12_wordOf 349 = .ok (.lreturn, 1) := by decide +kernel
theorem dX12_wordOf_350 : decode cX12_wordOf 350 = .ok (.bipush 108, 2) := by decide +kernel
theorem dX12_wordOf_352 : decode cX12_wordOf 352 = .ok (.bipush 111, 2) := by decide +kernel
theorem dX12_wordOf_354 : decode cX12_wordOf 354 = .ok (.bipush 119, 2) := by decide +kernel
theorem dX12_wordOf_356 : decode cX12_wordOf 356 = .ok (.iconst 0, 1) := by decide +kernel
theorem dX12_wordOf_357 : decode cX12_wordOf 357 = .ok (.invokestatic 137, 3) := by decide +kernel
theorem dX12_wordOf_360 : decode cX12_wordOf 360 = .ok (.lreturn, 1) := by decide +kernel
theorem dX12_wordOf_361 : decode cX12_wordOf 361 = .ok (.bipush 112, 2) := by decide +kernel
theorem dX12_wordOf_363 : decode cX12_wordOf 363 = .ok (.bipush 108, 2) := by decide +kernel
theorem dX12_wordOf_365 : decode cX12_wordOf 365 = .ok (.bipush 97, 2) := by decide +kernel
theorem dX12_wordOf_367 : decode cX12_wordOf 367 = .ok (.bipush 99, 2) := by decide +kernel
theorem dX12_wordOf_369 : decode cX12_wordOf 369 = .ok (.invokestatic 137, 3) := by decide +kernel
theorem dX12_wordOf_372 : decode cX12_wordOf 372 = .ok (.bipush 101, 2) := by decide +kernel
theorem dX12_wordOf_374 : decode cX12_wordOf 374 = .ok (.iconst 0, 1) := by decide +kernel
theorem dX12_wordOf_375 : decode cX12_wordOf 375 = .ok (.iconst 0, 1) := by decide +kernel
theorem dX12_wordOf_376 : decode cX12_wordOf 376 = .ok (.invokestatic 141, 3) := by decide +kernel
theorem dX12_wordOf_379 : decode cX12_wordOf 379 = .ok (.lreturn, 1) := by decide +kernel
def f_M_wordOf   (a1 : Int) (σ : JSg) : Option (Int) :=
  sw_ a1 0 [bd1 (f_M_spelt 119 105 100 111 σ) fun r1 => bd1 (f_M_on r1 119 0 0 σ) fun r2 => some r2, bd1 (f_M_spelt 115 116 111 110 σ) fun r3 => bd1 (f_M_on r3 101 0 0 σ) fun r4 => some r4, bd1 (f_M_spelt 102 111 114 103 σ) fun r5 => bd1 (f_M_on r5 105 118 101 σ) fun r6 => some r6, bd1 (f_M_spelt 113 117 97 114 σ) fun r7 => bd1 (f_M_on r7 114 101 108 σ) fun r8 => some r8, bd1 (f_M_spelt 112 97 119 110 σ) fun r9 => some r9, bd1 (f_M_spelt 100 101 97 108 σ) fun r10 => some r10, bd1 (f_M_spelt 115 101 101 110 σ) fun r11 => some r11, bd1 (f_M_spelt 112 97 115 115 σ) fun r12 => bd1 (f_M_on r12 101 100 0 σ) fun r13 => some r13, bd1 (f_M_spelt 111 114 0 0 σ) fun r14 => some r14, bd1 (f_M_spelt 97 110 100 0 σ) fun r15 => some r15, bd1 (f_M_spelt 110 111 116 0 σ) fun r16 => some r16, bd1 (f_M_spelt 100 111 117 98 σ) fun r17 => bd1 (f_M_on r17 108 101 0 σ) fun r18 => some r18, bd1 (f_M_spelt 108 97 105 100 σ) fun r19 => some r19, bd1 (f_M_spelt 104 101 108 100 σ) fun r20 => some r20, bd1 (f_M_spelt 111 102 0 0 σ) fun r21 => some r21, bd1 (f_M_spelt 102 105 116 115 σ) fun r22 => some r22, bd1 (f_M_spelt 112 105 112 115 σ) fun r23 => some r23, bd1 (f_M_spelt 104 105 103 104 σ) fun r24 => some r24, bd1 (f_M_spelt 108 111 119 0 σ) fun r25 => some r25] (bd1 (f_M_spelt 112 108 97 99 σ) fun r26 => bd1 (f_M_on r26 101 0 0 σ) fun r27 => some r27)
set_option maxRecDepth 20000 in
set_option maxHeartbeats 4000000 in
theorem k_M_wordOf (Sh : JSh) (ρ : JRo)    (a1 : Int) (σ : JSg) : Call yX12_wordOf cX12_wordOf 1 (some .long) 1 Sh ρ [vI a1] σ (dLp σ) (f_M_wordOf a1 σ) := by
  refine call_of_sim (by decide +kernel) (Nat.le_of_ble_eq_true rfl) ?_
  show Sim RX12 cX12_wordOf 1 (some .long) 1 Sh ρ 0 [(0, vI a1)] [] σ (dLp σ) (f_M_wordOf a1 σ)
  unfold f_M_wordOf
  refine sim_iload_n 0 rfl dX12_wordOf_0 ?_
  refine sim_tsw2 (td := 361) [92, 111, 130, 151, 172, 184, 196, 208, 228, 238, 249, 260, 280, 292, 304, 314, 326, 338, 350] dX12_wordOf_1 (by decide) (by decide) (tsw_of (by decide +kernel)) ⟨?_, ?_, ?_, ?_, ?_, ?_, ?_, ?_, ?_, ?_, ?_, ?_, ?_, ?_, ?_, ?_, ?_, ?_, ?_, trivial⟩ ?_
  · refine sim_bipush dX12_wordOf_92 (by decide +kernel) ?_
    refine sim_bipush dX12_wordOf_94 (by decide +kernel) ?_
    refine sim_bipush dX12_wordOf_96 (by decide +kernel) ?_
    refine sim_bipush dX12_wordOf_98 (by decide +kernel) ?_
    refine sim_callSLp s_RX12_137 dX12_wordOf_100 (k_M_spelt Sh ρ 119 105 100 111 σ) rfl ⟨by decide, by decide⟩ (S := []) rfl (Nat.le_of_ble_eq_true rfl) (fun r1 => ?_)
    refine sim_bipush dX12_wordOf_103 (by decide +kernel) ?_
    refine sim_iconst dX12_wordOf_105 (by decide) ?_
    refine sim_iconst dX12_wordOf_106 (by decide) ?_
    refine sim_callSLp s_RX12_141 dX12_wordOf_107 (k_M_on Sh ρ r1 119 0 0 σ) rfl ⟨by decide, by decide⟩ (S := []) rfl (Nat.le_of_ble_eq_true rfl) (fun r2 => ?_)
    exact sim_lret rfl rfl dX12_wordOf_110
  · refine sim_bipush dX12_wordOf_111 (by decide +kernel) ?_
    refine sim_bipush dX12_wordOf_113 (by decide +kernel) ?_
    refine sim_bipush dX12_wordOf_115 (by decide +kernel) ?_
    refine sim_bipush dX12_wordOf_117 (by decide +kernel) ?_
    refine sim_callSLp s_RX12_137 dX12_wordOf_119 (k_M_spelt Sh ρ 115 116 111 110 σ) rfl ⟨by decide, by decide⟩ (S := []) rfl (Nat.le_of_ble_eq_true rfl) (fun r3 => ?_)
    refine sim_bipush dX12_wordOf_122 (by decide +kernel) ?_
    refine sim_iconst dX12_wordOf_124 (by decide) ?_
    refine sim_iconst dX12_wordOf_125 (by decide) ?_
    refine sim_callSLp s_RX12_141 dX12_wordOf_126 (k_M_on Sh ρ r3 101 0 0 σ) rfl ⟨by decide, by decide⟩ (S := []) rfl (Nat.le_of_ble_eq_true rfl) (fun r4 => ?_)
    exact sim_lret rfl rfl dX12_wordOf_129
  · refine sim_bipush dX12_wordOf_130 (by decide +kernel) ?_
    refine sim_bipush dX12_wordOf_132 (by decide +kernel) ?_
    refine sim_bipush dX12_wordOf_134 (by decide +kernel) ?_
    refine sim_bipush dX12_wordOf_136 (by decide +kernel) ?_
    refine sim_callSLp s_RX12_137 dX12_wordOf_138 (k_M_spelt Sh ρ 102 111 114 103 σ) rfl ⟨by decide, by decide⟩ (S := []) rfl (Nat.le_of_ble_eq_true rfl) (fun r5 => ?_)
    refine sim_bipush dX12_wordOf_141 (by decide +kernel) ?_
    refine sim_bipush dX12_wordOf_143 (by decide +kernel) ?_
    refine sim_bipush dX12_wordOf_145 (by decide +kernel) ?_
    refine sim_callSLp s_RX12_141 dX12_wordOf_147 (k_M_on Sh ρ r5 105 118 101 σ) rfl ⟨by decide, by decide⟩ (S := []) rfl (Nat.le_of_ble_eq_true rfl) (fun r6 => ?_)
    exact sim_lret rfl rfl dX12_wordOf_150
  · refine sim_bipush dX12_wordOf_151 (by decide +kernel) ?_
    refine sim_bipush dX12_wordOf_153 (by decide +kernel) ?_
    refine sim_bipush dX12_wordOf_155 (by decide +kernel) ?_
    refine sim_bipush dX12_wordOf_157 (by decide +kernel) ?_
    refine sim_callSLp s_RX12_137 dX12_wordOf_159 (k_M_spelt Sh ρ 113 117 97 114 σ) rfl ⟨by decide, by decide⟩ (S := []) rfl (Nat.le_of_ble_eq_true rfl) (fun r7 => ?_)
    refine sim_bipush dX12_wordOf_162 (by decide +kernel) ?_
    refine sim_bipush dX12_wordOf_164 (by decide +kernel) ?_
    refine sim_bipush dX12_wordOf_166 (by decide +kernel) ?_
    refine sim_callSLp s_RX12_141 dX12_wordOf_168 (k_M_on Sh ρ r7 114 101 108 σ) rfl ⟨by decide, by decide⟩ (S := []) rfl (Nat.le_of_ble_eq_true rfl) (fun r8 => ?_)
    exact sim_lret rfl rfl dX12_wordOf_171
  · refine sim_bipush dX12_wordOf_172 (by decide +kernel) ?_
    refine sim_bipush dX12_wordOf_174 (by decide +kernel) ?_
    refine sim_bipush dX12_wordOf_176 (by decide +kernel) ?_
    refine sim_bipush dX12_wordOf_178 (by decide +kernel) ?_
    refine sim_callSLp s_RX12_137 dX12_wordOf_180 (k_M_spelt Sh ρ 112 97 119 110 σ) rfl ⟨by decide, by decide⟩ (S := []) rfl (Nat.le_of_ble_eq_true rfl) (fun r9 => ?_)
    exact sim_lret rfl rfl dX12_wordOf_183
  · refine sim_bipush dX12_wordOf_184 (by decide +kernel) ?_
    refine sim_bipush dX12_wordOf_186 (by decide +kernel) ?_
    refine sim_bipush dX12_wordOf_188 (by decide +kernel) ?_
    refine sim_bipush dX12_wordOf_190 (by decide +kernel) ?_
    refine sim_callSLp s_RX12_137 dX12_wordOf_192 (k_M_spelt Sh ρ 100 101 97 108 σ) rfl ⟨by decide, by decide⟩ (S := []) rfl (Nat.le_of_ble_eq_true rfl) (fun r10 => ?_)
    exact sim_lret rfl rfl dX12_wordOf_195
  · refine sim_bipush dX12_wordOf_196 (by decide +kernel) ?_
    refine sim_bipush dX12_wordOf_198 (by decide +kernel) ?_
    refine sim_bipush dX12_wordOf_200 (by decide +kernel) ?_
    refine sim_bipush dX12_wordOf_202 (by decide +kernel) ?_
    refine sim_callSLp s_RX12_137 dX12_wordOf_204 (k_M_spelt Sh ρ 115 101 101 110 σ) rfl ⟨by decide, by decide⟩ (S := []) rfl (Nat.le_of_ble_eq_true rfl) (fun r11 => ?_)
    exact sim_lret rfl rfl dX12_wordOf_207
  · refine sim_bipush dX12_wordOf_208 (by decide +kernel) ?_
    refine sim_bipush dX12_wordOf_210 (by decide +kernel) ?_
    refine sim_bipush dX12_wordOf_212 (by decide +kernel) ?_
    refine sim_bipush dX12_wordOf_214 (by decide +kernel) ?_
    refine sim_callSLp s_RX12_137 dX12_wordOf_216 (k_M_spelt Sh ρ 112 97 115 115 σ) rfl ⟨by decide, by decide⟩ (S := []) rfl (Nat.le_of_ble_eq_true rfl) (fun r12 => ?_)
    refine sim_bipush dX12_wordOf_219 (by decide +kernel) ?_
    refine sim_bipush dX12_wordOf_221 (by decide +kernel) ?_
    refine sim_iconst dX12_wordOf_223 (by decide) ?_
    refine sim_callSLp s_RX12_141 dX12_wordOf_224 (k_M_on Sh ρ r12 101 100 0 σ) rfl ⟨by decide, by decide⟩ (S := []) rfl (Nat.le_of_ble_eq_true rfl) (fun r13 => ?_)
    exact sim_lret rfl rfl dX12_wordOf_227
  · refine sim_bipush dX12_wordOf_228 (by decide +kernel) ?_
    refine sim_bipush dX12_wordOf_230 (by decide +kernel) ?_
    refine sim_iconst dX12_wordOf_232 (by decide) ?_
    refine sim_iconst dX12_wordOf_233 (by decide) ?_
    refine sim_callSLp s_RX12_137 dX12_wordOf_234 (k_M_spelt Sh ρ 111 114 0 0 σ) rfl ⟨by decide, by decide⟩ (S := []) rfl (Nat.le_of_ble_eq_true rfl) (fun r14 => ?_)
    exact sim_lret rfl rfl dX12_wordOf_237
  · refine sim_bipush dX12_wordOf_238 (by decide +kernel) ?_
    refine sim_bipush dX12_wordOf_240 (by decide +kernel) ?_
    refine sim_bipush dX12_wordOf_242 (by decide +kernel) ?_
    refine sim_iconst dX12_wordOf_244 (by decide) ?_
    refine sim_callSLp s_RX12_137 dX12_wordOf_245 (k_M_spelt Sh ρ 97 110 100 0 σ) rfl ⟨by decide, by decide⟩ (S := []) rfl (Nat.le_of_ble_eq_true rfl) (fun r15 => ?_)
    exact sim_lret rfl rfl dX12_wordOf_248
  · refine sim_bipush dX12_wordOf_249 (by decide +kernel) ?_
    refine sim_bipush dX12_wordOf_251 (by decide +kernel) ?_
    refine sim_bipush dX12_wordOf_253 (by decide +kernel) ?_
    refine sim_iconst dX12_wordOf_255 (by decide) ?_
    refine sim_callSLp s_RX12_137 dX12_wordOf_256 (k_M_spelt Sh ρ 110 111 116 0 σ) rfl ⟨by decide, by decide⟩ (S := []) rfl (Nat.le_of_ble_eq_true rfl) (fun r16 => ?_)
    exact sim_lret rfl rfl dX12_wordOf_259
  · refine sim_bipush dX12_wordOf_260 (by decide +kernel) ?_
    refine sim_bipush dX12_wordOf_262 (by decide +kernel) ?_
    refine sim_bipush dX12_wordOf_264 (by decide +kernel) ?_
    refine sim_bipush dX12_wordOf_266 (by decide +kernel) ?_
    refine sim_callSLp s_RX12_137 dX12_wordOf_268 (k_M_spelt Sh ρ 100 111 117 98 σ) rfl ⟨by decide, by decide⟩ (S := []) rfl (Nat.le_of_ble_eq_true rfl) (fun r17 => ?_)
    refine sim_bipush dX12_wordOf_271 (by decide +kernel) ?_
    refine sim_bipush dX12_wordOf_273 (by decide +kernel) ?_
    refine sim_iconst dX12_wordOf_275 (by decide) ?_
    refine sim_callSLp s_RX12_141 dX12_wordOf_276 (k_M_on Sh ρ r17 108 101 0 σ) rfl ⟨by decide, by decide⟩ (S := []) rfl (Nat.le_of_ble_eq_true rfl) (fun r18 => ?_)
    exact sim_lret rfl rfl dX12_wordOf_279
  · refine sim_bipush dX12_wordOf_280 (by decide +kernel) ?_
    refine sim_bipush dX12_wordOf_282 (by decide +kernel) ?_
    refine sim_bipush dX12_wordOf_284 (by decide +kernel) ?_
    refine sim_bipush dX12_wordOf_286 (by decide +kernel) ?_
    refine sim_callSLp s_RX12_137 dX12_wordOf_288 (k_M_spelt Sh ρ 108 97 105 100 σ) rfl ⟨by decide, by decide⟩ (S := []) rfl (Nat.le_of_ble_eq_true rfl) (fun r19 => ?_)
    exact sim_lret rfl rfl dX12_wordOf_291
  · refine sim_bipush dX12_wordOf_292 (by decide +kernel) ?_
    refine sim_bipush dX12_wordOf_294 (by decide +kernel) ?_
    refine sim_bipush dX12_wordOf_296 (by decide +kernel) ?_
    refine sim_bipush dX12_wordOf_298 (by decide +kernel) ?_
    refine sim_callSLp s_RX12_137 dX12_wordOf_300 (k_M_spelt Sh ρ 104 101 108 100 σ) rfl ⟨by decide, by decide⟩ (S := []) rfl (Nat.le_of_ble_eq_true rfl) (fun r20 => ?_)
    exact sim_lret rfl rfl dX12_wordOf_303
  · refine sim_bipush dX12_wordOf_304 (by decide +kernel) ?_
    refine sim_bipush dX12_wordOf_306 (by decide +kernel) ?_
    refine sim_iconst dX12_wordOf_308 (by decide) ?_
    refine sim_iconst dX12_wordOf_309 (by decide) ?_
    refine sim_callSLp s_RX12_137 dX12_wordOf_310 (k_M_spelt Sh ρ 111 102 0 0 σ) rfl ⟨by decide, by decide⟩ (S := []) rfl (Nat.le_of_ble_eq_true rfl) (fun r21 => ?_)
    exact sim_lret rfl rfl dX12_wordOf_313
  · refine sim_bipush dX12_wordOf_314 (by decide +kernel) ?_
    refine sim_bipush dX12_wordOf_316 (by decide +kernel) ?_
    refine sim_bipush dX12_wordOf_318 (by decide +kernel) ?_
    refine sim_bipush dX12_wordOf_320 (by decide +kernel) ?_
    refine sim_callSLp s_RX12_137 dX12_wordOf_322 (k_M_spelt Sh ρ 102 105 116 115 σ) rfl ⟨by decide, by decide⟩ (S := []) rfl (Nat.le_of_ble_eq_true rfl) (fun r22 => ?_)
    exact sim_lret rfl rfl dX12_wordOf_325
  · refine sim_bipush dX12_wordOf_326 (by decide +kernel) ?_
    refine sim_bipush dX12_wordOf_328 (by decide +kernel) ?_
    refine sim_bipush dX12_wordOf_330 (by decide +kernel) ?_
    refine sim_bipush dX12_wordOf_332 (by decide +kernel) ?_
    refine sim_callSLp s_RX12_137 dX12_wordOf_334 (k_M_spelt Sh ρ 112 105 112 115 σ) rfl ⟨by decide, by decide⟩ (S := []) rfl (Nat.le_of_ble_eq_true rfl) (fun r23 => ?_)
    exact sim_lret rfl rfl dX12_wordOf_337
  · refine sim_bipush dX12_wordOf_338 (by decide +kernel) ?_
    refine sim_bipush dX12_wordOf_340 (by decide +kernel) ?_
    refine sim_bipush dX12_wordOf_342 (by decide +kernel) ?_
    refine sim_bipush dX12_wordOf_344 (by decide +kernel) ?_
    refine sim_callSLp s_RX12_137 dX12_wordOf_346 (k_M_spelt Sh ρ 104 105 103 104 σ) rfl ⟨by decide, by decide⟩ (S := []) rfl (Nat.le_of_ble_eq_true rfl) (fun r24 => ?_)
    exact sim_lret rfl rfl dX12_wordOf_349
  · refine sim_bipush dX12_wordOf_350 (by decide +kernel) ?_
    refine sim_bipush dX12_wordOf_352 (by decide +kernel) ?_
    refine sim_bipush dX12_wordOf_354 (by decide +kernel) ?_
    refine sim_iconst dX12_wordOf_356 (by decide) ?_
    refine sim_callSLp s_RX12_137 dX12_wordOf_357 (k_M_spelt Sh ρ 108 111 119 0 σ) rfl ⟨by decide, by decide⟩ (S := []) rfl (Nat.le_of_ble_eq_true rfl) (fun r25 => ?_)
    exact sim_lret rfl rfl dX12_wordOf_360
  · refine sim_bipush dX12_wordOf_361 (by decide +kernel) ?_
    refine sim_bipush dX12_wordOf_363 (by decide +kernel) ?_
    refine sim_bipush dX12_wordOf_365 (by decide +kernel) ?_
    refine sim_bipush dX12_wordOf_367 (by decide +kernel) ?_
    refine sim_callSLp s_RX12_137 dX12_wordOf_369 (k_M_spelt Sh ρ 112 108 97 99 σ) rfl ⟨by decide, by decide⟩ (S := []) rfl (Nat.le_of_ble_eq_true rfl) (fun r26 => ?_)
    refine sim_bipush dX12_wordOf_372 (by decide +kernel) ?_
    refine sim_iconst dX12_wordOf_374 (by decide) ?_
    refine sim_iconst dX12_wordOf_375 (by decide) ?_
    refine sim_callSLp s_RX12_141 dX12_wordOf_376 (k_M_on Sh ρ r26 101 0 0 σ) rfl ⟨by decide, by decide⟩ (S := []) rfl (Nat.le_of_ble_eq_true rfl) (fun r27 => ?_)
    exact sim_lret rfl rfl dX12_wordOf_379
theorem dX12_isWord_0 : decode cX12_isWord 0 = .ok (.aload_n 0, 1) := by decide +kernel
theorem dX12_isWord_1 : decode cX12_isWord 1 = .ok (.getfield 109, 3) := by decide +kernel
theorem dX12_isWord_4 : decode cX12_isWord 4 = .ok (.iconst 2, 1) := by decide +kernel
theorem dX12_isWord_5 : decode cX12_isWord 5 = .ok (.if_icmp .ne 19, 3) := by decide +kernel
theorem dX12_isWord_8 : decode cX12_isWord 8 = .ok (.aload_n 0, 1) := by decide +kernel
theorem dX12_isWord_9 : decode cX12_isWord 9 = .ok (.getfield 122, 3) := by decide +kernel
theorem dX12_isWord_12 : decode cX12_isWord 12 = .ok (.iload_n 1, 1) := by decide +kernel
theorem dX12_isWord_13 : decode cX12_isWord 13 = .ok (.invokestatic 145, 3) := by decide +kernel
theorem dX12_isWord_16 : decode cX12_isWord 16 = .ok (.lcmp, 1) := by decide +kernel
theorem dX12_isWord_17 : decode cX12_isWord 17 = .ok (.ifCond .ne 7, 3) := by decide +kernel
theorem dX12_isWord_20 : decode cX12_isWord 20 = .ok (.iconst 1, 1) := by decide +kernel
theorem dX12_isWord_21 : decode cX12_isWord 21 = .ok (.goto 4, 3) := by decide +kernel
theorem dX12_isWord_24 : decode cX12_isWord 24 = .ok (.iconst 0, 1) := by decide +kernel
theorem dX12_isWord_25 : decode cX12_isWord 25 = .ok (.ireturn, 1) := by decide +kernel
def f_M_isWord   (a1 : Int) (σ : JSg) : Option (Int) :=
  if (σ 179 7) = 2 then (bd1 (f_M_wordOf a1 σ) fun r1 => if (cmpL (σ 179 12) r1) = 0 then (some 1) else (some 0)) else (some 0)
set_option maxRecDepth 20000 in
set_option maxHeartbeats 4000000 in
theorem k_M_isWord     (a1 : Int) (σ : JSg) : Call yX12_isWord cX12_isWord 2 (some .boolean) 2 SH RHO [vR 179, vI a1] σ (dIp σ) (f_M_isWord a1 σ) := by
  refine call_of_sim (by decide +kernel) (Nat.le_of_ble_eq_true rfl) ?_
  show Sim RX12 cX12_isWord 2 (some .boolean) 2 SH RHO 0 [(0, vR 179), (1, vI a1)] [] σ (dIp σ) (f_M_isWord a1 σ)
  unfold f_M_isWord
  refine sim_aload_n 0 rfl dX12_isWord_0 ?_
  refine sim_getI g_RX12_109 sh_179 dX12_isWord_1 ?_
  refine sim_iconst dX12_isWord_4 (by decide) ?_
  refine sim_icmp_ne (tgt := 24) dX12_isWord_5 (by decide) ?_ ?_
  · refine sim_iconst dX12_isWord_24 (by decide) ?_
    exact sim_zret (Or.inl rfl) rfl rfl dX12_isWord_25
  · refine sim_aload_n 0 rfl dX12_isWord_8 ?_
    refine sim_getL g_RX12_122 sh_179 dX12_isWord_9 ?_
    refine sim_iload_n 1 rfl dX12_isWord_12 ?_
    refine sim_callSLp s_RX12_145 dX12_isWord_13 (k_M_wordOf SH RHO a1 σ) rfl ⟨by decide, by decide⟩ (S := [vL (σ 179 12)]) rfl (Nat.le_of_ble_eq_true rfl) (fun r1 => ?_)
    refine sim_lcmp dX12_isWord_16 ?_
    refine sim_if_ne (tgt := 24) dX12_isWord_17 (by decide) ?_ ?_
    · refine sim_iconst dX12_isWord_24 (by decide) ?_
      exact sim_zret (Or.inl rfl) rfl rfl dX12_isWord_25
    · refine sim_iconst dX12_isWord_20 (by decide) ?_
      refine sim_goto (tgt := 25) dX12_isWord_21 (by decide) ?_
      exact sim_zret (Or.inr rfl) rfl rfl dX12_isWord_25
theorem dX12_bad_0 : decode cX12_bad 0 = .ok (.aload_n 0, 1) := by decide +kernel
theorem dX12_bad_1 : decode cX12_bad 1 = .ok (.aload_n 0, 1) := by decide +kernel
theorem dX12_bad_2 : decode cX12_bad 2 = .ok (.getfield 109, 3) := by decide +kernel
theorem dX12_bad_5 : decode cX12_bad 5 = .ok (.iconst 1, 1) := by decide +kernel
theorem dX12_bad_6 : decode cX12_bad 6 = .ok (.if_icmp .ne 7, 3) := by decide +kernel
theorem dX12_bad_9 : decode cX12_bad 9 = .ok (.iconst 1, 1) := by decide +kernel
theorem dX12_bad_10 : decode cX12_bad 10 = .ok (.goto 4, 3) := by decide +kernel
theorem dX12_bad_13 : decode cX12_bad 13 = .ok (.iload_n 1, 1) := by decide +kernel
theorem dX12_bad_14 : decode cX12_bad 14 = .ok (.putfield 149, 3) := by decide +kernel
theorem dX12_bad_17 : decode cX12_bad 17 = .ok (.aload_n 0, 1) := by decide +kernel
theorem dX12_bad_18 : decode cX12_bad 18 = .ok (.aload_n 0, 1) := by decide +kernel
theorem dX12_bad_19 : decode cX12_bad 19 = .ok (.getfield 103, 3) := by decide +kernel
theorem dX12_bad_22 : decode cX12_bad 22 = .ok (.putfield 152, 3) := by decide +kernel
theorem dX12_bad_25 : decode cX12_bad 25 = .ok (.iconst 0, 1) := by decide +kernel
theorem dX12_bad_26 : decode cX12_bad 26 = .ok (.ireturn, 1) := by decide +kernel
def f_M_bad   (a1 : Int) (σ : JSg) : Option (Int × JSg) :=
  jn1 (fun (u2 : Int) => lt_ (sp σ 179 10 u2) fun s3 => lt_ (sp s3 179 11 (s3 179 6)) fun s4 => some (0, s4)) fun j1 => if (σ 179 7) = 1 then (j1 1) else (j1 a1)
set_option maxRecDepth 20000 in
set_option maxHeartbeats 4000000 in
theorem k_M_bad     (a1 : Int) (σ : JSg) : Call yX12_bad cX12_bad 2 (some .boolean) 0 SH RHO [vR 179, vI a1] σ dIm (f_M_bad a1 σ) := by
  refine call_of_sim (by decide +kernel) (Nat.le_of_ble_eq_true rfl) ?_
  show Sim RX12 cX12_bad 2 (some .boolean) 0 SH RHO 0 [(0, vR 179), (1, vI a1)] [] σ dIm (f_M_bad a1 σ)
  unfold f_M_bad
  refine sim_aload_n 0 rfl dX12_bad_0 ?_
  refine sim_aload_n 0 rfl dX12_bad_1 ?_
  refine sim_getI g_RX12_109 sh_179 dX12_bad_2 ?_
  refine sim_iconst dX12_bad_5 (by decide) ?_
  refine sim_jn1 (pc' := 14) (fun (u2 : Int) => [(0, vR 179)]) (fun (u2 : Int) => [vI u2, vR 179]) (fun (u2 : Int) => σ) ?_ (fun j1 hj1 => ?_)
  · intro u2
    refine sim_putI g_RX12_149 sh_179 dX12_bad_14 (fun s3 => ?_)
    refine sim_aload_n 0 rfl dX12_bad_17 ?_
    refine sim_aload_n 0 rfl dX12_bad_18 ?_
    refine sim_getI g_RX12_103 sh_179 dX12_bad_19 ?_
    refine sim_putI g_RX12_152 sh_179 dX12_bad_22 (fun s4 => ?_)
    refine sim_iconst dX12_bad_25 (by decide) ?_
    exact sim_zret (Or.inl rfl) rfl rfl dX12_bad_26
  refine sim_icmp_ne (tgt := 13) dX12_bad_6 (by decide) ?_ ?_
  · refine sim_iload_n 1 rfl dX12_bad_13 ?_
    exact sim_sub [0] rfl (hj1 a1)
  · refine sim_iconst dX12_bad_9 (by decide) ?_
    refine sim_goto (tgt := 14) dX12_bad_10 (by decide) ?_
    exact sim_sub [0] rfl (hj1 1)
theorem dX12_saysOne_0 : decode cX12_saysOne 0 = .ok (.iconst 4, 1) := by decide +kernel
theorem dX12_saysOne_1 : decode cX12_saysOne 1 = .ok (.aload_n 0, 1) := by decide +kernel
theorem dX12_saysOne_2 : decode cX12_saysOne 2 = .ok (.getfield 431, 3) := by decide +kernel
theorem dX12_saysOne_5 : decode cX12_saysOne 5 = .ok (.imul, 1) := by decide +kernel
theorem dX12_saysOne_6 : decode cX12_saysOne 6 = .ok (.istore 5, 2) := by decide +kernel
theorem dX12_saysOne_8 : decode cX12_saysOne 8 = .ok (.aload_n 0, 1) := by decide +kernel
theorem dX12_saysOne_9 : decode cX12_saysOne 9 = .ok (.getfield 84, 3) := by decide +kernel
theorem dX12_saysOne_12 : decode cX12_saysOne 12 = .ok (.iload 5, 2) := by decide +kernel
theorem dX12_saysOne_14 : decode cX12_saysOne 14 = .ok (.iload_n 1, 1) := by decide +kernel
theorem dX12_saysOne_15 : decode cX12_saysOne 15 = .ok (.iastore, 1) := by decide +kernel
theorem dX12_saysOne_16 : decode cX12_saysOne 16 = .ok (.aload_n 0, 1) := by decide +kernel
theorem dX12_saysOne_17 : decode cX12_saysOne 17 = .ok (.getfield 84, 3) := by decide +kernel
theorem dX12_saysOne_20 : decode cX12_saysOne 20 = .ok (.iload 5, 2) := by decide +kernel
theorem dX12_saysOne_22 : decode cX12_saysOne 22 = .ok (.iconst 1, 1) := by decide +kernel
theorem dX12_saysOne_23 : decode cX12_saysOne 23 = .ok (.iadd, 1) := by decide +kernel
theorem dX12_saysOne_24 : decode cX12_saysOne 24 = .ok (.iload_n 2, 1) := by decide +kernel
theorem dX12_saysOne_25 : decode cX12_saysOne 25 = .ok (.iastore, 1) := by decide +kernel
theorem dX12_saysOne_26 : decode cX12_saysOne 26 = .ok (.aload_n 0, 1) := by decide +kernel
theorem dX12_saysOne_27 : decode cX12_saysOne 27 = .ok (.getfield 84, 3) := by decide +kernel
theorem dX12_saysOne_30 : decode cX12_saysOne 30 = .ok (.iload 5, 2) := by decide +kernel
theorem dX12_saysOne_32 : decode cX12_saysOne 32 = .ok (.iconst 2, 1) := by decide +kernel
theorem dX12_saysOne_33 : decode cX12_saysOne 33 = .ok (.iadd, 1) := by decide +kernel
theorem dX12_saysOne_34 : decode cX12_saysOne 34 = .ok (.iload_n 3, 1) := by decide +kernel
theorem dX12_saysOne_35 : decode cX12_saysOne 35 = .ok (.iastore, 1) := by decide +kernel
theorem dX12_saysOne_36 : decode cX12_saysOne 36 = .ok (.aload_n 0, 1) := by decide +kernel
theorem dX12_saysOne_37 : decode cX12_saysOne 37 = .ok (.getfield 84, 3) := by decide +kernel
theorem dX12_saysOne_40 : decode cX12_saysOne 40 = .ok (.iload 5, 2) := by decide +kernel
theorem dX12_saysOne_42 : decode cX12_saysOne 42 = .ok (.iconst 3, 1) := by decide +kernel
theorem dX12_saysOne_43 : decode cX12_saysOne 43 = .ok (.iadd, 1) := by decide +kernel
theorem dX12_saysOne_44 : decode cX12_saysOne 44 = .ok (.iload 4, 2) := by decide +kernel
theorem dX12_saysOne_46 : decode cX12_saysOne 46 = .ok (.iastore, 1) := by decide +kernel
theorem dX12_saysOne_47 : decode cX12_saysOne 47 = .ok (.aload_n 0, 1) := by decide +kernel
theorem dX12_saysOne_48 : decode cX12_saysOne 48 = .ok (.dup, 1) := by decide +kernel
theorem dX12_saysOne_49 : decode cX12_saysOne 49 = .ok (.getfield 431, 3) := by decide +kernel
theorem dX12_saysOne_52 : decode cX12_saysOne 52 = .ok (.iconst 1, 1) := by decide +kernel
theorem dX12_saysOne_53 : decode cX12_saysOne 53 = .ok (.iadd, 1) := by decide +kernel
theorem dX12_saysOne_54 : decode cX12_saysOne 54 = .ok (.putfield 431, 3) := by decide +kernel
theorem dX12_saysOne_57 : decode cX12_saysOne 57 = .ok (.aload_n 0, 1) := by decide +kernel
theorem dX12_saysOne_58 : decode cX12_saysOne 58 = .ok (.getfield 431, 3) := by decide +kernel
theorem dX12_saysOne_61 : decode cX12_saysOne 61 = .ok (.iconst 1, 1) := by decide +kernel
theorem dX12_saysOne_62 : decode cX12_saysOne 62 = .ok (.isub, 1) := by decide +kernel
theorem dX12_saysOne_63 : decode cX12_saysOne 63 = .ok (.ireturn, 1) := by decide +kernel
def f_M_saysOne   (a1 : Int) (a2 : Int) (a3 : Int) (a4 : Int) (σ : JSg) : Option (Int × JSg) :=
  lt_ (w32 (4 * (σ 179 48))) fun v1 => chk (0 ≤ v1 ∧ v1 < 240) <| lt_ (sp σ 202 v1.toNat a1) fun s2 => chk (0 ≤ (w32 (v1 + 1)) ∧ (w32 (v1 + 1)) < 240) <| lt_ (sp s2 202 (w32 (v1 + 1)).toNat a2) fun s3 => chk (0 ≤ (w32 (v1 + 2)) ∧ (w32 (v1 + 2)) < 240) <| lt_ (sp s3 202 (w32 (v1 + 2)).toNat a3) fun s4 => chk (0 ≤ (w32 (v1 + 3)) ∧ (w32 (v1 + 3)) < 240) <| lt_ (sp s4 202 (w32 (v1 + 3)).toNat a4) fun s5 => lt_ (sp s5 179 48 (w32 ((s5 179 48) + 1))) fun s6 => some (w32 ((s6 179 48) - 1), s6)
set_option maxRecDepth 20000 in
set_option maxHeartbeats 4000000 in
theorem k_M_saysOne     (a1 : Int) (a2 : Int) (a3 : Int) (a4 : Int) (σ : JSg) : Call yX12_saysOne cX12_saysOne 6 (some .int) 0 SH RHO [vR 179, vI a1, vI a2, vI a3, vI a4] σ dIm (f_M_saysOne a1 a2 a3 a4 σ) := by
  refine call_of_sim (by decide +kernel) (Nat.le_of_ble_eq_true rfl) ?_
  show Sim RX12 cX12_saysOne 6 (some .int) 0 SH RHO 0 [(0, vR 179), (1, vI a1), (2, vI a2), (3, vI a3), (4, vI a4)] [] σ dIm (f_M_saysOne a1 a2 a3 a4 σ)
  unfold f_M_saysOne
  refine sim_iconst dX12_saysOne_0 (by decide) ?_
  refine sim_aload_n 0 rfl dX12_saysOne_1 ?_
  refine sim_getI g_RX12_431 sh_179 dX12_saysOne_2 ?_
  refine sim_imul dX12_saysOne_5 ?_
  refine sim_istore (fun v1 => [(5, vI v1), (0, vR 179), (1, vI a1), (2, vI a2), (3, vI a3), (4, vI a4)]) (fun _ => rfl) (by decide) dX12_saysOne_6 (fun v1 => ?_)
  refine sim_aload_n 1 rfl dX12_saysOne_8 ?_
  refine sim_getR g_RX12_84 sh_179 rh_179_47 dX12_saysOne_9 ?_
  refine sim_iload 0 rfl dX12_saysOne_12 ?_
  refine sim_iload_n 2 rfl dX12_saysOne_14 ?_
  refine sim_iastore sh_202 rfl dX12_saysOne_15 (fun s2 => ?_)
  refine sim_aload_n 1 rfl dX12_saysOne_16 ?_
  refine sim_getR g_RX12_84 sh_179 rh_179_47 dX12_saysOne_17 ?_
  refine sim_iload 0 rfl dX12_saysOne_20 ?_
  refine sim_iconst dX12_saysOne_22 (by decide) ?_
  refine sim_iadd dX12_saysOne_23 ?_
  refine sim_iload_n 3 rfl dX12_saysOne_24 ?_
  refine sim_iastore sh_202 rfl dX12_saysOne_25 (fun s3 => ?_)
  refine sim_aload_n 1 rfl dX12_saysOne_26 ?_
  refine sim_getR g_RX12_84 sh_179 rh_179_47 dX12_saysOne_27 ?_
  refine sim_iload 0 rfl dX12_saysOne_30 ?_
  refine sim_iconst dX12_saysOne_32 (by decide) ?_
  refine sim_iadd dX12_saysOne_33 ?_
  refine sim_iload_n 4 rfl dX12_saysOne_34 ?_
  refine sim_iastore sh_202 rfl dX12_saysOne_35 (fun s4 => ?_)
  refine sim_aload_n 1 rfl dX12_saysOne_36 ?_
  refine sim_getR g_RX12_84 sh_179 rh_179_47 dX12_saysOne_37 ?_
  refine sim_iload 0 rfl dX12_saysOne_40 ?_
  refine sim_iconst dX12_saysOne_42 (by decide) ?_
  refine sim_iadd dX12_saysOne_43 ?_
  refine sim_iload 5 rfl dX12_saysOne_44 ?_
  refine sim_iastore sh_202 rfl dX12_saysOne_46 (fun s5 => ?_)
  refine sim_aload_n 1 rfl dX12_saysOne_47 ?_
  refine sim_dup rfl dX12_saysOne_48 ?_
  refine sim_getI g_RX12_431 sh_179 dX12_saysOne_49 ?_
  refine sim_iconst dX12_saysOne_52 (by decide) ?_
  refine sim_iadd dX12_saysOne_53 ?_
  refine sim_putI g_RX12_431 sh_179 dX12_saysOne_54 (fun s6 => ?_)
  refine sim_aload_n 1 rfl dX12_saysOne_57 ?_
  refine sim_getI g_RX12_431 sh_179 dX12_saysOne_58 ?_
  refine sim_iconst dX12_saysOne_61 (by decide) ?_
  refine sim_isub dX12_saysOne_62 ?_
  exact sim_iret rfl rfl dX12_saysOne_63
theorem dX12_isName_0 : decode cX12_isName 0 = .ok (.aload_n 0, 1) := by decide +kernel
theorem dX12_isName_1 : decode cX12_isName 1 = .ok (.getfield 109, 3) := by decide +kernel
theorem dX12_isName_4 : decode cX12_isName 4 = .ok (.iconst 2, 1) := by decide +kernel
theorem dX12_isName_5 : decode cX12_isName 5 = .ok (.if_icmp .eq 5, 3) := by decide +kernel
theorem dX12_isName_8 : decode cX12_isName 8 = .ok (.iconst 0, 1) := by decide +kernel
theorem dX12_isName_9 : decode cX12_isName 9 = .ok (.ireturn, 1) := by decide +kernel
theorem dX12_isName_10 : decode cX12_isName 10 = .ok (.iconst 0, 1) := by decide +kernel
theorem dX12_isName_11 : decode cX12_isName 11 = .ok (.istore_n 1, 1) := by decide +kernel
theorem dX12_isName_12 : decode cX12_isName 12 = .ok (.iload_n 1, 1) := by decide +kernel
theorem dX12_isName_13 : decode cX12_isName 13 = .ok (.bipush 19, 2) := by decide +kernel
theorem dX12_isName_15 : decode cX12_isName 15 = .ok (.if_icmp .gt 23, 3) := by decide +kernel
theorem dX12_isName_18 : decode cX12_isName 18 = .ok (.aload_n 0, 1) := by decide +kernel
theorem dX12_isName_19 : decode cX12_isName 19 = .ok (.getfield 122, 3) := by decide +kernel
theorem dX12_isName_22 : decode cX12_isName 22 = .ok (.iload_n 1, 1) := by decide +kernel
theorem dX12_isName_23 : decode cX12_isName 23 = .ok (.invokestatic 145, 3) := by decide +kernel
theorem dX12_isName_26 : decode cX12_isName 26 = .ok (.lcmp, 1) := by decide +kernel
theorem dX12_isName_27 : decode cX12_isName 27 = .ok (.ifCond .ne 5, 3) := by decide +kernel
theorem dX12_isName_30 : decode cX12_isName 30 = .ok (.iconst 0, 1) := by decide +kernel
theorem dX12_isName_31 : decode cX12_isName 31 = .ok (.ireturn, 1) := by decide +kernel
theorem dX12_isName_32 : decode cX12_isName 32 = .ok (.iinc 1 1, 3) := by decide +kernel
theorem dX12_isName_35 : decode cX12_isName 35 = .ok (.goto (-23), 3) := by decide +kernel
theorem dX12_isName_38 : decode cX12_isName 38 = .ok (.iconst 1, 1) := by decide +kernel
theorem dX12_isName_39 : decode cX12_isName 39 = .ok (.ireturn, 1) := by decide +kernel
def f_M_isName (n : Nat)   (σ : JSg) : Option (Int) :=
  if (σ 179 7) = 2 then (lt_ 0 fun v1 => wh1 n (fun rc2 (x3 : Int) => if 19 < x3 then (some 1) else (bd1 (f_M_wordOf x3 σ) fun r4 => if (cmpL (σ 179 12) r4) = 0 then (some 0) else (lt_ (w32 (x3 + 1)) fun v5 => rc2 v5))) v1) else (some 0)
set_option maxRecDepth 20000 in
set_option maxHeartbeats 4000000 in
theorem k_M_isName  (n : Nat)    (σ : JSg) : Call yX12_isName cX12_isName 2 (some .boolean) 2 SH RHO [vR 179] σ (dIp σ) (f_M_isName n σ) := by
  refine call_of_sim (by decide +kernel) (Nat.le_of_ble_eq_true rfl) ?_
  show Sim RX12 cX12_isName 2 (some .boolean) 2 SH RHO 0 [(0, vR 179)] [] σ (dIp σ) (f_M_isName n σ)
  unfold f_M_isName
  refine sim_aload_n 0 rfl dX12_isName_0 ?_
  refine sim_getI g_RX12_109 sh_179 dX12_isName_1 ?_
  refine sim_iconst dX12_isName_4 (by decide) ?_
  refine sim_icmp_eq (tgt := 10) dX12_isName_5 (by decide) ?_ ?_
  · refine sim_iconst dX12_isName_10 (by decide) ?_
    refine sim_istore_n (fun v1 => [(1, vI v1), (0, vR 179)]) (fun _ => rfl) (by decide) dX12_isName_11 (fun v1 => ?_)
    refine sim_sub [1, 0] (L' := [(0, vR 179), (1, vI v1)]) rfl ?_
    refine sim_wh1 (fun (x3 : Int) => [(0, vR 179), (1, vI x3)]) (fun (x3 : Int) => σ) ?_ n v1
    intro rc2 hrc2 x3
    refine sim_iload_n 1 rfl dX12_isName_12 ?_
    refine sim_bipush dX12_isName_13 (by decide +kernel) ?_
    refine sim_icmp_gt (tgt := 38) dX12_isName_15 (by decide) ?_ ?_
    · refine sim_iconst dX12_isName_38 (by decide) ?_
      exact sim_zret (Or.inr rfl) rfl rfl dX12_isName_39
    · refine sim_aload_n 0 rfl dX12_isName_18 ?_
      refine sim_getL g_RX12_122 sh_179 dX12_isName_19 ?_
      refine sim_iload_n 1 rfl dX12_isName_22 ?_
      refine sim_callSLp s_RX12_145 dX12_isName_23 (k_M_wordOf SH RHO x3 σ) rfl ⟨by decide, by decide⟩ (S := [vL (σ 179 12)]) rfl (Nat.le_of_ble_eq_true rfl) (fun r4 => ?_)
      refine sim_lcmp dX12_isName_26 ?_
      refine sim_if_ne (tgt := 32) dX12_isName_27 (by decide) ?_ ?_
      · refine sim_iinc 1 rfl (fun v5 => [(1, vI v5), (0, vR 179)]) (fun _ => rfl) (by decide) dX12_isName_32 (fun v5 => ?_)
        refine sim_goto (tgt := 12) dX12_isName_35 (by decide) ?_
        exact sim_sub [1, 0] rfl (hrc2 v5)
      · refine sim_iconst dX12_isName_30 (by decide) ?_
        exact sim_zret (Or.inl rfl) rfl rfl dX12_isName_31
  · refine sim_iconst dX12_isName_8 (by decide) ?_
    exact sim_zret (Or.inl rfl) rfl rfl dX12_isName_9
theorem dX12_findIn_0 : decode cX12_findIn 0 = .ok (.iconst 0, 1) := by decide +kernel
theorem dX12_findIn_1 : decode cX12_findIn 1 = .ok (.istore 4, 2) := by decide +kernel
theorem dX12_findIn_3 : decode cX12_findIn 3 = .ok (.iload 4, 2) := by decide +kernel
theorem dX12_findIn_5 : decode cX12_findIn 5 = .ok (.iload_n 1, 1) := by decide +kernel
theorem dX12_findIn_6 : decode cX12_findIn 6 = .ok (.if_icmp .ge 21, 3) := by decide +kernel
theorem dX12_findIn_9 : decode cX12_findIn 9 = .ok (.aload_n 0, 1) := by decide +kernel
theorem dX12_findIn_10 : decode cX12_findIn 10 = .ok (.iload 4, 2) := by decide +kernel
theorem dX12_findIn_12 : decode cX12_findIn 12 = .ok (.laload, 1) := by decide +kernel
theorem dX12_findIn_13 : decode cX12_findIn 13 = .ok (.lload_n 2, 1) := by decide +kernel
theorem dX12_findIn_14 : decode cX12_findIn 14 = .ok (.lcmp, 1) := by decide +kernel
theorem dX12_findIn_15 : decode cX12_findIn 15 = .ok (.ifCond .ne 6, 3) := by decide +kernel
theorem dX12_findIn_18 : decode cX12_findIn 18 = .ok (.iload 4, 2) := by decide +kernel
theorem dX12_findIn_20 : decode cX12_findIn 20 = .ok (.ireturn, 1) := by decide +kernel
theorem dX12_findIn_21 : decode cX12_findIn 21 = .ok (.iinc 4 1, 3) := by decide +kernel
theorem dX12_findIn_24 : decode cX12_findIn 24 = .ok (.goto (-21), 3) := by decide +kernel
theorem dX12_findIn_27 : decode cX12_findIn 27 = .ok (.iconst (-1), 1) := by decide +kernel
theorem dX12_findIn_28 : decode cX12_findIn 28 = .ok (.ireturn, 1) := by decide +kernel
def f_M_findIn (n : Nat) (p : Nat) (Np : Nat) (a2 : Int) (a3 : Int) (σ : JSg) : Option (Int) :=
  lt_ 0 fun v1 => wh1 n (fun rc2 (x3 : Int) => if x3 < a2 then (chk (0 ≤ x3 ∧ x3 < (Np : Int)) <| if (cmpL (σ p x3.toNat) a3) = 0 then (some x3) else (lt_ (w32 (x3 + 1)) fun v4 => rc2 v4)) else (some (-1))) v1
set_option maxRecDepth 20000 in
set_option maxHeartbeats 4000000 in
theorem k_M_findIn (Sh : JSh) (ρ : JRo) (n : Nat) (p : Nat) (Np : Nat) (hp : Sh[p]? = some (.inr (2, Np))) (hNp : okI (Np : Int)) (a2 : Int) (a3 : Int) (σ : JSg) : Call yX12_findIn cX12_findIn 5 (some .int) 0 Sh ρ [vR p, vI a2, vL a3] σ (dIp σ) (f_M_findIn n p Np a2 a3 σ) := by
  refine call_of_sim (by decide +kernel) (Nat.le_of_ble_eq_true rfl) ?_
  show Sim RX12 cX12_findIn 5 (some .int) 0 Sh ρ 0 [(0, vR p), (1, vI a2), (2, vL a3)] [] σ (dIp σ) (f_M_findIn n p Np a2 a3 σ)
  unfold f_M_findIn
  refine sim_iconst dX12_findIn_0 (by decide) ?_
  refine sim_istore (fun v1 => [(4, vI v1), (0, vR p), (1, vI a2), (2, vL a3)]) (fun _ => rfl) (by decide) dX12_findIn_1 (fun v1 => ?_)
  refine sim_sub [1, 2, 3, 0] (L' := [(0, vR p), (1, vI a2), (2, vL a3), (4, vI v1)]) rfl ?_
  refine sim_wh1 (fun (x3 : Int) => [(0, vR p), (1, vI a2), (2, vL a3), (4, vI x3)]) (fun (x3 : Int) => σ) ?_ n v1
  intro rc2 hrc2 x3
  refine sim_iload 3 rfl dX12_findIn_3 ?_
  refine sim_iload_n 1 rfl dX12_findIn_5 ?_
  refine sim_icmp_ge (tgt := 27) dX12_findIn_6 (by decide) ?_ ?_
  · refine sim_iconst dX12_findIn_27 (by decide) ?_
    exact sim_iret rfl rfl dX12_findIn_28
  · refine sim_aload_n 0 rfl dX12_findIn_9 ?_
    refine sim_iload 3 rfl dX12_findIn_10 ?_
    refine sim_laload hp rfl dX12_findIn_12 ?_
    refine sim_lload_n 2 rfl dX12_findIn_13 ?_
    refine sim_lcmp dX12_findIn_14 ?_
    refine sim_if_ne (tgt := 21) dX12_findIn_15 (by decide) ?_ ?_
    · refine sim_iinc 3 rfl (fun v4 => [(4, vI v4), (0, vR p), (1, vI a2), (2, vL a3)]) (fun _ => rfl) (by decide) dX12_findIn_21 (fun v4 => ?_)
      refine sim_goto (tgt := 3) dX12_findIn_24 (by decide) ?_
      exact sim_sub [1, 2, 3, 0] rfl (hrc2 v4)
    · refine sim_iload 3 rfl dX12_findIn_18 ?_
      exact sim_iret rfl rfl dX12_findIn_20
theorem dX12_readOf_0 : decode cX12_readOf 0 = .ok (.aload_n 0, 1) := by decide +kernel
theorem dX12_readOf_1 : decode cX12_readOf 1 = .ok (.invokevirtual 186, 3) := by decide +kernel
theorem dX12_readOf_4 : decode cX12_readOf 4 = .ok (.ifCond .ne 9, 3) := by decide +kernel
theorem dX12_readOf_7 : decode cX12_readOf 7 = .ok (.aload_n 0, 1) := by decide +kernel
theorem dX12_readOf_8 : decode cX12_readOf 8 = .ok (.iconst 1, 1) := by decide +kernel
theorem dX12_readOf_9 : decode cX12_readOf 9 = .ok (.invokevirtual 155, 3) := by decide +kernel
theorem dX12_readOf_12 : decode cX12_readOf 12 = .ok (.ireturn, 1) := by decide +kernel
theorem dX12_readOf_13 : decode cX12_readOf 13 = .ok (.aload_n 0, 1) := by decide +kernel
theorem dX12_readOf_14 : decode cX12_readOf 14 = .ok (.getfield 25, 3) := by decide +kernel
theorem dX12_readOf_17 : decode cX12_readOf 17 = .ok (.aload_n 0, 1) := by decide +kernel
theorem dX12_readOf_18 : decode cX12_readOf 18 = .ok (.invokevirtual 237, 3) := by decide +kernel
theorem dX12_readOf_21 : decode cX12_readOf 21 = .ok (.aload_n 0, 1) := by decide +kernel
theorem dX12_readOf_22 : decode cX12_readOf 22 = .ok (.getfield 122, 3) := by decide +kernel
theorem dX12_readOf_25 : decode cX12_readOf 25 = .ok (.invokestatic 190, 3) := by decide +kernel
theorem dX12_readOf_28 : decode cX12_readOf 28 = .ok (.istore_n 1, 1) := by decide +kernel
theorem dX12_readOf_29 : decode cX12_readOf 29 = .ok (.iload_n 1, 1) := by decide +kernel
theorem dX12_readOf_30 : decode cX12_readOf 30 = .ok (.iconst (-1), 1) := by decide +kernel
theorem dX12_readOf_31 : decode cX12_readOf 31 = .ok (.if_icmp .ne 9, 3) := by decide +kernel
theorem dX12_readOf_34 : decode cX12_readOf 34 = .ok (.aload_n 0, 1) := by decide +kernel
theorem dX12_readOf_35 : decode cX12_readOf 35 = .ok (.iconst 3, 1) := by decide +kernel
theorem dX12_readOf_36 : decode cX12_readOf 36 = .ok (.invokevirtual 155, 3) := by decide +kernel
theorem dX12_readOf_39 : decode cX12_readOf 39 = .ok (.ireturn, 1) := by decide +kernel
theorem dX12_readOf_40 : decode cX12_readOf 40 = .ok (.aload_n 0, 1) := by decide +kernel
theorem dX12_readOf_41 : decode cX12_readOf 41 = .ok (.aload_n 0, 1) := by decide +kernel
theorem dX12_readOf_42 : decode cX12_readOf 42 = .ok (.bipush 64, 2) := by decide +kernel
theorem dX12_readOf_44 : decode cX12_readOf 44 = .ok (.iload_n 1, 1) := by decide +kernel
theorem dX12_readOf_45 : decode cX12_readOf 45 = .ok (.iconst 0, 1) := by decide +kernel
theorem dX12_readOf_46 : decode cX12_readOf 46 = .ok (.iconst 0, 1) := by decide +kernel
theorem dX12_readOf_47 : decode cX12_readOf 47 = .ok (.invokevirtual 440, 3) := by decide +kernel
theorem dX12_readOf_50 : decode cX12_readOf 50 = .ok (.putfield 437, 3) := by decide +kernel
theorem dX12_readOf_53 : decode cX12_readOf 53 = .ok (.aload_n 0, 1) := by decide +kernel
theorem dX12_readOf_54 : decode cX12_readOf 54 = .ok (.invokevirtual 169, 3) := by decide +kernel
theorem dX12_readOf_57 : decode cX12_readOf 57 = .ok (.iconst 1, 1) := by decide +kernel
theorem dX12_readOf_58 : decode cX12_readOf 58 = .ok (.ireturn, 1) := by decide +kernel
def f_M_readOf (n : Nat)   (σ : JSg) : Option (Int × JSg) :=
  bd1 (f_M_isName n σ) fun r1 => if r1 = 0 then (bd2 (f_M_bad 1 σ) fun r11 s12 => chk (r11 = 0 ∨ r11 = 1) <| some (r11, s12)) else (bd1 (f_M_widows σ) fun r2 => bd1 (f_M_findIn n 185 6 r2 (σ 179 12) σ) fun r3 => lt_ r3 fun v4 => if v4 = (-1) then (bd2 (f_M_bad 3 σ) fun r9 s10 => chk (r9 = 0 ∨ r9 = 1) <| some (r9, s10)) else (bd2 (f_M_saysOne 64 v4 0 0 σ) fun r5 s6 => lt_ (sp s6 179 51 r5) fun s7 => bd1 (f_M_go n s7) fun s8 => some (1, s8)))
set_option maxRecDepth 20000 in
set_option maxHeartbeats 4000000 in
theorem k_M_readOf  (n : Nat)    (σ : JSg) : Call yX12_readOf cX12_readOf 2 (some .boolean) 3 SH RHO [vR 179] σ dIm (f_M_readOf n σ) := by
  refine call_of_sim (by decide +kernel) (Nat.le_of_ble_eq_true rfl) ?_
  show Sim RX12 cX12_readOf 2 (some .boolean) 3 SH RHO 0 [(0, vR 179)] [] σ dIm (f_M_readOf n σ)
  unfold f_M_readOf
  refine sim_aload_n 0 rfl dX12_readOf_0 ?_
  refine sim_callVIp v_RX12_186 sh_179 dX12_readOf_1 (k_M_isName n σ) rfl ⟨by decide, by decide⟩ (S := []) rfl (Nat.le_of_ble_eq_true rfl) (fun r1 => ?_)
  refine sim_if_ne (tgt := 13) dX12_readOf_4 (by decide) ?_ ?_
  · refine sim_aload_n 0 rfl dX12_readOf_13 ?_
    refine sim_getR g_RX12_25 sh_179 rh_179_18 dX12_readOf_14 ?_
    refine sim_aload_n 0 rfl dX12_readOf_17 ?_
    refine sim_callVIp v_RX12_237 sh_179 dX12_readOf_18 (k_M_widows σ) rfl ⟨by decide, by decide⟩ (S := [vR 185]) rfl (Nat.le_of_ble_eq_true rfl) (fun r2 => ?_)
    refine sim_aload_n 0 rfl dX12_readOf_21 ?_
    refine sim_getL g_RX12_122 sh_179 dX12_readOf_22 ?_
    refine sim_callSIp s_RX12_190 dX12_readOf_25 (k_M_findIn SH RHO n 185 6 sh_185 (okI_lit (by decide)) r2 (σ 179 12) σ) rfl ⟨by decide, by decide⟩ (S := []) rfl (Nat.le_of_ble_eq_true rfl) (fun r3 => ?_)
    refine sim_istore_n (fun v4 => [(1, vI v4), (0, vR 179)]) (fun _ => rfl) (by decide) dX12_readOf_28 (fun v4 => ?_)
    refine sim_iload_n 0 rfl dX12_readOf_29 ?_
    refine sim_iconst dX12_readOf_30 (by decide) ?_
    refine sim_icmp_ne (tgt := 40) dX12_readOf_31 (by decide) ?_ ?_
    · refine sim_aload_n 1 rfl dX12_readOf_40 ?_
      refine sim_aload_n 1 rfl dX12_readOf_41 ?_
      refine sim_bipush dX12_readOf_42 (by decide +kernel) ?_
      refine sim_iload_n 0 rfl dX12_readOf_44 ?_
      refine sim_iconst dX12_readOf_45 (by decide) ?_
      refine sim_iconst dX12_readOf_46 (by decide) ?_
      refine sim_callVIm v_RX12_440 sh_179 dX12_readOf_47 (k_M_saysOne 64 v4 0 0 σ) rfl ⟨by decide, by decide⟩ (S := [vR 179]) rfl (Nat.le_of_ble_eq_true rfl) (fun r5 s6 => ?_)
      refine sim_putI g_RX12_437 sh_179 dX12_readOf_50 (fun s7 => ?_)
      refine sim_aload_n 1 rfl dX12_readOf_53 ?_
      refine sim_callVVm v_RX12_169 sh_179 dX12_readOf_54 (k_M_go n s7) rfl ⟨by decide, by decide⟩ (S := []) rfl (Nat.le_of_ble_eq_true rfl) (fun s8 => ?_)
      refine sim_iconst dX12_readOf_57 (by decide) ?_
      exact sim_zret (Or.inr rfl) rfl rfl dX12_readOf_58
    · refine sim_aload_n 1 rfl dX12_readOf_34 ?_
      refine sim_iconst dX12_readOf_35 (by decide) ?_
      refine sim_callVIm v_RX12_155 sh_179 dX12_readOf_36 (k_M_bad 3 σ) rfl ⟨by decide, by decide⟩ (S := []) rfl (Nat.le_of_ble_eq_true rfl) (fun r9 s10 => ?_)
      exact sim_zretc rfl rfl dX12_readOf_39
  · refine sim_aload_n 0 rfl dX12_readOf_7 ?_
    refine sim_iconst dX12_readOf_8 (by decide) ?_
    refine sim_callVIm v_RX12_155 sh_179 dX12_readOf_9 (k_M_bad 1 σ) rfl ⟨by decide, by decide⟩ (S := []) rfl (Nat.le_of_ble_eq_true rfl) (fun r11 s12 => ?_)
    exact sim_zretc rfl rfl dX12_readOf_12
theorem dX12_isNumber_0 : decode cX12_isNumber 0 = .ok (.aload_n 0, 1) := by decide +kernel
theorem dX12_isNumber_1 : decode cX12_isNumber 1 = .ok (.getfield 109, 3) := by decide +kernel
theorem dX12_isNumber_4 : decode cX12_isNumber 4 = .ok (.iconst 3, 1) := by decide +kernel
theorem dX12_isNumber_5 : decode cX12_isNumber 5 = .ok (.if_icmp .eq 9, 3) := by decide +kernel
theorem dX12_isNumber_8 : decode cX12_isNumber 8 = .ok (.aload_n 0, 1) := by decide +kernel
theorem dX12_isNumber_9 : decode cX12_isNumber 9 = .ok (.iconst 1, 1) := by decide +kernel
theorem dX12_isNumber_10 : decode cX12_isNumber 10 = .ok (.invokevirtual 155, 3) := by decide +kernel
theorem dX12_isNumber_13 : decode cX12_isNumber 13 = .ok (.ireturn, 1) := by decide +kernel
theorem dX12_isNumber_14 : decode cX12_isNumber 14 = .ok (.aload_n 0, 1) := by decide +kernel
theorem dX12_isNumber_15 : decode cX12_isNumber 15 = .ok (.getfield 126, 3) := by decide +kernel
theorem dX12_isNumber_18 : decode cX12_isNumber 18 = .ok (.iload_n 1, 1) := by decide +kernel
theorem dX12_isNumber_19 : decode cX12_isNumber 19 = .ok (.iload_n 2, 1) := by decide +kernel
theorem dX12_isNumber_20 : decode cX12_isNumber 20 = .ok (.invokestatic 158, 3) := by decide +kernel
theorem dX12_isNumber_23 : decode cX12_isNumber 23 = .ok (.ifCond .ne 9, 3) := by decide +kernel
theorem dX12_isNumber_26 : decode cX12_isNumber 26 = .ok (.aload_n 0, 1) := by decide +kernel
theorem dX12_isNumber_27 : decode cX12_isNumber 27 = .ok (.iconst 2, 1) := by decide +kernel
theorem dX12_isNumber_28 : decode cX12_isNumber 28 = .ok (.invokevirtual 155, 3) := by decide +kernel
theorem dX12_isNumber_31 : decode cX12_isNumber 31 = .ok (.ireturn, 1) := by decide +kernel
theorem dX12_isNumber_32 : decode cX12_isNumber 32 = .ok (.aload_n 0, 1) := by decide +kernel
theorem dX12_isNumber_33 : decode cX12_isNumber 33 = .ok (.aload_n 0, 1) := by decide +kernel
theorem dX12_isNumber_34 : decode cX12_isNumber 34 = .ok (.getfield 126, 3) := by decide +kernel
theorem dX12_isNumber_37 : decode cX12_isNumber 37 = .ok (.putfield 162, 3) := by decide +kernel
theorem dX12_isNumber_40 : decode cX12_isNumber 40 = .ok (.iconst 1, 1) := by decide +kernel
theorem dX12_isNumber_41 : decode cX12_isNumber 41 = .ok (.ireturn, 1) := by decide +kernel
def f_M_isNumber   (a1 : Int) (a2 : Int) (σ : JSg) : Option (Int × JSg) :=
  if (σ 179 7) = 3 then (bd1 (f_M_isIn (σ 179 8) a1 a2 σ) fun r1 => if r1 = 0 then (bd2 (f_M_bad 2 σ) fun r3 s4 => chk (r3 = 0 ∨ r3 = 1) <| some (r3, s4)) else (lt_ (sp σ 179 13 (σ 179 8)) fun s2 => some (1, s2))) else (bd2 (f_M_bad 1 σ) fun r5 s6 => chk (r5 = 0 ∨ r5 = 1) <| some (r5, s6))
set_option maxRecDepth 20000 in
set_option maxHeartbeats 4000000 in
theorem k_M_isNumber     (a1 : Int) (a2 : Int) (σ : JSg) : Call yX12_isNumber cX12_isNumber 3 (some .boolean) 1 SH RHO [vR 179, vI a1, vI a2] σ dIm (f_M_isNumber a1 a2 σ) := by
  refine call_of_sim (by decide +kernel) (Nat.le_of_ble_eq_true rfl) ?_
  show Sim RX12 cX12_isNumber 3 (some .boolean) 1 SH RHO 0 [(0, vR 179), (1, vI a1), (2, vI a2)] [] σ dIm (f_M_isNumber a1 a2 σ)
  unfold f_M_isNumber
  refine sim_aload_n 0 rfl dX12_isNumber_0 ?_
  refine sim_getI g_RX12_109 sh_179 dX12_isNumber_1 ?_
  refine sim_iconst dX12_isNumber_4 (by decide) ?_
  refine sim_icmp_eq (tgt := 14) dX12_isNumber_5 (by decide) ?_ ?_
  · refine sim_aload_n 0 rfl dX12_isNumber_14 ?_
    refine sim_getI g_RX12_126 sh_179 dX12_isNumber_15 ?_
    refine sim_iload_n 1 rfl dX12_isNumber_18 ?_
    refine sim_iload_n 2 rfl dX12_isNumber_19 ?_
    refine sim_callSIp s_RX12_158 dX12_isNumber_20 (k_M_isIn SH RHO (σ 179 8) a1 a2 σ) rfl ⟨by decide, by decide⟩ (S := []) rfl (Nat.le_of_ble_eq_true rfl) (fun r1 => ?_)
    refine sim_if_ne (tgt := 32) dX12_isNumber_23 (by decide) ?_ ?_
    · refine sim_aload_n 0 rfl dX12_isNumber_32 ?_
      refine sim_aload_n 0 rfl dX12_isNumber_33 ?_
      refine sim_getI g_RX12_126 sh_179 dX12_isNumber_34 ?_
      refine sim_putI g_RX12_162 sh_179 dX12_isNumber_37 (fun s2 => ?_)
      refine sim_iconst dX12_isNumber_40 (by decide) ?_
      exact sim_zret (Or.inr rfl) rfl rfl dX12_isNumber_41
    · refine sim_aload_n 0 rfl dX12_isNumber_26 ?_
      refine sim_iconst dX12_isNumber_27 (by decide) ?_
      refine sim_callVIm v_RX12_155 sh_179 dX12_isNumber_28 (k_M_bad 2 σ) rfl ⟨by decide, by decide⟩ (S := []) rfl (Nat.le_of_ble_eq_true rfl) (fun r3 s4 => ?_)
      exact sim_zretc rfl rfl dX12_isNumber_31
  · refine sim_aload_n 0 rfl dX12_isNumber_8 ?_
    refine sim_iconst dX12_isNumber_9 (by decide) ?_
    refine sim_callVIm v_RX12_155 sh_179 dX12_isNumber_10 (k_M_bad 1 σ) rfl ⟨by decide, by decide⟩ (S := []) rfl (Nat.le_of_ble_eq_true rfl) (fun r5 s6 => ?_)
    exact sim_zretc rfl rfl dX12_isNumber_13
theorem dX12_readNumber_0 : decode cX12_readNumber 0 = .ok (.aload_n 0, 1) := by decide +kernel
theorem dX12_readNumber_1 : decode cX12_readNumber 1 = .ok (.iload_n 1, 1) := by decide +kernel
theorem dX12_readNumber_2 : decode cX12_readNumber 2 = .ok (.iload_n 2, 1) := by decide +kernel
theorem dX12_readNumber_3 : decode cX12_readNumber 3 = .ok (.invokevirtual 165, 3) := by decide +kernel
theorem dX12_readNumber_6 : decode cX12_readNumber 6 = .ok (.ifCond .ne 5, 3) := by decide +kernel
theorem dX12_readNumber_9 : decode cX12_readNumber 9 = .ok (.iconst 0, 1) := by decide +kernel
theorem dX12_readNumber_10 : decode cX12_readNumber 10 = .ok (.ireturn, 1) := by decide +kernel
theorem dX12_readNumber_11 : decode cX12_readNumber 11 = .ok (.aload_n 0, 1) := by decide +kernel
theorem dX12_readNumber_12 : decode cX12_readNumber 12 = .ok (.invokevirtual 169, 3) := by decide +kernel
theorem dX12_readNumber_15 : decode cX12_readNumber 15 = .ok (.iconst 1, 1) := by decide +kernel
theorem dX12_readNumber_16 : decode cX12_readNumber 16 = .ok (.ireturn, 1) := by decide +kernel
def f_M_readNumber (n : Nat)  (a1 : Int) (a2 : Int) (σ : JSg) : Option (Int × JSg) :=
  bd2 (f_M_isNumber a1 a2 σ) fun r1 s2 => if r1 = 0 then (some (0, s2)) else (bd1 (f_M_go n s2) fun s3 => some (1, s3))
set_option maxRecDepth 20000 in
set_option maxHeartbeats 4000000 in
theorem k_M_readNumber  (n : Nat)   (a1 : Int) (a2 : Int) (σ : JSg) : Call yX12_readNumber cX12_readNumber 3 (some .boolean) 2 SH RHO [vR 179, vI a1, vI a2] σ dIm (f_M_readNumber n a1 a2 σ) := by
  refine call_of_sim (by decide +kernel) (Nat.le_of_ble_eq_true rfl) ?_
  show Sim RX12 cX12_readNumber 3 (some .boolean) 2 SH RHO 0 [(0, vR 179), (1, vI a1), (2, vI a2)] [] σ dIm (f_M_readNumber n a1 a2 σ)
  unfold f_M_readNumber
  refine sim_aload_n 0 rfl dX12_readNumber_0 ?_
  refine sim_iload_n 1 rfl dX12_readNumber_1 ?_
  refine sim_iload_n 2 rfl dX12_readNumber_2 ?_
  refine sim_callVIm v_RX12_165 sh_179 dX12_readNumber_3 (k_M_isNumber a1 a2 σ) rfl ⟨by decide, by decide⟩ (S := []) rfl (Nat.le_of_ble_eq_true rfl) (fun r1 s2 => ?_)
  refine sim_if_ne (tgt := 11) dX12_readNumber_6 (by decide) ?_ ?_
  · refine sim_aload_n 0 rfl dX12_readNumber_11 ?_
    refine sim_callVVm v_RX12_169 sh_179 dX12_readNumber_12 (k_M_go n s2) rfl ⟨by decide, by decide⟩ (S := []) rfl (Nat.le_of_ble_eq_true rfl) (fun s3 => ?_)
    refine sim_iconst dX12_readNumber_15 (by decide) ?_
    exact sim_zret (Or.inr rfl) rfl rfl dX12_readNumber_16
  · refine sim_iconst dX12_readNumber_9 (by decide) ?_
    exact sim_zret (Or.inl rfl) rfl rfl dX12_readNumber_10
theorem dX12_readCompare_0 : decode cX12_readCompare 0 = .ok (.aload_n 0, 1) := by decide +kernel
theorem dX12_readCompare_1 : decode cX12_readCompare 1 = .ok (.bipush 60, 2) := by decide +kernel
theorem dX12_readCompare_3 : decode cX12_readCompare 3 = .ok (.invokevirtual 172, 3) := by decide +kernel
theorem dX12_readCompare_6 : decode cX12_readCompare 6 = .ok (.ifCond .ne 27, 3) := by decide +kernel
theorem dX12_readCompare_9 : decode cX12_readCompare 9 = .ok (.aload_n 0, 1) := by decide +kernel
theorem dX12_readCompare_10 : decode cX12_readCompare 10 = .ok (.bipush 61, 2) := by decide +kernel
theorem dX12_readCompare_12 : decode cX12_readCompare 12 = .ok (.invokevirtual 172, 3) := by decide +kernel
theorem dX12_readCompare_15 : decode cX12_readCompare 15 = .ok (.ifCond .ne 18, 3) := by decide +kernel
theorem dX12_readCompare_18 : decode cX12_readCompare 18 = .ok (.aload_n 0, 1) := by decide +kernel
theorem dX12_readCompare_19 : decode cX12_readCompare 19 = .ok (.bipush 62, 2) := by decide +kernel
theorem dX12_readCompare_21 : decode cX12_readCompare 21 = .ok (.invokevirtual 172, 3) := by decide +kernel
theorem dX12_readCompare_24 : decode cX12_readCompare 24 = .ok (.ifCond .ne 9, 3) := by decide +kernel
theorem dX12_readCompare_27 : decode cX12_readCompare 27 = .ok (.aload_n 0, 1) := by decide +kernel
theorem dX12_readCompare_28 : decode cX12_readCompare 28 = .ok (.iconst 1, 1) := by decide +kernel
theorem dX12_readCompare_29 : decode cX12_readCompare 29 = .ok (.invokevirtual 155, 3) := by decide +kernel
theorem dX12_readCompare_32 : decode cX12_readCompare 32 = .ok (.ireturn, 1) := by decide +kernel
theorem dX12_readCompare_33 : decode cX12_readCompare 33 = .ok (.aload_n 0, 1) := by decide +kernel
theorem dX12_readCompare_34 : decode cX12_readCompare 34 = .ok (.getfield 119, 3) := by decide +kernel
theorem dX12_readCompare_37 : decode cX12_readCompare 37 = .ok (.istore_n 2, 1) := by decide +kernel
theorem dX12_readCompare_38 : decode cX12_readCompare 38 = .ok (.aload_n 0, 1) := by decide +kernel
theorem dX12_readCompare_39 : decode cX12_readCompare 39 = .ok (.invokevirtual 169, 3) := by decide +kernel
theorem dX12_readCompare_42 : decode cX12_readCompare 42 = .ok (.aload_n 0, 1) := by decide +kernel
theorem dX12_readCompare_43 : decode cX12_readCompare 43 = .ok (.iconst 0, 1) := by decide +kernel
theorem dX12_readCompare_44 : decode cX12_readCompare 44 = .ok (.sipush 999, 3) := by decide +kernel
theorem dX12_readCompare_47 : decode cX12_readCompare 47 = .ok (.invokevirtual 194, 3) := by decide +kernel
theorem dX12_readCompare_50 : decode cX12_readCompare 50 = .ok (.ifCond .ne 5, 3) := by decide +kernel
theorem dX12_readCompare_53 : decode cX12_readCompare 53 = .ok (.iconst 0, 1) := by decide +kernel
theorem dX12_readCompare_54 : decode cX12_readCompare 54 = .ok (.ireturn, 1) := by decide +kernel
theorem dX12_readCompare_55 : decode cX12_readCompare 55 = .ok (.aload_n 0, 1) := by decide +kernel
theorem dX12_readCompare_56 : decode cX12_readCompare 56 = .ok (.aload_n 0, 1) := by decide +kernel
theorem dX12_readCompare_57 : decode cX12_readCompare 57 = .ok (.bipush 50, 2) := by decide +kernel
theorem dX12_readCompare_59 : decode cX12_readCompare 59 = .ok (.iload_n 1, 1) := by decide +kernel
theorem dX12_readCompare_60 : decode cX12_readCompare 60 = .ok (.iadd, 1) := by decide +kernel
theorem dX12_readCompare_61 : decode cX12_readCompare 61 = .ok (.iconst 0, 1) := by decide +kernel
theorem dX12_readCompare_62 : decode cX12_readCompare 62 = .ok (.aload_n 0, 1) := by decide +kernel
theorem dX12_readCompare_63 : decode cX12_readCompare 63 = .ok (.getfield 162, 3) := by decide +kernel
theorem dX12_readCompare_66 : decode cX12_readCompare 66 = .ok (.iload_n 2, 1) := by decide +kernel
theorem dX12_readCompare_67 : decode cX12_readCompare 67 = .ok (.invokevirtual 440, 3) := by decide +kernel
theorem dX12_readCompare_70 : decode cX12_readCompare 70 = .ok (.putfield 437, 3) := by decide +kernel
theorem dX12_readCompare_73 : decode cX12_readCompare 73 = .ok (.iconst 1, 1) := by decide +kernel
theorem dX12_readCompare_74 : decode cX12_readCompare 74 = .ok (.ireturn, 1) := by decide +kernel
def f_M_readCompare (n : Nat)  (a1 : Int) (σ : JSg) : Option (Int × JSg) :=
  bd1 (f_M_isSign 60 σ) fun r1 => jn0 (lt_ (σ 179 9) fun v3 => bd1 (f_M_go n σ) fun s4 => bd2 (f_M_readNumber n 0 999 s4) fun r5 s6 => if r5 = 0 then (some (0, s6)) else (bd2 (f_M_saysOne (w32 (50 + a1)) 0 (s6 179 13) v3 s6) fun r7 s8 => lt_ (sp s8 179 51 r7) fun s9 => some (1, s9))) fun j2 => if r1 = 0 then (bd1 (f_M_isSign 61 σ) fun r10 => if r10 = 0 then (bd1 (f_M_isSign 62 σ) fun r11 => if r11 = 0 then (bd2 (f_M_bad 1 σ) fun r12 s13 => chk (r12 = 0 ∨ r12 = 1) <| some (r12, s13)) else (j2)) else (j2)) else (j2)
set_option maxRecDepth 20000 in
set_option maxHeartbeats 4000000 in
theorem k_M_readCompare  (n : Nat)   (a1 : Int) (σ : JSg) : Call yX12_readCompare cX12_readCompare 3 (some .boolean) 3 SH RHO [vR 179, vI a1] σ dIm (f_M_readCompare n a1 σ) := by
  refine call_of_sim (by decide +kernel) (Nat.le_of_ble_eq_true rfl) ?_
  show Sim RX12 cX12_readCompare 3 (some .boolean) 3 SH RHO 0 [(0, vR 179), (1, vI a1)] [] σ dIm (f_M_readCompare n a1 σ)
  unfold f_M_readCompare
  refine sim_aload_n 0 rfl dX12_readCompare_0 ?_
  refine sim_bipush dX12_readCompare_1 (by decide +kernel) ?_
  refine sim_callVIp v_RX12_172 sh_179 dX12_readCompare_3 (k_M_isSign 60 σ) rfl ⟨by decide, by decide⟩ (S := []) rfl (Nat.le_of_ble_eq_true rfl) (fun r1 => ?_)
  refine sim_jn0 (pc' := 33) ([(0, vR 179), (1, vI a1)]) ([]) (σ) ?_ (fun j2 hj2 => ?_)
  · refine sim_aload_n 0 rfl dX12_readCompare_33 ?_
    refine sim_getI g_RX12_119 sh_179 dX12_readCompare_34 ?_
    refine sim_istore_n (fun v3 => [(2, vI v3), (0, vR 179), (1, vI a1)]) (fun _ => rfl) (by decide) dX12_readCompare_37 (fun v3 => ?_)
    refine sim_aload_n 1 rfl dX12_readCompare_38 ?_
    refine sim_callVVm v_RX12_169 sh_179 dX12_readCompare_39 (k_M_go n σ) rfl ⟨by decide, by decide⟩ (S := []) rfl (Nat.le_of_ble_eq_true rfl) (fun s4 => ?_)
    refine sim_aload_n 1 rfl dX12_readCompare_42 ?_
    refine sim_iconst dX12_readCompare_43 (by decide) ?_
    refine sim_sipush dX12_readCompare_44 (by decide +kernel) ?_
    refine sim_callVIm v_RX12_194 sh_179 dX12_readCompare_47 (k_M_readNumber n 0 999 s4) rfl ⟨by decide, by decide⟩ (S := []) rfl (Nat.le_of_ble_eq_true rfl) (fun r5 s6 => ?_)
    refine sim_if_ne (tgt := 55) dX12_readCompare_50 (by decide) ?_ ?_
    · refine sim_aload_n 1 rfl dX12_readCompare_55 ?_
      refine sim_aload_n 1 rfl dX12_readCompare_56 ?_
      refine sim_bipush dX12_readCompare_57 (by decide +kernel) ?_
      refine sim_iload_n 2 rfl dX12_readCompare_59 ?_
      refine sim_iadd dX12_readCompare_60 ?_
      refine sim_iconst dX12_readCompare_61 (by decide) ?_
      refine sim_aload_n 1 rfl dX12_readCompare_62 ?_
      refine sim_getI g_RX12_162 sh_179 dX12_readCompare_63 ?_
      refine sim_iload_n 0 rfl dX12_readCompare_66 ?_
      refine sim_callVIm v_RX12_440 sh_179 dX12_readCompare_67 (k_M_saysOne (w32 (50 + a1)) 0 (s6 179 13) v3 s6) rfl ⟨by decide, by decide⟩ (S := [vR 179]) rfl (Nat.le_of_ble_eq_true rfl) (fun r7 s8 => ?_)
      refine sim_putI g_RX12_437 sh_179 dX12_readCompare_70 (fun s9 => ?_)
      refine sim_iconst dX12_readCompare_73 (by decide) ?_
      exact sim_zret (Or.inr rfl) rfl rfl dX12_readCompare_74
    · refine sim_iconst dX12_readCompare_53 (by decide) ?_
      exact sim_zret (Or.inl rfl) rfl rfl dX12_readCompare_54
  refine sim_if_ne (tgt := 33) dX12_readCompare_6 (by decide) ?_ ?_
  · exact sim_sub [0, 1] rfl (hj2 )
  · refine sim_aload_n 0 rfl dX12_readCompare_9 ?_
    refine sim_bipush dX12_readCompare_10 (by decide +kernel) ?_
    refine sim_callVIp v_RX12_172 sh_179 dX12_readCompare_12 (k_M_isSign 61 σ) rfl ⟨by decide, by decide⟩ (S := []) rfl (Nat.le_of_ble_eq_true rfl) (fun r10 => ?_)
    refine sim_if_ne (tgt := 33) dX12_readCompare_15 (by decide) ?_ ?_
    · exact sim_sub [0, 1] rfl (hj2 )
    · refine sim_aload_n 0 rfl dX12_readCompare_18 ?_
      refine sim_bipush dX12_readCompare_19 (by decide +kernel) ?_
      refine sim_callVIp v_RX12_172 sh_179 dX12_readCompare_21 (k_M_isSign 62 σ) rfl ⟨by decide, by decide⟩ (S := []) rfl (Nat.le_of_ble_eq_true rfl) (fun r11 => ?_)
      refine sim_if_ne (tgt := 33) dX12_readCompare_24 (by decide) ?_ ?_
      · exact sim_sub [0, 1] rfl (hj2 )
      · refine sim_aload_n 0 rfl dX12_readCompare_27 ?_
        refine sim_iconst dX12_readCompare_28 (by decide) ?_
        refine sim_callVIm v_RX12_155 sh_179 dX12_readCompare_29 (k_M_bad 1 σ) rfl ⟨by decide, by decide⟩ (S := []) rfl (Nat.le_of_ble_eq_true rfl) (fun r12 s13 => ?_)
        exact sim_zretc rfl rfl dX12_readCompare_32
theorem dX12_readOr_0 : decode cX12_readOr 0 = .ok (.aload_n 0, 1) := by decide +kernel
theorem dX12_readOr_1 : decode cX12_readOr 1 = .ok (.invokevirtual 434, 3) := by decide +kernel
theorem dX12_readOr_4 : decode cX12_readOr 4 = .ok (.ifCond .ne 5, 3) := by decide +kernel
theorem dX12_readOr_7 : decode cX12_readOr 7 = .ok (.iconst 0, 1) := by decide +kernel
theorem dX12_readOr_8 : decode cX12_readOr 8 = .ok (.ireturn, 1) := by decide +kernel
theorem dX12_readOr_9 : decode cX12_readOr 9 = .ok (.aload_n 0, 1) := by decide +kernel
theorem dX12_readOr_10 : decode cX12_readOr 10 = .ok (.getfield 437, 3) := by decide +kernel
theorem dX12_readOr_13 : decode cX12_readOr 13 = .ok (.istore_n 1, 1) := by decide +kernel
theorem dX12_readOr_14 : decode cX12_readOr 14 = .ok (.aload_n 0, 1) := by decide +kernel
theorem dX12_readOr_15 : decode cX12_readOr 15 = .ok (.bipush 8, 2) := by decide +kernel
theorem dX12_readOr_17 : decode cX12_readOr 17 = .ok (.invokevirtual 207, 3) := by decide +kernel
theorem dX12_readOr_20 : decode cX12_readOr 20 = .ok (.ifCond .eq 31, 3) := by decide +kernel
theorem dX12_readOr_23 : decode cX12_readOr 23 = .ok (.aload_n 0, 1) := by decide +kernel
theorem dX12_readOr_24 : decode cX12_readOr 24 = .ok (.invokevirtual 169, 3) := by decide +kernel
theorem dX12_readOr_27 : decode cX12_readOr 27 = .ok (.aload_n 0, 1) := by decide +kernel
theorem dX12_readOr_28 : decode cX12_readOr 28 = .ok (.invokevirtual 434, 3) := by decide +kernel
theorem dX12_readOr_31 : decode cX12_readOr 31 = .ok (.ifCond .ne 5, 3) := by decide +kernel
theorem dX12_readOr_34 : decode cX12_readOr 34 = .ok (.iconst 0, 1) := by decide +kernel
theorem dX12_readOr_35 : decode cX12_readOr 35 = .ok (.ireturn, 1) := by decide +kernel
theorem dX12_readOr_36 : decode cX12_readOr 36 = .ok (.aload_n 0, 1) := by decide +kernel
theorem dX12_readOr_37 : decode cX12_readOr 37 = .ok (.iconst 3, 1) := by decide +kernel
theorem dX12_readOr_38 : decode cX12_readOr 38 = .ok (.iload_n 1, 1) := by decide +kernel
theorem dX12_readOr_39 : decode cX12_readOr 39 = .ok (.aload_n 0, 1) := by decide +kernel
theorem dX12_readOr_40 : decode cX12_readOr 40 = .ok (.getfield 437, 3) := by decide +kernel
theorem dX12_readOr_43 : decode cX12_readOr 43 = .ok (.iconst 0, 1) := by decide +kernel
theorem dX12_readOr_44 : decode cX12_readOr 44 = .ok (.invokevirtual 440, 3) := by decide +kernel
theorem dX12_readOr_47 : decode cX12_readOr 47 = .ok (.istore_n 1, 1) := by decide +kernel
theorem dX12_readOr_48 : decode cX12_readOr 48 = .ok (.goto (-34), 3) := by decide +kernel
theorem dX12_readOr_51 : decode cX12_readOr 51 = .ok (.aload_n 0, 1) := by decide +kernel
theorem dX12_readOr_52 : decode cX12_readOr 52 = .ok (.iload_n 1, 1) := by decide +kernel
theorem dX12_readOr_53 : decode cX12_readOr 53 = .ok (.putfield 437, 3) := by decide +kernel
theorem dX12_readOr_56 : decode cX12_readOr 56 = .ok (.iconst 1, 1) := by decide +kernel
theorem dX12_readOr_57 : decode cX12_readOr 57 = .ok (.ireturn, 1) := by decide +kernel
theorem dX12_readAnd_0 : decode cX12_readAnd 0 = .ok (.aload_n 0, 1) := by decide +kernel
theorem dX12_readAnd_1 : decode cX12_readAnd 1 = .ok (.invokevirtual 443, 3) := by decide +kernel
theorem dX12_readAnd_4 : decode cX12_readAnd 4 = .ok (.ifCond .ne 5, 3) := by decide +kernel
theorem dX12_readAnd_7 : decode cX12_readAnd 7 = .ok (.iconst 0, 1) := by decide +kernel
theorem dX12_readAnd_8 : decode cX12_readAnd 8 = .ok (.ireturn, 1) := by decide +kernel
theorem dX12_readAnd_9 : decode cX12_readAnd 9 = .ok (.aload_n 0, 1) := by decide +kernel
theorem dX12_readAnd_10 : decode cX12_readAnd 10 = .ok (.getfield 437, 3) := by decide +kernel
theorem dX12_readAnd_13 : decode cX12_readAnd 13 = .ok (.istore_n 1, 1) := by decide +kernel
theorem dX12_readAnd_14 : decode cX12_readAnd 14 = .ok (.aload_n 0, 1) := by decide +kernel
theorem dX12_readAnd_15 : decode cX12_readAnd 15 = .ok (.bipush 9, 2) := by decide +kernel
theorem dX12_readAnd_17 : decode cX12_readAnd 17 = .ok (.invokevirtual 207, 3) := by decide +kernel
theorem dX12_readAnd_20 : decode cX12_readAnd 20 = .ok (.ifCond .eq 31, 3) := by decide +kernel
theorem dX12_readAnd_23 : decode cX12_readAnd 23 = .ok (.aload_n 0, 1) := by decide +kernel
theorem dX12_readAnd_24 : decode cX12_readAnd 24 = .ok (.invokevirtual 169, 3) := by decide +kernel
theorem dX12_readAnd_27 : decode cX12_readAnd 27 = .ok (.aload_n 0, 1) := by decide +kernel
theorem dX12_readAnd_28 : decode cX12_readAnd 28 = .ok (.invokevirtual 443, 3) := by decide +kernel
theorem dX12_readAnd_31 : decode cX12_readAnd 31 = .ok (.ifCond .ne 5, 3) := by decide +kernel
theorem dX12_readAnd_34 : decode cX12_readAnd 34 = .ok (.iconst 0, 1) := by decide +kernel
theorem dX12_readAnd_35 : decode cX12_readAnd 35 = .ok (.ireturn, 1) := by decide +kernel
theorem dX12_readAnd_36 : decode cX12_readAnd 36 = .ok (.aload_n 0, 1) := by decide +kernel
theorem dX12_readAnd_37 : decode cX12_readAnd 37 = .ok (.iconst 2, 1) := by decide +kernel
theorem dX12_readAnd_38 : decode cX12_readAnd 38 = .ok (.iload_n 1, 1) := by decide +kernel
theorem dX12_readAnd_39 : decode cX12_readAnd 39 = .ok (.aload_n 0, 1) := by decide +kernel
theorem dX12_readAnd_40 : decode cX12_readAnd 40 = .ok (.getfield 437, 3) := by decide +kernel
theorem dX12_readAnd_43 : decode cX12_readAnd 43 = .ok (.iconst 0, 1) := by decide +kernel
theorem dX12_readAnd_44 : decode cX12_readAnd 44 = .ok (.invokevirtual 440, 3) := by decide +kernel
theorem dX12_readAnd_47 : decode cX12_readAnd 47 = .ok (.istore_n 1, 1) := by decide +kernel
theorem dX12_readAnd_48 : decode cX12_readAnd 48 = .ok (.goto (-34), 3) := by decide +kernel
theorem dX12_readAnd_51 : decode cX12_readAnd 51 = .ok (.aload_n 0, 1) := by decide +kernel
theorem dX12_readAnd_52 : decode cX12_readAnd 52 = .ok (.iload_n 1, 1) := by decide +kernel
theorem dX12_readAnd_53 : decode cX12_readAnd 53 = .ok (.putfield 437, 3) := by decide +kernel
theorem dX12_readAnd_56 : decode cX12_readAnd 56 = .ok (.iconst 1, 1) := by decide +kernel
theorem dX12_readAnd_57 : decode cX12_readAnd 57 = .ok (.ireturn, 1) := by decide +kernel
theorem dX12_readOne_0 : decode cX12_readOne 0 = .ok (.aload_n 0, 1) := by decide +kernel
theorem dX12_readOne_1 : decode cX12_readOne 1 = .ok (.bipush 40, 2) := by decide +kernel
theorem dX12_readOne_3 : decode cX12_readOne 3 = .ok (.invokevirtual 172, 3) := by decide +kernel
theorem dX12_readOne_6 : decode cX12_readOne 6 = .ok (.istore_n 1, 1) := by decide +kernel
theorem dX12_readOne_7 : decode cX12_readOne 7 = .ok (.bipush 10, 2) := by decide +kernel
theorem dX12_readOne_9 : decode cX12_readOne 9 = .ok (.istore_n 2, 1) := by decide +kernel
theorem dX12_readOne_10 : decode cX12_readOne 10 = .ok (.iload_n 2, 1) := by decide +kernel
theorem dX12_readOne_11 : decode cX12_readOne 11 = .ok (.bipush 19, 2) := by decide +kernel
theorem dX12_readOne_13 : decode cX12_readOne 13 = .ok (.if_icmp .gt 17, 3) := by decide +kernel
theorem dX12_readOne_16 : decode cX12_readOne 16 = .ok (.aload_n 0, 1) := by decide +kernel
theorem dX12_readOne_17 : decode cX12_readOne 17 = .ok (.iload_n 2, 1) := by decide +kernel
theorem dX12_readOne_18 : decode cX12_readOne 18 = .ok (.invokevirtual 207, 3) := by decide +kernel
theorem dX12_readOne_21 : decode cX12_readOne 21 = .ok (.ifCond .ne 9, 3) := by decide +kernel
theorem dX12_readOne_24 : decode cX12_readOne 24 = .ok (.iinc 2 1, 3) := by decide +kernel
theorem dX12_readOne_27 : decode cX12_readOne 27 = .ok (.goto (-17), 3) := by decide +kernel
theorem dX12_readOne_30 : decode cX12_readOne 30 = .ok (.iload_n 1, 1) := by decide +kernel
theorem dX12_readOne_31 : decode cX12_readOne 31 = .ok (.ifCond .ne 15, 3) := by decide +kernel
theorem dX12_readOne_34 : decode cX12_readOne 34 = .ok (.iload_n 2, 1) := by decide +kernel
theorem dX12_readOne_35 : decode cX12_readOne 35 = .ok (.bipush 19, 2) := by decide +kernel
theorem dX12_readOne_37 : decode cX12_readOne 37 = .ok (.if_icmp .le 9, 3) := by decide +kernel
theorem dX12_readOne_40 : decode cX12_readOne 40 = .ok (.aload_n 0, 1) := by decide +kernel
theorem dX12_readOne_41 : decode cX12_readOne 41 = .ok (.iconst 1, 1) := by decide +kernel
theorem dX12_readOne_42 : decode cX12_readOne 42 = .ok (.invokevirtual 155, 3) := by decide +kernel
theorem dX12_readOne_45 : decode cX12_readOne 45 = .ok (.ireturn, 1) := by decide +kernel
theorem dX12_readOne_46 : decode cX12_readOne 46 = .ok (.aload_n 0, 1) := by decide +kernel
theorem dX12_readOne_47 : decode cX12_readOne 47 = .ok (.getfield 446, 3) := by decide +kernel
theorem dX12_readOne_50 : decode cX12_readOne 50 = .ok (.bipush 20, 2) := by decide +kernel
theorem dX12_readOne_52 : decode cX12_readOne 52 = .ok (.if_icmp .eq 12, 3) := by decide +kernel
theorem dX12_readOne_55 : decode cX12_readOne 55 = .ok (.aload_n 0, 1) := by decide +kernel
theorem dX12_readOne_56 : decode cX12_readOne 56 = .ok (.getfield 449, 3) := by decide +kernel
theorem dX12_readOne_59 : decode cX12_readOne 59 = .ok (.bipush 8, 2) := by decide +kernel
theorem dX12_readOne_61 : decode cX12_readOne 61 = .ok (.if_icmp .ne 9, 3) := by decide +kernel
theorem dX12_readOne_64 : decode cX12_readOne 64 = .ok (.aload_n 0, 1) := by decide +kernel
theorem dX12_readOne_65 : decode cX12_readOne 65 = .ok (.iconst 4, 1) := by decide +kernel
theorem dX12_readOne_66 : decode cX12_readOne 66 = .ok (.invokevirtual 155, 3) := by decide +kernel
theorem dX12_readOne_69 : decode cX12_readOne 69 = .ok (.ireturn, 1) := by decide +kernel
theorem dX12_readOne_70 : decode cX12_readOne 70 = .ok (.aload_n 0, 1) := by decide +kernel
theorem dX12_readOne_71 : decode cX12_readOne 71 = .ok (.dup, 1) := by decide +kernel
theorem dX12_readOne_72 : decode cX12_readOne 72 = .ok (.getfield 446, 3) := by decide +kernel
theorem dX12_readOne_75 : decode cX12_readOne 75 = .ok (.iconst 1, 1) := by decide +kernel
theorem dX12_readOne_76 : decode cX12_readOne 76 = .ok (.iadd, 1) := by decide +kernel
theorem dX12_readOne_77 : decode cX12_readOne 77 = .ok (.putfield 446, 3) := by decide +kernel
theorem dX12_readOne_80 : decode cX12_readOne 80 = .ok (.aload_n 0, 1) := by decide +kernel
theorem dX12_readOne_81 : decode cX12_readOne 81 = .ok (.dup, 1) := by decide +kernel
theorem dX12_readOne_82 : decode cX12_readOne 82 = .ok (.getfield 449, 3) := by decide +kernel
theorem dX12_readOne_85 : decode cX12_readOne 85 = .ok (.iconst 1, 1) := by decide +kernel
theorem dX12_readOne_86 : decode cX12_readOne 86 = .ok (.iadd, 1) := by decide +kernel
theorem dX12_readOne_87 : decode cX12_readOne 87 = .ok (.putfield 449, 3) := by decide +kernel
theorem dX12_readOne_90 : decode cX12_readOne 90 = .ok (.aload_n 0, 1) := by decide +kernel
theorem dX12_readOne_91 : decode cX12_readOne 91 = .ok (.invokevirtual 169, 3) := by decide +kernel
theorem dX12_readOne_94 : decode cX12_readOne 94 = .ok (.iconst 1, 1) := by decide +kernel
theorem dX12_readOne_95 : decode cX12_readOne 95 = .ok (.istore_n 3, 1) := by decide +kernel
theorem dX12_readOne_96 : decode cX12_readOne 96 = .ok (.iload_n 1, 1) := by decide +kernel
theorem dX12_readOne_97 : decode cX12_readOne 97 = .ok (.ifCond .eq 11, 3) := by decide +kernel
theorem dX12_readOne_100 : decode cX12_readOne 100 = .ok (.aload_n 0, 1) := by decide +kernel
theorem dX12_readOne_101 : decode cX12_readOne 101 = .ok (.invokevirtual 452, 3) := by decide +kernel
theorem dX12_readOne_104 : decode cX12_readOne 104 = .ok (.istore_n 3, 1) := by decide +kernel
theorem dX12_readOne_105 : decode cX12_readOne 105 = .ok (.goto 61, 3) := by decide +kernel
theorem dX12_readOne_108 : decode cX12_readOne 108 = .ok (.iload_n 2, 1) := by decide +kernel
theorem dX12_readOne_109 : decode cX12_readOne 109 = .ok (.bipush 10, 2) := by decide +kernel
theorem dX12_readOne_111 : decode cX12_readOne 111 = .ok (.if_icmp .ne 11, 3) := by decide +kernel
theorem dX12_readOne_114 : decode cX12_readOne 114 = .ok (.aload_n 0, 1) := by decide +kernel
theorem dX12_readOne_115 : decode cX12_readOne 115 = .ok (.invokevirtual 455, 3) := by decide +kernel
theorem dX12_readOne_118 : decode cX12_readOne 118 = .ok (.istore_n 3, 1) := by decide +kernel
theorem dX12_readOne_119 : decode cX12_readOne 119 = .ok (.goto 47, 3) := by decide +kernel
theorem dX12_readOne_122 : decode cX12_readOne 122 = .ok (.iload_n 2, 1) := by decide +kernel
theorem dX12_readOne_123 : decode cX12_readOne 123 = .ok (.bipush 14, 2) := by decide +kernel
theorem dX12_readOne_125 : decode cX12_readOne 125 = .ok (.if_icmp .ne 11, 3) := by decide +kernel
theorem dX12_readOne_128 : decode cX12_readOne 128 = .ok (.aload_n 0, 1) := by decide +kernel
theorem dX12_readOne_129 : decode cX12_readOne 129 = .ok (.invokevirtual 458, 3) := by decide +kernel
theorem dX12_readOne_132 : decode cX12_readOne 132 = .ok (.istore_n 3, 1) := by decide +kernel
theorem dX12_readOne_133 : decode cX12_readOne 133 = .ok (.goto 33, 3) := by decide +kernel
theorem dX12_readOne_136 : decode cX12_readOne 136 = .ok (.iload_n 2, 1) := by decide +kernel
theorem dX12_readOne_137 : decode cX12_readOne 137 = .ok (.bipush 16, 2) := by decide +kernel
theorem dX12_readOne_139 : decode cX12_readOne 139 = .ok (.if_icmp .ge 21, 3) := by decide +kernel
theorem dX12_readOne_142 : decode cX12_readOne 142 = .ok (.aload_n 0, 1) := by decide +kernel
theorem dX12_readOne_143 : decode cX12_readOne 143 = .ok (.aload_n 0, 1) := by decide +kernel
theorem dX12_readOne_144 : decode cX12_readOne 144 = .ok (.bipush 50, 2) := by decide +kernel
theorem dX12_readOne_146 : decode cX12_readOne 146 = .ok (.iload_n 2, 1) := by decide +kernel
theorem dX12_readOne_147 : decode cX12_readOne 147 = .ok (.iadd, 1) := by decide +kernel
theorem dX12_readOne_148 : decode cX12_readOne 148 = .ok (.iconst 0, 1) := by decide +kernel
theorem dX12_readOne_149 : decode cX12_readOne 149 = .ok (.iconst 0, 1) := by decide +kernel
theorem dX12_readOne_150 : decode cX12_readOne 150 = .ok (.iconst 0, 1) := by decide +kernel
theorem dX12_readOne_151 : decode cX12_readOne 151 = .ok (.invokevirtual 440, 3) := by decide +kernel
theorem dX12_readOne_154 : decode cX12_readOne 154 = .ok (.putfield 437, 3) := by decide +kernel
theorem dX12_readOne_157 : decode cX12_readOne 157 = .ok (.goto 9, 3) := by decide +kernel
theorem dX12_readOne_160 : decode cX12_readOne 160 = .ok (.aload_n 0, 1) := by decide +kernel
theorem dX12_readOne_161 : decode cX12_readOne 161 = .ok (.iload_n 2, 1) := by decide +kernel
theorem dX12_readOne_162 : decode cX12_readOne 162 = .ok (.invokevirtual 461, 3) := by decide +kernel
theorem dX12_readOne_165 : decode cX12_readOne 165 = .ok (.istore_n 3, 1) := by decide +kernel
theorem dX12_readOne_166 : decode cX12_readOne 166 = .ok (.aload_n 0, 1) := by decide +kernel
theorem dX12_readOne_167 : decode cX12_readOne 167 = .ok (.dup, 1) := by decide +kernel
theorem dX12_readOne_168 : decode cX12_readOne 168 = .ok (.getfield 449, 3) := by decide +kernel
theorem dX12_readOne_171 : decode cX12_readOne 171 = .ok (.iconst 1, 1) := by decide +kernel
theorem dX12_readOne_172 : decode cX12_readOne 172 = .ok (.isub, 1) := by decide +kernel
theorem dX12_readOne_173 : decode cX12_readOne 173 = .ok (.putfield 449, 3) := by decide +kernel
theorem dX12_readOne_176 : decode cX12_readOne 176 = .ok (.iload_n 3, 1) := by decide +kernel
theorem dX12_readOne_177 : decode cX12_readOne 177 = .ok (.ireturn, 1) := by decide +kernel
theorem dX12_readBracket_0 : decode cX12_readBracket 0 = .ok (.aload_n 0, 1) := by decide +kernel
theorem dX12_readBracket_1 : decode cX12_readBracket 1 = .ok (.invokevirtual 464, 3) := by decide +kernel
theorem dX12_readBracket_4 : decode cX12_readBracket 4 = .ok (.ifCond .ne 5, 3) := by decide +kernel
theorem dX12_readBracket_7 : decode cX12_readBracket 7 = .ok (.iconst 0, 1) := by decide +kernel
theorem dX12_readBracket_8 : decode cX12_readBracket 8 = .ok (.ireturn, 1) := by decide +kernel
theorem dX12_readBracket_9 : decode cX12_readBracket 9 = .ok (.aload_n 0, 1) := by decide +kernel
theorem dX12_readBracket_10 : decode cX12_readBracket 10 = .ok (.bipush 41, 2) := by decide +kernel
theorem dX12_readBracket_12 : decode cX12_readBracket 12 = .ok (.invokevirtual 172, 3) := by decide +kernel
theorem dX12_readBracket_15 : decode cX12_readBracket 15 = .ok (.ifCond .ne 9, 3) := by decide +kernel
theorem dX12_readBracket_18 : decode cX12_readBracket 18 = .ok (.aload_n 0, 1) := by decide +kernel
theorem dX12_readBracket_19 : decode cX12_readBracket 19 = .ok (.iconst 1, 1) := by decide +kernel
theorem dX12_readBracket_20 : decode cX12_readBracket 20 = .ok (.invokevirtual 155, 3) := by decide +kernel
theorem dX12_readBracket_23 : decode cX12_readBracket 23 = .ok (.ireturn, 1) := by decide +kernel
theorem dX12_readBracket_24 : decode cX12_readBracket 24 = .ok (.aload_n 0, 1) := by decide +kernel
theorem dX12_readBracket_25 : decode cX12_readBracket 25 = .ok (.invokevirtual 169, 3) := by decide +kernel
theorem dX12_readBracket_28 : decode cX12_readBracket 28 = .ok (.iconst 1, 1) := by decide +kernel
theorem dX12_readBracket_29 : decode cX12_readBracket 29 = .ok (.ireturn, 1) := by decide +kernel
theorem dX12_readNot_0 : decode cX12_readNot 0 = .ok (.aload_n 0, 1) := by decide +kernel
theorem dX12_readNot_1 : decode cX12_readNot 1 = .ok (.invokevirtual 443, 3) := by decide +kernel
theorem dX12_readNot_4 : decode cX12_readNot 4 = .ok (.ifCond .ne 5, 3) := by decide +kernel
theorem dX12_readNot_7 : decode cX12_readNot 7 = .ok (.iconst 0, 1) := by decide +kernel
theorem dX12_readNot_8 : decode cX12_readNot 8 = .ok (.ireturn, 1) := by decide +kernel
theorem dX12_readNot_9 : decode cX12_readNot 9 = .ok (.aload_n 0, 1) := by decide +kernel
theorem dX12_readNot_10 : decode cX12_readNot 10 = .ok (.aload_n 0, 1) := by decide +kernel
theorem dX12_readNot_11 : decode cX12_readNot 11 = .ok (.iconst 1, 1) := by decide +kernel
theorem dX12_readNot_12 : decode cX12_readNot 12 = .ok (.aload_n 0, 1) := by decide +kernel
theorem dX12_readNot_13 : decode cX12_readNot 13 = .ok (.getfield 437, 3) := by decide +kernel
theorem dX12_readNot_16 : decode cX12_readNot 16 = .ok (.iconst 0, 1) := by decide +kernel
theorem dX12_readNot_17 : decode cX12_readNot 17 = .ok (.iconst 0, 1) := by decide +kernel
theorem dX12_readNot_18 : decode cX12_readNot 18 = .ok (.invokevirtual 440, 3) := by decide +kernel
theorem dX12_readNot_21 : decode cX12_readNot 21 = .ok (.putfield 437, 3) := by decide +kernel
theorem dX12_readNot_24 : decode cX12_readNot 24 = .ok (.iconst 1, 1) := by decide +kernel
theorem dX12_readNot_25 : decode cX12_readNot 25 = .ok (.ireturn, 1) := by decide +kernel
def f_M_readOr_s (n : Nat)  (greadOr : JSg → Option (Int × JSg)) (greadAnd : JSg → Option (Int × JSg)) (greadOne : JSg → Option (Int × JSg)) (greadBracket : JSg → Option (Int × JSg)) (greadNot : JSg → Option (Int × JSg))  (σ : JSg) : Option (Int × JSg) :=
  bd2 (greadAnd σ) fun r1 s2 => if r1 = 0 then (some (0, s2)) else (lt_ (s2 179 51) fun v3 => wh2 n (fun rc4 (x5 : Int) (s6 : JSg) => bd1 (f_M_isWord 8 s6) fun r7 => if r7 = 0 then (lt_ (sp s6 179 51 x5) fun s8 => some (1, s8)) else (bd1 (f_M_go n s6) fun s9 => bd2 (greadAnd s9) fun r10 s11 => if r10 = 0 then (some (0, s11)) else (bd2 (f_M_saysOne 3 x5 (s11 179 51) 0 s11) fun r12 s13 => lt_ r12 fun v14 => rc4 v14 s13))) v3 s2)
set_option maxRecDepth 20000 in
set_option maxHeartbeats 4000000 in
theorem k_M_readOr_s  (n : Nat)   (greadOr : JSg → Option (Int × JSg)) (greadAnd : JSg → Option (Int × JSg)) (greadOne : JSg → Option (Int × JSg)) (greadBracket : JSg → Option (Int × JSg)) (greadNot : JSg → Option (Int × JSg)) (d : Nat) (hd9 : 4 ≤ d) (hgreadOr : ∀  (σ : JSg), Call yX12_readOr cX12_readOr 2 (some .boolean) d SH RHO [vR 179] σ dIm (greadOr  σ)) (hgreadAnd : ∀  (σ : JSg), Call yX12_readAnd cX12_readAnd 2 (some .boolean) d SH RHO [vR 179] σ dIm (greadAnd  σ)) (hgreadOne : ∀  (σ : JSg), Call yX12_readOne cX12_readOne 4 (some .boolean) d SH RHO [vR 179] σ dIm (greadOne  σ)) (hgreadBracket : ∀  (σ : JSg), Call yX12_readBracket cX12_readBracket 1 (some .boolean) d SH RHO [vR 179] σ dIm (greadBracket  σ)) (hgreadNot : ∀  (σ : JSg), Call yX12_readNot cX12_readNot 1 (some .boolean) d SH RHO [vR 179] σ dIm (greadNot  σ))  (σ : JSg) : Call yX12_readOr cX12_readOr 2 (some .boolean) (d + 1) SH RHO [vR 179] σ dIm (f_M_readOr_s n greadOr greadAnd greadOne greadBracket greadNot σ) := by
  refine call_of_sim (by decide +kernel) (Nat.le_of_ble_eq_true rfl) ?_
  show Sim RX12 cX12_readOr 2 (some .boolean) (d + 1) SH RHO 0 [(0, vR 179)] [] σ dIm (f_M_readOr_s n greadOr greadAnd greadOne greadBracket greadNot σ)
  unfold f_M_readOr_s
  refine sim_aload_n 0 rfl dX12_readOr_0 ?_
  refine sim_callVIm v_RX12_434 sh_179 dX12_readOr_1 (hgreadAnd σ) rfl ⟨by omega, by decide⟩ (S := []) rfl (Nat.le_of_ble_eq_true rfl) (fun r1 s2 => ?_)
  refine sim_if_ne (tgt := 9) dX12_readOr_4 (by decide) ?_ ?_
  · refine sim_aload_n 0 rfl dX12_readOr_9 ?_
    refine sim_getI g_RX12_437 sh_179 dX12_readOr_10 ?_
    refine sim_istore_n (fun v3 => [(1, vI v3), (0, vR 179)]) (fun _ => rfl) (by decide) dX12_readOr_13 (fun v3 => ?_)
    refine sim_sub [1, 0] (L' := [(0, vR 179), (1, vI v3)]) rfl ?_
    refine sim_wh2 (fun (x5 : Int) (s6 : JSg) => [(0, vR 179), (1, vI x5)]) (fun (x5 : Int) (s6 : JSg) => s6) ?_ n v3 s2
    intro rc4 hrc4 x5 s6
    refine sim_aload_n 0 rfl dX12_readOr_14 ?_
    refine sim_bipush dX12_readOr_15 (by decide +kernel) ?_
    refine sim_callVIp v_RX12_207 sh_179 dX12_readOr_17 (k_M_isWord 8 s6) rfl ⟨by omega, by decide⟩ (S := []) rfl (Nat.le_of_ble_eq_true rfl) (fun r7 => ?_)
    refine sim_if_eq (tgt := 51) dX12_readOr_20 (by decide) ?_ ?_
    · refine sim_aload_n 0 rfl dX12_readOr_51 ?_
      refine sim_iload_n 1 rfl dX12_readOr_52 ?_
      refine sim_putI g_RX12_437 sh_179 dX12_readOr_53 (fun s8 => ?_)
      refine sim_iconst dX12_readOr_56 (by decide) ?_
      exact sim_zret (Or.inr rfl) rfl rfl dX12_readOr_57
    · refine sim_aload_n 0 rfl dX12_readOr_23 ?_
      refine sim_callVVm v_RX12_169 sh_179 dX12_readOr_24 (k_M_go n s6) rfl ⟨by omega, by decide⟩ (S := []) rfl (Nat.le_of_ble_eq_true rfl) (fun s9 => ?_)
      refine sim_aload_n 0 rfl dX12_readOr_27 ?_
      refine sim_callVIm v_RX12_434 sh_179 dX12_readOr_28 (hgreadAnd s9) rfl ⟨by omega, by decide⟩ (S := []) rfl (Nat.le_of_ble_eq_true rfl) (fun r10 s11 => ?_)
      refine sim_if_ne (tgt := 36) dX12_readOr_31 (by decide) ?_ ?_
      · refine sim_aload_n 0 rfl dX12_readOr_36 ?_
        refine sim_iconst dX12_readOr_37 (by decide) ?_
        refine sim_iload_n 1 rfl dX12_readOr_38 ?_
        refine sim_aload_n 0 rfl dX12_readOr_39 ?_
        refine sim_getI g_RX12_437 sh_179 dX12_readOr_40 ?_
        refine sim_iconst dX12_readOr_43 (by decide) ?_
        refine sim_callVIm v_RX12_440 sh_179 dX12_readOr_44 (k_M_saysOne 3 x5 (s11 179 51) 0 s11) rfl ⟨by omega, by decide⟩ (S := []) rfl (Nat.le_of_ble_eq_true rfl) (fun r12 s13 => ?_)
        refine sim_istore_n (fun v14 => [(1, vI v14), (0, vR 179)]) (fun _ => rfl) (by decide) dX12_readOr_47 (fun v14 => ?_)
        refine sim_goto (tgt := 14) dX12_readOr_48 (by decide) ?_
        exact sim_sub [1, 0] rfl (hrc4 v14 s13)
      · refine sim_iconst dX12_readOr_34 (by decide) ?_
        exact sim_zret (Or.inl rfl) rfl rfl dX12_readOr_35
  · refine sim_iconst dX12_readOr_7 (by decide) ?_
    exact sim_zret (Or.inl rfl) rfl rfl dX12_readOr_8
def f_M_readAnd_s (n : Nat)  (greadOr : JSg → Option (Int × JSg)) (greadAnd : JSg → Option (Int × JSg)) (greadOne : JSg → Option (Int × JSg)) (greadBracket : JSg → Option (Int × JSg)) (greadNot : JSg → Option (Int × JSg))  (σ : JSg) : Option (Int × JSg) :=
  bd2 (greadOne σ) fun r1 s2 => if r1 = 0 then (some (0, s2)) else (lt_ (s2 179 51) fun v3 => wh2 n (fun rc4 (x5 : Int) (s6 : JSg) => bd1 (f_M_isWord 9 s6) fun r7 => if r7 = 0 then (lt_ (sp s6 179 51 x5) fun s8 => some (1, s8)) else (bd1 (f_M_go n s6) fun s9 => bd2 (greadOne s9) fun r10 s11 => if r10 = 0 then (some (0, s11)) else (bd2 (f_M_saysOne 2 x5 (s11 179 51) 0 s11) fun r12 s13 => lt_ r12 fun v14 => rc4 v14 s13))) v3 s2)
set_option maxRecDepth 20000 in
set_option maxHeartbeats 4000000 in
theorem k_M_readAnd_s  (n : Nat)   (greadOr : JSg → Option (Int × JSg)) (greadAnd : JSg → Option (Int × JSg)) (greadOne : JSg → Option (Int × JSg)) (greadBracket : JSg → Option (Int × JSg)) (greadNot : JSg → Option (Int × JSg)) (d : Nat) (hd9 : 4 ≤ d) (hgreadOr : ∀  (σ : JSg), Call yX12_readOr cX12_readOr 2 (some .boolean) d SH RHO [vR 179] σ dIm (greadOr  σ)) (hgreadAnd : ∀  (σ : JSg), Call yX12_readAnd cX12_readAnd 2 (some .boolean) d SH RHO [vR 179] σ dIm (greadAnd  σ)) (hgreadOne : ∀  (σ : JSg), Call yX12_readOne cX12_readOne 4 (some .boolean) d SH RHO [vR 179] σ dIm (greadOne  σ)) (hgreadBracket : ∀  (σ : JSg), Call yX12_readBracket cX12_readBracket 1 (some .boolean) d SH RHO [vR 179] σ dIm (greadBracket  σ)) (hgreadNot : ∀  (σ : JSg), Call yX12_readNot cX12_readNot 1 (some .boolean) d SH RHO [vR 179] σ dIm (greadNot  σ))  (σ : JSg) : Call yX12_readAnd cX12_readAnd 2 (some .boolean) (d + 1) SH RHO [vR 179] σ dIm (f_M_readAnd_s n greadOr greadAnd greadOne greadBracket greadNot σ) := by
  refine call_of_sim (by decide +kernel) (Nat.le_of_ble_eq_true rfl) ?_
  show Sim RX12 cX12_readAnd 2 (some .boolean) (d + 1) SH RHO 0 [(0, vR 179)] [] σ dIm (f_M_readAnd_s n greadOr greadAnd greadOne greadBracket greadNot σ)
  unfold f_M_readAnd_s
  refine sim_aload_n 0 rfl dX12_readAnd_0 ?_
  refine sim_callVIm v_RX12_443 sh_179 dX12_readAnd_1 (hgreadOne σ) rfl ⟨by omega, by decide⟩ (S := []) rfl (Nat.le_of_ble_eq_true rfl) (fun r1 s2 => ?_)
  refine sim_if_ne (tgt := 9) dX12_readAnd_4 (by decide) ?_ ?_
  · refine sim_aload_n 0 rfl dX12_readAnd_9 ?_
    refine sim_getI g_RX12_437 sh_179 dX12_readAnd_10 ?_
    refine sim_istore_n (fun v3 => [(1, vI v3), (0, vR 179)]) (fun _ => rfl) (by decide) dX12_readAnd_13 (fun v3 => ?_)
    refine sim_sub [1, 0] (L' := [(0, vR 179), (1, vI v3)]) rfl ?_
    refine sim_wh2 (fun (x5 : Int) (s6 : JSg) => [(0, vR 179), (1, vI x5)]) (fun (x5 : Int) (s6 : JSg) => s6) ?_ n v3 s2
    intro rc4 hrc4 x5 s6
    refine sim_aload_n 0 rfl dX12_readAnd_14 ?_
    refine sim_bipush dX12_readAnd_15 (by decide +kernel) ?_
    refine sim_callVIp v_RX12_207 sh_179 dX12_readAnd_17 (k_M_isWord 9 s6) rfl ⟨by omega, by decide⟩ (S := []) rfl (Nat.le_of_ble_eq_true rfl) (fun r7 => ?_)
    refine sim_if_eq (tgt := 51) dX12_readAnd_20 (by decide) ?_ ?_
    · refine sim_aload_n 0 rfl dX12_readAnd_51 ?_
      refine sim_iload_n 1 rfl dX12_readAnd_52 ?_
      refine sim_putI g_RX12_437 sh_179 dX12_readAnd_53 (fun s8 => ?_)
      refine sim_iconst dX12_readAnd_56 (by decide) ?_
      exact sim_zret (Or.inr rfl) rfl rfl dX12_readAnd_57
    · refine sim_aload_n 0 rfl dX12_readAnd_23 ?_
      refine sim_callVVm v_RX12_169 sh_179 dX12_readAnd_24 (k_M_go n s6) rfl ⟨by omega, by decide⟩ (S := []) rfl (Nat.le_of_ble_eq_true rfl) (fun s9 => ?_)
      refine sim_aload_n 0 rfl dX12_readAnd_27 ?_
      refine sim_callVIm v_RX12_443 sh_179 dX12_readAnd_28 (hgreadOne s9) rfl ⟨by omega, by decide⟩ (S := []) rfl (Nat.le_of_ble_eq_true rfl) (fun r10 s11 => ?_)
      refine sim_if_ne (tgt := 36) dX12_readAnd_31 (by decide) ?_ ?_
      · refine sim_aload_n 0 rfl dX12_readAnd_36 ?_
        refine sim_iconst dX12_readAnd_37 (by decide) ?_
        refine sim_iload_n 1 rfl dX12_readAnd_38 ?_
        refine sim_aload_n 0 rfl dX12_readAnd_39 ?_
        refine sim_getI g_RX12_437 sh_179 dX12_readAnd_40 ?_
        refine sim_iconst dX12_readAnd_43 (by decide) ?_
        refine sim_callVIm v_RX12_440 sh_179 dX12_readAnd_44 (k_M_saysOne 2 x5 (s11 179 51) 0 s11) rfl ⟨by omega, by decide⟩ (S := []) rfl (Nat.le_of_ble_eq_true rfl) (fun r12 s13 => ?_)
        refine sim_istore_n (fun v14 => [(1, vI v14), (0, vR 179)]) (fun _ => rfl) (by decide) dX12_readAnd_47 (fun v14 => ?_)
        refine sim_goto (tgt := 14) dX12_readAnd_48 (by decide) ?_
        exact sim_sub [1, 0] rfl (hrc4 v14 s13)
      · refine sim_iconst dX12_readAnd_34 (by decide) ?_
        exact sim_zret (Or.inl rfl) rfl rfl dX12_readAnd_35
  · refine sim_iconst dX12_readAnd_7 (by decide) ?_
    exact sim_zret (Or.inl rfl) rfl rfl dX12_readAnd_8
def f_M_readOne_s (n : Nat)  (greadOr : JSg → Option (Int × JSg)) (greadAnd : JSg → Option (Int × JSg)) (greadOne : JSg → Option (Int × JSg)) (greadBracket : JSg → Option (Int × JSg)) (greadNot : JSg → Option (Int × JSg))  (σ : JSg) : Option (Int × JSg) :=
  bd1 (f_M_isSign 40 σ) fun r1 => lt_ r1 fun v2 => lt_ 10 fun v3 => wh1 n (fun rc4 (x5 : Int) => jn0 (jn0 (jn0 (bd2 (f_M_bad 4 σ) fun r9 s10 => chk (r9 = 0 ∨ r9 = 1) <| some (r9, s10)) fun j8 => if (σ 179 49) = 20 then (j8) else (if (σ 179 50) = 8 then (j8) else (lt_ (sp σ 179 49 (w32 ((σ 179 49) + 1))) fun s11 => lt_ (sp s11 179 50 (w32 ((s11 179 50) + 1))) fun s12 => bd1 (f_M_go n s12) fun s13 => lt_ 1 fun v14 => jn2 (fun (y16 : Int) (s17 : JSg) => lt_ (sp s17 179 50 (w32 ((s17 179 50) - 1))) fun s18 => chk (y16 = 0 ∨ y16 = 1) <| some (y16, s18)) fun j15 => if v2 = 0 then (if x5 = 10 then (bd2 (greadNot s13) fun r28 s29 => lt_ r28 fun v30 => j15 v30 s29) else (if x5 = 14 then (bd2 (f_M_readOf n s13) fun r25 s26 => lt_ r25 fun v27 => j15 v27 s26) else (if x5 < 16 then (bd2 (f_M_saysOne (w32 (50 + x5)) 0 0 0 s13) fun r22 s23 => lt_ (sp s23 179 51 r22) fun s24 => j15 v14 s24) else (bd2 (f_M_readCompare n x5 s13) fun r19 s20 => lt_ r19 fun v21 => j15 v21 s20)))) else (bd2 (greadBracket s13) fun r31 s32 => lt_ r31 fun v33 => j15 v33 s32)))) fun j7 => if v2 = 0 then (if 19 < x5 then (bd2 (f_M_bad 1 σ) fun r34 s35 => chk (r34 = 0 ∨ r34 = 1) <| some (r34, s35)) else (j7)) else (j7)) fun j6 => if 19 < x5 then (j6) else (bd1 (f_M_isWord x5 σ) fun r36 => if r36 = 0 then (lt_ (w32 (x5 + 1)) fun v37 => rc4 v37) else (j6))) v3
set_option maxRecDepth 20000 in
set_option maxHeartbeats 4000000 in
theorem k_M_readOne_s  (n : Nat)   (greadOr : JSg → Option (Int × JSg)) (greadAnd : JSg → Option (Int × JSg)) (greadOne : JSg → Option (Int × JSg)) (greadBracket : JSg → Option (Int × JSg)) (greadNot : JSg → Option (Int × JSg)) (d : Nat) (hd9 : 4 ≤ d) (hgreadOr : ∀  (σ : JSg), Call yX12_readOr cX12_readOr 2 (some .boolean) d SH RHO [vR 179] σ dIm (greadOr  σ)) (hgreadAnd : ∀  (σ : JSg), Call yX12_readAnd cX12_readAnd 2 (some .boolean) d SH RHO [vR 179] σ dIm (greadAnd  σ)) (hgreadOne : ∀  (σ : JSg), Call yX12_readOne cX12_readOne 4 (some .boolean) d SH RHO [vR 179] σ dIm (greadOne  σ)) (hgreadBracket : ∀  (σ : JSg), Call yX12_readBracket cX12_readBracket 1 (some .boolean) d SH RHO [vR 179] σ dIm (greadBracket  σ)) (hgreadNot : ∀  (σ : JSg), Call yX12_readNot cX12_readNot 1 (some .boolean) d SH RHO [vR 179] σ dIm (greadNot  σ))  (σ : JSg) : Call yX12_readOne cX12_readOne 4 (some .boolean) (d + 1) SH RHO [vR 179] σ dIm (f_M_readOne_s n greadOr greadAnd greadOne greadBracket greadNot σ) := by
  refine call_of_sim (by decide +kernel) (Nat.le_of_ble_eq_true rfl) ?_
  show Sim RX12 cX12_readOne 4 (some .boolean) (d + 1) SH RHO 0 [(0, vR 179)] [] σ dIm (f_M_readOne_s n greadOr greadAnd greadOne greadBracket greadNot σ)
  unfold f_M_readOne_s
  refine sim_aload_n 0 rfl dX12_readOne_0 ?_
  refine sim_bipush dX12_readOne_1 (by decide +kernel) ?_
  refine sim_callVIp v_RX12_172 sh_179 dX12_readOne_3 (k_M_isSign 40 σ) rfl ⟨by omega, by decide⟩ (S := []) rfl (Nat.le_of_ble_eq_true rfl) (fun r1 => ?_)
  refine sim_istore_n (fun v2 => [(1, vI v2), (0, vR 179)]) (fun _ => rfl) (by decide) dX12_readOne_6 (fun v2 => ?_)
  refine sim_bipush dX12_readOne_7 (by decide +kernel) ?_
  refine sim_istore_n (fun v3 => [(2, vI v3), (1, vI v2), (0, vR 179)]) (fun _ => rfl) (by decide) dX12_readOne_9 (fun v3 => ?_)
  refine sim_sub [2, 1, 0] (L' := [(0, vR 179), (1, vI v2), (2, vI v3)]) rfl ?_
  refine sim_wh1 (fun (x5 : Int) => [(0, vR 179), (1, vI v2), (2, vI x5)]) (fun (x5 : Int) => σ) ?_ n v3
  intro rc4 hrc4 x5
  refine sim_iload_n 2 rfl dX12_readOne_10 ?_
  refine sim_bipush dX12_readOne_11 (by decide +kernel) ?_
  refine sim_jn0 (pc' := 30) ([(0, vR 179), (1, vI v2), (2, vI x5)]) ([]) (σ) ?_ (fun j6 hj6 => ?_)
  · refine sim_iload_n 1 rfl dX12_readOne_30 ?_
    refine sim_jn0 (pc' := 46) ([(0, vR 179), (1, vI v2), (2, vI x5)]) ([]) (σ) ?_ (fun j7 hj7 => ?_)
    · refine sim_aload_n 0 rfl dX12_readOne_46 ?_
      refine sim_getI g_RX12_446 sh_179 dX12_readOne_47 ?_
      refine sim_bipush dX12_readOne_50 (by decide +kernel) ?_
      refine sim_jn0 (pc' := 64) ([(0, vR 179)]) ([]) (σ) ?_ (fun j8 hj8 => ?_)
      · refine sim_aload_n 0 rfl dX12_readOne_64 ?_
        refine sim_iconst dX12_readOne_65 (by decide) ?_
        refine sim_callVIm v_RX12_155 sh_179 dX12_readOne_66 (k_M_bad 4 σ) rfl ⟨by omega, by decide⟩ (S := []) rfl (Nat.le_of_ble_eq_true rfl) (fun r9 s10 => ?_)
        exact sim_zretc rfl rfl dX12_readOne_69
      refine sim_icmp_eq (tgt := 64) dX12_readOne_52 (by decide) ?_ ?_
      · exact sim_sub [0] rfl (hj8 )
      · refine sim_aload_n 0 rfl dX12_readOne_55 ?_
        refine sim_getI g_RX12_449 sh_179 dX12_readOne_56 ?_
        refine sim_bipush dX12_readOne_59 (by decide +kernel) ?_
        refine sim_icmp_ne (tgt := 70) dX12_readOne_61 (by decide) ?_ ?_
        · refine sim_aload_n 0 rfl dX12_readOne_70 ?_
          refine sim_dup rfl dX12_readOne_71 ?_
          refine sim_getI g_RX12_446 sh_179 dX12_readOne_72 ?_
          refine sim_iconst dX12_readOne_75 (by decide) ?_
          refine sim_iadd dX12_readOne_76 ?_
          refine sim_putI g_RX12_446 sh_179 dX12_readOne_77 (fun s11 => ?_)
          refine sim_aload_n 0 rfl dX12_readOne_80 ?_
          refine sim_dup rfl dX12_readOne_81 ?_
          refine sim_getI g_RX12_449 sh_179 dX12_readOne_82 ?_
          refine sim_iconst dX12_readOne_85 (by decide) ?_
          refine sim_iadd dX12_readOne_86 ?_
          refine sim_putI g_RX12_449 sh_179 dX12_readOne_87 (fun s12 => ?_)
          refine sim_aload_n 0 rfl dX12_readOne_90 ?_
          refine sim_callVVm v_RX12_169 sh_179 dX12_readOne_91 (k_M_go n s12) rfl ⟨by omega, by decide⟩ (S := []) rfl (Nat.le_of_ble_eq_true rfl) (fun s13 => ?_)
          refine sim_iconst dX12_readOne_94 (by decide) ?_
          refine sim_istore_n (fun v14 => [(3, vI v14), (0, vR 179), (1, vI v2), (2, vI x5)]) (fun _ => rfl) (by decide) dX12_readOne_95 (fun v14 => ?_)
          refine sim_iload_n 2 rfl dX12_readOne_96 ?_
          refine sim_jn2 (pc' := 166) (fun (y16 : Int) (s17 : JSg) => [(0, vR 179), (3, vI y16)]) (fun (y16 : Int) (s17 : JSg) => []) (fun (y16 : Int) (s17 : JSg) => s17) ?_ (fun j15 hj15 => ?_)
          · intro y16 s17
            refine sim_aload_n 0 rfl dX12_readOne_166 ?_
            refine sim_dup rfl dX12_readOne_167 ?_
            refine sim_getI g_RX12_449 sh_179 dX12_readOne_168 ?_
            refine sim_iconst dX12_readOne_171 (by decide) ?_
            refine sim_isub dX12_readOne_172 ?_
            refine sim_putI g_RX12_449 sh_179 dX12_readOne_173 (fun s18 => ?_)
            refine sim_iload_n 1 rfl dX12_readOne_176 ?_
            exact sim_zretc rfl rfl dX12_readOne_177
          refine sim_if_eq (tgt := 108) dX12_readOne_97 (by decide) ?_ ?_
          · refine sim_iload_n 3 rfl dX12_readOne_108 ?_
            refine sim_bipush dX12_readOne_109 (by decide +kernel) ?_
            refine sim_icmp_ne (tgt := 122) dX12_readOne_111 (by decide) ?_ ?_
            · refine sim_iload_n 3 rfl dX12_readOne_122 ?_
              refine sim_bipush dX12_readOne_123 (by decide +kernel) ?_
              refine sim_icmp_ne (tgt := 136) dX12_readOne_125 (by decide) ?_ ?_
              · refine sim_iload_n 3 rfl dX12_readOne_136 ?_
                refine sim_bipush dX12_readOne_137 (by decide +kernel) ?_
                refine sim_icmp_ge (tgt := 160) dX12_readOne_139 (by decide) ?_ ?_
                · refine sim_aload_n 1 rfl dX12_readOne_160 ?_
                  refine sim_iload_n 3 rfl dX12_readOne_161 ?_
                  refine sim_callVIm v_RX12_461 sh_179 dX12_readOne_162 (k_M_readCompare n x5 s13) rfl ⟨by omega, by decide⟩ (S := []) rfl (Nat.le_of_ble_eq_true rfl) (fun r19 s20 => ?_)
                  refine sim_istore_n (fun v21 => [(3, vI v21), (0, vR 179), (1, vI v2), (2, vI x5)]) (fun _ => rfl) (by decide) dX12_readOne_165 (fun v21 => ?_)
                  exact sim_sub [1, 0] rfl (hj15 v21 s20)
                · refine sim_aload_n 1 rfl dX12_readOne_142 ?_
                  refine sim_aload_n 1 rfl dX12_readOne_143 ?_
                  refine sim_bipush dX12_readOne_144 (by decide +kernel) ?_
                  refine sim_iload_n 3 rfl dX12_readOne_146 ?_
                  refine sim_iadd dX12_readOne_147 ?_
                  refine sim_iconst dX12_readOne_148 (by decide) ?_
                  refine sim_iconst dX12_readOne_149 (by decide) ?_
                  refine sim_iconst dX12_readOne_150 (by decide) ?_
                  refine sim_callVIm v_RX12_440 sh_179 dX12_readOne_151 (k_M_saysOne (w32 (50 + x5)) 0 0 0 s13) rfl ⟨by omega, by decide⟩ (S := [vR 179]) rfl (Nat.le_of_ble_eq_true rfl) (fun r22 s23 => ?_)
                  refine sim_putI g_RX12_437 sh_179 dX12_readOne_154 (fun s24 => ?_)
                  refine sim_goto (tgt := 166) dX12_readOne_157 (by decide) ?_
                  exact sim_sub [1, 0] rfl (hj15 v14 s24)
              · refine sim_aload_n 1 rfl dX12_readOne_128 ?_
                refine sim_callVIm v_RX12_458 sh_179 dX12_readOne_129 (k_M_readOf n s13) rfl ⟨by omega, by decide⟩ (S := []) rfl (Nat.le_of_ble_eq_true rfl) (fun r25 s26 => ?_)
                refine sim_istore_n (fun v27 => [(3, vI v27), (0, vR 179), (1, vI v2), (2, vI x5)]) (fun _ => rfl) (by decide) dX12_readOne_132 (fun v27 => ?_)
                refine sim_goto (tgt := 166) dX12_readOne_133 (by decide) ?_
                exact sim_sub [1, 0] rfl (hj15 v27 s26)
            · refine sim_aload_n 1 rfl dX12_readOne_114 ?_
              refine sim_callVIm v_RX12_455 sh_179 dX12_readOne_115 (hgreadNot s13) rfl ⟨by omega, by decide⟩ (S := []) rfl (Nat.le_of_ble_eq_true rfl) (fun r28 s29 => ?_)
              refine sim_istore_n (fun v30 => [(3, vI v30), (0, vR 179), (1, vI v2), (2, vI x5)]) (fun _ => rfl) (by decide) dX12_readOne_118 (fun v30 => ?_)
              refine sim_goto (tgt := 166) dX12_readOne_119 (by decide) ?_
              exact sim_sub [1, 0] rfl (hj15 v30 s29)
          · refine sim_aload_n 1 rfl dX12_readOne_100 ?_
            refine sim_callVIm v_RX12_452 sh_179 dX12_readOne_101 (hgreadBracket s13) rfl ⟨by omega, by decide⟩ (S := []) rfl (Nat.le_of_ble_eq_true rfl) (fun r31 s32 => ?_)
            refine sim_istore_n (fun v33 => [(3, vI v33), (0, vR 179), (1, vI v2), (2, vI x5)]) (fun _ => rfl) (by decide) dX12_readOne_104 (fun v33 => ?_)
            refine sim_goto (tgt := 166) dX12_readOne_105 (by decide) ?_
            exact sim_sub [1, 0] rfl (hj15 v33 s32)
        · exact sim_sub [0] rfl (hj8 )
    refine sim_if_ne (tgt := 46) dX12_readOne_31 (by decide) ?_ ?_
    · exact sim_sub [0, 1, 2] rfl (hj7 )
    · refine sim_iload_n 2 rfl dX12_readOne_34 ?_
      refine sim_bipush dX12_readOne_35 (by decide +kernel) ?_
      refine sim_icmp_le (tgt := 46) dX12_readOne_37 (by decide) ?_ ?_
      · exact sim_sub [0, 1, 2] rfl (hj7 )
      · refine sim_aload_n 0 rfl dX12_readOne_40 ?_
        refine sim_iconst dX12_readOne_41 (by decide) ?_
        refine sim_callVIm v_RX12_155 sh_179 dX12_readOne_42 (k_M_bad 1 σ) rfl ⟨by omega, by decide⟩ (S := []) rfl (Nat.le_of_ble_eq_true rfl) (fun r34 s35 => ?_)
        exact sim_zretc rfl rfl dX12_readOne_45
  refine sim_icmp_gt (tgt := 30) dX12_readOne_13 (by decide) ?_ ?_
  · exact sim_sub [0, 1, 2] rfl (hj6 )
  · refine sim_aload_n 0 rfl dX12_readOne_16 ?_
    refine sim_iload_n 2 rfl dX12_readOne_17 ?_
    refine sim_callVIp v_RX12_207 sh_179 dX12_readOne_18 (k_M_isWord x5 σ) rfl ⟨by omega, by decide⟩ (S := []) rfl (Nat.le_of_ble_eq_true rfl) (fun r36 => ?_)
    refine sim_if_ne (tgt := 30) dX12_readOne_21 (by decide) ?_ ?_
    · exact sim_sub [0, 1, 2] rfl (hj6 )
    · refine sim_iinc 2 rfl (fun v37 => [(2, vI v37), (0, vR 179), (1, vI v2)]) (fun _ => rfl) (by decide) dX12_readOne_24 (fun v37 => ?_)
      refine sim_goto (tgt := 10) dX12_readOne_27 (by decide) ?_
      exact sim_sub [1, 2, 0] rfl (hrc4 v37)
def f_M_readBracket_s (n : Nat)  (greadOr : JSg → Option (Int × JSg)) (greadAnd : JSg → Option (Int × JSg)) (greadOne : JSg → Option (Int × JSg)) (greadBracket : JSg → Option (Int × JSg)) (greadNot : JSg → Option (Int × JSg))  (σ : JSg) : Option (Int × JSg) :=
  bd2 (greadOr σ) fun r1 s2 => if r1 = 0 then (some (0, s2)) else (bd1 (f_M_isSign 41 s2) fun r3 => if r3 = 0 then (bd2 (f_M_bad 1 s2) fun r5 s6 => chk (r5 = 0 ∨ r5 = 1) <| some (r5, s6)) else (bd1 (f_M_go n s2) fun s4 => some (1, s4)))
set_option maxRecDepth 20000 in
set_option maxHeartbeats 4000000 in
theorem k_M_readBracket_s  (n : Nat)   (greadOr : JSg → Option (Int × JSg)) (greadAnd : JSg → Option (Int × JSg)) (greadOne : JSg → Option (Int × JSg)) (greadBracket : JSg → Option (Int × JSg)) (greadNot : JSg → Option (Int × JSg)) (d : Nat) (hd9 : 4 ≤ d) (hgreadOr : ∀  (σ : JSg), Call yX12_readOr cX12_readOr 2 (some .boolean) d SH RHO [vR 179] σ dIm (greadOr  σ)) (hgreadAnd : ∀  (σ : JSg), Call yX12_readAnd cX12_readAnd 2 (some .boolean) d SH RHO [vR 179] σ dIm (greadAnd  σ)) (hgreadOne : ∀  (σ : JSg), Call yX12_readOne cX12_readOne 4 (some .boolean) d SH RHO [vR 179] σ dIm (greadOne  σ)) (hgreadBracket : ∀  (σ : JSg), Call yX12_readBracket cX12_readBracket 1 (some .boolean) d SH RHO [vR 179] σ dIm (greadBracket  σ)) (hgreadNot : ∀  (σ : JSg), Call yX12_readNot cX12_readNot 1 (some .boolean) d SH RHO [vR 179] σ dIm (greadNot  σ))  (σ : JSg) : Call yX12_readBracket cX12_readBracket 1 (some .boolean) (d + 1) SH RHO [vR 179] σ dIm (f_M_readBracket_s n greadOr greadAnd greadOne greadBracket greadNot σ) := by
  refine call_of_sim (by decide +kernel) (Nat.le_of_ble_eq_true rfl) ?_
  show Sim RX12 cX12_readBracket 1 (some .boolean) (d + 1) SH RHO 0 [(0, vR 179)] [] σ dIm (f_M_readBracket_s n greadOr greadAnd greadOne greadBracket greadNot σ)
  unfold f_M_readBracket_s
  refine sim_aload_n 0 rfl dX12_readBracket_0 ?_
  refine sim_callVIm v_RX12_464 sh_179 dX12_readBracket_1 (hgreadOr σ) rfl ⟨by omega, by decide⟩ (S := []) rfl (Nat.le_of_ble_eq_true rfl) (fun r1 s2 => ?_)
  refine sim_if_ne (tgt := 9) dX12_readBracket_4 (by decide) ?_ ?_
  · refine sim_aload_n 0 rfl dX12_readBracket_9 ?_
    refine sim_bipush dX12_readBracket_10 (by decide +kernel) ?_
    refine sim_callVIp v_RX12_172 sh_179 dX12_readBracket_12 (k_M_isSign 41 s2) rfl ⟨by omega, by decide⟩ (S := []) rfl (Nat.le_of_ble_eq_true rfl) (fun r3 => ?_)
    refine sim_if_ne (tgt := 24) dX12_readBracket_15 (by decide) ?_ ?_
    · refine sim_aload_n 0 rfl dX12_readBracket_24 ?_
      refine sim_callVVm v_RX12_169 sh_179 dX12_readBracket_25 (k_M_go n s2) rfl ⟨by omega, by decide⟩ (S := []) rfl (Nat.le_of_ble_eq_true rfl) (fun s4 => ?_)
      refine sim_iconst dX12_readBracket_28 (by decide) ?_
      exact sim_zret (Or.inr rfl) rfl rfl dX12_readBracket_29
    · refine sim_aload_n 0 rfl dX12_readBracket_18 ?_
      refine sim_iconst dX12_readBracket_19 (by decide) ?_
      refine sim_callVIm v_RX12_155 sh_179 dX12_readBracket_20 (k_M_bad 1 s2) rfl ⟨by omega, by decide⟩ (S := []) rfl (Nat.le_of_ble_eq_true rfl) (fun r5 s6 => ?_)
      exact sim_zretc rfl rfl dX12_readBracket_23
  · refine sim_iconst dX12_readBracket_7 (by decide) ?_
    exact sim_zret (Or.inl rfl) rfl rfl dX12_readBracket_8
def f_M_readNot_s (n : Nat)  (greadOr : JSg → Option (Int × JSg)) (greadAnd : JSg → Option (Int × JSg)) (greadOne : JSg → Option (Int × JSg)) (greadBracket : JSg → Option (Int × JSg)) (greadNot : JSg → Option (Int × JSg))  (σ : JSg) : Option (Int × JSg) :=
  bd2 (greadOne σ) fun r1 s2 => if r1 = 0 then (some (0, s2)) else (bd2 (f_M_saysOne 1 (s2 179 51) 0 0 s2) fun r3 s4 => lt_ (sp s4 179 51 r3) fun s5 => some (1, s5))
set_option maxRecDepth 20000 in
set_option maxHeartbeats 4000000 in
theorem k_M_readNot_s  (n : Nat)   (greadOr : JSg → Option (Int × JSg)) (greadAnd : JSg → Option (Int × JSg)) (greadOne : JSg → Option (Int × JSg)) (greadBracket : JSg → Option (Int × JSg)) (greadNot : JSg → Option (Int × JSg)) (d : Nat) (hd9 : 4 ≤ d) (hgreadOr : ∀  (σ : JSg), Call yX12_readOr cX12_readOr 2 (some .boolean) d SH RHO [vR 179] σ dIm (greadOr  σ)) (hgreadAnd : ∀  (σ : JSg), Call yX12_readAnd cX12_readAnd 2 (some .boolean) d SH RHO [vR 179] σ dIm (greadAnd  σ)) (hgreadOne : ∀  (σ : JSg), Call yX12_readOne cX12_readOne 4 (some .boolean) d SH RHO [vR 179] σ dIm (greadOne  σ)) (hgreadBracket : ∀  (σ : JSg), Call yX12_readBracket cX12_readBracket 1 (some .boolean) d SH RHO [vR 179] σ dIm (greadBracket  σ)) (hgreadNot : ∀  (σ : JSg), Call yX12_readNot cX12_readNot 1 (some .boolean) d SH RHO [vR 179] σ dIm (greadNot  σ))  (σ : JSg) : Call yX12_readNot cX12_readNot 1 (some .boolean) (d + 1) SH RHO [vR 179] σ dIm (f_M_readNot_s n greadOr greadAnd greadOne greadBracket greadNot σ) := by
  refine call_of_sim (by decide +kernel) (Nat.le_of_ble_eq_true rfl) ?_
  show Sim RX12 cX12_readNot 1 (some .boolean) (d + 1) SH RHO 0 [(0, vR 179)] [] σ dIm (f_M_readNot_s n greadOr greadAnd greadOne greadBracket greadNot σ)
  unfold f_M_readNot_s
  refine sim_aload_n 0 rfl dX12_readNot_0 ?_
  refine sim_callVIm v_RX12_443 sh_179 dX12_readNot_1 (hgreadOne σ) rfl ⟨by omega, by decide⟩ (S := []) rfl (Nat.le_of_ble_eq_true rfl) (fun r1 s2 => ?_)
  refine sim_if_ne (tgt := 9) dX12_readNot_4 (by decide) ?_ ?_
  · refine sim_aload_n 0 rfl dX12_readNot_9 ?_
    refine sim_aload_n 0 rfl dX12_readNot_10 ?_
    refine sim_iconst dX12_readNot_11 (by decide) ?_
    refine sim_aload_n 0 rfl dX12_readNot_12 ?_
    refine sim_getI g_RX12_437 sh_179 dX12_readNot_13 ?_
    refine sim_iconst dX12_readNot_16 (by decide) ?_
    refine sim_iconst dX12_readNot_17 (by decide) ?_
    refine sim_callVIm v_RX12_440 sh_179 dX12_readNot_18 (k_M_saysOne 1 (s2 179 51) 0 0 s2) rfl ⟨by omega, by decide⟩ (S := [vR 179]) rfl (Nat.le_of_ble_eq_true rfl) (fun r3 s4 => ?_)
    refine sim_putI g_RX12_437 sh_179 dX12_readNot_21 (fun s5 => ?_)
    refine sim_iconst dX12_readNot_24 (by decide) ?_
    exact sim_zret (Or.inr rfl) rfl rfl dX12_readNot_25
  · refine sim_iconst dX12_readNot_7 (by decide) ?_
    exact sim_zret (Or.inl rfl) rfl rfl dX12_readNot_8
def fg_M_readOr (n : Nat)  : Nat → (JSg → Option (Int × JSg)) × (JSg → Option (Int × JSg)) × (JSg → Option (Int × JSg)) × (JSg → Option (Int × JSg)) × (JSg → Option (Int × JSg))
  | 0 => (fun _ => none, fun _ => none, fun _ => none, fun _ => none, fun _ => none)
  | r + 1 => (f_M_readOr_s n (fg_M_readOr n r).1 (fg_M_readOr n r).2.1 (fg_M_readOr n r).2.2.1 (fg_M_readOr n r).2.2.2.1 (fg_M_readOr n r).2.2.2.2, f_M_readAnd_s n (fg_M_readOr n r).1 (fg_M_readOr n r).2.1 (fg_M_readOr n r).2.2.1 (fg_M_readOr n r).2.2.2.1 (fg_M_readOr n r).2.2.2.2, f_M_readOne_s n (fg_M_readOr n r).1 (fg_M_readOr n r).2.1 (fg_M_readOr n r).2.2.1 (fg_M_readOr n r).2.2.2.1 (fg_M_readOr n r).2.2.2.2, f_M_readBracket_s n (fg_M_readOr n r).1 (fg_M_readOr n r).2.1 (fg_M_readOr n r).2.2.1 (fg_M_readOr n r).2.2.2.1 (fg_M_readOr n r).2.2.2.2, f_M_readNot_s n (fg_M_readOr n r).1 (fg_M_readOr n r).2.1 (fg_M_readOr n r).2.2.1 (fg_M_readOr n r).2.2.2.1 (fg_M_readOr n r).2.2.2.2)
def f_M_readOr (n : Nat)   (σ : JSg) : Option (Int × JSg) := (fg_M_readOr n 64).1  σ
def f_M_readAnd (n : Nat)   (σ : JSg) : Option (Int × JSg) := (fg_M_readOr n 64).2.1  σ
def f_M_readOne (n : Nat)   (σ : JSg) : Option (Int × JSg) := (fg_M_readOr n 64).2.2.1  σ
def f_M_readBracket (n : Nat)   (σ : JSg) : Option (Int × JSg) := (fg_M_readOr n 64).2.2.2.1  σ
def f_M_readNot (n : Nat)   (σ : JSg) : Option (Int × JSg) := (fg_M_readOr n 64).2.2.2.2  σ
theorem kg_M_readOr  (n : Nat)   : ∀ r : Nat, (∀  (σ : JSg), Call yX12_readOr cX12_readOr 2 (some .boolean) (4 + r) SH RHO [vR 179] σ dIm ((fg_M_readOr n r).1  σ)) ∧ (∀  (σ : JSg), Call yX12_readAnd cX12_readAnd 2 (some .boolean) (4 + r) SH RHO [vR 179] σ dIm ((fg_M_readOr n r).2.1  σ)) ∧ (∀  (σ : JSg), Call yX12_readOne cX12_readOne 4 (some .boolean) (4 + r) SH RHO [vR 179] σ dIm ((fg_M_readOr n r).2.2.1  σ)) ∧ (∀  (σ : JSg), Call yX12_readBracket cX12_readBracket 1 (some .boolean) (4 + r) SH RHO [vR 179] σ dIm ((fg_M_readOr n r).2.2.2.1  σ)) ∧ (∀  (σ : JSg), Call yX12_readNot cX12_readNot 1 (some .boolean) (4 + r) SH RHO [vR 179] σ dIm ((fg_M_readOr n r).2.2.2.2  σ)) := by
  intro r
  induction r with
  | zero => exact ⟨fun _ _ _ _ h => (by cases h), fun _ _ _ _ h => (by cases h), fun _ _ _ _ h => (by cases h), fun _ _ _ _ h => (by cases h), fun _ _ _ _ h => (by cases h)⟩
  | succ r ih =>
    obtain ⟨h0, h1, h2, h3, h4⟩ := ih
    exact ⟨fun  σ => k_M_readOr_s n _ _ _ _ _ (4 + r) (by omega) h0 h1 h2 h3 h4  σ, fun  σ => k_M_readAnd_s n _ _ _ _ _ (4 + r) (by omega) h0 h1 h2 h3 h4  σ, fun  σ => k_M_readOne_s n _ _ _ _ _ (4 + r) (by omega) h0 h1 h2 h3 h4  σ, fun  σ => k_M_readBracket_s n _ _ _ _ _ (4 + r) (by omega) h0 h1 h2 h3 h4  σ, fun  σ => k_M_readNot_s n _ _ _ _ _ (4 + r) (by omega) h0 h1 h2 h3 h4  σ⟩
theorem k_M_readOr  (n : Nat)    (σ : JSg) : Call yX12_readOr cX12_readOr 2 (some .boolean) 68 SH RHO [vR 179] σ dIm (f_M_readOr n σ) := (kg_M_readOr n 64).1  σ
theorem k_M_readAnd  (n : Nat)    (σ : JSg) : Call yX12_readAnd cX12_readAnd 2 (some .boolean) 68 SH RHO [vR 179] σ dIm (f_M_readAnd n σ) := (kg_M_readOr n 64).2.1  σ
theorem k_M_readOne  (n : Nat)    (σ : JSg) : Call yX12_readOne cX12_readOne 4 (some .boolean) 68 SH RHO [vR 179] σ dIm (f_M_readOne n σ) := (kg_M_readOr n 64).2.2.1  σ
theorem k_M_readBracket  (n : Nat)    (σ : JSg) : Call yX12_readBracket cX12_readBracket 1 (some .boolean) 68 SH RHO [vR 179] σ dIm (f_M_readBracket n σ) := (kg_M_readOr n 64).2.2.2.1  σ
theorem k_M_readNot  (n : Nat)    (σ : JSg) : Call yX12_readNot cX12_readNot 1 (some .boolean) 68 SH RHO [vR 179] σ dIm (f_M_readNot n σ) := (kg_M_readOr n 64).2.2.2.2  σ
theorem dX12_sentence_0 : decode cX12_sentence 0 = .ok (.aload_n 0, 1) := by decide +kernel
theorem dX12_sentence_1 : decode cX12_sentence 1 = .ok (.sipush 200, 3) := by decide +kernel
theorem dX12_sentence_4 : decode cX12_sentence 4 = .ok (.invokevirtual 228, 3) := by decide +kernel
theorem dX12_sentence_7 : decode cX12_sentence 7 = .ok (.aload_n 0, 1) := by decide +kernel
theorem dX12_sentence_8 : decode cX12_sentence 8 = .ok (.iconst 0, 1) := by decide +kernel
theorem dX12_sentence_9 : decode cX12_sentence 9 = .ok (.putfield 431, 3) := by decide +kernel
theorem dX12_sentence_12 : decode cX12_sentence 12 = .ok (.aload_n 0, 1) := by decide +kernel
theorem dX12_sentence_13 : decode cX12_sentence 13 = .ok (.iconst 0, 1) := by decide +kernel
theorem dX12_sentence_14 : decode cX12_sentence 14 = .ok (.putfield 446, 3) := by decide +kernel
theorem dX12_sentence_17 : decode cX12_sentence 17 = .ok (.aload_n 0, 1) := by decide +kernel
theorem dX12_sentence_18 : decode cX12_sentence 18 = .ok (.iconst 0, 1) := by decide +kernel
theorem dX12_sentence_19 : decode cX12_sentence 19 = .ok (.putfield 449, 3) := by decide +kernel
theorem dX12_sentence_22 : decode cX12_sentence 22 = .ok (.aload_n 0, 1) := by decide +kernel
theorem dX12_sentence_23 : decode cX12_sentence 23 = .ok (.invokevirtual 464, 3) := by decide +kernel
theorem dX12_sentence_26 : decode cX12_sentence 26 = .ok (.ifCond .ne 10, 3) := by decide +kernel
theorem dX12_sentence_29 : decode cX12_sentence 29 = .ok (.iconst (-1), 1) := by decide +kernel
theorem dX12_sentence_30 : decode cX12_sentence 30 = .ok (.aload_n 0, 1) := by decide +kernel
theorem dX12_sentence_31 : decode cX12_sentence 31 = .ok (.getfield 152, 3) := by decide +kernel
theorem dX12_sentence_34 : decode cX12_sentence 34 = .ok (.isub, 1) := by decide +kernel
theorem dX12_sentence_35 : decode cX12_sentence 35 = .ok (.ireturn, 1) := by decide +kernel
theorem dX12_sentence_36 : decode cX12_sentence 36 = .ok (.aload_n 0, 1) := by decide +kernel
theorem dX12_sentence_37 : decode cX12_sentence 37 = .ok (.getfield 109, 3) := by decide +kernel
theorem dX12_sentence_40 : decode cX12_sentence 40 = .ok (.ifCond .eq 16, 3) := by decide +kernel
theorem dX12_sentence_43 : decode cX12_sentence 43 = .ok (.aload_n 0, 1) := by decide +kernel
theorem dX12_sentence_44 : decode cX12_sentence 44 = .ok (.iconst 1, 1) := by decide +kernel
theorem dX12_sentence_45 : decode cX12_sentence 45 = .ok (.invokevirtual 155, 3) := by decide +kernel
theorem dX12_sentence_48 : decode cX12_sentence 48 = .ok (.pop, 1) := by decide +kernel
theorem dX12_sentence_49 : decode cX12_sentence 49 = .ok (.iconst (-1), 1) := by decide +kernel
theorem dX12_sentence_50 : decode cX12_sentence 50 = .ok (.aload_n 0, 1) := by decide +kernel
theorem dX12_sentence_51 : decode cX12_sentence 51 = .ok (.getfield 152, 3) := by decide +kernel
theorem dX12_sentence_54 : decode cX12_sentence 54 = .ok (.isub, 1) := by decide +kernel
theorem dX12_sentence_55 : decode cX12_sentence 55 = .ok (.ireturn, 1) := by decide +kernel
theorem dX12_sentence_56 : decode cX12_sentence 56 = .ok (.aload_n 0, 1) := by decide +kernel
theorem dX12_sentence_57 : decode cX12_sentence 57 = .ok (.getfield 13, 3) := by decide +kernel
theorem dX12_sentence_60 : decode cX12_sentence 60 = .ok (.sipush 206, 3) := by decide +kernel
theorem dX12_sentence_63 : decode cX12_sentence 63 = .ok (.iconst 1, 1) := by decide +kernel
theorem dX12_sentence_64 : decode cX12_sentence 64 = .ok (.iastore, 1) := by decide +kernel
theorem dX12_sentence_65 : decode cX12_sentence 65 = .ok (.aload_n 0, 1) := by decide +kernel
theorem dX12_sentence_66 : decode cX12_sentence 66 = .ok (.getfield 13, 3) := by decide +kernel
theorem dX12_sentence_69 : decode cX12_sentence 69 = .ok (.sipush 207, 3) := by decide +kernel
theorem dX12_sentence_72 : decode cX12_sentence 72 = .ok (.aload_n 0, 1) := by decide +kernel
theorem dX12_sentence_73 : decode cX12_sentence 73 = .ok (.getfield 437, 3) := by decide +kernel
theorem dX12_sentence_76 : decode cX12_sentence 76 = .ok (.iastore, 1) := by decide +kernel
theorem dX12_sentence_77 : decode cX12_sentence 77 = .ok (.iconst 0, 1) := by decide +kernel
theorem dX12_sentence_78 : decode cX12_sentence 78 = .ok (.istore_n 1, 1) := by decide +kernel
theorem dX12_sentence_79 : decode cX12_sentence 79 = .ok (.iload_n 1, 1) := by decide +kernel
theorem dX12_sentence_80 : decode cX12_sentence 80 = .ok (.sipush 240, 3) := by decide +kernel
theorem dX12_sentence_83 : decode cX12_sentence 83 = .ok (.if_icmp .ge 25, 3) := by decide +kernel
theorem dX12_sentence_86 : decode cX12_sentence 86 = .ok (.aload_n 0, 1) := by decide +kernel
theorem dX12_sentence_87 : decode cX12_sentence 87 = .ok (.getfield 13, 3) := by decide +kernel
theorem dX12_sentence_90 : decode cX12_sentence 90 = .ok (.sipush 208, 3) := by decide +kernel
theorem dX12_sentence_93 : decode cX12_sentence 93 = .ok (.iload_n 1, 1) := by decide +kernel
theorem dX12_sentence_94 : decode cX12_sentence 94 = .ok (.iadd, 1) := by decide +kernel
theorem dX12_sentence_95 : decode cX12_sentence 95 = .ok (.aload_n 0, 1) := by decide +kernel
theorem dX12_sentence_96 : decode cX12_sentence 96 = .ok (.getfield 84, 3) := by decide +kernel
theorem dX12_sentence_99 : decode cX12_sentence 99 = .ok (.iload_n 1, 1) := by decide +kernel
theorem dX12_sentence_100 : decode cX12_sentence 100 = .ok (.iaload, 1) := by decide +kernel
theorem dX12_sentence_101 : decode cX12_sentence 101 = .ok (.iastore, 1) := by decide +kernel
theorem dX12_sentence_102 : decode cX12_sentence 102 = .ok (.iinc 1 1, 3) := by decide +kernel
theorem dX12_sentence_105 : decode cX12_sentence 105 = .ok (.goto (-26), 3) := by decide +kernel
theorem dX12_sentence_108 : decode cX12_sentence 108 = .ok (.aload_n 0, 1) := by decide +kernel
theorem dX12_sentence_109 : decode cX12_sentence 109 = .ok (.getfield 446, 3) := by decide +kernel
theorem dX12_sentence_112 : decode cX12_sentence 112 = .ok (.ireturn, 1) := by decide +kernel
def f_M_sentence (n : Nat)   (σ : JSg) : Option (Int × JSg) :=
  bd1 (f_M_begin n 200 σ) fun s1 => lt_ (sp s1 179 48 0) fun s2 => lt_ (sp s2 179 49 0) fun s3 => lt_ (sp s3 179 50 0) fun s4 => bd2 (f_M_readOr n s4) fun r5 s6 => if r5 = 0 then (some (w32 ((-1) - (s6 179 11)), s6)) else (if (s6 179 7) = 0 then (lt_ (sp s6 181 206 1) fun s7 => lt_ (sp s7 181 207 (s7 179 51)) fun s8 => lt_ 0 fun v9 => wh2 n (fun rc10 (x11 : Int) (s12 : JSg) => if x11 < 240 then (chk (0 ≤ x11 ∧ x11 < 240) <| chk (0 ≤ (w32 (208 + x11)) ∧ (w32 (208 + x11)) < 448) <| lt_ (sp s12 181 (w32 (208 + x11)).toNat (s12 202 x11.toNat)) fun s13 => lt_ (w32 (x11 + 1)) fun v14 => rc10 v14 s13) else (some (s12 179 49, s12))) v9 s8) else (bd2 (f_M_bad 1 s6) fun r15 s16 => some (w32 ((-1) - (s16 179 11)), s16)))
set_option maxRecDepth 20000 in
set_option maxHeartbeats 4000000 in
theorem k_M_sentence  (n : Nat)    (σ : JSg) : Call yX12_sentence cX12_sentence 2 (some .int) 69 SH RHO [vR 179] σ dIm (f_M_sentence n σ) := by
  refine call_of_sim (by decide +kernel) (Nat.le_of_ble_eq_true rfl) ?_
  show Sim RX12 cX12_sentence 2 (some .int) 69 SH RHO 0 [(0, vR 179)] [] σ dIm (f_M_sentence n σ)
  unfold f_M_sentence
  refine sim_aload_n 0 rfl dX12_sentence_0 ?_
  refine sim_sipush dX12_sentence_1 (by decide +kernel) ?_
  refine sim_callVVm v_RX12_228 sh_179 dX12_sentence_4 (k_M_begin n 200 σ) rfl ⟨by decide, by decide⟩ (S := []) rfl (Nat.le_of_ble_eq_true rfl) (fun s1 => ?_)
  refine sim_aload_n 0 rfl dX12_sentence_7 ?_
  refine sim_iconst dX12_sentence_8 (by decide) ?_
  refine sim_putI g_RX12_431 sh_179 dX12_sentence_9 (fun s2 => ?_)
  refine sim_aload_n 0 rfl dX12_sentence_12 ?_
  refine sim_iconst dX12_sentence_13 (by decide) ?_
  refine sim_putI g_RX12_446 sh_179 dX12_sentence_14 (fun s3 => ?_)
  refine sim_aload_n 0 rfl dX12_sentence_17 ?_
  refine sim_iconst dX12_sentence_18 (by decide) ?_
  refine sim_putI g_RX12_449 sh_179 dX12_sentence_19 (fun s4 => ?_)
  refine sim_aload_n 0 rfl dX12_sentence_22 ?_
  refine sim_callVIm v_RX12_464 sh_179 dX12_sentence_23 (k_M_readOr n s4) rfl ⟨by decide, by decide⟩ (S := []) rfl (Nat.le_of_ble_eq_true rfl) (fun r5 s6 => ?_)
  refine sim_if_ne (tgt := 36) dX12_sentence_26 (by decide) ?_ ?_
  · refine sim_aload_n 0 rfl dX12_sentence_36 ?_
    refine sim_getI g_RX12_109 sh_179 dX12_sentence_37 ?_
    refine sim_if_eq (tgt := 56) dX12_sentence_40 (by decide) ?_ ?_
    · refine sim_aload_n 0 rfl dX12_sentence_56 ?_
      refine sim_getR g_RX12_13 sh_179 rh_179_14 dX12_sentence_57 ?_
      refine sim_sipush dX12_sentence_60 (by decide +kernel) ?_
      refine sim_iconst dX12_sentence_63 (by decide) ?_
      refine sim_iastoreK (j := 206) sh_181 rfl (by decide) dX12_sentence_64 (fun s7 => ?_)
      refine sim_aload_n 0 rfl dX12_sentence_65 ?_
      refine sim_getR g_RX12_13 sh_179 rh_179_14 dX12_sentence_66 ?_
      refine sim_sipush dX12_sentence_69 (by decide +kernel) ?_
      refine sim_aload_n 0 rfl dX12_sentence_72 ?_
      refine sim_getI g_RX12_437 sh_179 dX12_sentence_73 ?_
      refine sim_iastoreK (j := 207) sh_181 rfl (by decide) dX12_sentence_76 (fun s8 => ?_)
      refine sim_iconst dX12_sentence_77 (by decide) ?_
      refine sim_istore_n (fun v9 => [(1, vI v9), (0, vR 179)]) (fun _ => rfl) (by decide) dX12_sentence_78 (fun v9 => ?_)
      refine sim_sub [1, 0] (L' := [(0, vR 179), (1, vI v9)]) rfl ?_
      refine sim_wh2 (fun (x11 : Int) (s12 : JSg) => [(0, vR 179), (1, vI x11)]) (fun (x11 : Int) (s12 : JSg) => s12) ?_ n v9 s8
      intro rc10 hrc10 x11 s12
      refine sim_iload_n 1 rfl dX12_sentence_79 ?_
      refine sim_sipush dX12_sentence_80 (by decide +kernel) ?_
      refine sim_icmp_ge (tgt := 108) dX12_sentence_83 (by decide) ?_ ?_
      · refine sim_aload_n 0 rfl dX12_sentence_108 ?_
        refine sim_getI g_RX12_446 sh_179 dX12_sentence_109 ?_
        exact sim_iret rfl rfl dX12_sentence_112
      · refine sim_aload_n 0 rfl dX12_sentence_86 ?_
        refine sim_getR g_RX12_13 sh_179 rh_179_14 dX12_sentence_87 ?_
        refine sim_sipush dX12_sentence_90 (by decide +kernel) ?_
        refine sim_iload_n 1 rfl dX12_sentence_93 ?_
        refine sim_iadd dX12_sentence_94 ?_
        refine sim_aload_n 0 rfl dX12_sentence_95 ?_
        refine sim_getR g_RX12_84 sh_179 rh_179_47 dX12_sentence_96 ?_
        refine sim_iload_n 1 rfl dX12_sentence_99 ?_
        refine sim_iaload sh_202 rfl dX12_sentence_100 ?_
        refine sim_iastore sh_181 rfl dX12_sentence_101 (fun s13 => ?_)
        refine sim_iinc 1 rfl (fun v14 => [(1, vI v14), (0, vR 179)]) (fun _ => rfl) (by decide) dX12_sentence_102 (fun v14 => ?_)
        refine sim_goto (tgt := 79) dX12_sentence_105 (by decide) ?_
        exact sim_sub [1, 0] rfl (hrc10 v14 s13)
    · refine sim_aload_n 0 rfl dX12_sentence_43 ?_
      refine sim_iconst dX12_sentence_44 (by decide) ?_
      refine sim_callVIm v_RX12_155 sh_179 dX12_sentence_45 (k_M_bad 1 s6) rfl ⟨by decide, by decide⟩ (S := []) rfl (Nat.le_of_ble_eq_true rfl) (fun r15 s16 => ?_)
      refine sim_pop rfl dX12_sentence_48 ?_
      refine sim_iconst dX12_sentence_49 (by decide) ?_
      refine sim_aload_n 0 rfl dX12_sentence_50 ?_
      refine sim_getI g_RX12_152 sh_179 dX12_sentence_51 ?_
      refine sim_isub dX12_sentence_54 ?_
      exact sim_iret rfl rfl dX12_sentence_55
  · refine sim_iconst dX12_sentence_29 (by decide) ?_
    refine sim_aload_n 0 rfl dX12_sentence_30 ?_
    refine sim_getI g_RX12_152 sh_179 dX12_sentence_31 ?_
    refine sim_isub dX12_sentence_34 ?_
    exact sim_iret rfl rfl dX12_sentence_35
theorem dX12_drawn_0 : decode cX12_drawn 0 = .ok (.aload_n 0, 1) := by decide +kernel
theorem dX12_drawn_1 : decode cX12_drawn 1 = .ok (.iconst 0, 1) := by decide +kernel
theorem dX12_drawn_2 : decode cX12_drawn 2 = .ok (.putfield 87, 3) := by decide +kernel
theorem dX12_drawn_5 : decode cX12_drawn 5 = .ok (.iload_n 1, 1) := by decide +kernel
theorem dX12_drawn_6 : decode cX12_drawn 6 = .ok (.iconst 0, 1) := by decide +kernel
theorem dX12_drawn_7 : decode cX12_drawn 7 = .ok (.iconst 2, 1) := by decide +kernel
theorem dX12_drawn_8 : decode cX12_drawn 8 = .ok (.invokestatic 158, 3) := by decide +kernel
theorem dX12_drawn_11 : decode cX12_drawn 11 = .ok (.ifCond .eq 12, 3) := by decide +kernel
theorem dX12_drawn_14 : decode cX12_drawn 14 = .ok (.aload_n 0, 1) := by decide +kernel
theorem dX12_drawn_15 : decode cX12_drawn 15 = .ok (.getfield 81, 3) := by decide +kernel
theorem dX12_drawn_18 : decode cX12_drawn 18 = .ok (.iload_n 1, 1) := by decide +kernel
theorem dX12_drawn_19 : decode cX12_drawn 19 = .ok (.iaload, 1) := by decide +kernel
theorem dX12_drawn_20 : decode cX12_drawn 20 = .ok (.goto 4, 3) := by decide +kernel
theorem dX12_drawn_23 : decode cX12_drawn 23 = .ok (.iconst (-1), 1) := by decide +kernel
theorem dX12_drawn_24 : decode cX12_drawn 24 = .ok (.ireturn, 1) := by decide +kernel
def f_M_drawn   (a1 : Int) (σ : JSg) : Option (Int × JSg) :=
  lt_ (sp σ 179 0 0) fun s1 => bd1 (f_M_isIn a1 0 2 s1) fun r2 => if r2 = 0 then (some ((-1), s1)) else (chk (0 ≤ a1 ∧ a1 < 3) <| some (s1 201 a1.toNat, s1))
set_option maxRecDepth 20000 in
set_option maxHeartbeats 4000000 in
theorem k_M_drawn     (a1 : Int) (σ : JSg) : Call yX12_drawn cX12_drawn 2 (some .int) 1 SH RHO [vR 179, vI a1] σ dIm (f_M_drawn a1 σ) := by
  refine call_of_sim (by decide +kernel) (Nat.le_of_ble_eq_true rfl) ?_
  show Sim RX12 cX12_drawn 2 (some .int) 1 SH RHO 0 [(0, vR 179), (1, vI a1)] [] σ dIm (f_M_drawn a1 σ)
  unfold f_M_drawn
  refine sim_aload_n 0 rfl dX12_drawn_0 ?_
  refine sim_iconst dX12_drawn_1 (by decide) ?_
  refine sim_putI g_RX12_87 sh_179 dX12_drawn_2 (fun s1 => ?_)
  refine sim_iload_n 1 rfl dX12_drawn_5 ?_
  refine sim_iconst dX12_drawn_6 (by decide) ?_
  refine sim_iconst dX12_drawn_7 (by decide) ?_
  refine sim_callSIp s_RX12_158 dX12_drawn_8 (k_M_isIn SH RHO a1 0 2 s1) rfl ⟨by decide, by decide⟩ (S := []) rfl (Nat.le_of_ble_eq_true rfl) (fun r2 => ?_)
  refine sim_if_eq (tgt := 23) dX12_drawn_11 (by decide) ?_ ?_
  · refine sim_iconst dX12_drawn_23 (by decide) ?_
    exact sim_iret rfl rfl dX12_drawn_24
  · refine sim_aload_n 0 rfl dX12_drawn_14 ?_
    refine sim_getR g_RX12_81 sh_179 rh_179_46 dX12_drawn_15 ?_
    refine sim_iload_n 1 rfl dX12_drawn_18 ?_
    refine sim_iaload sh_201 rfl dX12_drawn_19 ?_
    refine sim_goto (tgt := 24) dX12_drawn_20 (by decide) ?_
    exact sim_iret rfl rfl dX12_drawn_24
theorem dX12_snap_0 : decode cX12_snap 0 = .ok (.aload_n 0, 1) := by decide +kernel
theorem dX12_snap_1 : decode cX12_snap 1 = .ok (.getfield 234, 3) := by decide +kernel
theorem dX12_snap_4 : decode cX12_snap 4 = .ok (.bipush 8, 2) := by decide +kernel
theorem dX12_snap_6 : decode cX12_snap 6 = .ok (.if_icmp .ne 44, 3) := by decide +kernel
theorem dX12_snap_9 : decode cX12_snap 9 = .ok (.bipush 125, 2) := by decide +kernel
theorem dX12_snap_11 : decode cX12_snap 11 = .ok (.istore_n 1, 1) := by decide +kernel
theorem dX12_snap_12 : decode cX12_snap 12 = .ok (.iload_n 1, 1) := by decide +kernel
theorem dX12_snap_13 : decode cX12_snap 13 = .ok (.sipush 1000, 3) := by decide +kernel
theorem dX12_snap_16 : decode cX12_snap 16 = .ok (.if_icmp .ge 24, 3) := by decide +kernel
theorem dX12_snap_19 : decode cX12_snap 19 = .ok (.aload_n 0, 1) := by decide +kernel
theorem dX12_snap_20 : decode cX12_snap 20 = .ok (.getfield 22, 3) := by decide +kernel
theorem dX12_snap_23 : decode cX12_snap 23 = .ok (.iload_n 1, 1) := by decide +kernel
theorem dX12_snap_24 : decode cX12_snap 24 = .ok (.bipush 125, 2) := by decide +kernel
theorem dX12_snap_26 : decode cX12_snap 26 = .ok (.isub, 1) := by decide +kernel
theorem dX12_snap_27 : decode cX12_snap 27 = .ok (.aload_n 0, 1) := by decide +kernel
theorem dX12_snap_28 : decode cX12_snap 28 = .ok (.getfield 22, 3) := by decide +kernel
theorem dX12_snap_31 : decode cX12_snap 31 = .ok (.iload_n 1, 1) := by decide +kernel
theorem dX12_snap_32 : decode cX12_snap 32 = .ok (.iaload, 1) := by decide +kernel
theorem dX12_snap_33 : decode cX12_snap 33 = .ok (.iastore, 1) := by decide +kernel
theorem dX12_snap_34 : decode cX12_snap 34 = .ok (.iinc 1 1, 3) := by decide +kernel
theorem dX12_snap_37 : decode cX12_snap 37 = .ok (.goto (-25), 3) := by decide +kernel
theorem dX12_snap_40 : decode cX12_snap 40 = .ok (.aload_n 0, 1) := by decide +kernel
theorem dX12_snap_41 : decode cX12_snap 41 = .ok (.dup, 1) := by decide +kernel
theorem dX12_snap_42 : decode cX12_snap 42 = .ok (.getfield 234, 3) := by decide +kernel
theorem dX12_snap_45 : decode cX12_snap 45 = .ok (.iconst 1, 1) := by decide +kernel
theorem dX12_snap_46 : decode cX12_snap 46 = .ok (.isub, 1) := by decide +kernel
theorem dX12_snap_47 : decode cX12_snap 47 = .ok (.putfield 234, 3) := by decide +kernel
theorem dX12_snap_50 : decode cX12_snap 50 = .ok (.iconst 0, 1) := by decide +kernel
theorem dX12_snap_51 : decode cX12_snap 51 = .ok (.istore_n 1, 1) := by decide +kernel
theorem dX12_snap_52 : decode cX12_snap 52 = .ok (.iload_n 1, 1) := by decide +kernel
theorem dX12_snap_53 : decode cX12_snap 53 = .ok (.bipush 125, 2) := by decide +kernel
theorem dX12_snap_55 : decode cX12_snap 55 = .ok (.if_icmp .ge 32, 3) := by decide +kernel
theorem dX12_snap_58 : decode cX12_snap 58 = .ok (.aload_n 0, 1) := by decide +kernel
theorem dX12_snap_59 : decode cX12_snap 59 = .ok (.getfield 22, 3) := by decide +kernel
theorem dX12_snap_62 : decode cX12_snap 62 = .ok (.bipush 125, 2) := by decide +kernel
theorem dX12_snap_64 : decode cX12_snap 64 = .ok (.aload_n 0, 1) := by decide +kernel
theorem dX12_snap_65 : decode cX12_snap 65 = .ok (.getfield 234, 3) := by decide +kernel
theorem dX12_snap_68 : decode cX12_snap 68 = .ok (.imul, 1) := by decide +kernel
theorem dX12_snap_69 : decode cX12_snap 69 = .ok (.iload_n 1, 1) := by decide +kernel
theorem dX12_snap_70 : decode cX12_snap 70 = .ok (.iadd, 1) := by decide +kernel
theorem dX12_snap_71 : decode cX12_snap 71 = .ok (.aload_n 0, 1) := by decide +kernel
theorem dX12_snap_72 : decode cX12_snap 72 = .ok (.getfield 13, 3) := by decide +kernel
theorem dX12_snap_75 : decode cX12_snap 75 = .ok (.bipush 67, 2) := by decide +kernel
theorem dX12_snap_77 : decode cX12_snap 77 = .ok (.iload_n 1, 1) := by decide +kernel
theorem dX12_snap_78 : decode cX12_snap 78 = .ok (.iadd, 1) := by decide +kernel
theorem dX12_snap_79 : decode cX12_snap 79 = .ok (.iaload, 1) := by decide +kernel
theorem dX12_snap_80 : decode cX12_snap 80 = .ok (.iastore, 1) := by decide +kernel
theorem dX12_snap_81 : decode cX12_snap 81 = .ok (.iinc 1 1, 3) := by decide +kernel
theorem dX12_snap_84 : decode cX12_snap 84 = .ok (.goto (-32), 3) := by decide +kernel
theorem dX12_snap_87 : decode cX12_snap 87 = .ok (.aload_n 0, 1) := by decide +kernel
theorem dX12_snap_88 : decode cX12_snap 88 = .ok (.dup, 1) := by decide +kernel
theorem dX12_snap_89 : decode cX12_snap 89 = .ok (.getfield 234, 3) := by decide +kernel
theorem dX12_snap_92 : decode cX12_snap 92 = .ok (.iconst 1, 1) := by decide +kernel
theorem dX12_snap_93 : decode cX12_snap 93 = .ok (.iadd, 1) := by decide +kernel
theorem dX12_snap_94 : decode cX12_snap 94 = .ok (.putfield 234, 3) := by decide +kernel
theorem dX12_snap_97 : decode cX12_snap 97 = .ok (.return_, 1) := by decide +kernel
def f_M_snap (n : Nat)   (σ : JSg) : Option (JSg) :=
  jn1 (fun  (s2 : JSg) => lt_ 0 fun v3 => wh2 n (fun rc4 (x5 : Int) (s6 : JSg) => if x5 < 125 then (chk (0 ≤ (w32 (67 + x5)) ∧ (w32 (67 + x5)) < 448) <| chk (0 ≤ (w32 ((w32 (125 * (s6 179 22))) + x5)) ∧ (w32 ((w32 (125 * (s6 179 22))) + x5)) < 1000) <| lt_ (sp s6 184 (w32 ((w32 (125 * (s6 179 22))) + x5)).toNat (s6 181 (w32 (67 + x5)).toNat)) fun s8 => lt_ (w32 (x5 + 1)) fun v9 => rc4 v9 s8) else (lt_ (sp s6 179 22 (w32 ((s6 179 22) + 1))) fun s7 => some s7)) v3 s2) fun j1 => if (σ 179 22) = 8 then (lt_ 125 fun v10 => wh2 n (fun rc11 (x12 : Int) (s13 : JSg) => if x12 < 1000 then (chk (0 ≤ x12 ∧ x12 < 1000) <| chk (0 ≤ (w32 (x12 - 125)) ∧ (w32 (x12 - 125)) < 1000) <| lt_ (sp s13 184 (w32 (x12 - 125)).toNat (s13 184 x12.toNat)) fun s15 => lt_ (w32 (x12 + 1)) fun v16 => rc11 v16 s15) else (lt_ (sp s13 179 22 (w32 ((s13 179 22) - 1))) fun s14 => j1 s14)) v10 (σ)) else (j1 (σ))
set_option maxRecDepth 20000 in
set_option maxHeartbeats 4000000 in
theorem k_M_snap  (n : Nat)    (σ : JSg) : Call yX12_snap cX12_snap 2 none 0 SH RHO [vR 179] σ dVm (f_M_snap n σ) := by
  refine call_of_sim (by decide +kernel) (Nat.le_of_ble_eq_true rfl) ?_
  show Sim RX12 cX12_snap 2 none 0 SH RHO 0 [(0, vR 179)] [] σ dVm (f_M_snap n σ)
  unfold f_M_snap
  refine sim_aload_n 0 rfl dX12_snap_0 ?_
  refine sim_getI g_RX12_234 sh_179 dX12_snap_1 ?_
  refine sim_bipush dX12_snap_4 (by decide +kernel) ?_
  refine sim_jn1 (pc' := 50) (fun  (s2 : JSg) => [(0, vR 179)]) (fun  (s2 : JSg) => []) (fun  (s2 : JSg) => s2) ?_ (fun j1 hj1 => ?_)
  · intro s2
    refine sim_iconst dX12_snap_50 (by decide) ?_
    refine sim_istore_n (fun v3 => [(1, vI v3), (0, vR 179)]) (fun _ => rfl) (by decide) dX12_snap_51 (fun v3 => ?_)
    refine sim_sub [1, 0] (L' := [(0, vR 179), (1, vI v3)]) rfl ?_
    refine sim_wh2 (fun (x5 : Int) (s6 : JSg) => [(0, vR 179), (1, vI x5)]) (fun (x5 : Int) (s6 : JSg) => s6) ?_ n v3 s2
    intro rc4 hrc4 x5 s6
    refine sim_iload_n 1 rfl dX12_snap_52 ?_
    refine sim_bipush dX12_snap_53 (by decide +kernel) ?_
    refine sim_icmp_ge (tgt := 87) dX12_snap_55 (by decide) ?_ ?_
    · refine sim_aload_n 0 rfl dX12_snap_87 ?_
      refine sim_dup rfl dX12_snap_88 ?_
      refine sim_getI g_RX12_234 sh_179 dX12_snap_89 ?_
      refine sim_iconst dX12_snap_92 (by decide) ?_
      refine sim_iadd dX12_snap_93 ?_
      refine sim_putI g_RX12_234 sh_179 dX12_snap_94 (fun s7 => ?_)
      exact sim_vret rfl rfl dX12_snap_97
    · refine sim_aload_n 0 rfl dX12_snap_58 ?_
      refine sim_getR g_RX12_22 sh_179 rh_179_17 dX12_snap_59 ?_
      refine sim_bipush dX12_snap_62 (by decide +kernel) ?_
      refine sim_aload_n 0 rfl dX12_snap_64 ?_
      refine sim_getI g_RX12_234 sh_179 dX12_snap_65 ?_
      refine sim_imul dX12_snap_68 ?_
      refine sim_iload_n 1 rfl dX12_snap_69 ?_
      refine sim_iadd dX12_snap_70 ?_
      refine sim_aload_n 0 rfl dX12_snap_71 ?_
      refine sim_getR g_RX12_13 sh_179 rh_179_14 dX12_snap_72 ?_
      refine sim_bipush dX12_snap_75 (by decide +kernel) ?_
      refine sim_iload_n 1 rfl dX12_snap_77 ?_
      refine sim_iadd dX12_snap_78 ?_
      refine sim_iaload sh_181 rfl dX12_snap_79 ?_
      refine sim_iastore sh_184 rfl dX12_snap_80 (fun s8 => ?_)
      refine sim_iinc 1 rfl (fun v9 => [(1, vI v9), (0, vR 179)]) (fun _ => rfl) (by decide) dX12_snap_81 (fun v9 => ?_)
      refine sim_goto (tgt := 52) dX12_snap_84 (by decide) ?_
      exact sim_sub [1, 0] rfl (hrc4 v9 s8)
  refine sim_icmp_ne (tgt := 50) dX12_snap_6 (by decide) ?_ ?_
  · exact sim_sub [0] rfl (hj1 (σ))
  · refine sim_bipush dX12_snap_9 (by decide +kernel) ?_
    refine sim_istore_n (fun v10 => [(1, vI v10), (0, vR 179)]) (fun _ => rfl) (by decide) dX12_snap_11 (fun v10 => ?_)
    refine sim_sub [1, 0] (L' := [(0, vR 179), (1, vI v10)]) rfl ?_
    refine sim_wh2 (fun (x12 : Int) (s13 : JSg) => [(0, vR 179), (1, vI x12)]) (fun (x12 : Int) (s13 : JSg) => s13) ?_ n v10 (σ)
    intro rc11 hrc11 x12 s13
    refine sim_iload_n 1 rfl dX12_snap_12 ?_
    refine sim_sipush dX12_snap_13 (by decide +kernel) ?_
    refine sim_icmp_ge (tgt := 40) dX12_snap_16 (by decide) ?_ ?_
    · refine sim_aload_n 0 rfl dX12_snap_40 ?_
      refine sim_dup rfl dX12_snap_41 ?_
      refine sim_getI g_RX12_234 sh_179 dX12_snap_42 ?_
      refine sim_iconst dX12_snap_45 (by decide) ?_
      refine sim_isub dX12_snap_46 ?_
      refine sim_putI g_RX12_234 sh_179 dX12_snap_47 (fun s14 => ?_)
      exact sim_sub [0] rfl (hj1 s14)
    · refine sim_aload_n 0 rfl dX12_snap_19 ?_
      refine sim_getR g_RX12_22 sh_179 rh_179_17 dX12_snap_20 ?_
      refine sim_iload_n 1 rfl dX12_snap_23 ?_
      refine sim_bipush dX12_snap_24 (by decide +kernel) ?_
      refine sim_isub dX12_snap_26 ?_
      refine sim_aload_n 0 rfl dX12_snap_27 ?_
      refine sim_getR g_RX12_22 sh_179 rh_179_17 dX12_snap_28 ?_
      refine sim_iload_n 1 rfl dX12_snap_31 ?_
      refine sim_iaload sh_184 rfl dX12_snap_32 ?_
      refine sim_iastore sh_184 rfl dX12_snap_33 (fun s15 => ?_)
      refine sim_iinc 1 rfl (fun v16 => [(1, vI v16), (0, vR 179)]) (fun _ => rfl) (by decide) dX12_snap_34 (fun v16 => ?_)
      refine sim_goto (tgt := 12) dX12_snap_37 (by decide) ?_
      exact sim_sub [1, 0] rfl (hrc11 v16 s15)
theorem dX12_draw_0 : decode cX12_draw 0 = .ok (.aload_n 0, 1) := by decide +kernel
theorem dX12_draw_1 : decode cX12_draw 1 = .ok (.aload_n 0, 1) := by decide +kernel
theorem dX12_draw_2 : decode cX12_draw 2 = .ok (.getfield 421, 3) := by decide +kernel
theorem dX12_draw_5 : decode cX12_draw 5 = .ok (.ldc_w 424, 3) := by decide +kernel
theorem dX12_draw_8 : decode cX12_draw 8 = .ok (.imul, 1) := by decide +kernel
theorem dX12_draw_9 : decode cX12_draw 9 = .ok (.sipush 12345, 3) := by decide +kernel
theorem dX12_draw_12 : decode cX12_draw 12 = .ok (.iadd, 1) := by decide +kernel
theorem dX12_draw_13 : decode cX12_draw 13 = .ok (.putfield 421, 3) := by decide +kernel
theorem dX12_draw_16 : decode cX12_draw 16 = .ok (.aload_n 0, 1) := by decide +kernel
theorem dX12_draw_17 : decode cX12_draw 17 = .ok (.getfield 421, 3) := by decide +kernel
theorem dX12_draw_20 : decode cX12_draw 20 = .ok (.bipush 8, 2) := by decide +kernel
theorem dX12_draw_22 : decode cX12_draw 22 = .ok (.iushr, 1) := by decide +kernel
theorem dX12_draw_23 : decode cX12_draw 23 = .ok (.iload_n 1, 1) := by decide +kernel
theorem dX12_draw_24 : decode cX12_draw 24 = .ok (.irem, 1) := by decide +kernel
theorem dX12_draw_25 : decode cX12_draw 25 = .ok (.ireturn, 1) := by decide +kernel
def f_M_draw   (a1 : Int) (σ : JSg) : Option (Int × JSg) :=
  lt_ (sp σ 179 45 (w32 ((w32 ((σ 179 45) * 1103515245)) + 12345))) fun s1 => chk (a1 ≠ 0) <| some (rm32 (ur32 (s1 179 45) 8) a1, s1)
set_option maxRecDepth 20000 in
set_option maxHeartbeats 4000000 in
theorem k_M_draw     (a1 : Int) (σ : JSg) : Call yX12_draw cX12_draw 2 (some .int) 0 SH RHO [vR 179, vI a1] σ dIm (f_M_draw a1 σ) := by
  refine call_of_sim (by decide +kernel) (Nat.le_of_ble_eq_true rfl) ?_
  show Sim RX12 cX12_draw 2 (some .int) 0 SH RHO 0 [(0, vR 179), (1, vI a1)] [] σ dIm (f_M_draw a1 σ)
  unfold f_M_draw
  refine sim_aload_n 0 rfl dX12_draw_0 ?_
  refine sim_aload_n 0 rfl dX12_draw_1 ?_
  refine sim_getI g_RX12_421 sh_179 dX12_draw_2 ?_
  refine sim_ldcw (v := 1103515245) w_2114 (by decide +kernel) dX12_draw_5 ?_
  refine sim_imul dX12_draw_8 ?_
  refine sim_sipush dX12_draw_9 (by decide +kernel) ?_
  refine sim_iadd dX12_draw_12 ?_
  refine sim_putI g_RX12_421 sh_179 dX12_draw_13 (fun s1 => ?_)
  refine sim_aload_n 0 rfl dX12_draw_16 ?_
  refine sim_getI g_RX12_421 sh_179 dX12_draw_17 ?_
  refine sim_bipush dX12_draw_20 (by decide +kernel) ?_
  refine sim_iushr dX12_draw_22 ?_
  refine sim_iload_n 1 rfl dX12_draw_23 ?_
  refine sim_irem dX12_draw_24 ?_
  exact sim_iret rfl rfl dX12_draw_25
theorem dX12_inHand_0 : decode cX12_inHand 0 = .ok (.iconst 0, 1) := by decide +kernel
theorem dX12_inHand_1 : decode cX12_inHand 1 = .ok (.istore_n 3, 1) := by decide +kernel
theorem dX12_inHand_2 : decode cX12_inHand 2 = .ok (.iconst 0, 1) := by decide +kernel
theorem dX12_inHand_3 : decode cX12_inHand 3 = .ok (.istore 4, 2) := by decide +kernel
theorem dX12_inHand_5 : decode cX12_inHand 5 = .ok (.iload 4, 2) := by decide +kernel
theorem dX12_inHand_7 : decode cX12_inHand 7 = .ok (.aload_n 0, 1) := by decide +kernel
theorem dX12_inHand_8 : decode cX12_inHand 8 = .ok (.invokevirtual 240, 3) := by decide +kernel
theorem dX12_inHand_11 : decode cX12_inHand 11 = .ok (.if_icmp .ge 46, 3) := by decide +kernel
theorem dX12_inHand_14 : decode cX12_inHand 14 = .ok (.aload_n 0, 1) := by decide +kernel
theorem dX12_inHand_15 : decode cX12_inHand 15 = .ok (.getfield 13, 3) := by decide +kernel
theorem dX12_inHand_18 : decode cX12_inHand 18 = .ok (.bipush 67, 2) := by decide +kernel
theorem dX12_inHand_20 : decode cX12_inHand 20 = .ok (.iload 4, 2) := by decide +kernel
theorem dX12_inHand_22 : decode cX12_inHand 22 = .ok (.iadd, 1) := by decide +kernel
theorem dX12_inHand_23 : decode cX12_inHand 23 = .ok (.iaload, 1) := by decide +kernel
theorem dX12_inHand_24 : decode cX12_inHand 24 = .ok (.iload_n 1, 1) := by decide +kernel
theorem dX12_inHand_25 : decode cX12_inHand 25 = .ok (.if_icmp .ne 26, 3) := by decide +kernel
theorem dX12_inHand_28 : decode cX12_inHand 28 = .ok (.aload_n 0, 1) := by decide +kernel
theorem dX12_inHand_29 : decode cX12_inHand 29 = .ok (.iload 4, 2) := by decide +kernel
theorem dX12_inHand_31 : decode cX12_inHand 31 = .ok (.invokevirtual 265, 3) := by decide +kernel
theorem dX12_inHand_34 : decode cX12_inHand 34 = .ok (.ifCond .ne 6, 3) := by decide +kernel
theorem dX12_inHand_37 : decode cX12_inHand 37 = .ok (.goto 14, 3) := by decide +kernel
theorem dX12_inHand_40 : decode cX12_inHand 40 = .ok (.iload_n 3, 1) := by decide +kernel
theorem dX12_inHand_41 : decode cX12_inHand 41 = .ok (.iload_n 2, 1) := by decide +kernel
theorem dX12_inHand_42 : decode cX12_inHand 42 = .ok (.if_icmp .ne 6, 3) := by decide +kernel
theorem dX12_inHand_45 : decode cX12_inHand 45 = .ok (.iload 4, 2) := by decide +kernel
theorem dX12_inHand_47 : decode cX12_inHand 47 = .ok (.ireturn, 1) := by decide +kernel
theorem dX12_inHand_48 : decode cX12_inHand 48 = .ok (.iinc 3 1, 3) := by decide +kernel
theorem dX12_inHand_51 : decode cX12_inHand 51 = .ok (.iinc 4 1, 3) := by decide +kernel
theorem dX12_inHand_54 : decode cX12_inHand 54 = .ok (.goto (-49), 3) := by decide +kernel
theorem dX12_inHand_57 : decode cX12_inHand 57 = .ok (.iload_n 3, 1) := by decide +kernel
theorem dX12_inHand_58 : decode cX12_inHand 58 = .ok (.ireturn, 1) := by decide +kernel
def f_M_inHand (n : Nat)  (a1 : Int) (a2 : Int) (σ : JSg) : Option (Int) :=
  lt_ 0 fun v1 => lt_ 0 fun v2 => wh2 n (fun rc3 (x4 : Int) (x5 : Int) => bd1 (f_M_stones σ) fun r6 => if x5 < r6 then (chk (0 ≤ (w32 (67 + x5)) ∧ (w32 (67 + x5)) < 448) <| jn1 (fun (y8 : Int) => lt_ (w32 (x5 + 1)) fun v9 => rc3 y8 v9) fun j7 => if (σ 181 (w32 (67 + x5)).toNat) = a1 then (bd1 (f_M_isHeld x5 σ) fun r10 => if r10 = 0 then (j7 x4) else (if x4 = a2 then (some x5) else (lt_ (w32 (x4 + 1)) fun v11 => j7 v11))) else (j7 x4)) else (some x4)) v1 v2
set_option maxRecDepth 20000 in
set_option maxHeartbeats 4000000 in
theorem k_M_inHand  (n : Nat)   (a1 : Int) (a2 : Int) (σ : JSg) : Call yX12_inHand cX12_inHand 5 (some .int) 1 SH RHO [vR 179, vI a1, vI a2] σ (dIp σ) (f_M_inHand n a1 a2 σ) := by
  refine call_of_sim (by decide +kernel) (Nat.le_of_ble_eq_true rfl) ?_
  show Sim RX12 cX12_inHand 5 (some .int) 1 SH RHO 0 [(0, vR 179), (1, vI a1), (2, vI a2)] [] σ (dIp σ) (f_M_inHand n a1 a2 σ)
  unfold f_M_inHand
  refine sim_iconst dX12_inHand_0 (by decide) ?_
  refine sim_istore_n (fun v1 => [(3, vI v1), (0, vR 179), (1, vI a1), (2, vI a2)]) (fun _ => rfl) (by decide) dX12_inHand_1 (fun v1 => ?_)
  refine sim_iconst dX12_inHand_2 (by decide) ?_
  refine sim_istore (fun v2 => [(4, vI v2), (3, vI v1), (0, vR 179), (1, vI a1), (2, vI a2)]) (fun _ => rfl) (by decide) dX12_inHand_3 (fun v2 => ?_)
  refine sim_sub [2, 3, 4, 1, 0] (L' := [(0, vR 179), (1, vI a1), (2, vI a2), (3, vI v1), (4, vI v2)]) rfl ?_
  refine sim_wh2 (fun (x4 : Int) (x5 : Int) => [(0, vR 179), (1, vI a1), (2, vI a2), (3, vI x4), (4, vI x5)]) (fun (x4 : Int) (x5 : Int) => σ) ?_ n v1 v2
  intro rc3 hrc3 x4 x5
  refine sim_iload 4 rfl dX12_inHand_5 ?_
  refine sim_aload_n 0 rfl dX12_inHand_7 ?_
  refine sim_callVIp v_RX12_240 sh_179 dX12_inHand_8 (k_M_stones σ) rfl ⟨by decide, by decide⟩ (S := [vI x5]) rfl (Nat.le_of_ble_eq_true rfl) (fun r6 => ?_)
  refine sim_icmp_ge (tgt := 57) dX12_inHand_11 (by decide) ?_ ?_
  · refine sim_iload_n 3 rfl dX12_inHand_57 ?_
    exact sim_iret rfl rfl dX12_inHand_58
  · refine sim_aload_n 0 rfl dX12_inHand_14 ?_
    refine sim_getR g_RX12_13 sh_179 rh_179_14 dX12_inHand_15 ?_
    refine sim_bipush dX12_inHand_18 (by decide +kernel) ?_
    refine sim_iload 4 rfl dX12_inHand_20 ?_
    refine sim_iadd dX12_inHand_22 ?_
    refine sim_iaload sh_181 rfl dX12_inHand_23 ?_
    refine sim_iload_n 1 rfl dX12_inHand_24 ?_
    refine sim_jn1 (pc' := 51) (fun (y8 : Int) => [(0, vR 179), (1, vI a1), (2, vI a2), (3, vI y8), (4, vI x5)]) (fun (y8 : Int) => []) (fun (y8 : Int) => σ) ?_ (fun j7 hj7 => ?_)
    · intro y8
      refine sim_iinc 4 rfl (fun v9 => [(4, vI v9), (0, vR 179), (1, vI a1), (2, vI a2), (3, vI y8)]) (fun _ => rfl) (by decide) dX12_inHand_51 (fun v9 => ?_)
      refine sim_goto (tgt := 5) dX12_inHand_54 (by decide) ?_
      exact sim_sub [1, 2, 3, 4, 0] rfl (hrc3 y8 v9)
    refine sim_icmp_ne (tgt := 51) dX12_inHand_25 (by decide) ?_ ?_
    · exact sim_sub [0, 1, 2, 3, 4] rfl (hj7 x4)
    · refine sim_aload_n 0 rfl dX12_inHand_28 ?_
      refine sim_iload 4 rfl dX12_inHand_29 ?_
      refine sim_callVIp v_RX12_265 sh_179 dX12_inHand_31 (k_M_isHeld x5 σ) rfl ⟨by decide, by decide⟩ (S := []) rfl (Nat.le_of_ble_eq_true rfl) (fun r10 => ?_)
      refine sim_if_ne (tgt := 40) dX12_inHand_34 (by decide) ?_ ?_
      · refine sim_iload_n 3 rfl dX12_inHand_40 ?_
        refine sim_iload_n 2 rfl dX12_inHand_41 ?_
        refine sim_icmp_ne (tgt := 48) dX12_inHand_42 (by decide) ?_ ?_
        · refine sim_iinc 3 rfl (fun v11 => [(3, vI v11), (0, vR 179), (1, vI a1), (2, vI a2), (4, vI x5)]) (fun _ => rfl) (by decide) dX12_inHand_48 (fun v11 => ?_)
          exact sim_sub [1, 2, 3, 0, 4] rfl (hj7 v11)
        · refine sim_iload 4 rfl dX12_inHand_45 ?_
          exact sim_iret rfl rfl dX12_inHand_47
      · refine sim_goto (tgt := 51) dX12_inHand_37 (by decide) ?_
        exact sim_sub [0, 1, 2, 3, 4] rfl (hj7 x4)
theorem dX12_layerAt_0 : decode cX12_layerAt 0 = .ok (.aload_n 0, 1) := by decide +kernel
theorem dX12_layerAt_1 : decode cX12_layerAt 1 = .ok (.getfield 13, 3) := by decide +kernel
theorem dX12_layerAt_4 : decode cX12_layerAt 4 = .ok (.bipush 123, 2) := by decide +kernel
theorem dX12_layerAt_6 : decode cX12_layerAt 6 = .ok (.aload_n 0, 1) := by decide +kernel
theorem dX12_layerAt_7 : decode cX12_layerAt 7 = .ok (.aload_n 0, 1) := by decide +kernel
theorem dX12_layerAt_8 : decode cX12_layerAt 8 = .ok (.iload_n 1, 1) := by decide +kernel
theorem dX12_layerAt_9 : decode cX12_layerAt 9 = .ok (.invokevirtual 274, 3) := by decide +kernel
theorem dX12_layerAt_12 : decode cX12_layerAt 12 = .ok (.invokevirtual 247, 3) := by decide +kernel
theorem dX12_layerAt_15 : decode cX12_layerAt 15 = .ok (.iadd, 1) := by decide +kernel
theorem dX12_layerAt_16 : decode cX12_layerAt 16 = .ok (.iaload, 1) := by decide +kernel
theorem dX12_layerAt_17 : decode cX12_layerAt 17 = .ok (.ireturn, 1) := by decide +kernel
def f_M_layerAt   (a1 : Int) (σ : JSg) : Option (Int) :=
  bd1 (f_M_endAt a1 σ) fun r1 => bd1 (f_M_rowStone r1 σ) fun r2 => chk (0 ≤ (w32 (123 + r2)) ∧ (w32 (123 + r2)) < 448) <| some (σ 181 (w32 (123 + r2)).toNat)
set_option maxRecDepth 20000 in
set_option maxHeartbeats 4000000 in
theorem k_M_layerAt     (a1 : Int) (σ : JSg) : Call yX12_layerAt cX12_layerAt 2 (some .int) 2 SH RHO [vR 179, vI a1] σ (dIp σ) (f_M_layerAt a1 σ) := by
  refine call_of_sim (by decide +kernel) (Nat.le_of_ble_eq_true rfl) ?_
  show Sim RX12 cX12_layerAt 2 (some .int) 2 SH RHO 0 [(0, vR 179), (1, vI a1)] [] σ (dIp σ) (f_M_layerAt a1 σ)
  unfold f_M_layerAt
  refine sim_aload_n 0 rfl dX12_layerAt_0 ?_
  refine sim_getR g_RX12_13 sh_179 rh_179_14 dX12_layerAt_1 ?_
  refine sim_bipush dX12_layerAt_4 (by decide +kernel) ?_
  refine sim_aload_n 0 rfl dX12_layerAt_6 ?_
  refine sim_aload_n 0 rfl dX12_layerAt_7 ?_
  refine sim_iload_n 1 rfl dX12_layerAt_8 ?_
  refine sim_callVIp v_RX12_274 sh_179 dX12_layerAt_9 (k_M_endAt a1 σ) rfl ⟨by decide, by decide⟩ (S := [vR 179, vI 123, vR 181]) rfl (Nat.le_of_ble_eq_true rfl) (fun r1 => ?_)
  refine sim_callVIp v_RX12_247 sh_179 dX12_layerAt_12 (k_M_rowStone r1 σ) rfl ⟨by decide, by decide⟩ (S := [vI 123, vR 181]) rfl (Nat.le_of_ble_eq_true rfl) (fun r2 => ?_)
  refine sim_iadd dX12_layerAt_15 ?_
  refine sim_iaload sh_181 rfl dX12_layerAt_16 ?_
  exact sim_iret rfl rfl dX12_layerAt_17
theorem dX12_whyNot_0 : decode cX12_whyNot 0 = .ok (.aload_n 0, 1) := by decide +kernel
theorem dX12_whyNot_1 : decode cX12_whyNot 1 = .ok (.getfield 13, 3) := by decide +kernel
theorem dX12_whyNot_4 : decode cX12_whyNot 4 = .ok (.bipush 67, 2) := by decide +kernel
theorem dX12_whyNot_6 : decode cX12_whyNot 6 = .ok (.iload_n 2, 1) := by decide +kernel
theorem dX12_whyNot_7 : decode cX12_whyNot 7 = .ok (.iadd, 1) := by decide +kernel
theorem dX12_whyNot_8 : decode cX12_whyNot 8 = .ok (.iaload, 1) := by decide +kernel
theorem dX12_whyNot_9 : decode cX12_whyNot 9 = .ok (.iload_n 1, 1) := by decide +kernel
theorem dX12_whyNot_10 : decode cX12_whyNot 10 = .ok (.if_icmp .ne 11, 3) := by decide +kernel
theorem dX12_whyNot_13 : decode cX12_whyNot 13 = .ok (.aload_n 0, 1) := by decide +kernel
theorem dX12_whyNot_14 : decode cX12_whyNot 14 = .ok (.iload_n 2, 1) := by decide +kernel
theorem dX12_whyNot_15 : decode cX12_whyNot 15 = .ok (.invokevirtual 265, 3) := by decide +kernel
theorem dX12_whyNot_18 : decode cX12_whyNot 18 = .ok (.ifCond .ne 5, 3) := by decide +kernel
theorem dX12_whyNot_21 : decode cX12_whyNot 21 = .ok (.iconst 1, 1) := by decide +kernel
theorem dX12_whyNot_22 : decode cX12_whyNot 22 = .ok (.ireturn, 1) := by decide +kernel
theorem dX12_whyNot_23 : decode cX12_whyNot 23 = .ok (.aload_n 0, 1) := by decide +kernel
theorem dX12_whyNot_24 : decode cX12_whyNot 24 = .ok (.invokevirtual 250, 3) := by decide +kernel
theorem dX12_whyNot_27 : decode cX12_whyNot 27 = .ok (.ifCond .ne 5, 3) := by decide +kernel
theorem dX12_whyNot_30 : decode cX12_whyNot 30 = .ok (.iconst 0, 1) := by decide +kernel
theorem dX12_whyNot_31 : decode cX12_whyNot 31 = .ok (.ireturn, 1) := by decide +kernel
theorem dX12_whyNot_32 : decode cX12_whyNot 32 = .ok (.aload_n 0, 1) := by decide +kernel
theorem dX12_whyNot_33 : decode cX12_whyNot 33 = .ok (.iload_n 3, 1) := by decide +kernel
theorem dX12_whyNot_34 : decode cX12_whyNot 34 = .ok (.invokevirtual 283, 3) := by decide +kernel
theorem dX12_whyNot_37 : decode cX12_whyNot 37 = .ok (.iload_n 1, 1) := by decide +kernel
theorem dX12_whyNot_38 : decode cX12_whyNot 38 = .ok (.if_icmp .ne 5, 3) := by decide +kernel
theorem dX12_whyNot_41 : decode cX12_whyNot 41 = .ok (.iconst 2, 1) := by decide +kernel
theorem dX12_whyNot_42 : decode cX12_whyNot 42 = .ok (.ireturn, 1) := by decide +kernel
theorem dX12_whyNot_43 : decode cX12_whyNot 43 = .ok (.aload_n 0, 1) := by decide +kernel
theorem dX12_whyNot_44 : decode cX12_whyNot 44 = .ok (.aload_n 0, 1) := by decide +kernel
theorem dX12_whyNot_45 : decode cX12_whyNot 45 = .ok (.iload_n 2, 1) := by decide +kernel
theorem dX12_whyNot_46 : decode cX12_whyNot 46 = .ok (.iconst 0, 1) := by decide +kernel
theorem dX12_whyNot_47 : decode cX12_whyNot 47 = .ok (.invokevirtual 243, 3) := by decide +kernel
theorem dX12_whyNot_50 : decode cX12_whyNot 50 = .ok (.aload_n 0, 1) := by decide +kernel
theorem dX12_whyNot_51 : decode cX12_whyNot 51 = .ok (.iload_n 3, 1) := by decide +kernel
theorem dX12_whyNot_52 : decode cX12_whyNot 52 = .ok (.invokevirtual 280, 3) := by decide +kernel
theorem dX12_whyNot_55 : decode cX12_whyNot 55 = .ok (.invokevirtual 271, 3) := by decide +kernel
theorem dX12_whyNot_58 : decode cX12_whyNot 58 = .ok (.ifCond .ne 21, 3) := by decide +kernel
theorem dX12_whyNot_61 : decode cX12_whyNot 61 = .ok (.aload_n 0, 1) := by decide +kernel
theorem dX12_whyNot_62 : decode cX12_whyNot 62 = .ok (.aload_n 0, 1) := by decide +kernel
theorem dX12_whyNot_63 : decode cX12_whyNot 63 = .ok (.iload_n 2, 1) := by decide +kernel
theorem dX12_whyNot_64 : decode cX12_whyNot 64 = .ok (.iconst 1, 1) := by decide +kernel
theorem dX12_whyNot_65 : decode cX12_whyNot 65 = .ok (.invokevirtual 243, 3) := by decide +kernel
theorem dX12_whyNot_68 : decode cX12_whyNot 68 = .ok (.aload_n 0, 1) := by decide +kernel
theorem dX12_whyNot_69 : decode cX12_whyNot 69 = .ok (.iload_n 3, 1) := by decide +kernel
theorem dX12_whyNot_70 : decode cX12_whyNot 70 = .ok (.invokevirtual 280, 3) := by decide +kernel
theorem dX12_whyNot_73 : decode cX12_whyNot 73 = .ok (.invokevirtual 271, 3) := by decide +kernel
theorem dX12_whyNot_76 : decode cX12_whyNot 76 = .ok (.ifCond .eq 7, 3) := by decide +kernel
theorem dX12_whyNot_79 : decode cX12_whyNot 79 = .ok (.iconst 0, 1) := by decide +kernel
theorem dX12_whyNot_80 : decode cX12_whyNot 80 = .ok (.goto 4, 3) := by decide +kernel
theorem dX12_whyNot_83 : decode cX12_whyNot 83 = .ok (.iconst 3, 1) := by decide +kernel
theorem dX12_whyNot_84 : decode cX12_whyNot 84 = .ok (.ireturn, 1) := by decide +kernel
def f_M_whyNot   (a1 : Int) (a2 : Int) (a3 : Int) (σ : JSg) : Option (Int) :=
  chk (0 ≤ (w32 (67 + a2)) ∧ (w32 (67 + a2)) < 448) <| if (σ 181 (w32 (67 + a2)).toNat) = a1 then (bd1 (f_M_isHeld a2 σ) fun r1 => if r1 = 0 then (some 1) else (bd1 (f_M_rowMany σ) fun r2 => if r2 = 0 then (some 0) else (bd1 (f_M_layerAt a3 σ) fun r3 => if r3 = a1 then (some 2) else (bd1 (f_M_pip a2 0 σ) fun r4 => bd1 (f_M_pipsAt a3 σ) fun r5 => bd1 (f_M_fit r4 r5 σ) fun r6 => jn0 (some 0) fun j7 => if r6 = 0 then (bd1 (f_M_pip a2 1 σ) fun r8 => bd1 (f_M_pipsAt a3 σ) fun r9 => bd1 (f_M_fit r8 r9 σ) fun r10 => if r10 = 0 then (some 3) else (j7)) else (j7))))) else (some 1)
set_option maxRecDepth 20000 in
set_option maxHeartbeats 4000000 in
theorem k_M_whyNot     (a1 : Int) (a2 : Int) (a3 : Int) (σ : JSg) : Call yX12_whyNot cX12_whyNot 4 (some .int) 3 SH RHO [vR 179, vI a1, vI a2, vI a3] σ (dIp σ) (f_M_whyNot a1 a2 a3 σ) := by
  refine call_of_sim (by decide +kernel) (Nat.le_of_ble_eq_true rfl) ?_
  show Sim RX12 cX12_whyNot 4 (some .int) 3 SH RHO 0 [(0, vR 179), (1, vI a1), (2, vI a2), (3, vI a3)] [] σ (dIp σ) (f_M_whyNot a1 a2 a3 σ)
  unfold f_M_whyNot
  refine sim_aload_n 0 rfl dX12_whyNot_0 ?_
  refine sim_getR g_RX12_13 sh_179 rh_179_14 dX12_whyNot_1 ?_
  refine sim_bipush dX12_whyNot_4 (by decide +kernel) ?_
  refine sim_iload_n 2 rfl dX12_whyNot_6 ?_
  refine sim_iadd dX12_whyNot_7 ?_
  refine sim_iaload sh_181 rfl dX12_whyNot_8 ?_
  refine sim_iload_n 1 rfl dX12_whyNot_9 ?_
  refine sim_icmp_ne (tgt := 21) dX12_whyNot_10 (by decide) ?_ ?_
  · refine sim_iconst dX12_whyNot_21 (by decide) ?_
    exact sim_iret rfl rfl dX12_whyNot_22
  · refine sim_aload_n 0 rfl dX12_whyNot_13 ?_
    refine sim_iload_n 2 rfl dX12_whyNot_14 ?_
    refine sim_callVIp v_RX12_265 sh_179 dX12_whyNot_15 (k_M_isHeld a2 σ) rfl ⟨by decide, by decide⟩ (S := []) rfl (Nat.le_of_ble_eq_true rfl) (fun r1 => ?_)
    refine sim_if_ne (tgt := 23) dX12_whyNot_18 (by decide) ?_ ?_
    · refine sim_aload_n 0 rfl dX12_whyNot_23 ?_
      refine sim_callVIp v_RX12_250 sh_179 dX12_whyNot_24 (k_M_rowMany σ) rfl ⟨by decide, by decide⟩ (S := []) rfl (Nat.le_of_ble_eq_true rfl) (fun r2 => ?_)
      refine sim_if_ne (tgt := 32) dX12_whyNot_27 (by decide) ?_ ?_
      · refine sim_aload_n 0 rfl dX12_whyNot_32 ?_
        refine sim_iload_n 3 rfl dX12_whyNot_33 ?_
        refine sim_callVIp v_RX12_283 sh_179 dX12_whyNot_34 (k_M_layerAt a3 σ) rfl ⟨by decide, by decide⟩ (S := []) rfl (Nat.le_of_ble_eq_true rfl) (fun r3 => ?_)
        refine sim_iload_n 1 rfl dX12_whyNot_37 ?_
        refine sim_icmp_ne (tgt := 43) dX12_whyNot_38 (by decide) ?_ ?_
        · refine sim_aload_n 0 rfl dX12_whyNot_43 ?_
          refine sim_aload_n 0 rfl dX12_whyNot_44 ?_
          refine sim_iload_n 2 rfl dX12_whyNot_45 ?_
          refine sim_iconst dX12_whyNot_46 (by decide) ?_
          refine sim_callVIp v_RX12_243 sh_179 dX12_whyNot_47 (k_M_pip a2 0 σ) rfl ⟨by decide, by decide⟩ (S := [vR 179]) rfl (Nat.le_of_ble_eq_true rfl) (fun r4 => ?_)
          refine sim_aload_n 0 rfl dX12_whyNot_50 ?_
          refine sim_iload_n 3 rfl dX12_whyNot_51 ?_
          refine sim_callVIp v_RX12_280 sh_179 dX12_whyNot_52 (k_M_pipsAt a3 σ) rfl ⟨by decide, by decide⟩ (S := [vI r4, vR 179]) rfl (Nat.le_of_ble_eq_true rfl) (fun r5 => ?_)
          refine sim_callVIp v_RX12_271 sh_179 dX12_whyNot_55 (k_M_fit r4 r5 σ) rfl ⟨by decide, by decide⟩ (S := []) rfl (Nat.le_of_ble_eq_true rfl) (fun r6 => ?_)
          refine sim_jn0 (pc' := 79) ([]) ([]) (σ) ?_ (fun j7 hj7 => ?_)
          · refine sim_iconst dX12_whyNot_79 (by decide) ?_
            refine sim_goto (tgt := 84) dX12_whyNot_80 (by decide) ?_
            exact sim_iret rfl rfl dX12_whyNot_84
          refine sim_if_ne (tgt := 79) dX12_whyNot_58 (by decide) ?_ ?_
          · exact sim_sub [] rfl (hj7 )
          · refine sim_aload_n 0 rfl dX12_whyNot_61 ?_
            refine sim_aload_n 0 rfl dX12_whyNot_62 ?_
            refine sim_iload_n 2 rfl dX12_whyNot_63 ?_
            refine sim_iconst dX12_whyNot_64 (by decide) ?_
            refine sim_callVIp v_RX12_243 sh_179 dX12_whyNot_65 (k_M_pip a2 1 σ) rfl ⟨by decide, by decide⟩ (S := [vR 179]) rfl (Nat.le_of_ble_eq_true rfl) (fun r8 => ?_)
            refine sim_aload_n 0 rfl dX12_whyNot_68 ?_
            refine sim_iload_n 3 rfl dX12_whyNot_69 ?_
            refine sim_callVIp v_RX12_280 sh_179 dX12_whyNot_70 (k_M_pipsAt a3 σ) rfl ⟨by decide, by decide⟩ (S := [vI r8, vR 179]) rfl (Nat.le_of_ble_eq_true rfl) (fun r9 => ?_)
            refine sim_callVIp v_RX12_271 sh_179 dX12_whyNot_73 (k_M_fit r8 r9 σ) rfl ⟨by decide, by decide⟩ (S := []) rfl (Nat.le_of_ble_eq_true rfl) (fun r10 => ?_)
            refine sim_if_eq (tgt := 83) dX12_whyNot_76 (by decide) ?_ ?_
            · refine sim_iconst dX12_whyNot_83 (by decide) ?_
              exact sim_iret rfl rfl dX12_whyNot_84
            · exact sim_sub [] rfl (hj7 )
        · refine sim_iconst dX12_whyNot_41 (by decide) ?_
          exact sim_iret rfl rfl dX12_whyNot_42
      · refine sim_iconst dX12_whyNot_30 (by decide) ?_
        exact sim_iret rfl rfl dX12_whyNot_31
    · refine sim_iconst dX12_whyNot_21 (by decide) ?_
      exact sim_iret rfl rfl dX12_whyNot_22
