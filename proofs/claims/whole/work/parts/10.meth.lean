theorem dX12_layAll_0 : decode cX12_layAll 0 = .ok (.aload_n 0, 1) := by decide +kernel
theorem dX12_layAll_1 : decode cX12_layAll 1 = .ok (.getfield 182, 3) := by decide +kernel
theorem dX12_layAll_4 : decode cX12_layAll 4 = .ok (.ifCond .eq 4, 3) := by decide +kernel
theorem dX12_layAll_7 : decode cX12_layAll 7 = .ok (.return_, 1) := by decide +kernel
theorem dX12_layAll_8 : decode cX12_layAll 8 = .ok (.aload_n 0, 1) := by decide +kernel
theorem dX12_layAll_9 : decode cX12_layAll 9 = .ok (.iconst 1, 1) := by decide +kernel
theorem dX12_layAll_10 : decode cX12_layAll 10 = .ok (.putfield 182, 3) := by decide +kernel
theorem dX12_layAll_13 : decode cX12_layAll 13 = .ok (.aload_n 0, 1) := by decide +kernel
theorem dX12_layAll_14 : decode cX12_layAll 14 = .ok (.getfield 13, 3) := by decide +kernel
theorem dX12_layAll_17 : decode cX12_layAll 17 = .ok (.iconst 3, 1) := by decide +kernel
theorem dX12_layAll_18 : decode cX12_layAll 18 = .ok (.iconst 5, 1) := by decide +kernel
theorem dX12_layAll_19 : decode cX12_layAll 19 = .ok (.iastore, 1) := by decide +kernel
theorem dX12_layAll_20 : decode cX12_layAll 20 = .ok (.return_, 1) := by decide +kernel
def f_M_layAll    (σ : JSg) : Option (JSg) :=
  if (σ 179 23) = 0 then (lt_ (sp σ 179 23 1) fun s1 => lt_ (sp s1 181 3 5) fun s2 => some s2) else (some (σ))
set_option maxRecDepth 20000 in
set_option maxHeartbeats 4000000 in
theorem k_M_layAll      (σ : JSg) : Call yX12_layAll cX12_layAll 1 none 0 SH RHO [vR 179] σ dVm (f_M_layAll  σ) := by
  refine call_of_sim (by decide +kernel) (Nat.le_of_ble_eq_true rfl) ?_
  show Sim RX12 cX12_layAll 1 none 0 SH RHO 0 [(0, vR 179)] [] σ dVm (f_M_layAll  σ)
  unfold f_M_layAll
  refine sim_aload_n 0 rfl dX12_layAll_0 ?_
  refine sim_getZ g_RX12_182 sh_179 dX12_layAll_1 ?_
  refine sim_if_eq (tgt := 8) dX12_layAll_4 (by decide) ?_ ?_
  · refine sim_aload_n 0 rfl dX12_layAll_8 ?_
    refine sim_iconst dX12_layAll_9 (by decide) ?_
    refine sim_putZ (Or.inr rfl) g_RX12_182 sh_179 dX12_layAll_10 (fun s1 => ?_)
    refine sim_aload_n 0 rfl dX12_layAll_13 ?_
    refine sim_getR g_RX12_13 sh_179 rh_179_14 dX12_layAll_14 ?_
    refine sim_iconst dX12_layAll_17 (by decide) ?_
    refine sim_iconst dX12_layAll_18 (by decide) ?_
    refine sim_iastoreK (j := 3) sh_181 rfl (by decide) dX12_layAll_19 (fun s2 => ?_)
    exact sim_vret rfl rfl dX12_layAll_20
  · exact sim_vret rfl rfl dX12_layAll_7
theorem dX12_rowMany_0 : decode cX12_rowMany 0 = .ok (.aload_n 0, 1) := by decide +kernel
theorem dX12_rowMany_1 : decode cX12_rowMany 1 = .ok (.getfield 13, 3) := by decide +kernel
theorem dX12_rowMany_4 : decode cX12_rowMany 4 = .ok (.sipush 151, 3) := by decide +kernel
theorem dX12_rowMany_7 : decode cX12_rowMany 7 = .ok (.iaload, 1) := by decide +kernel
theorem dX12_rowMany_8 : decode cX12_rowMany 8 = .ok (.ireturn, 1) := by decide +kernel
def f_M_rowMany    (σ : JSg) : Option (Int) :=
  some (σ 181 151)
set_option maxRecDepth 20000 in
set_option maxHeartbeats 4000000 in
theorem k_M_rowMany      (σ : JSg) : Call yX12_rowMany cX12_rowMany 1 (some .int) 0 SH RHO [vR 179] σ (dIp σ) (f_M_rowMany  σ) := by
  refine call_of_sim (by decide +kernel) (Nat.le_of_ble_eq_true rfl) ?_
  show Sim RX12 cX12_rowMany 1 (some .int) 0 SH RHO 0 [(0, vR 179)] [] σ (dIp σ) (f_M_rowMany  σ)
  unfold f_M_rowMany
  refine sim_aload_n 0 rfl dX12_rowMany_0 ?_
  refine sim_getR g_RX12_13 sh_179 rh_179_14 dX12_rowMany_1 ?_
  refine sim_sipush dX12_rowMany_4 (by decide +kernel) ?_
  refine sim_ialoadK (j := 151) sh_181 rfl (by decide) dX12_rowMany_7 ?_
  exact sim_iret rfl rfl dX12_rowMany_8
theorem dX12_has_0 : decode cX12_has 0 = .ok (.iload_n 0, 1) := by decide +kernel
theorem dX12_has_1 : decode cX12_has 1 = .ok (.iload_n 1, 1) := by decide +kernel
theorem dX12_has_2 : decode cX12_has 2 = .ok (.ishr, 1) := by decide +kernel
theorem dX12_has_3 : decode cX12_has 3 = .ok (.iconst 1, 1) := by decide +kernel
theorem dX12_has_4 : decode cX12_has 4 = .ok (.iand, 1) := by decide +kernel
theorem dX12_has_5 : decode cX12_has 5 = .ok (.iconst 1, 1) := by decide +kernel
theorem dX12_has_6 : decode cX12_has 6 = .ok (.if_icmp .ne 7, 3) := by decide +kernel
theorem dX12_has_9 : decode cX12_has 9 = .ok (.iconst 1, 1) := by decide +kernel
theorem dX12_has_10 : decode cX12_has 10 = .ok (.goto 4, 3) := by decide +kernel
theorem dX12_has_13 : decode cX12_has 13 = .ok (.iconst 0, 1) := by decide +kernel
theorem dX12_has_14 : decode cX12_has 14 = .ok (.ireturn, 1) := by decide +kernel
def f_M_has   (a1 : Int) (a2 : Int) (σ : JSg) : Option (Int) :=
  if (an32 (sr32 a1 a2) 1) = 1 then (some 1) else (some 0)
set_option maxRecDepth 20000 in
set_option maxHeartbeats 4000000 in
theorem k_M_has (Sh : JSh) (ρ : JRo)    (a1 : Int) (a2 : Int) (σ : JSg) : Call yX12_has cX12_has 2 (some .boolean) 0 Sh ρ [vI a1, vI a2] σ (dIp σ) (f_M_has a1 a2 σ) := by
  refine call_of_sim (by decide +kernel) (Nat.le_of_ble_eq_true rfl) ?_
  show Sim RX12 cX12_has 2 (some .boolean) 0 Sh ρ 0 [(0, vI a1), (1, vI a2)] [] σ (dIp σ) (f_M_has a1 a2 σ)
  unfold f_M_has
  refine sim_iload_n 0 rfl dX12_has_0 ?_
  refine sim_iload_n 1 rfl dX12_has_1 ?_
  refine sim_ishr dX12_has_2 ?_
  refine sim_iconst dX12_has_3 (by decide) ?_
  refine sim_iand dX12_has_4 ?_
  refine sim_iconst dX12_has_5 (by decide) ?_
  refine sim_icmp_ne (tgt := 13) dX12_has_6 (by decide) ?_ ?_
  · refine sim_iconst dX12_has_13 (by decide) ?_
    exact sim_zret (Or.inl rfl) rfl rfl dX12_has_14
  · refine sim_iconst dX12_has_9 (by decide) ?_
    refine sim_goto (tgt := 14) dX12_has_10 (by decide) ?_
    exact sim_zret (Or.inr rfl) rfl rfl dX12_has_14
theorem dX12_stones_0 : decode cX12_stones 0 = .ok (.aload_n 0, 1) := by decide +kernel
theorem dX12_stones_1 : decode cX12_stones 1 = .ok (.getfield 13, 3) := by decide +kernel
theorem dX12_stones_4 : decode cX12_stones 4 = .ok (.iconst 1, 1) := by decide +kernel
theorem dX12_stones_5 : decode cX12_stones 5 = .ok (.iaload, 1) := by decide +kernel
theorem dX12_stones_6 : decode cX12_stones 6 = .ok (.ireturn, 1) := by decide +kernel
def f_M_stones    (σ : JSg) : Option (Int) :=
  some (σ 181 1)
set_option maxRecDepth 20000 in
set_option maxHeartbeats 4000000 in
theorem k_M_stones      (σ : JSg) : Call yX12_stones cX12_stones 1 (some .int) 0 SH RHO [vR 179] σ (dIp σ) (f_M_stones  σ) := by
  refine call_of_sim (by decide +kernel) (Nat.le_of_ble_eq_true rfl) ?_
  show Sim RX12 cX12_stones 1 (some .int) 0 SH RHO 0 [(0, vR 179)] [] σ (dIp σ) (f_M_stones  σ)
  unfold f_M_stones
  refine sim_aload_n 0 rfl dX12_stones_0 ?_
  refine sim_getR g_RX12_13 sh_179 rh_179_14 dX12_stones_1 ?_
  refine sim_iconst dX12_stones_4 (by decide) ?_
  refine sim_ialoadK (j := 1) sh_181 rfl (by decide) dX12_stones_5 ?_
  exact sim_iret rfl rfl dX12_stones_6
theorem dX12_widows_0 : decode cX12_widows 0 = .ok (.aload_n 0, 1) := by decide +kernel
theorem dX12_widows_1 : decode cX12_widows 1 = .ok (.getfield 13, 3) := by decide +kernel
theorem dX12_widows_4 : decode cX12_widows 4 = .ok (.iconst 0, 1) := by decide +kernel
theorem dX12_widows_5 : decode cX12_widows 5 = .ok (.iaload, 1) := by decide +kernel
theorem dX12_widows_6 : decode cX12_widows 6 = .ok (.ireturn, 1) := by decide +kernel
def f_M_widows    (σ : JSg) : Option (Int) :=
  some (σ 181 0)
set_option maxRecDepth 20000 in
set_option maxHeartbeats 4000000 in
theorem k_M_widows      (σ : JSg) : Call yX12_widows cX12_widows 1 (some .int) 0 SH RHO [vR 179] σ (dIp σ) (f_M_widows  σ) := by
  refine call_of_sim (by decide +kernel) (Nat.le_of_ble_eq_true rfl) ?_
  show Sim RX12 cX12_widows 1 (some .int) 0 SH RHO 0 [(0, vR 179)] [] σ (dIp σ) (f_M_widows  σ)
  unfold f_M_widows
  refine sim_aload_n 0 rfl dX12_widows_0 ?_
  refine sim_getR g_RX12_13 sh_179 rh_179_14 dX12_widows_1 ?_
  refine sim_iconst dX12_widows_4 (by decide) ?_
  refine sim_ialoadK (j := 0) sh_181 rfl (by decide) dX12_widows_5 ?_
  exact sim_iret rfl rfl dX12_widows_6
theorem dX12_count_0 : decode cX12_count 0 = .ok (.aload_n 0, 1) := by decide +kernel
theorem dX12_count_1 : decode cX12_count 1 = .ok (.iconst 0, 1) := by decide +kernel
theorem dX12_count_2 : decode cX12_count 2 = .ok (.putfield 87, 3) := by decide +kernel
theorem dX12_count_5 : decode cX12_count 5 = .ok (.aload_n 0, 1) := by decide +kernel
theorem dX12_count_6 : decode cX12_count 6 = .ok (.invokevirtual 175, 3) := by decide +kernel
theorem dX12_count_9 : decode cX12_count 9 = .ok (.iload_n 1, 1) := by decide +kernel
theorem dX12_count_10 : decode cX12_count 10 = .ok (.tableswitch 141 0 7 #[46, 51, 56, 63, 115, 122, 127, 136], 46) := by decide +kernel
theorem dX12_count_56 : decode cX12_count 56 = .ok (.aload_n 0, 1) := by decide +kernel
theorem dX12_count_57 : decode cX12_count 57 = .ok (.invokevirtual 237, 3) := by decide +kernel
theorem dX12_count_60 : decode cX12_count 60 = .ok (.ireturn, 1) := by decide +kernel
theorem dX12_count_61 : decode cX12_count 61 = .ok (.aload_n 0, 1) := by decide +kernel
theorem dX12_count_62 : decode cX12_count 62 = .ok (.invokevirtual 240, 3) := by decide +kernel
theorem dX12_count_65 : decode cX12_count 65 = .ok (.ireturn, 1) := by decide +kernel
theorem dX12_count_66 : decode cX12_count 66 = .ok (.aload_n 0, 1) := by decide +kernel
theorem dX12_count_67 : decode cX12_count 67 = .ok (.getfield 13, 3) := by decide +kernel
theorem dX12_count_70 : decode cX12_count 70 = .ok (.iconst 2, 1) := by decide +kernel
theorem dX12_count_71 : decode cX12_count 71 = .ok (.iaload, 1) := by decide +kernel
theorem dX12_count_72 : decode cX12_count 72 = .ok (.ireturn, 1) := by decide +kernel
theorem dX12_count_73 : decode cX12_count 73 = .ok (.iconst 0, 1) := by decide +kernel
theorem dX12_count_74 : decode cX12_count 74 = .ok (.istore_n 2, 1) := by decide +kernel
theorem dX12_count_75 : decode cX12_count 75 = .ok (.iconst 0, 1) := by decide +kernel
theorem dX12_count_76 : decode cX12_count 76 = .ok (.istore_n 3, 1) := by decide +kernel
theorem dX12_count_77 : decode cX12_count 77 = .ok (.iload_n 3, 1) := by decide +kernel
theorem dX12_count_78 : decode cX12_count 78 = .ok (.bipush 7, 2) := by decide +kernel
theorem dX12_count_80 : decode cX12_count 80 = .ok (.if_icmp .ge 43, 3) := by decide +kernel
theorem dX12_count_83 : decode cX12_count 83 = .ok (.iconst 0, 1) := by decide +kernel
theorem dX12_count_84 : decode cX12_count 84 = .ok (.istore 4, 2) := by decide +kernel
theorem dX12_count_86 : decode cX12_count 86 = .ok (.iload 4, 2) := by decide +kernel
theorem dX12_count_88 : decode cX12_count 88 = .ok (.iload_n 3, 1) := by decide +kernel
theorem dX12_count_89 : decode cX12_count 89 = .ok (.if_icmp .gt 28, 3) := by decide +kernel
theorem dX12_count_92 : decode cX12_count 92 = .ok (.aload_n 0, 1) := by decide +kernel
theorem dX12_count_93 : decode cX12_count 93 = .ok (.getfield 13, 3) := by decide +kernel
theorem dX12_count_96 : decode cX12_count 96 = .ok (.iconst 4, 1) := by decide +kernel
theorem dX12_count_97 : decode cX12_count 97 = .ok (.iload_n 3, 1) := by decide +kernel
theorem dX12_count_98 : decode cX12_count 98 = .ok (.iadd, 1) := by decide +kernel
theorem dX12_count_99 : decode cX12_count 99 = .ok (.iaload, 1) := by decide +kernel
theorem dX12_count_100 : decode cX12_count 100 = .ok (.iload 4, 2) := by decide +kernel
theorem dX12_count_102 : decode cX12_count 102 = .ok (.invokestatic 201, 3) := by decide +kernel
theorem dX12_count_105 : decode cX12_count 105 = .ok (.ifCond .eq 6, 3) := by decide +kernel
theorem dX12_count_108 : decode cX12_count 108 = .ok (.iinc 2 1, 3) := by decide +kernel
theorem dX12_count_111 : decode cX12_count 111 = .ok (.iinc 4 1, 3) := by decide +kernel
theorem dX12_count_114 : decode cX12_count 114 = .ok (.goto (-28), 3) := by decide +kernel
theorem dX12_count_117 : decode cX12_count 117 = .ok (.iinc 3 1, 3) := by decide +kernel
theorem dX12_count_120 : decode cX12_count 120 = .ok (.goto (-43), 3) := by decide +kernel
theorem dX12_count_123 : decode cX12_count 123 = .ok (.iload_n 2, 1) := by decide +kernel
theorem dX12_count_124 : decode cX12_count 124 = .ok (.ireturn, 1) := by decide +kernel
theorem dX12_count_125 : decode cX12_count 125 = .ok (.aload_n 0, 1) := by decide +kernel
theorem dX12_count_126 : decode cX12_count 126 = .ok (.getfield 13, 3) := by decide +kernel
theorem dX12_count_129 : decode cX12_count 129 = .ok (.iconst 3, 1) := by decide +kernel
theorem dX12_count_130 : decode cX12_count 130 = .ok (.iaload, 1) := by decide +kernel
theorem dX12_count_131 : decode cX12_count 131 = .ok (.ireturn, 1) := by decide +kernel
theorem dX12_count_132 : decode cX12_count 132 = .ok (.aload_n 0, 1) := by decide +kernel
theorem dX12_count_133 : decode cX12_count 133 = .ok (.invokevirtual 250, 3) := by decide +kernel
theorem dX12_count_136 : decode cX12_count 136 = .ok (.ireturn, 1) := by decide +kernel
theorem dX12_count_137 : decode cX12_count 137 = .ok (.aload_n 0, 1) := by decide +kernel
theorem dX12_count_138 : decode cX12_count 138 = .ok (.getfield 13, 3) := by decide +kernel
theorem dX12_count_141 : decode cX12_count 141 = .ok (.sipush 192, 3) := by decide +kernel
theorem dX12_count_144 : decode cX12_count 144 = .ok (.iaload, 1) := by decide +kernel
theorem dX12_count_145 : decode cX12_count 145 = .ok (.ireturn, 1) := by decide +kernel
theorem dX12_count_146 : decode cX12_count 146 = .ok (.aload_n 0, 1) := by decide +kernel
theorem dX12_count_147 : decode cX12_count 147 = .ok (.getfield 90, 3) := by decide +kernel
theorem dX12_count_150 : decode cX12_count 150 = .ok (.ireturn, 1) := by decide +kernel
theorem dX12_count_151 : decode cX12_count 151 = .ok (.iconst (-1), 1) := by decide +kernel
theorem dX12_count_152 : decode cX12_count 152 = .ok (.ireturn, 1) := by decide +kernel
def f_M_count (n : Nat)  (a1 : Int) (σ : JSg) : Option (Int × JSg) :=
  lt_ (sp σ 179 0 0) fun s1 => bd1 (f_M_layAll s1) fun s2 => sw_ a1 0 [bd1 (f_M_widows s2) fun r3 => some (r3, s2), bd1 (f_M_stones s2) fun r4 => some (r4, s2), some (s2 181 2, s2), lt_ 0 fun v5 => lt_ 0 fun v6 => wh2 n (fun rc7 (x8 : Int) (x9 : Int) => if x9 < 7 then (lt_ 0 fun v10 => wh2 n (fun rc11 (x12 : Int) (x13 : Int) => if x9 < x13 then (lt_ (w32 (x9 + 1)) fun v14 => rc7 x12 v14) else (chk (0 ≤ (w32 (4 + x9)) ∧ (w32 (4 + x9)) < 448) <| bd1 (f_M_has (s2 181 (w32 (4 + x9)).toNat) x13 s2) fun r15 => jn1 (fun (y17 : Int) => lt_ (w32 (x13 + 1)) fun v18 => rc11 y17 v18) fun j16 => if r15 = 0 then (j16 x12) else (lt_ (w32 (x12 + 1)) fun v19 => j16 v19))) x8 v10) else (some (x8, s2))) v5 v6, some (s2 181 3, s2), bd1 (f_M_rowMany s2) fun r20 => some (r20, s2), some (s2 181 192, s2), some (s2 179 2, s2)] (some ((-1), s2))
set_option maxRecDepth 20000 in
set_option maxHeartbeats 4000000 in
theorem k_M_count  (n : Nat)   (a1 : Int) (σ : JSg) : Call yX12_count cX12_count 5 (some .int) 1 SH RHO [vR 179, vI a1] σ dIm (f_M_count n a1 σ) := by
  refine call_of_sim (by decide +kernel) (Nat.le_of_ble_eq_true rfl) ?_
  show Sim RX12 cX12_count 5 (some .int) 1 SH RHO 0 [(0, vR 179), (1, vI a1)] [] σ dIm (f_M_count n a1 σ)
  unfold f_M_count
  refine sim_aload_n 0 rfl dX12_count_0 ?_
  refine sim_iconst dX12_count_1 (by decide) ?_
  refine sim_putI g_RX12_87 sh_179 dX12_count_2 (fun s1 => ?_)
  refine sim_aload_n 0 rfl dX12_count_5 ?_
  refine sim_callVVm v_RX12_175 sh_179 dX12_count_6 (k_M_layAll s1) rfl ⟨by decide, by decide⟩ (S := []) rfl (Nat.le_of_ble_eq_true rfl) (fun s2 => ?_)
  refine sim_iload_n 1 rfl dX12_count_9 ?_
  refine sim_tsw2 (td := 151) [56, 61, 66, 73, 125, 132, 137, 146] dX12_count_10 (by decide) (by decide) (tsw_of (by decide +kernel)) ⟨?_, ?_, ?_, ?_, ?_, ?_, ?_, ?_, trivial⟩ ?_
  · refine sim_aload_n 0 rfl dX12_count_56 ?_
    refine sim_callVIp v_RX12_237 sh_179 dX12_count_57 (k_M_widows s2) rfl ⟨by decide, by decide⟩ (S := []) rfl (Nat.le_of_ble_eq_true rfl) (fun r3 => ?_)
    exact sim_iret rfl rfl dX12_count_60
  · refine sim_aload_n 0 rfl dX12_count_61 ?_
    refine sim_callVIp v_RX12_240 sh_179 dX12_count_62 (k_M_stones s2) rfl ⟨by decide, by decide⟩ (S := []) rfl (Nat.le_of_ble_eq_true rfl) (fun r4 => ?_)
    exact sim_iret rfl rfl dX12_count_65
  · refine sim_aload_n 0 rfl dX12_count_66 ?_
    refine sim_getR g_RX12_13 sh_179 rh_179_14 dX12_count_67 ?_
    refine sim_iconst dX12_count_70 (by decide) ?_
    refine sim_ialoadK (j := 2) sh_181 rfl (by decide) dX12_count_71 ?_
    exact sim_iret rfl rfl dX12_count_72
  · refine sim_iconst dX12_count_73 (by decide) ?_
    refine sim_istore_n (fun v5 => [(2, vI v5), (0, vR 179), (1, vI a1)]) (fun _ => rfl) (by decide) dX12_count_74 (fun v5 => ?_)
    refine sim_iconst dX12_count_75 (by decide) ?_
    refine sim_istore_n (fun v6 => [(3, vI v6), (2, vI v5), (0, vR 179), (1, vI a1)]) (fun _ => rfl) (by decide) dX12_count_76 (fun v6 => ?_)
    refine sim_sub [2, 1, 0] (L' := [(0, vR 179), (2, vI v5), (3, vI v6)]) rfl ?_
    refine sim_wh2 (fun (x8 : Int) (x9 : Int) => [(0, vR 179), (2, vI x8), (3, vI x9)]) (fun (x8 : Int) (x9 : Int) => s2) ?_ n v5 v6
    intro rc7 hrc7 x8 x9
    refine sim_iload_n 2 rfl dX12_count_77 ?_
    refine sim_bipush dX12_count_78 (by decide +kernel) ?_
    refine sim_icmp_ge (tgt := 123) dX12_count_80 (by decide) ?_ ?_
    · refine sim_iload_n 1 rfl dX12_count_123 ?_
      exact sim_iret rfl rfl dX12_count_124
    · refine sim_iconst dX12_count_83 (by decide) ?_
      refine sim_istore (fun v10 => [(4, vI v10), (0, vR 179), (2, vI x8), (3, vI x9)]) (fun _ => rfl) (by decide) dX12_count_84 (fun v10 => ?_)
      refine sim_sub [1, 2, 3, 0] (L' := [(0, vR 179), (2, vI x8), (3, vI x9), (4, vI v10)]) rfl ?_
      refine sim_wh2 (fun (x12 : Int) (x13 : Int) => [(0, vR 179), (2, vI x12), (3, vI x9), (4, vI x13)]) (fun (x12 : Int) (x13 : Int) => s2) ?_ n x8 v10
      intro rc11 hrc11 x12 x13
      refine sim_iload 3 rfl dX12_count_86 ?_
      refine sim_iload_n 2 rfl dX12_count_88 ?_
      refine sim_icmp_gt (tgt := 117) dX12_count_89 (by decide) ?_ ?_
      · refine sim_iinc 2 rfl (fun v14 => [(3, vI v14), (0, vR 179), (2, vI x12), (4, vI x13)]) (fun _ => rfl) (by decide) dX12_count_117 (fun v14 => ?_)
        refine sim_goto (tgt := 77) dX12_count_120 (by decide) ?_
        exact sim_sub [1, 2, 0] rfl (hrc7 x12 v14)
      · refine sim_aload_n 0 rfl dX12_count_92 ?_
        refine sim_getR g_RX12_13 sh_179 rh_179_14 dX12_count_93 ?_
        refine sim_iconst dX12_count_96 (by decide) ?_
        refine sim_iload_n 2 rfl dX12_count_97 ?_
        refine sim_iadd dX12_count_98 ?_
        refine sim_iaload sh_181 rfl dX12_count_99 ?_
        refine sim_iload 3 rfl dX12_count_100 ?_
        refine sim_callSIp s_RX12_201 dX12_count_102 (k_M_has SH RHO (s2 181 (w32 (4 + x9)).toNat) x13 s2) rfl ⟨by decide, by decide⟩ (S := []) rfl (Nat.le_of_ble_eq_true rfl) (fun r15 => ?_)
        refine sim_jn1 (pc' := 111) (fun (y17 : Int) => [(0, vR 179), (2, vI y17), (3, vI x9), (4, vI x13)]) (fun (y17 : Int) => []) (fun (y17 : Int) => s2) ?_ (fun j16 hj16 => ?_)
        · intro y17
          refine sim_iinc 3 rfl (fun v18 => [(4, vI v18), (0, vR 179), (2, vI y17), (3, vI x9)]) (fun _ => rfl) (by decide) dX12_count_111 (fun v18 => ?_)
          refine sim_goto (tgt := 86) dX12_count_114 (by decide) ?_
          exact sim_sub [1, 2, 3, 0] rfl (hrc11 y17 v18)
        refine sim_if_eq (tgt := 111) dX12_count_105 (by decide) ?_ ?_
        · exact sim_sub [0, 1, 2, 3] rfl (hj16 x12)
        · refine sim_iinc 1 rfl (fun v19 => [(2, vI v19), (0, vR 179), (3, vI x9), (4, vI x13)]) (fun _ => rfl) (by decide) dX12_count_108 (fun v19 => ?_)
          exact sim_sub [1, 0, 2, 3] rfl (hj16 v19)
  · refine sim_aload_n 0 rfl dX12_count_125 ?_
    refine sim_getR g_RX12_13 sh_179 rh_179_14 dX12_count_126 ?_
    refine sim_iconst dX12_count_129 (by decide) ?_
    refine sim_ialoadK (j := 3) sh_181 rfl (by decide) dX12_count_130 ?_
    exact sim_iret rfl rfl dX12_count_131
  · refine sim_aload_n 0 rfl dX12_count_132 ?_
    refine sim_callVIp v_RX12_250 sh_179 dX12_count_133 (k_M_rowMany s2) rfl ⟨by decide, by decide⟩ (S := []) rfl (Nat.le_of_ble_eq_true rfl) (fun r20 => ?_)
    exact sim_iret rfl rfl dX12_count_136
  · refine sim_aload_n 0 rfl dX12_count_137 ?_
    refine sim_getR g_RX12_13 sh_179 rh_179_14 dX12_count_138 ?_
    refine sim_sipush dX12_count_141 (by decide +kernel) ?_
    refine sim_ialoadK (j := 192) sh_181 rfl (by decide) dX12_count_144 ?_
    exact sim_iret rfl rfl dX12_count_145
  · refine sim_aload_n 0 rfl dX12_count_146 ?_
    refine sim_getI g_RX12_90 sh_179 dX12_count_147 ?_
    exact sim_iret rfl rfl dX12_count_150
  · refine sim_iconst dX12_count_151 (by decide) ?_
    exact sim_iret rfl rfl dX12_count_152
theorem dX12_isIn_0 : decode cX12_isIn 0 = .ok (.iload_n 0, 1) := by decide +kernel
theorem dX12_isIn_1 : decode cX12_isIn 1 = .ok (.iload_n 1, 1) := by decide +kernel
theorem dX12_isIn_2 : decode cX12_isIn 2 = .ok (.if_icmp .lt 12, 3) := by decide +kernel
theorem dX12_isIn_5 : decode cX12_isIn 5 = .ok (.iload_n 0, 1) := by decide +kernel
theorem dX12_isIn_6 : decode cX12_isIn 6 = .ok (.iload_n 2, 1) := by decide +kernel
theorem dX12_isIn_7 : decode cX12_isIn 7 = .ok (.if_icmp .gt 7, 3) := by decide +kernel
theorem dX12_isIn_10 : decode cX12_isIn 10 = .ok (.iconst 1, 1) := by decide +kernel
theorem dX12_isIn_11 : decode cX12_isIn 11 = .ok (.goto 4, 3) := by decide +kernel
theorem dX12_isIn_14 : decode cX12_isIn 14 = .ok (.iconst 0, 1) := by decide +kernel
theorem dX12_isIn_15 : decode cX12_isIn 15 = .ok (.ireturn, 1) := by decide +kernel
def f_M_isIn   (a1 : Int) (a2 : Int) (a3 : Int) (σ : JSg) : Option (Int) :=
  if a1 < a2 then (some 0) else (if a3 < a1 then (some 0) else (some 1))
set_option maxRecDepth 20000 in
set_option maxHeartbeats 4000000 in
theorem k_M_isIn (Sh : JSh) (ρ : JRo)    (a1 : Int) (a2 : Int) (a3 : Int) (σ : JSg) : Call yX12_isIn cX12_isIn 3 (some .boolean) 0 Sh ρ [vI a1, vI a2, vI a3] σ (dIp σ) (f_M_isIn a1 a2 a3 σ) := by
  refine call_of_sim (by decide +kernel) (Nat.le_of_ble_eq_true rfl) ?_
  show Sim RX12 cX12_isIn 3 (some .boolean) 0 Sh ρ 0 [(0, vI a1), (1, vI a2), (2, vI a3)] [] σ (dIp σ) (f_M_isIn a1 a2 a3 σ)
  unfold f_M_isIn
  refine sim_iload_n 0 rfl dX12_isIn_0 ?_
  refine sim_iload_n 1 rfl dX12_isIn_1 ?_
  refine sim_icmp_lt (tgt := 14) dX12_isIn_2 (by decide) ?_ ?_
  · refine sim_iconst dX12_isIn_14 (by decide) ?_
    exact sim_zret (Or.inl rfl) rfl rfl dX12_isIn_15
  · refine sim_iload_n 0 rfl dX12_isIn_5 ?_
    refine sim_iload_n 2 rfl dX12_isIn_6 ?_
    refine sim_icmp_gt (tgt := 14) dX12_isIn_7 (by decide) ?_ ?_
    · refine sim_iconst dX12_isIn_14 (by decide) ?_
      exact sim_zret (Or.inl rfl) rfl rfl dX12_isIn_15
    · refine sim_iconst dX12_isIn_10 (by decide) ?_
      refine sim_goto (tgt := 15) dX12_isIn_11 (by decide) ?_
      exact sim_zret (Or.inr rfl) rfl rfl dX12_isIn_15
theorem dX12_restore_0 : decode cX12_restore 0 = .ok (.aload_n 0, 1) := by decide +kernel
theorem dX12_restore_1 : decode cX12_restore 1 = .ok (.iconst 0, 1) := by decide +kernel
theorem dX12_restore_2 : decode cX12_restore 2 = .ok (.putfield 87, 3) := by decide +kernel
theorem dX12_restore_5 : decode cX12_restore 5 = .ok (.iload_n 1, 1) := by decide +kernel
theorem dX12_restore_6 : decode cX12_restore 6 = .ok (.iconst 0, 1) := by decide +kernel
theorem dX12_restore_7 : decode cX12_restore 7 = .ok (.iconst 1, 1) := by decide +kernel
theorem dX12_restore_8 : decode cX12_restore 8 = .ok (.invokestatic 158, 3) := by decide +kernel
theorem dX12_restore_11 : decode cX12_restore 11 = .ok (.ifCond .eq 12, 3) := by decide +kernel
theorem dX12_restore_14 : decode cX12_restore 14 = .ok (.aload_n 0, 1) := by decide +kernel
theorem dX12_restore_15 : decode cX12_restore 15 = .ok (.getfield 35, 3) := by decide +kernel
theorem dX12_restore_18 : decode cX12_restore 18 = .ok (.iload_n 1, 1) := by decide +kernel
theorem dX12_restore_19 : decode cX12_restore 19 = .ok (.baload, 1) := by decide +kernel
theorem dX12_restore_20 : decode cX12_restore 20 = .ok (.ifCond .ne 5, 3) := by decide +kernel
theorem dX12_restore_23 : decode cX12_restore 23 = .ok (.iconst 0, 1) := by decide +kernel
theorem dX12_restore_24 : decode cX12_restore 24 = .ok (.ireturn, 1) := by decide +kernel
theorem dX12_restore_25 : decode cX12_restore 25 = .ok (.iconst 0, 1) := by decide +kernel
theorem dX12_restore_26 : decode cX12_restore 26 = .ok (.istore_n 2, 1) := by decide +kernel
theorem dX12_restore_27 : decode cX12_restore 27 = .ok (.iload_n 2, 1) := by decide +kernel
theorem dX12_restore_28 : decode cX12_restore 28 = .ok (.sipush 448, 3) := by decide +kernel
theorem dX12_restore_31 : decode cX12_restore 31 = .ok (.if_icmp .ge 27, 3) := by decide +kernel
theorem dX12_restore_34 : decode cX12_restore 34 = .ok (.aload_n 0, 1) := by decide +kernel
theorem dX12_restore_35 : decode cX12_restore 35 = .ok (.getfield 13, 3) := by decide +kernel
theorem dX12_restore_38 : decode cX12_restore 38 = .ok (.iload_n 2, 1) := by decide +kernel
theorem dX12_restore_39 : decode cX12_restore 39 = .ok (.aload_n 0, 1) := by decide +kernel
theorem dX12_restore_40 : decode cX12_restore 40 = .ok (.getfield 19, 3) := by decide +kernel
theorem dX12_restore_43 : decode cX12_restore 43 = .ok (.sipush 448, 3) := by decide +kernel
theorem dX12_restore_46 : decode cX12_restore 46 = .ok (.iload_n 1, 1) := by decide +kernel
theorem dX12_restore_47 : decode cX12_restore 47 = .ok (.imul, 1) := by decide +kernel
theorem dX12_restore_48 : decode cX12_restore 48 = .ok (.iload_n 2, 1) := by decide +kernel
theorem dX12_restore_49 : decode cX12_restore 49 = .ok (.iadd, 1) := by decide +kernel
theorem dX12_restore_50 : decode cX12_restore 50 = .ok (.iaload, 1) := by decide +kernel
theorem dX12_restore_51 : decode cX12_restore 51 = .ok (.iastore, 1) := by decide +kernel
theorem dX12_restore_52 : decode cX12_restore 52 = .ok (.iinc 2 1, 3) := by decide +kernel
theorem dX12_restore_55 : decode cX12_restore 55 = .ok (.goto (-28), 3) := by decide +kernel
theorem dX12_restore_58 : decode cX12_restore 58 = .ok (.iconst 0, 1) := by decide +kernel
theorem dX12_restore_59 : decode cX12_restore 59 = .ok (.istore_n 2, 1) := by decide +kernel
theorem dX12_restore_60 : decode cX12_restore 60 = .ok (.iload_n 2, 1) := by decide +kernel
theorem dX12_restore_61 : decode cX12_restore 61 = .ok (.bipush 6, 2) := by decide +kernel
theorem dX12_restore_63 : decode cX12_restore 63 = .ok (.if_icmp .ge 26, 3) := by decide +kernel
theorem dX12_restore_66 : decode cX12_restore 66 = .ok (.aload_n 0, 1) := by decide +kernel
theorem dX12_restore_67 : decode cX12_restore 67 = .ok (.getfield 25, 3) := by decide +kernel
theorem dX12_restore_70 : decode cX12_restore 70 = .ok (.iload_n 2, 1) := by decide +kernel
theorem dX12_restore_71 : decode cX12_restore 71 = .ok (.aload_n 0, 1) := by decide +kernel
theorem dX12_restore_72 : decode cX12_restore 72 = .ok (.getfield 32, 3) := by decide +kernel
theorem dX12_restore_75 : decode cX12_restore 75 = .ok (.bipush 6, 2) := by decide +kernel
theorem dX12_restore_77 : decode cX12_restore 77 = .ok (.iload_n 1, 1) := by decide +kernel
theorem dX12_restore_78 : decode cX12_restore 78 = .ok (.imul, 1) := by decide +kernel
theorem dX12_restore_79 : decode cX12_restore 79 = .ok (.iload_n 2, 1) := by decide +kernel
theorem dX12_restore_80 : decode cX12_restore 80 = .ok (.iadd, 1) := by decide +kernel
theorem dX12_restore_81 : decode cX12_restore 81 = .ok (.laload, 1) := by decide +kernel
theorem dX12_restore_82 : decode cX12_restore 82 = .ok (.lastore, 1) := by decide +kernel
theorem dX12_restore_83 : decode cX12_restore 83 = .ok (.iinc 2 1, 3) := by decide +kernel
theorem dX12_restore_86 : decode cX12_restore 86 = .ok (.goto (-26), 3) := by decide +kernel
theorem dX12_restore_89 : decode cX12_restore 89 = .ok (.aload_n 0, 1) := by decide +kernel
theorem dX12_restore_90 : decode cX12_restore 90 = .ok (.iconst 0, 1) := by decide +kernel
theorem dX12_restore_91 : decode cX12_restore 91 = .ok (.putfield 234, 3) := by decide +kernel
theorem dX12_restore_94 : decode cX12_restore 94 = .ok (.iconst 1, 1) := by decide +kernel
theorem dX12_restore_95 : decode cX12_restore 95 = .ok (.ireturn, 1) := by decide +kernel
def f_M_restore (n : Nat)  (a1 : Int) (σ : JSg) : Option (Int × JSg) :=
  lt_ (sp σ 179 0 0) fun s1 => bd1 (f_M_isIn a1 0 1 s1) fun r2 => if r2 = 0 then (some (0, s1)) else (chk (0 ≤ a1 ∧ a1 < 2) <| if (s1 188 a1.toNat) = 0 then (some (0, s1)) else (lt_ 0 fun v3 => wh2 n (fun rc4 (x5 : Int) (s6 : JSg) => if x5 < 448 then (chk (0 ≤ (w32 ((w32 (448 * a1)) + x5)) ∧ (w32 ((w32 (448 * a1)) + x5)) < 896) <| chk (0 ≤ x5 ∧ x5 < 448) <| lt_ (sp s6 181 x5.toNat (s6 183 (w32 ((w32 (448 * a1)) + x5)).toNat)) fun s14 => lt_ (w32 (x5 + 1)) fun v15 => rc4 v15 s14) else (lt_ 0 fun v7 => wh2 n (fun rc8 (x9 : Int) (s10 : JSg) => if x9 < 6 then (chk (0 ≤ (w32 ((w32 (6 * a1)) + x9)) ∧ (w32 ((w32 (6 * a1)) + x9)) < 12) <| chk (0 ≤ x9 ∧ x9 < 6) <| lt_ (sp s10 185 x9.toNat (s10 187 (w32 ((w32 (6 * a1)) + x9)).toNat)) fun s12 => lt_ (w32 (x9 + 1)) fun v13 => rc8 v13 s12) else (lt_ (sp s10 179 22 0) fun s11 => some (1, s11))) v7 s6)) v3 s1))
set_option maxRecDepth 20000 in
set_option maxHeartbeats 4000000 in
theorem k_M_restore  (n : Nat)   (a1 : Int) (σ : JSg) : Call yX12_restore cX12_restore 3 (some .boolean) 1 SH RHO [vR 179, vI a1] σ dIm (f_M_restore n a1 σ) := by
  refine call_of_sim (by decide +kernel) (Nat.le_of_ble_eq_true rfl) ?_
  show Sim RX12 cX12_restore 3 (some .boolean) 1 SH RHO 0 [(0, vR 179), (1, vI a1)] [] σ dIm (f_M_restore n a1 σ)
  unfold f_M_restore
  refine sim_aload_n 0 rfl dX12_restore_0 ?_
  refine sim_iconst dX12_restore_1 (by decide) ?_
  refine sim_putI g_RX12_87 sh_179 dX12_restore_2 (fun s1 => ?_)
  refine sim_iload_n 1 rfl dX12_restore_5 ?_
  refine sim_iconst dX12_restore_6 (by decide) ?_
  refine sim_iconst dX12_restore_7 (by decide) ?_
  refine sim_callSIp s_RX12_158 dX12_restore_8 (k_M_isIn SH RHO a1 0 1 s1) rfl ⟨by decide, by decide⟩ (S := []) rfl (Nat.le_of_ble_eq_true rfl) (fun r2 => ?_)
  refine sim_if_eq (tgt := 23) dX12_restore_11 (by decide) ?_ ?_
  · refine sim_iconst dX12_restore_23 (by decide) ?_
    exact sim_zret (Or.inl rfl) rfl rfl dX12_restore_24
  · refine sim_aload_n 0 rfl dX12_restore_14 ?_
    refine sim_getR g_RX12_35 sh_179 rh_179_21 dX12_restore_15 ?_
    refine sim_iload_n 1 rfl dX12_restore_18 ?_
    refine sim_zaload sh_188 rfl dX12_restore_19 ?_
    refine sim_if_ne (tgt := 25) dX12_restore_20 (by decide) ?_ ?_
    · refine sim_iconst dX12_restore_25 (by decide) ?_
      refine sim_istore_n (fun v3 => [(2, vI v3), (0, vR 179), (1, vI a1)]) (fun _ => rfl) (by decide) dX12_restore_26 (fun v3 => ?_)
      refine sim_sub [1, 2, 0] (L' := [(0, vR 179), (1, vI a1), (2, vI v3)]) rfl ?_
      refine sim_wh2 (fun (x5 : Int) (s6 : JSg) => [(0, vR 179), (1, vI a1), (2, vI x5)]) (fun (x5 : Int) (s6 : JSg) => s6) ?_ n v3 s1
      intro rc4 hrc4 x5 s6
      refine sim_iload_n 2 rfl dX12_restore_27 ?_
      refine sim_sipush dX12_restore_28 (by decide +kernel) ?_
      refine sim_icmp_ge (tgt := 58) dX12_restore_31 (by decide) ?_ ?_
      · refine sim_iconst dX12_restore_58 (by decide) ?_
        refine sim_istore_n (fun v7 => [(2, vI v7), (0, vR 179), (1, vI a1)]) (fun _ => rfl) (by decide) dX12_restore_59 (fun v7 => ?_)
        refine sim_sub [1, 2, 0] (L' := [(0, vR 179), (1, vI a1), (2, vI v7)]) rfl ?_
        refine sim_wh2 (fun (x9 : Int) (s10 : JSg) => [(0, vR 179), (1, vI a1), (2, vI x9)]) (fun (x9 : Int) (s10 : JSg) => s10) ?_ n v7 s6
        intro rc8 hrc8 x9 s10
        refine sim_iload_n 2 rfl dX12_restore_60 ?_
        refine sim_bipush dX12_restore_61 (by decide +kernel) ?_
        refine sim_icmp_ge (tgt := 89) dX12_restore_63 (by decide) ?_ ?_
        · refine sim_aload_n 0 rfl dX12_restore_89 ?_
          refine sim_iconst dX12_restore_90 (by decide) ?_
          refine sim_putI g_RX12_234 sh_179 dX12_restore_91 (fun s11 => ?_)
          refine sim_iconst dX12_restore_94 (by decide) ?_
          exact sim_zret (Or.inr rfl) rfl rfl dX12_restore_95
        · refine sim_aload_n 0 rfl dX12_restore_66 ?_
          refine sim_getR g_RX12_25 sh_179 rh_179_18 dX12_restore_67 ?_
          refine sim_iload_n 2 rfl dX12_restore_70 ?_
          refine sim_aload_n 0 rfl dX12_restore_71 ?_
          refine sim_getR g_RX12_32 sh_179 rh_179_20 dX12_restore_72 ?_
          refine sim_bipush dX12_restore_75 (by decide +kernel) ?_
          refine sim_iload_n 1 rfl dX12_restore_77 ?_
          refine sim_imul dX12_restore_78 ?_
          refine sim_iload_n 2 rfl dX12_restore_79 ?_
          refine sim_iadd dX12_restore_80 ?_
          refine sim_laload sh_187 rfl dX12_restore_81 ?_
          refine sim_lastore sh_185 rfl dX12_restore_82 (fun s12 => ?_)
          refine sim_iinc 2 rfl (fun v13 => [(2, vI v13), (0, vR 179), (1, vI a1)]) (fun _ => rfl) (by decide) dX12_restore_83 (fun v13 => ?_)
          refine sim_goto (tgt := 60) dX12_restore_86 (by decide) ?_
          exact sim_sub [1, 2, 0] rfl (hrc8 v13 s12)
      · refine sim_aload_n 0 rfl dX12_restore_34 ?_
        refine sim_getR g_RX12_13 sh_179 rh_179_14 dX12_restore_35 ?_
        refine sim_iload_n 2 rfl dX12_restore_38 ?_
        refine sim_aload_n 0 rfl dX12_restore_39 ?_
        refine sim_getR g_RX12_19 sh_179 rh_179_16 dX12_restore_40 ?_
        refine sim_sipush dX12_restore_43 (by decide +kernel) ?_
        refine sim_iload_n 1 rfl dX12_restore_46 ?_
        refine sim_imul dX12_restore_47 ?_
        refine sim_iload_n 2 rfl dX12_restore_48 ?_
        refine sim_iadd dX12_restore_49 ?_
        refine sim_iaload sh_183 rfl dX12_restore_50 ?_
        refine sim_iastore sh_181 rfl dX12_restore_51 (fun s14 => ?_)
        refine sim_iinc 2 rfl (fun v15 => [(2, vI v15), (0, vR 179), (1, vI a1)]) (fun _ => rfl) (by decide) dX12_restore_52 (fun v15 => ?_)
        refine sim_goto (tgt := 27) dX12_restore_55 (by decide) ?_
        exact sim_sub [1, 2, 0] rfl (hrc4 v15 s14)
    · refine sim_iconst dX12_restore_23 (by decide) ?_
      exact sim_zret (Or.inl rfl) rfl rfl dX12_restore_24
theorem dX12_image_0 : decode cX12_image 0 = .ok (.aload_n 0, 1) := by decide +kernel
theorem dX12_image_1 : decode cX12_image 1 = .ok (.iconst 0, 1) := by decide +kernel
theorem dX12_image_2 : decode cX12_image 2 = .ok (.putfield 87, 3) := by decide +kernel
theorem dX12_image_5 : decode cX12_image 5 = .ok (.aload_n 0, 1) := by decide +kernel
theorem dX12_image_6 : decode cX12_image 6 = .ok (.invokevirtual 175, 3) := by decide +kernel
theorem dX12_image_9 : decode cX12_image 9 = .ok (.iload_n 1, 1) := by decide +kernel
theorem dX12_image_10 : decode cX12_image 10 = .ok (.iconst 0, 1) := by decide +kernel
theorem dX12_image_11 : decode cX12_image 11 = .ok (.iconst 1, 1) := by decide +kernel
theorem dX12_image_12 : decode cX12_image 12 = .ok (.invokestatic 158, 3) := by decide +kernel
theorem dX12_image_15 : decode cX12_image 15 = .ok (.ifCond .ne 5, 3) := by decide +kernel
theorem dX12_image_18 : decode cX12_image 18 = .ok (.iconst 0, 1) := by decide +kernel
theorem dX12_image_19 : decode cX12_image 19 = .ok (.ireturn, 1) := by decide +kernel
theorem dX12_image_20 : decode cX12_image 20 = .ok (.iconst 0, 1) := by decide +kernel
theorem dX12_image_21 : decode cX12_image 21 = .ok (.istore_n 2, 1) := by decide +kernel
theorem dX12_image_22 : decode cX12_image 22 = .ok (.iload_n 2, 1) := by decide +kernel
theorem dX12_image_23 : decode cX12_image 23 = .ok (.sipush 448, 3) := by decide +kernel
theorem dX12_image_26 : decode cX12_image 26 = .ok (.if_icmp .ge 27, 3) := by decide +kernel
theorem dX12_image_29 : decode cX12_image 29 = .ok (.aload_n 0, 1) := by decide +kernel
theorem dX12_image_30 : decode cX12_image 30 = .ok (.getfield 19, 3) := by decide +kernel
theorem dX12_image_33 : decode cX12_image 33 = .ok (.sipush 448, 3) := by decide +kernel
theorem dX12_image_36 : decode cX12_image 36 = .ok (.iload_n 1, 1) := by decide +kernel
theorem dX12_image_37 : decode cX12_image 37 = .ok (.imul, 1) := by decide +kernel
theorem dX12_image_38 : decode cX12_image 38 = .ok (.iload_n 2, 1) := by decide +kernel
theorem dX12_image_39 : decode cX12_image 39 = .ok (.iadd, 1) := by decide +kernel
theorem dX12_image_40 : decode cX12_image 40 = .ok (.aload_n 0, 1) := by decide +kernel
theorem dX12_image_41 : decode cX12_image 41 = .ok (.getfield 13, 3) := by decide +kernel
theorem dX12_image_44 : decode cX12_image 44 = .ok (.iload_n 2, 1) := by decide +kernel
theorem dX12_image_45 : decode cX12_image 45 = .ok (.iaload, 1) := by decide +kernel
theorem dX12_image_46 : decode cX12_image 46 = .ok (.iastore, 1) := by decide +kernel
theorem dX12_image_47 : decode cX12_image 47 = .ok (.iinc 2 1, 3) := by decide +kernel
theorem dX12_image_50 : decode cX12_image 50 = .ok (.goto (-28), 3) := by decide +kernel
theorem dX12_image_53 : decode cX12_image 53 = .ok (.iconst 0, 1) := by decide +kernel
theorem dX12_image_54 : decode cX12_image 54 = .ok (.istore_n 2, 1) := by decide +kernel
theorem dX12_image_55 : decode cX12_image 55 = .ok (.iload_n 2, 1) := by decide +kernel
theorem dX12_image_56 : decode cX12_image 56 = .ok (.bipush 6, 2) := by decide +kernel
theorem dX12_image_58 : decode cX12_image 58 = .ok (.if_icmp .ge 26, 3) := by decide +kernel
theorem dX12_image_61 : decode cX12_image 61 = .ok (.aload_n 0, 1) := by decide +kernel
theorem dX12_image_62 : decode cX12_image 62 = .ok (.getfield 32, 3) := by decide +kernel
theorem dX12_image_65 : decode cX12_image 65 = .ok (.bipush 6, 2) := by decide +kernel
theorem dX12_image_67 : decode cX12_image 67 = .ok (.iload_n 1, 1) := by decide +kernel
theorem dX12_image_68 : decode cX12_image 68 = .ok (.imul, 1) := by decide +kernel
theorem dX12_image_69 : decode cX12_image 69 = .ok (.iload_n 2, 1) := by decide +kernel
theorem dX12_image_70 : decode cX12_image 70 = .ok (.iadd, 1) := by decide +kernel
theorem dX12_image_71 : decode cX12_image 71 = .ok (.aload_n 0, 1) := by decide +kernel
theorem dX12_image_72 : decode cX12_image 72 = .ok (.getfield 25, 3) := by decide +kernel
theorem dX12_image_75 : decode cX12_image 75 = .ok (.iload_n 2, 1) := by decide +kernel
theorem dX12_image_76 : decode cX12_image 76 = .ok (.laload, 1) := by decide +kernel
theorem dX12_image_77 : decode cX12_image 77 = .ok (.lastore, 1) := by decide +kernel
theorem dX12_image_78 : decode cX12_image 78 = .ok (.iinc 2 1, 3) := by decide +kernel
theorem dX12_image_81 : decode cX12_image 81 = .ok (.goto (-26), 3) := by decide +kernel
theorem dX12_image_84 : decode cX12_image 84 = .ok (.aload_n 0, 1) := by decide +kernel
theorem dX12_image_85 : decode cX12_image 85 = .ok (.getfield 35, 3) := by decide +kernel
theorem dX12_image_88 : decode cX12_image 88 = .ok (.iload_n 1, 1) := by decide +kernel
theorem dX12_image_89 : decode cX12_image 89 = .ok (.iconst 1, 1) := by decide +kernel
theorem dX12_image_90 : decode cX12_image 90 = .ok (.bastore, 1) := by decide +kernel
theorem dX12_image_91 : decode cX12_image 91 = .ok (.iconst 1, 1) := by decide +kernel
theorem dX12_image_92 : decode cX12_image 92 = .ok (.ireturn, 1) := by decide +kernel
def f_M_image (n : Nat)  (a1 : Int) (σ : JSg) : Option (Int × JSg) :=
  lt_ (sp σ 179 0 0) fun s1 => bd1 (f_M_layAll s1) fun s2 => bd1 (f_M_isIn a1 0 1 s2) fun r3 => if r3 = 0 then (some (0, s2)) else (lt_ 0 fun v4 => wh2 n (fun rc5 (x6 : Int) (s7 : JSg) => if x6 < 448 then (chk (0 ≤ x6 ∧ x6 < 448) <| chk (0 ≤ (w32 ((w32 (448 * a1)) + x6)) ∧ (w32 ((w32 (448 * a1)) + x6)) < 896) <| lt_ (sp s7 183 (w32 ((w32 (448 * a1)) + x6)).toNat (s7 181 x6.toNat)) fun s15 => lt_ (w32 (x6 + 1)) fun v16 => rc5 v16 s15) else (lt_ 0 fun v8 => wh2 n (fun rc9 (x10 : Int) (s11 : JSg) => if x10 < 6 then (chk (0 ≤ x10 ∧ x10 < 6) <| chk (0 ≤ (w32 ((w32 (6 * a1)) + x10)) ∧ (w32 ((w32 (6 * a1)) + x10)) < 12) <| lt_ (sp s11 187 (w32 ((w32 (6 * a1)) + x10)).toNat (s11 185 x10.toNat)) fun s13 => lt_ (w32 (x10 + 1)) fun v14 => rc9 v14 s13) else (chk (0 ≤ a1 ∧ a1 < 2) <| lt_ (sp s11 188 a1.toNat 1) fun s12 => some (1, s12))) v8 s7)) v4 s2)
set_option maxRecDepth 20000 in
set_option maxHeartbeats 4000000 in
theorem k_M_image  (n : Nat)   (a1 : Int) (σ : JSg) : Call yX12_image cX12_image 3 (some .boolean) 1 SH RHO [vR 179, vI a1] σ dIm (f_M_image n a1 σ) := by
  refine call_of_sim (by decide +kernel) (Nat.le_of_ble_eq_true rfl) ?_
  show Sim RX12 cX12_image 3 (some .boolean) 1 SH RHO 0 [(0, vR 179), (1, vI a1)] [] σ dIm (f_M_image n a1 σ)
  unfold f_M_image
  refine sim_aload_n 0 rfl dX12_image_0 ?_
  refine sim_iconst dX12_image_1 (by decide) ?_
  refine sim_putI g_RX12_87 sh_179 dX12_image_2 (fun s1 => ?_)
  refine sim_aload_n 0 rfl dX12_image_5 ?_
  refine sim_callVVm v_RX12_175 sh_179 dX12_image_6 (k_M_layAll s1) rfl ⟨by decide, by decide⟩ (S := []) rfl (Nat.le_of_ble_eq_true rfl) (fun s2 => ?_)
  refine sim_iload_n 1 rfl dX12_image_9 ?_
  refine sim_iconst dX12_image_10 (by decide) ?_
  refine sim_iconst dX12_image_11 (by decide) ?_
  refine sim_callSIp s_RX12_158 dX12_image_12 (k_M_isIn SH RHO a1 0 1 s2) rfl ⟨by decide, by decide⟩ (S := []) rfl (Nat.le_of_ble_eq_true rfl) (fun r3 => ?_)
  refine sim_if_ne (tgt := 20) dX12_image_15 (by decide) ?_ ?_
  · refine sim_iconst dX12_image_20 (by decide) ?_
    refine sim_istore_n (fun v4 => [(2, vI v4), (0, vR 179), (1, vI a1)]) (fun _ => rfl) (by decide) dX12_image_21 (fun v4 => ?_)
    refine sim_sub [1, 2, 0] (L' := [(0, vR 179), (1, vI a1), (2, vI v4)]) rfl ?_
    refine sim_wh2 (fun (x6 : Int) (s7 : JSg) => [(0, vR 179), (1, vI a1), (2, vI x6)]) (fun (x6 : Int) (s7 : JSg) => s7) ?_ n v4 s2
    intro rc5 hrc5 x6 s7
    refine sim_iload_n 2 rfl dX12_image_22 ?_
    refine sim_sipush dX12_image_23 (by decide +kernel) ?_
    refine sim_icmp_ge (tgt := 53) dX12_image_26 (by decide) ?_ ?_
    · refine sim_iconst dX12_image_53 (by decide) ?_
      refine sim_istore_n (fun v8 => [(2, vI v8), (0, vR 179), (1, vI a1)]) (fun _ => rfl) (by decide) dX12_image_54 (fun v8 => ?_)
      refine sim_sub [1, 2, 0] (L' := [(0, vR 179), (1, vI a1), (2, vI v8)]) rfl ?_
      refine sim_wh2 (fun (x10 : Int) (s11 : JSg) => [(0, vR 179), (1, vI a1), (2, vI x10)]) (fun (x10 : Int) (s11 : JSg) => s11) ?_ n v8 s7
      intro rc9 hrc9 x10 s11
      refine sim_iload_n 2 rfl dX12_image_55 ?_
      refine sim_bipush dX12_image_56 (by decide +kernel) ?_
      refine sim_icmp_ge (tgt := 84) dX12_image_58 (by decide) ?_ ?_
      · refine sim_aload_n 0 rfl dX12_image_84 ?_
        refine sim_getR g_RX12_35 sh_179 rh_179_21 dX12_image_85 ?_
        refine sim_iload_n 1 rfl dX12_image_88 ?_
        refine sim_iconst dX12_image_89 (by decide) ?_
        refine sim_zastore (Or.inr rfl) sh_188 rfl dX12_image_90 (fun s12 => ?_)
        refine sim_iconst dX12_image_91 (by decide) ?_
        exact sim_zret (Or.inr rfl) rfl rfl dX12_image_92
      · refine sim_aload_n 0 rfl dX12_image_61 ?_
        refine sim_getR g_RX12_32 sh_179 rh_179_20 dX12_image_62 ?_
        refine sim_bipush dX12_image_65 (by decide +kernel) ?_
        refine sim_iload_n 1 rfl dX12_image_67 ?_
        refine sim_imul dX12_image_68 ?_
        refine sim_iload_n 2 rfl dX12_image_69 ?_
        refine sim_iadd dX12_image_70 ?_
        refine sim_aload_n 0 rfl dX12_image_71 ?_
        refine sim_getR g_RX12_25 sh_179 rh_179_18 dX12_image_72 ?_
        refine sim_iload_n 2 rfl dX12_image_75 ?_
        refine sim_laload sh_185 rfl dX12_image_76 ?_
        refine sim_lastore sh_187 rfl dX12_image_77 (fun s13 => ?_)
        refine sim_iinc 2 rfl (fun v14 => [(2, vI v14), (0, vR 179), (1, vI a1)]) (fun _ => rfl) (by decide) dX12_image_78 (fun v14 => ?_)
        refine sim_goto (tgt := 55) dX12_image_81 (by decide) ?_
        exact sim_sub [1, 2, 0] rfl (hrc9 v14 s13)
    · refine sim_aload_n 0 rfl dX12_image_29 ?_
      refine sim_getR g_RX12_19 sh_179 rh_179_16 dX12_image_30 ?_
      refine sim_sipush dX12_image_33 (by decide +kernel) ?_
      refine sim_iload_n 1 rfl dX12_image_36 ?_
      refine sim_imul dX12_image_37 ?_
      refine sim_iload_n 2 rfl dX12_image_38 ?_
      refine sim_iadd dX12_image_39 ?_
      refine sim_aload_n 0 rfl dX12_image_40 ?_
      refine sim_getR g_RX12_13 sh_179 rh_179_14 dX12_image_41 ?_
      refine sim_iload_n 2 rfl dX12_image_44 ?_
      refine sim_iaload sh_181 rfl dX12_image_45 ?_
      refine sim_iastore sh_183 rfl dX12_image_46 (fun s15 => ?_)
      refine sim_iinc 2 rfl (fun v16 => [(2, vI v16), (0, vR 179), (1, vI a1)]) (fun _ => rfl) (by decide) dX12_image_47 (fun v16 => ?_)
      refine sim_goto (tgt := 22) dX12_image_50 (by decide) ?_
      exact sim_sub [1, 2, 0] rfl (hrc5 v16 s15)
  · refine sim_iconst dX12_image_18 (by decide) ?_
    exact sim_zret (Or.inl rfl) rfl rfl dX12_image_19
theorem dX12_pip_0 : decode cX12_pip 0 = .ok (.aload_n 0, 1) := by decide +kernel
theorem dX12_pip_1 : decode cX12_pip 1 = .ok (.getfield 13, 3) := by decide +kernel
theorem dX12_pip_4 : decode cX12_pip 4 = .ok (.bipush 11, 2) := by decide +kernel
theorem dX12_pip_6 : decode cX12_pip 6 = .ok (.iconst 2, 1) := by decide +kernel
theorem dX12_pip_7 : decode cX12_pip 7 = .ok (.iload_n 1, 1) := by decide +kernel
theorem dX12_pip_8 : decode cX12_pip 8 = .ok (.imul, 1) := by decide +kernel
theorem dX12_pip_9 : decode cX12_pip 9 = .ok (.iadd, 1) := by decide +kernel
theorem dX12_pip_10 : decode cX12_pip 10 = .ok (.iload_n 2, 1) := by decide +kernel
theorem dX12_pip_11 : decode cX12_pip 11 = .ok (.iadd, 1) := by decide +kernel
theorem dX12_pip_12 : decode cX12_pip 12 = .ok (.iaload, 1) := by decide +kernel
theorem dX12_pip_13 : decode cX12_pip 13 = .ok (.ireturn, 1) := by decide +kernel
def f_M_pip   (a1 : Int) (a2 : Int) (σ : JSg) : Option (Int) :=
  chk (0 ≤ (w32 ((w32 (11 + (w32 (2 * a1)))) + a2)) ∧ (w32 ((w32 (11 + (w32 (2 * a1)))) + a2)) < 448) <| some (σ 181 (w32 ((w32 (11 + (w32 (2 * a1)))) + a2)).toNat)
set_option maxRecDepth 20000 in
set_option maxHeartbeats 4000000 in
theorem k_M_pip     (a1 : Int) (a2 : Int) (σ : JSg) : Call yX12_pip cX12_pip 3 (some .int) 0 SH RHO [vR 179, vI a1, vI a2] σ (dIp σ) (f_M_pip a1 a2 σ) := by
  refine call_of_sim (by decide +kernel) (Nat.le_of_ble_eq_true rfl) ?_
  show Sim RX12 cX12_pip 3 (some .int) 0 SH RHO 0 [(0, vR 179), (1, vI a1), (2, vI a2)] [] σ (dIp σ) (f_M_pip a1 a2 σ)
  unfold f_M_pip
  refine sim_aload_n 0 rfl dX12_pip_0 ?_
  refine sim_getR g_RX12_13 sh_179 rh_179_14 dX12_pip_1 ?_
  refine sim_bipush dX12_pip_4 (by decide +kernel) ?_
  refine sim_iconst dX12_pip_6 (by decide) ?_
  refine sim_iload_n 1 rfl dX12_pip_7 ?_
  refine sim_imul dX12_pip_8 ?_
  refine sim_iadd dX12_pip_9 ?_
  refine sim_iload_n 2 rfl dX12_pip_10 ?_
  refine sim_iadd dX12_pip_11 ?_
  refine sim_iaload sh_181 rfl dX12_pip_12 ?_
  exact sim_iret rfl rfl dX12_pip_13
theorem dX12_most_0 : decode cX12_most 0 = .ok (.iload_n 0, 1) := by decide +kernel
theorem dX12_most_1 : decode cX12_most 1 = .ok (.iload_n 1, 1) := by decide +kernel
theorem dX12_most_2 : decode cX12_most 2 = .ok (.if_icmp .le 7, 3) := by decide +kernel
theorem dX12_most_5 : decode cX12_most 5 = .ok (.iload_n 0, 1) := by decide +kernel
theorem dX12_most_6 : decode cX12_most 6 = .ok (.goto 4, 3) := by decide +kernel
theorem dX12_most_9 : decode cX12_most 9 = .ok (.iload_n 1, 1) := by decide +kernel
theorem dX12_most_10 : decode cX12_most 10 = .ok (.ireturn, 1) := by decide +kernel
def f_M_most   (a1 : Int) (a2 : Int) (σ : JSg) : Option (Int) :=
  if a2 < a1 then (some a1) else (some a2)
set_option maxRecDepth 20000 in
set_option maxHeartbeats 4000000 in
theorem k_M_most (Sh : JSh) (ρ : JRo)    (a1 : Int) (a2 : Int) (σ : JSg) : Call yX12_most cX12_most 2 (some .int) 0 Sh ρ [vI a1, vI a2] σ (dIp σ) (f_M_most a1 a2 σ) := by
  refine call_of_sim (by decide +kernel) (Nat.le_of_ble_eq_true rfl) ?_
  show Sim RX12 cX12_most 2 (some .int) 0 Sh ρ 0 [(0, vI a1), (1, vI a2)] [] σ (dIp σ) (f_M_most a1 a2 σ)
  unfold f_M_most
  refine sim_iload_n 0 rfl dX12_most_0 ?_
  refine sim_iload_n 1 rfl dX12_most_1 ?_
  refine sim_icmp_le (tgt := 9) dX12_most_2 (by decide) ?_ ?_
  · refine sim_iload_n 1 rfl dX12_most_9 ?_
    exact sim_iret rfl rfl dX12_most_10
  · refine sim_iload_n 0 rfl dX12_most_5 ?_
    refine sim_goto (tgt := 10) dX12_most_6 (by decide) ?_
    exact sim_iret rfl rfl dX12_most_10
theorem dX12_rowStone_0 : decode cX12_rowStone 0 = .ok (.aload_n 0, 1) := by decide +kernel
theorem dX12_rowStone_1 : decode cX12_rowStone 1 = .ok (.getfield 13, 3) := by decide +kernel
theorem dX12_rowStone_4 : decode cX12_rowStone 4 = .ok (.sipush 152, 3) := by decide +kernel
theorem dX12_rowStone_7 : decode cX12_rowStone 7 = .ok (.iload_n 1, 1) := by decide +kernel
theorem dX12_rowStone_8 : decode cX12_rowStone 8 = .ok (.iadd, 1) := by decide +kernel
theorem dX12_rowStone_9 : decode cX12_rowStone 9 = .ok (.iaload, 1) := by decide +kernel
theorem dX12_rowStone_10 : decode cX12_rowStone 10 = .ok (.iconst 2, 1) := by decide +kernel
theorem dX12_rowStone_11 : decode cX12_rowStone 11 = .ok (.idiv, 1) := by decide +kernel
theorem dX12_rowStone_12 : decode cX12_rowStone 12 = .ok (.ireturn, 1) := by decide +kernel
def f_M_rowStone   (a1 : Int) (σ : JSg) : Option (Int) :=
  chk (0 ≤ (w32 (152 + a1)) ∧ (w32 (152 + a1)) < 448) <| some (dv32 (σ 181 (w32 (152 + a1)).toNat) 2)
set_option maxRecDepth 20000 in
set_option maxHeartbeats 4000000 in
theorem k_M_rowStone     (a1 : Int) (σ : JSg) : Call yX12_rowStone cX12_rowStone 2 (some .int) 0 SH RHO [vR 179, vI a1] σ (dIp σ) (f_M_rowStone a1 σ) := by
  refine call_of_sim (by decide +kernel) (Nat.le_of_ble_eq_true rfl) ?_
  show Sim RX12 cX12_rowStone 2 (some .int) 0 SH RHO 0 [(0, vR 179), (1, vI a1)] [] σ (dIp σ) (f_M_rowStone a1 σ)
  unfold f_M_rowStone
  refine sim_aload_n 0 rfl dX12_rowStone_0 ?_
  refine sim_getR g_RX12_13 sh_179 rh_179_14 dX12_rowStone_1 ?_
  refine sim_sipush dX12_rowStone_4 (by decide +kernel) ?_
  refine sim_iload_n 1 rfl dX12_rowStone_7 ?_
  refine sim_iadd dX12_rowStone_8 ?_
  refine sim_iaload sh_181 rfl dX12_rowStone_9 ?_
  refine sim_iconst dX12_rowStone_10 (by decide) ?_
  refine sim_idivK (by decide) dX12_rowStone_11 ?_
  exact sim_iret rfl rfl dX12_rowStone_12
theorem dX12_placeOf_0 : decode cX12_placeOf 0 = .ok (.iconst 0, 1) := by decide +kernel
theorem dX12_placeOf_1 : decode cX12_placeOf 1 = .ok (.istore_n 2, 1) := by decide +kernel
theorem dX12_placeOf_2 : decode cX12_placeOf 2 = .ok (.iload_n 2, 1) := by decide +kernel
theorem dX12_placeOf_3 : decode cX12_placeOf 3 = .ok (.aload_n 0, 1) := by decide +kernel
theorem dX12_placeOf_4 : decode cX12_placeOf 4 = .ok (.invokevirtual 250, 3) := by decide +kernel
theorem dX12_placeOf_7 : decode cX12_placeOf 7 = .ok (.if_icmp .ge 22, 3) := by decide +kernel
theorem dX12_placeOf_10 : decode cX12_placeOf 10 = .ok (.aload_n 0, 1) := by decide +kernel
theorem dX12_placeOf_11 : decode cX12_placeOf 11 = .ok (.iload_n 2, 1) := by decide +kernel
theorem dX12_placeOf_12 : decode cX12_placeOf 12 = .ok (.invokevirtual 247, 3) := by decide +kernel
theorem dX12_placeOf_15 : decode cX12_placeOf 15 = .ok (.iload_n 1, 1) := by decide +kernel
theorem dX12_placeOf_16 : decode cX12_placeOf 16 = .ok (.if_icmp .ne 7, 3) := by decide +kernel
theorem dX12_placeOf_19 : decode cX12_placeOf 19 = .ok (.iload_n 2, 1) := by decide +kernel
theorem dX12_placeOf_20 : decode cX12_placeOf 20 = .ok (.iconst 1, 1) := by decide +kernel
theorem dX12_placeOf_21 : decode cX12_placeOf 21 = .ok (.iadd, 1) := by decide +kernel
theorem dX12_placeOf_22 : decode cX12_placeOf 22 = .ok (.ireturn, 1) := by decide +kernel
theorem dX12_placeOf_23 : decode cX12_placeOf 23 = .ok (.iinc 2 1, 3) := by decide +kernel
theorem dX12_placeOf_26 : decode cX12_placeOf 26 = .ok (.goto (-24), 3) := by decide +kernel
theorem dX12_placeOf_29 : decode cX12_placeOf 29 = .ok (.iconst 0, 1) := by decide +kernel
theorem dX12_placeOf_30 : decode cX12_placeOf 30 = .ok (.ireturn, 1) := by decide +kernel
def f_M_placeOf (n : Nat)  (a1 : Int) (σ : JSg) : Option (Int) :=
  lt_ 0 fun v1 => wh1 n (fun rc2 (x3 : Int) => bd1 (f_M_rowMany σ) fun r4 => if x3 < r4 then (bd1 (f_M_rowStone x3 σ) fun r5 => if r5 = a1 then (some (w32 (x3 + 1))) else (lt_ (w32 (x3 + 1)) fun v6 => rc2 v6)) else (some 0)) v1
set_option maxRecDepth 20000 in
set_option maxHeartbeats 4000000 in
theorem k_M_placeOf  (n : Nat)   (a1 : Int) (σ : JSg) : Call yX12_placeOf cX12_placeOf 3 (some .int) 1 SH RHO [vR 179, vI a1] σ (dIp σ) (f_M_placeOf n a1 σ) := by
  refine call_of_sim (by decide +kernel) (Nat.le_of_ble_eq_true rfl) ?_
  show Sim RX12 cX12_placeOf 3 (some .int) 1 SH RHO 0 [(0, vR 179), (1, vI a1)] [] σ (dIp σ) (f_M_placeOf n a1 σ)
  unfold f_M_placeOf
  refine sim_iconst dX12_placeOf_0 (by decide) ?_
  refine sim_istore_n (fun v1 => [(2, vI v1), (0, vR 179), (1, vI a1)]) (fun _ => rfl) (by decide) dX12_placeOf_1 (fun v1 => ?_)
  refine sim_sub [1, 2, 0] (L' := [(0, vR 179), (1, vI a1), (2, vI v1)]) rfl ?_
  refine sim_wh1 (fun (x3 : Int) => [(0, vR 179), (1, vI a1), (2, vI x3)]) (fun (x3 : Int) => σ) ?_ n v1
  intro rc2 hrc2 x3
  refine sim_iload_n 2 rfl dX12_placeOf_2 ?_
  refine sim_aload_n 0 rfl dX12_placeOf_3 ?_
  refine sim_callVIp v_RX12_250 sh_179 dX12_placeOf_4 (k_M_rowMany σ) rfl ⟨by decide, by decide⟩ (S := [vI x3]) rfl (Nat.le_of_ble_eq_true rfl) (fun r4 => ?_)
  refine sim_icmp_ge (tgt := 29) dX12_placeOf_7 (by decide) ?_ ?_
  · refine sim_iconst dX12_placeOf_29 (by decide) ?_
    exact sim_iret rfl rfl dX12_placeOf_30
  · refine sim_aload_n 0 rfl dX12_placeOf_10 ?_
    refine sim_iload_n 2 rfl dX12_placeOf_11 ?_
    refine sim_callVIp v_RX12_247 sh_179 dX12_placeOf_12 (k_M_rowStone x3 σ) rfl ⟨by decide, by decide⟩ (S := []) rfl (Nat.le_of_ble_eq_true rfl) (fun r5 => ?_)
    refine sim_iload_n 1 rfl dX12_placeOf_15 ?_
    refine sim_icmp_ne (tgt := 23) dX12_placeOf_16 (by decide) ?_ ?_
    · refine sim_iinc 2 rfl (fun v6 => [(2, vI v6), (0, vR 179), (1, vI a1)]) (fun _ => rfl) (by decide) dX12_placeOf_23 (fun v6 => ?_)
      refine sim_goto (tgt := 2) dX12_placeOf_26 (by decide) ?_
      exact sim_sub [1, 2, 0] rfl (hrc2 v6)
    · refine sim_iload_n 2 rfl dX12_placeOf_19 ?_
      refine sim_iconst dX12_placeOf_20 (by decide) ?_
      refine sim_iadd dX12_placeOf_21 ?_
      exact sim_iret rfl rfl dX12_placeOf_22
theorem dX12_valueOf_0 : decode cX12_valueOf 0 = .ok (.aload_n 0, 1) := by decide +kernel
theorem dX12_valueOf_1 : decode cX12_valueOf 1 = .ok (.iload_n 2, 1) := by decide +kernel
theorem dX12_valueOf_2 : decode cX12_valueOf 2 = .ok (.iconst 0, 1) := by decide +kernel
theorem dX12_valueOf_3 : decode cX12_valueOf 3 = .ok (.invokevirtual 243, 3) := by decide +kernel
theorem dX12_valueOf_6 : decode cX12_valueOf 6 = .ok (.istore_n 3, 1) := by decide +kernel
theorem dX12_valueOf_7 : decode cX12_valueOf 7 = .ok (.aload_n 0, 1) := by decide +kernel
theorem dX12_valueOf_8 : decode cX12_valueOf 8 = .ok (.iload_n 2, 1) := by decide +kernel
theorem dX12_valueOf_9 : decode cX12_valueOf 9 = .ok (.iconst 1, 1) := by decide +kernel
theorem dX12_valueOf_10 : decode cX12_valueOf 10 = .ok (.invokevirtual 243, 3) := by decide +kernel
theorem dX12_valueOf_13 : decode cX12_valueOf 13 = .ok (.istore 4, 2) := by decide +kernel
theorem dX12_valueOf_15 : decode cX12_valueOf 15 = .ok (.iload_n 1, 1) := by decide +kernel
theorem dX12_valueOf_16 : decode cX12_valueOf 16 = .ok (.bipush 16, 2) := by decide +kernel
theorem dX12_valueOf_18 : decode cX12_valueOf 18 = .ok (.if_icmp .ne 10, 3) := by decide +kernel
theorem dX12_valueOf_21 : decode cX12_valueOf 21 = .ok (.iload_n 3, 1) := by decide +kernel
theorem dX12_valueOf_22 : decode cX12_valueOf 22 = .ok (.iload 4, 2) := by decide +kernel
theorem dX12_valueOf_24 : decode cX12_valueOf 24 = .ok (.iadd, 1) := by decide +kernel
theorem dX12_valueOf_25 : decode cX12_valueOf 25 = .ok (.goto 43, 3) := by decide +kernel
theorem dX12_valueOf_28 : decode cX12_valueOf 28 = .ok (.iload_n 1, 1) := by decide +kernel
theorem dX12_valueOf_29 : decode cX12_valueOf 29 = .ok (.bipush 17, 2) := by decide +kernel
theorem dX12_valueOf_31 : decode cX12_valueOf 31 = .ok (.if_icmp .ne 12, 3) := by decide +kernel
theorem dX12_valueOf_34 : decode cX12_valueOf 34 = .ok (.iload_n 3, 1) := by decide +kernel
theorem dX12_valueOf_35 : decode cX12_valueOf 35 = .ok (.iload 4, 2) := by decide +kernel
theorem dX12_valueOf_37 : decode cX12_valueOf 37 = .ok (.invokestatic 309, 3) := by decide +kernel
theorem dX12_valueOf_40 : decode cX12_valueOf 40 = .ok (.goto 28, 3) := by decide +kernel
theorem dX12_valueOf_43 : decode cX12_valueOf 43 = .ok (.iload_n 1, 1) := by decide +kernel
theorem dX12_valueOf_44 : decode cX12_valueOf 44 = .ok (.bipush 18, 2) := by decide +kernel
theorem dX12_valueOf_46 : decode cX12_valueOf 46 = .ok (.if_icmp .ne 17, 3) := by decide +kernel
theorem dX12_valueOf_49 : decode cX12_valueOf 49 = .ok (.iload_n 3, 1) := by decide +kernel
theorem dX12_valueOf_50 : decode cX12_valueOf 50 = .ok (.iload 4, 2) := by decide +kernel
theorem dX12_valueOf_52 : decode cX12_valueOf 52 = .ok (.iadd, 1) := by decide +kernel
theorem dX12_valueOf_53 : decode cX12_valueOf 53 = .ok (.iload_n 3, 1) := by decide +kernel
theorem dX12_valueOf_54 : decode cX12_valueOf 54 = .ok (.iload 4, 2) := by decide +kernel
theorem dX12_valueOf_56 : decode cX12_valueOf 56 = .ok (.invokestatic 309, 3) := by decide +kernel
theorem dX12_valueOf_59 : decode cX12_valueOf 59 = .ok (.isub, 1) := by decide +kernel
theorem dX12_valueOf_60 : decode cX12_valueOf 60 = .ok (.goto 8, 3) := by decide +kernel
theorem dX12_valueOf_63 : decode cX12_valueOf 63 = .ok (.aload_n 0, 1) := by decide +kernel
theorem dX12_valueOf_64 : decode cX12_valueOf 64 = .ok (.iload_n 2, 1) := by decide +kernel
theorem dX12_valueOf_65 : decode cX12_valueOf 65 = .ok (.invokevirtual 259, 3) := by decide +kernel
theorem dX12_valueOf_68 : decode cX12_valueOf 68 = .ok (.ireturn, 1) := by decide +kernel
def f_M_valueOf (n : Nat)  (a1 : Int) (a2 : Int) (σ : JSg) : Option (Int) :=
  bd1 (f_M_pip a2 0 σ) fun r1 => lt_ r1 fun v2 => bd1 (f_M_pip a2 1 σ) fun r3 => lt_ r3 fun v4 => if a1 = 16 then (some (w32 (v2 + v4))) else (if a1 = 17 then (bd1 (f_M_most v2 v4 σ) fun r7 => some r7) else (if a1 = 18 then (bd1 (f_M_most v2 v4 σ) fun r6 => some (w32 ((w32 (v2 + v4)) - r6))) else (bd1 (f_M_placeOf n a2 σ) fun r5 => some r5)))
set_option maxRecDepth 20000 in
set_option maxHeartbeats 4000000 in
theorem k_M_valueOf  (n : Nat)   (a1 : Int) (a2 : Int) (σ : JSg) : Call yX12_valueOf cX12_valueOf 5 (some .int) 2 SH RHO [vR 179, vI a1, vI a2] σ (dIp σ) (f_M_valueOf n a1 a2 σ) := by
  refine call_of_sim (by decide +kernel) (Nat.le_of_ble_eq_true rfl) ?_
  show Sim RX12 cX12_valueOf 5 (some .int) 2 SH RHO 0 [(0, vR 179), (1, vI a1), (2, vI a2)] [] σ (dIp σ) (f_M_valueOf n a1 a2 σ)
  unfold f_M_valueOf
  refine sim_aload_n 0 rfl dX12_valueOf_0 ?_
  refine sim_iload_n 2 rfl dX12_valueOf_1 ?_
  refine sim_iconst dX12_valueOf_2 (by decide) ?_
  refine sim_callVIp v_RX12_243 sh_179 dX12_valueOf_3 (k_M_pip a2 0 σ) rfl ⟨by decide, by decide⟩ (S := []) rfl (Nat.le_of_ble_eq_true rfl) (fun r1 => ?_)
  refine sim_istore_n (fun v2 => [(3, vI v2), (0, vR 179), (1, vI a1), (2, vI a2)]) (fun _ => rfl) (by decide) dX12_valueOf_6 (fun v2 => ?_)
  refine sim_aload_n 1 rfl dX12_valueOf_7 ?_
  refine sim_iload_n 3 rfl dX12_valueOf_8 ?_
  refine sim_iconst dX12_valueOf_9 (by decide) ?_
  refine sim_callVIp v_RX12_243 sh_179 dX12_valueOf_10 (k_M_pip a2 1 σ) rfl ⟨by decide, by decide⟩ (S := []) rfl (Nat.le_of_ble_eq_true rfl) (fun r3 => ?_)
  refine sim_istore (fun v4 => [(4, vI v4), (3, vI v2), (0, vR 179), (1, vI a1), (2, vI a2)]) (fun _ => rfl) (by decide) dX12_valueOf_13 (fun v4 => ?_)
  refine sim_iload_n 3 rfl dX12_valueOf_15 ?_
  refine sim_bipush dX12_valueOf_16 (by decide +kernel) ?_
  refine sim_icmp_ne (tgt := 28) dX12_valueOf_18 (by decide) ?_ ?_
  · refine sim_iload_n 3 rfl dX12_valueOf_28 ?_
    refine sim_bipush dX12_valueOf_29 (by decide +kernel) ?_
    refine sim_icmp_ne (tgt := 43) dX12_valueOf_31 (by decide) ?_ ?_
    · refine sim_iload_n 3 rfl dX12_valueOf_43 ?_
      refine sim_bipush dX12_valueOf_44 (by decide +kernel) ?_
      refine sim_icmp_ne (tgt := 63) dX12_valueOf_46 (by decide) ?_ ?_
      · refine sim_aload_n 2 rfl dX12_valueOf_63 ?_
        refine sim_iload_n 4 rfl dX12_valueOf_64 ?_
        refine sim_callVIp v_RX12_259 sh_179 dX12_valueOf_65 (k_M_placeOf n a2 σ) rfl ⟨by decide, by decide⟩ (S := []) rfl (Nat.le_of_ble_eq_true rfl) (fun r5 => ?_)
        exact sim_iret rfl rfl dX12_valueOf_68
      · refine sim_iload_n 1 rfl dX12_valueOf_49 ?_
        refine sim_iload 0 rfl dX12_valueOf_50 ?_
        refine sim_iadd dX12_valueOf_52 ?_
        refine sim_iload_n 1 rfl dX12_valueOf_53 ?_
        refine sim_iload 0 rfl dX12_valueOf_54 ?_
        refine sim_callSIp s_RX12_309 dX12_valueOf_56 (k_M_most SH RHO v2 v4 σ) rfl ⟨by decide, by decide⟩ (S := [vI (w32 (v2 + v4))]) rfl (Nat.le_of_ble_eq_true rfl) (fun r6 => ?_)
        refine sim_isub dX12_valueOf_59 ?_
        refine sim_goto (tgt := 68) dX12_valueOf_60 (by decide) ?_
        exact sim_iret rfl rfl dX12_valueOf_68
    · refine sim_iload_n 1 rfl dX12_valueOf_34 ?_
      refine sim_iload 0 rfl dX12_valueOf_35 ?_
      refine sim_callSIp s_RX12_309 dX12_valueOf_37 (k_M_most SH RHO v2 v4 σ) rfl ⟨by decide, by decide⟩ (S := []) rfl (Nat.le_of_ble_eq_true rfl) (fun r7 => ?_)
      refine sim_goto (tgt := 68) dX12_valueOf_40 (by decide) ?_
      exact sim_iret rfl rfl dX12_valueOf_68
  · refine sim_iload_n 1 rfl dX12_valueOf_21 ?_
    refine sim_iload 0 rfl dX12_valueOf_22 ?_
    refine sim_iadd dX12_valueOf_24 ?_
    refine sim_goto (tgt := 68) dX12_valueOf_25 (by decide) ?_
    exact sim_iret rfl rfl dX12_valueOf_68
theorem dX12_endAt_0 : decode cX12_endAt 0 = .ok (.iload_n 1, 1) := by decide +kernel
theorem dX12_endAt_1 : decode cX12_endAt 1 = .ok (.ifCond .ne 7, 3) := by decide +kernel
theorem dX12_endAt_4 : decode cX12_endAt 4 = .ok (.iconst 0, 1) := by decide +kernel
theorem dX12_endAt_5 : decode cX12_endAt 5 = .ok (.goto 9, 3) := by decide +kernel
theorem dX12_endAt_8 : decode cX12_endAt 8 = .ok (.aload_n 0, 1) := by decide +kernel
theorem dX12_endAt_9 : decode cX12_endAt 9 = .ok (.invokevirtual 250, 3) := by decide +kernel
theorem dX12_endAt_12 : decode cX12_endAt 12 = .ok (.iconst 1, 1) := by decide +kernel
theorem dX12_endAt_13 : decode cX12_endAt 13 = .ok (.isub, 1) := by decide +kernel
theorem dX12_endAt_14 : decode cX12_endAt 14 = .ok (.ireturn, 1) := by decide +kernel
def f_M_endAt   (a1 : Int) (σ : JSg) : Option (Int) :=
  if a1 = 0 then (some 0) else (bd1 (f_M_rowMany σ) fun r1 => some (w32 (r1 - 1)))
set_option maxRecDepth 20000 in
set_option maxHeartbeats 4000000 in
theorem k_M_endAt     (a1 : Int) (σ : JSg) : Call yX12_endAt cX12_endAt 2 (some .int) 1 SH RHO [vR 179, vI a1] σ (dIp σ) (f_M_endAt a1 σ) := by
  refine call_of_sim (by decide +kernel) (Nat.le_of_ble_eq_true rfl) ?_
  show Sim RX12 cX12_endAt 2 (some .int) 1 SH RHO 0 [(0, vR 179), (1, vI a1)] [] σ (dIp σ) (f_M_endAt a1 σ)
  unfold f_M_endAt
  refine sim_iload_n 1 rfl dX12_endAt_0 ?_
  refine sim_if_ne (tgt := 8) dX12_endAt_1 (by decide) ?_ ?_
  · refine sim_aload_n 0 rfl dX12_endAt_8 ?_
    refine sim_callVIp v_RX12_250 sh_179 dX12_endAt_9 (k_M_rowMany σ) rfl ⟨by decide, by decide⟩ (S := []) rfl (Nat.le_of_ble_eq_true rfl) (fun r1 => ?_)
    refine sim_iconst dX12_endAt_12 (by decide) ?_
    refine sim_isub dX12_endAt_13 ?_
    exact sim_iret rfl rfl dX12_endAt_14
  · refine sim_iconst dX12_endAt_4 (by decide) ?_
    refine sim_goto (tgt := 14) dX12_endAt_5 (by decide) ?_
    exact sim_iret rfl rfl dX12_endAt_14
theorem dX12_rowPip_0 : decode cX12_rowPip 0 = .ok (.aload_n 0, 1) := by decide +kernel
theorem dX12_rowPip_1 : decode cX12_rowPip 1 = .ok (.aload_n 0, 1) := by decide +kernel
theorem dX12_rowPip_2 : decode cX12_rowPip 2 = .ok (.iload_n 1, 1) := by decide +kernel
theorem dX12_rowPip_3 : decode cX12_rowPip 3 = .ok (.invokevirtual 247, 3) := by decide +kernel
theorem dX12_rowPip_6 : decode cX12_rowPip 6 = .ok (.aload_n 0, 1) := by decide +kernel
theorem dX12_rowPip_7 : decode cX12_rowPip 7 = .ok (.getfield 13, 3) := by decide +kernel
theorem dX12_rowPip_10 : decode cX12_rowPip 10 = .ok (.sipush 152, 3) := by decide +kernel
theorem dX12_rowPip_13 : decode cX12_rowPip 13 = .ok (.iload_n 1, 1) := by decide +kernel
theorem dX12_rowPip_14 : decode cX12_rowPip 14 = .ok (.iadd, 1) := by decide +kernel
theorem dX12_rowPip_15 : decode cX12_rowPip 15 = .ok (.iaload, 1) := by decide +kernel
theorem dX12_rowPip_16 : decode cX12_rowPip 16 = .ok (.iconst 2, 1) := by decide +kernel
theorem dX12_rowPip_17 : decode cX12_rowPip 17 = .ok (.irem, 1) := by decide +kernel
theorem dX12_rowPip_18 : decode cX12_rowPip 18 = .ok (.ifCond .ne 7, 3) := by decide +kernel
theorem dX12_rowPip_21 : decode cX12_rowPip 21 = .ok (.iload_n 2, 1) := by decide +kernel
theorem dX12_rowPip_22 : decode cX12_rowPip 22 = .ok (.goto 6, 3) := by decide +kernel
theorem dX12_rowPip_25 : decode cX12_rowPip 25 = .ok (.iconst 1, 1) := by decide +kernel
theorem dX12_rowPip_26 : decode cX12_rowPip 26 = .ok (.iload_n 2, 1) := by decide +kernel
theorem dX12_rowPip_27 : decode cX12_rowPip 27 = .ok (.isub, 1) := by decide +kernel
theorem dX12_rowPip_28 : decode cX12_rowPip 28 = .ok (.invokevirtual 243, 3) := by decide +kernel
theorem dX12_rowPip_31 : decode cX12_rowPip 31 = .ok (.ireturn, 1) := by decide +kernel
def f_M_rowPip   (a1 : Int) (a2 : Int) (σ : JSg) : Option (Int) :=
  bd1 (f_M_rowStone a1 σ) fun r1 => chk (0 ≤ (w32 (152 + a1)) ∧ (w32 (152 + a1)) < 448) <| jn1 (fun (u3 : Int) => bd1 (f_M_pip r1 u3 σ) fun r4 => some r4) fun j2 => if (rm32 (σ 181 (w32 (152 + a1)).toNat) 2) = 0 then (j2 a2) else (j2 (w32 (1 - a2)))
set_option maxRecDepth 20000 in
set_option maxHeartbeats 4000000 in
theorem k_M_rowPip     (a1 : Int) (a2 : Int) (σ : JSg) : Call yX12_rowPip cX12_rowPip 3 (some .int) 1 SH RHO [vR 179, vI a1, vI a2] σ (dIp σ) (f_M_rowPip a1 a2 σ) := by
  refine call_of_sim (by decide +kernel) (Nat.le_of_ble_eq_true rfl) ?_
  show Sim RX12 cX12_rowPip 3 (some .int) 1 SH RHO 0 [(0, vR 179), (1, vI a1), (2, vI a2)] [] σ (dIp σ) (f_M_rowPip a1 a2 σ)
  unfold f_M_rowPip
  refine sim_aload_n 0 rfl dX12_rowPip_0 ?_
  refine sim_aload_n 0 rfl dX12_rowPip_1 ?_
  refine sim_iload_n 1 rfl dX12_rowPip_2 ?_
  refine sim_callVIp v_RX12_247 sh_179 dX12_rowPip_3 (k_M_rowStone a1 σ) rfl ⟨by decide, by decide⟩ (S := [vR 179]) rfl (Nat.le_of_ble_eq_true rfl) (fun r1 => ?_)
  refine sim_aload_n 0 rfl dX12_rowPip_6 ?_
  refine sim_getR g_RX12_13 sh_179 rh_179_14 dX12_rowPip_7 ?_
  refine sim_sipush dX12_rowPip_10 (by decide +kernel) ?_
  refine sim_iload_n 1 rfl dX12_rowPip_13 ?_
  refine sim_iadd dX12_rowPip_14 ?_
  refine sim_iaload sh_181 rfl dX12_rowPip_15 ?_
  refine sim_iconst dX12_rowPip_16 (by decide) ?_
  refine sim_iremK (by decide) dX12_rowPip_17 ?_
  refine sim_jn1 (pc' := 28) (fun (u3 : Int) => []) (fun (u3 : Int) => [vI u3, vI r1, vR 179]) (fun (u3 : Int) => σ) ?_ (fun j2 hj2 => ?_)
  · intro u3
    refine sim_callVIp v_RX12_243 sh_179 dX12_rowPip_28 (k_M_pip r1 u3 σ) rfl ⟨by decide, by decide⟩ (S := []) rfl (Nat.le_of_ble_eq_true rfl) (fun r4 => ?_)
    exact sim_iret rfl rfl dX12_rowPip_31
  refine sim_if_ne (tgt := 25) dX12_rowPip_18 (by decide) ?_ ?_
  · refine sim_iconst dX12_rowPip_25 (by decide) ?_
    refine sim_iload_n 2 rfl dX12_rowPip_26 ?_
    refine sim_isub dX12_rowPip_27 ?_
    exact sim_sub [] rfl (hj2 (w32 (1 - a2)))
  · refine sim_iload_n 2 rfl dX12_rowPip_21 ?_
    refine sim_goto (tgt := 28) dX12_rowPip_22 (by decide) ?_
    exact sim_sub [] rfl (hj2 a2)
theorem dX12_pipsAt_0 : decode cX12_pipsAt 0 = .ok (.aload_n 0, 1) := by decide +kernel
theorem dX12_pipsAt_1 : decode cX12_pipsAt 1 = .ok (.invokevirtual 250, 3) := by decide +kernel
theorem dX12_pipsAt_4 : decode cX12_pipsAt 4 = .ok (.ifCond .ne 7, 3) := by decide +kernel
theorem dX12_pipsAt_7 : decode cX12_pipsAt 7 = .ok (.iconst (-1), 1) := by decide +kernel
theorem dX12_pipsAt_8 : decode cX12_pipsAt 8 = .ok (.goto 13, 3) := by decide +kernel
theorem dX12_pipsAt_11 : decode cX12_pipsAt 11 = .ok (.aload_n 0, 1) := by decide +kernel
theorem dX12_pipsAt_12 : decode cX12_pipsAt 12 = .ok (.aload_n 0, 1) := by decide +kernel
theorem dX12_pipsAt_13 : decode cX12_pipsAt 13 = .ok (.iload_n 1, 1) := by decide +kernel
theorem dX12_pipsAt_14 : decode cX12_pipsAt 14 = .ok (.invokevirtual 274, 3) := by decide +kernel
theorem dX12_pipsAt_17 : decode cX12_pipsAt 17 = .ok (.iload_n 1, 1) := by decide +kernel
theorem dX12_pipsAt_18 : decode cX12_pipsAt 18 = .ok (.invokevirtual 277, 3) := by decide +kernel
theorem dX12_pipsAt_21 : decode cX12_pipsAt 21 = .ok (.ireturn, 1) := by decide +kernel
def f_M_pipsAt   (a1 : Int) (σ : JSg) : Option (Int) :=
  bd1 (f_M_rowMany σ) fun r1 => if r1 = 0 then (some (-1)) else (bd1 (f_M_endAt a1 σ) fun r2 => bd1 (f_M_rowPip r2 a1 σ) fun r3 => some r3)
set_option maxRecDepth 20000 in
set_option maxHeartbeats 4000000 in
theorem k_M_pipsAt     (a1 : Int) (σ : JSg) : Call yX12_pipsAt cX12_pipsAt 2 (some .int) 2 SH RHO [vR 179, vI a1] σ (dIp σ) (f_M_pipsAt a1 σ) := by
  refine call_of_sim (by decide +kernel) (Nat.le_of_ble_eq_true rfl) ?_
  show Sim RX12 cX12_pipsAt 2 (some .int) 2 SH RHO 0 [(0, vR 179), (1, vI a1)] [] σ (dIp σ) (f_M_pipsAt a1 σ)
  unfold f_M_pipsAt
  refine sim_aload_n 0 rfl dX12_pipsAt_0 ?_
  refine sim_callVIp v_RX12_250 sh_179 dX12_pipsAt_1 (k_M_rowMany σ) rfl ⟨by decide, by decide⟩ (S := []) rfl (Nat.le_of_ble_eq_true rfl) (fun r1 => ?_)
  refine sim_if_ne (tgt := 11) dX12_pipsAt_4 (by decide) ?_ ?_
  · refine sim_aload_n 0 rfl dX12_pipsAt_11 ?_
    refine sim_aload_n 0 rfl dX12_pipsAt_12 ?_
    refine sim_iload_n 1 rfl dX12_pipsAt_13 ?_
    refine sim_callVIp v_RX12_274 sh_179 dX12_pipsAt_14 (k_M_endAt a1 σ) rfl ⟨by decide, by decide⟩ (S := [vR 179]) rfl (Nat.le_of_ble_eq_true rfl) (fun r2 => ?_)
    refine sim_iload_n 1 rfl dX12_pipsAt_17 ?_
    refine sim_callVIp v_RX12_277 sh_179 dX12_pipsAt_18 (k_M_rowPip r2 a1 σ) rfl ⟨by decide, by decide⟩ (S := []) rfl (Nat.le_of_ble_eq_true rfl) (fun r3 => ?_)
    exact sim_iret rfl rfl dX12_pipsAt_21
  · refine sim_iconst dX12_pipsAt_7 (by decide) ?_
    refine sim_goto (tgt := 21) dX12_pipsAt_8 (by decide) ?_
    exact sim_iret rfl rfl dX12_pipsAt_21
theorem dX12_fit_0 : decode cX12_fit 0 = .ok (.aload_n 0, 1) := by decide +kernel
theorem dX12_fit_1 : decode cX12_fit 1 = .ok (.getfield 13, 3) := by decide +kernel
theorem dX12_fit_4 : decode cX12_fit 4 = .ok (.iconst 4, 1) := by decide +kernel
theorem dX12_fit_5 : decode cX12_fit 5 = .ok (.iload_n 1, 1) := by decide +kernel
theorem dX12_fit_6 : decode cX12_fit 6 = .ok (.iadd, 1) := by decide +kernel
theorem dX12_fit_7 : decode cX12_fit 7 = .ok (.iaload, 1) := by decide +kernel
theorem dX12_fit_8 : decode cX12_fit 8 = .ok (.iload_n 2, 1) := by decide +kernel
theorem dX12_fit_9 : decode cX12_fit 9 = .ok (.invokestatic 201, 3) := by decide +kernel
theorem dX12_fit_12 : decode cX12_fit 12 = .ok (.ifCond .ne 38, 3) := by decide +kernel
theorem dX12_fit_15 : decode cX12_fit 15 = .ok (.iload_n 1, 1) := by decide +kernel
theorem dX12_fit_16 : decode cX12_fit 16 = .ok (.iload_n 2, 1) := by decide +kernel
theorem dX12_fit_17 : decode cX12_fit 17 = .ok (.if_icmp .eq 29, 3) := by decide +kernel
theorem dX12_fit_20 : decode cX12_fit 20 = .ok (.aload_n 0, 1) := by decide +kernel
theorem dX12_fit_21 : decode cX12_fit 21 = .ok (.getfield 13, 3) := by decide +kernel
theorem dX12_fit_24 : decode cX12_fit 24 = .ok (.iconst 2, 1) := by decide +kernel
theorem dX12_fit_25 : decode cX12_fit 25 = .ok (.iaload, 1) := by decide +kernel
theorem dX12_fit_26 : decode cX12_fit 26 = .ok (.iload_n 1, 1) := by decide +kernel
theorem dX12_fit_27 : decode cX12_fit 27 = .ok (.invokestatic 201, 3) := by decide +kernel
theorem dX12_fit_30 : decode cX12_fit 30 = .ok (.ifCond .ne 16, 3) := by decide +kernel
theorem dX12_fit_33 : decode cX12_fit 33 = .ok (.aload_n 0, 1) := by decide +kernel
theorem dX12_fit_34 : decode cX12_fit 34 = .ok (.getfield 13, 3) := by decide +kernel
theorem dX12_fit_37 : decode cX12_fit 37 = .ok (.iconst 2, 1) := by decide +kernel
theorem dX12_fit_38 : decode cX12_fit 38 = .ok (.iaload, 1) := by decide +kernel
theorem dX12_fit_39 : decode cX12_fit 39 = .ok (.iload_n 2, 1) := by decide +kernel
theorem dX12_fit_40 : decode cX12_fit 40 = .ok (.invokestatic 201, 3) := by decide +kernel
theorem dX12_fit_43 : decode cX12_fit 43 = .ok (.ifCond .eq 7, 3) := by decide +kernel
theorem dX12_fit_46 : decode cX12_fit 46 = .ok (.iconst 1, 1) := by decide +kernel
theorem dX12_fit_47 : decode cX12_fit 47 = .ok (.goto 4, 3) := by decide +kernel
theorem dX12_fit_50 : decode cX12_fit 50 = .ok (.iconst 0, 1) := by decide +kernel
theorem dX12_fit_51 : decode cX12_fit 51 = .ok (.ireturn, 1) := by decide +kernel
def f_M_fit   (a1 : Int) (a2 : Int) (σ : JSg) : Option (Int) :=
  chk (0 ≤ (w32 (4 + a1)) ∧ (w32 (4 + a1)) < 448) <| bd1 (f_M_has (σ 181 (w32 (4 + a1)).toNat) a2 σ) fun r1 => if r1 = 0 then (jn0 (some 1) fun j2 => if a1 = a2 then (j2) else (bd1 (f_M_has (σ 181 2) a1 σ) fun r3 => if r3 = 0 then (bd1 (f_M_has (σ 181 2) a2 σ) fun r4 => if r4 = 0 then (some 0) else (j2)) else (j2))) else (some 0)
set_option maxRecDepth 20000 in
set_option maxHeartbeats 4000000 in
theorem k_M_fit     (a1 : Int) (a2 : Int) (σ : JSg) : Call yX12_fit cX12_fit 3 (some .boolean) 1 SH RHO [vR 179, vI a1, vI a2] σ (dIp σ) (f_M_fit a1 a2 σ) := by
  refine call_of_sim (by decide +kernel) (Nat.le_of_ble_eq_true rfl) ?_
  show Sim RX12 cX12_fit 3 (some .boolean) 1 SH RHO 0 [(0, vR 179), (1, vI a1), (2, vI a2)] [] σ (dIp σ) (f_M_fit a1 a2 σ)
  unfold f_M_fit
  refine sim_aload_n 0 rfl dX12_fit_0 ?_
  refine sim_getR g_RX12_13 sh_179 rh_179_14 dX12_fit_1 ?_
  refine sim_iconst dX12_fit_4 (by decide) ?_
  refine sim_iload_n 1 rfl dX12_fit_5 ?_
  refine sim_iadd dX12_fit_6 ?_
  refine sim_iaload sh_181 rfl dX12_fit_7 ?_
  refine sim_iload_n 2 rfl dX12_fit_8 ?_
  refine sim_callSIp s_RX12_201 dX12_fit_9 (k_M_has SH RHO (σ 181 (w32 (4 + a1)).toNat) a2 σ) rfl ⟨by decide, by decide⟩ (S := []) rfl (Nat.le_of_ble_eq_true rfl) (fun r1 => ?_)
  refine sim_if_ne (tgt := 50) dX12_fit_12 (by decide) ?_ ?_
  · refine sim_iconst dX12_fit_50 (by decide) ?_
    exact sim_zret (Or.inl rfl) rfl rfl dX12_fit_51
  · refine sim_iload_n 1 rfl dX12_fit_15 ?_
    refine sim_iload_n 2 rfl dX12_fit_16 ?_
    refine sim_jn0 (pc' := 46) ([]) ([]) (σ) ?_ (fun j2 hj2 => ?_)
    · refine sim_iconst dX12_fit_46 (by decide) ?_
      refine sim_goto (tgt := 51) dX12_fit_47 (by decide) ?_
      exact sim_zret (Or.inr rfl) rfl rfl dX12_fit_51
    refine sim_icmp_eq (tgt := 46) dX12_fit_17 (by decide) ?_ ?_
    · exact sim_sub [] rfl (hj2 )
    · refine sim_aload_n 0 rfl dX12_fit_20 ?_
      refine sim_getR g_RX12_13 sh_179 rh_179_14 dX12_fit_21 ?_
      refine sim_iconst dX12_fit_24 (by decide) ?_
      refine sim_ialoadK (j := 2) sh_181 rfl (by decide) dX12_fit_25 ?_
      refine sim_iload_n 1 rfl dX12_fit_26 ?_
      refine sim_callSIp s_RX12_201 dX12_fit_27 (k_M_has SH RHO (σ 181 2) a1 σ) rfl ⟨by decide, by decide⟩ (S := []) rfl (Nat.le_of_ble_eq_true rfl) (fun r3 => ?_)
      refine sim_if_ne (tgt := 46) dX12_fit_30 (by decide) ?_ ?_
      · exact sim_sub [] rfl (hj2 )
      · refine sim_aload_n 0 rfl dX12_fit_33 ?_
        refine sim_getR g_RX12_13 sh_179 rh_179_14 dX12_fit_34 ?_
        refine sim_iconst dX12_fit_37 (by decide) ?_
        refine sim_ialoadK (j := 2) sh_181 rfl (by decide) dX12_fit_38 ?_
        refine sim_iload_n 2 rfl dX12_fit_39 ?_
        refine sim_callSIp s_RX12_201 dX12_fit_40 (k_M_has SH RHO (σ 181 2) a2 σ) rfl ⟨by decide, by decide⟩ (S := []) rfl (Nat.le_of_ble_eq_true rfl) (fun r4 => ?_)
        refine sim_if_eq (tgt := 50) dX12_fit_43 (by decide) ?_ ?_
        · refine sim_iconst dX12_fit_50 (by decide) ?_
          exact sim_zret (Or.inl rfl) rfl rfl dX12_fit_51
        · exact sim_sub [] rfl (hj2 )
theorem dX12_fitsEnd_0 : decode cX12_fitsEnd 0 = .ok (.aload_n 0, 1) := by decide +kernel
theorem dX12_fitsEnd_1 : decode cX12_fitsEnd 1 = .ok (.aload_n 0, 1) := by decide +kernel
theorem dX12_fitsEnd_2 : decode cX12_fitsEnd 2 = .ok (.iload_n 1, 1) := by decide +kernel
theorem dX12_fitsEnd_3 : decode cX12_fitsEnd 3 = .ok (.iconst 0, 1) := by decide +kernel
theorem dX12_fitsEnd_4 : decode cX12_fitsEnd 4 = .ok (.invokevirtual 243, 3) := by decide +kernel
theorem dX12_fitsEnd_7 : decode cX12_fitsEnd 7 = .ok (.aload_n 0, 1) := by decide +kernel
theorem dX12_fitsEnd_8 : decode cX12_fitsEnd 8 = .ok (.iload_n 2, 1) := by decide +kernel
theorem dX12_fitsEnd_9 : decode cX12_fitsEnd 9 = .ok (.invokevirtual 280, 3) := by decide +kernel
theorem dX12_fitsEnd_12 : decode cX12_fitsEnd 12 = .ok (.invokevirtual 271, 3) := by decide +kernel
theorem dX12_fitsEnd_15 : decode cX12_fitsEnd 15 = .ok (.ifCond .ne 21, 3) := by decide +kernel
theorem dX12_fitsEnd_18 : decode cX12_fitsEnd 18 = .ok (.aload_n 0, 1) := by decide +kernel
theorem dX12_fitsEnd_19 : decode cX12_fitsEnd 19 = .ok (.aload_n 0, 1) := by decide +kernel
theorem dX12_fitsEnd_20 : decode cX12_fitsEnd 20 = .ok (.iload_n 1, 1) := by decide +kernel
theorem dX12_fitsEnd_21 : decode cX12_fitsEnd 21 = .ok (.iconst 1, 1) := by decide +kernel
theorem dX12_fitsEnd_22 : decode cX12_fitsEnd 22 = .ok (.invokevirtual 243, 3) := by decide +kernel
theorem dX12_fitsEnd_25 : decode cX12_fitsEnd 25 = .ok (.aload_n 0, 1) := by decide +kernel
theorem dX12_fitsEnd_26 : decode cX12_fitsEnd 26 = .ok (.iload_n 2, 1) := by decide +kernel
theorem dX12_fitsEnd_27 : decode cX12_fitsEnd 27 = .ok (.invokevirtual 280, 3) := by decide +kernel
theorem dX12_fitsEnd_30 : decode cX12_fitsEnd 30 = .ok (.invokevirtual 271, 3) := by decide +kernel
theorem dX12_fitsEnd_33 : decode cX12_fitsEnd 33 = .ok (.ifCond .eq 7, 3) := by decide +kernel
theorem dX12_fitsEnd_36 : decode cX12_fitsEnd 36 = .ok (.iconst 1, 1) := by decide +kernel
theorem dX12_fitsEnd_37 : decode cX12_fitsEnd 37 = .ok (.goto 4, 3) := by decide +kernel
theorem dX12_fitsEnd_40 : decode cX12_fitsEnd 40 = .ok (.iconst 0, 1) := by decide +kernel
theorem dX12_fitsEnd_41 : decode cX12_fitsEnd 41 = .ok (.ireturn, 1) := by decide +kernel
def f_M_fitsEnd   (a1 : Int) (a2 : Int) (σ : JSg) : Option (Int) :=
  bd1 (f_M_pip a1 0 σ) fun r1 => bd1 (f_M_pipsAt a2 σ) fun r2 => bd1 (f_M_fit r1 r2 σ) fun r3 => jn0 (some 1) fun j4 => if r3 = 0 then (bd1 (f_M_pip a1 1 σ) fun r5 => bd1 (f_M_pipsAt a2 σ) fun r6 => bd1 (f_M_fit r5 r6 σ) fun r7 => if r7 = 0 then (some 0) else (j4)) else (j4)
set_option maxRecDepth 20000 in
set_option maxHeartbeats 4000000 in
theorem k_M_fitsEnd     (a1 : Int) (a2 : Int) (σ : JSg) : Call yX12_fitsEnd cX12_fitsEnd 3 (some .boolean) 3 SH RHO [vR 179, vI a1, vI a2] σ (dIp σ) (f_M_fitsEnd a1 a2 σ) := by
  refine call_of_sim (by decide +kernel) (Nat.le_of_ble_eq_true rfl) ?_
  show Sim RX12 cX12_fitsEnd 3 (some .boolean) 3 SH RHO 0 [(0, vR 179), (1, vI a1), (2, vI a2)] [] σ (dIp σ) (f_M_fitsEnd a1 a2 σ)
  unfold f_M_fitsEnd
  refine sim_aload_n 0 rfl dX12_fitsEnd_0 ?_
  refine sim_aload_n 0 rfl dX12_fitsEnd_1 ?_
  refine sim_iload_n 1 rfl dX12_fitsEnd_2 ?_
  refine sim_iconst dX12_fitsEnd_3 (by decide) ?_
  refine sim_callVIp v_RX12_243 sh_179 dX12_fitsEnd_4 (k_M_pip a1 0 σ) rfl ⟨by decide, by decide⟩ (S := [vR 179]) rfl (Nat.le_of_ble_eq_true rfl) (fun r1 => ?_)
  refine sim_aload_n 0 rfl dX12_fitsEnd_7 ?_
  refine sim_iload_n 2 rfl dX12_fitsEnd_8 ?_
  refine sim_callVIp v_RX12_280 sh_179 dX12_fitsEnd_9 (k_M_pipsAt a2 σ) rfl ⟨by decide, by decide⟩ (S := [vI r1, vR 179]) rfl (Nat.le_of_ble_eq_true rfl) (fun r2 => ?_)
  refine sim_callVIp v_RX12_271 sh_179 dX12_fitsEnd_12 (k_M_fit r1 r2 σ) rfl ⟨by decide, by decide⟩ (S := []) rfl (Nat.le_of_ble_eq_true rfl) (fun r3 => ?_)
  refine sim_jn0 (pc' := 36) ([]) ([]) (σ) ?_ (fun j4 hj4 => ?_)
  · refine sim_iconst dX12_fitsEnd_36 (by decide) ?_
    refine sim_goto (tgt := 41) dX12_fitsEnd_37 (by decide) ?_
    exact sim_zret (Or.inr rfl) rfl rfl dX12_fitsEnd_41
  refine sim_if_ne (tgt := 36) dX12_fitsEnd_15 (by decide) ?_ ?_
  · exact sim_sub [] rfl (hj4 )
  · refine sim_aload_n 0 rfl dX12_fitsEnd_18 ?_
    refine sim_aload_n 0 rfl dX12_fitsEnd_19 ?_
    refine sim_iload_n 1 rfl dX12_fitsEnd_20 ?_
    refine sim_iconst dX12_fitsEnd_21 (by decide) ?_
    refine sim_callVIp v_RX12_243 sh_179 dX12_fitsEnd_22 (k_M_pip a1 1 σ) rfl ⟨by decide, by decide⟩ (S := [vR 179]) rfl (Nat.le_of_ble_eq_true rfl) (fun r5 => ?_)
    refine sim_aload_n 0 rfl dX12_fitsEnd_25 ?_
    refine sim_iload_n 2 rfl dX12_fitsEnd_26 ?_
    refine sim_callVIp v_RX12_280 sh_179 dX12_fitsEnd_27 (k_M_pipsAt a2 σ) rfl ⟨by decide, by decide⟩ (S := [vI r5, vR 179]) rfl (Nat.le_of_ble_eq_true rfl) (fun r6 => ?_)
    refine sim_callVIp v_RX12_271 sh_179 dX12_fitsEnd_30 (k_M_fit r5 r6 σ) rfl ⟨by decide, by decide⟩ (S := []) rfl (Nat.le_of_ble_eq_true rfl) (fun r7 => ?_)
    refine sim_if_eq (tgt := 40) dX12_fitsEnd_33 (by decide) ?_ ?_
    · refine sim_iconst dX12_fitsEnd_40 (by decide) ?_
      exact sim_zret (Or.inl rfl) rfl rfl dX12_fitsEnd_41
    · exact sim_sub [] rfl (hj4 )
theorem dX12_isHeld_0 : decode cX12_isHeld 0 = .ok (.aload_n 0, 1) := by decide +kernel
theorem dX12_isHeld_1 : decode cX12_isHeld 1 = .ok (.getfield 13, 3) := by decide +kernel
theorem dX12_isHeld_4 : decode cX12_isHeld 4 = .ok (.bipush 95, 2) := by decide +kernel
theorem dX12_isHeld_6 : decode cX12_isHeld 6 = .ok (.iload_n 1, 1) := by decide +kernel
theorem dX12_isHeld_7 : decode cX12_isHeld 7 = .ok (.iadd, 1) := by decide +kernel
theorem dX12_isHeld_8 : decode cX12_isHeld 8 = .ok (.iaload, 1) := by decide +kernel
theorem dX12_isHeld_9 : decode cX12_isHeld 9 = .ok (.ifCond .ne 7, 3) := by decide +kernel
theorem dX12_isHeld_12 : decode cX12_isHeld 12 = .ok (.iconst 1, 1) := by decide +kernel
theorem dX12_isHeld_13 : decode cX12_isHeld 13 = .ok (.goto 4, 3) := by decide +kernel
theorem dX12_isHeld_16 : decode cX12_isHeld 16 = .ok (.iconst 0, 1) := by decide +kernel
theorem dX12_isHeld_17 : decode cX12_isHeld 17 = .ok (.ireturn, 1) := by decide +kernel
def f_M_isHeld   (a1 : Int) (σ : JSg) : Option (Int) :=
  chk (0 ≤ (w32 (95 + a1)) ∧ (w32 (95 + a1)) < 448) <| if (σ 181 (w32 (95 + a1)).toNat) = 0 then (some 1) else (some 0)
set_option maxRecDepth 20000 in
set_option maxHeartbeats 4000000 in
theorem k_M_isHeld     (a1 : Int) (σ : JSg) : Call yX12_isHeld cX12_isHeld 2 (some .boolean) 0 SH RHO [vR 179, vI a1] σ (dIp σ) (f_M_isHeld a1 σ) := by
  refine call_of_sim (by decide +kernel) (Nat.le_of_ble_eq_true rfl) ?_
  show Sim RX12 cX12_isHeld 2 (some .boolean) 0 SH RHO 0 [(0, vR 179), (1, vI a1)] [] σ (dIp σ) (f_M_isHeld a1 σ)
  unfold f_M_isHeld
  refine sim_aload_n 0 rfl dX12_isHeld_0 ?_
  refine sim_getR g_RX12_13 sh_179 rh_179_14 dX12_isHeld_1 ?_
  refine sim_bipush dX12_isHeld_4 (by decide +kernel) ?_
  refine sim_iload_n 1 rfl dX12_isHeld_6 ?_
  refine sim_iadd dX12_isHeld_7 ?_
  refine sim_iaload sh_181 rfl dX12_isHeld_8 ?_
  refine sim_if_ne (tgt := 16) dX12_isHeld_9 (by decide) ?_ ?_
  · refine sim_iconst dX12_isHeld_16 (by decide) ?_
    exact sim_zret (Or.inl rfl) rfl rfl dX12_isHeld_17
  · refine sim_iconst dX12_isHeld_12 (by decide) ?_
    refine sim_goto (tgt := 17) dX12_isHeld_13 (by decide) ?_
    exact sim_zret (Or.inr rfl) rfl rfl dX12_isHeld_17
theorem dX12_holds_0 : decode cX12_holds 0 = .ok (.sipush 208, 3) := by decide +kernel
theorem dX12_holds_3 : decode cX12_holds 3 = .ok (.iconst 4, 1) := by decide +kernel
theorem dX12_holds_4 : decode cX12_holds 4 = .ok (.iload_n 1, 1) := by decide +kernel
theorem dX12_holds_5 : decode cX12_holds 5 = .ok (.imul, 1) := by decide +kernel
theorem dX12_holds_6 : decode cX12_holds 6 = .ok (.iadd, 1) := by decide +kernel
theorem dX12_holds_7 : decode cX12_holds 7 = .ok (.istore_n 3, 1) := by decide +kernel
theorem dX12_holds_8 : decode cX12_holds 8 = .ok (.aload_n 0, 1) := by decide +kernel
theorem dX12_holds_9 : decode cX12_holds 9 = .ok (.getfield 13, 3) := by decide +kernel
theorem dX12_holds_12 : decode cX12_holds 12 = .ok (.iload_n 3, 1) := by decide +kernel
theorem dX12_holds_13 : decode cX12_holds 13 = .ok (.iconst 1, 1) := by decide +kernel
theorem dX12_holds_14 : decode cX12_holds 14 = .ok (.iadd, 1) := by decide +kernel
theorem dX12_holds_15 : decode cX12_holds 15 = .ok (.iaload, 1) := by decide +kernel
theorem dX12_holds_16 : decode cX12_holds 16 = .ok (.istore 4, 2) := by decide +kernel
theorem dX12_holds_18 : decode cX12_holds 18 = .ok (.aload_n 0, 1) := by decide +kernel
theorem dX12_holds_19 : decode cX12_holds 19 = .ok (.getfield 13, 3) := by decide +kernel
theorem dX12_holds_22 : decode cX12_holds 22 = .ok (.iload_n 3, 1) := by decide +kernel
theorem dX12_holds_23 : decode cX12_holds 23 = .ok (.iconst 2, 1) := by decide +kernel
theorem dX12_holds_24 : decode cX12_holds 24 = .ok (.iadd, 1) := by decide +kernel
theorem dX12_holds_25 : decode cX12_holds 25 = .ok (.iaload, 1) := by decide +kernel
theorem dX12_holds_26 : decode cX12_holds 26 = .ok (.istore 5, 2) := by decide +kernel
theorem dX12_holds_28 : decode cX12_holds 28 = .ok (.aload_n 0, 1) := by decide +kernel
theorem dX12_holds_29 : decode cX12_holds 29 = .ok (.getfield 13, 3) := by decide +kernel
theorem dX12_holds_32 : decode cX12_holds 32 = .ok (.iload_n 3, 1) := by decide +kernel
theorem dX12_holds_33 : decode cX12_holds 33 = .ok (.iaload, 1) := by decide +kernel
theorem dX12_holds_34 : decode cX12_holds 34 = .ok (.lookupswitch 239 #[(1, 74), (2, 90), (3, 116), (61, 142), (62, 163), (63, 182), (64, 188), (65, 208)], 74) := by decide +kernel
theorem dX12_holds_108 : decode cX12_holds 108 = .ok (.aload_n 0, 1) := by decide +kernel
theorem dX12_holds_109 : decode cX12_holds 109 = .ok (.iload 4, 2) := by decide +kernel
theorem dX12_holds_111 : decode cX12_holds 111 = .ok (.iload_n 2, 1) := by decide +kernel
theorem dX12_holds_112 : decode cX12_holds 112 = .ok (.invokevirtual 467, 3) := by decide +kernel
theorem dX12_holds_115 : decode cX12_holds 115 = .ok (.ifCond .ne 7, 3) := by decide +kernel
theorem dX12_holds_118 : decode cX12_holds 118 = .ok (.iconst 1, 1) := by decide +kernel
theorem dX12_holds_119 : decode cX12_holds 119 = .ok (.goto 4, 3) := by decide +kernel
theorem dX12_holds_122 : decode cX12_holds 122 = .ok (.iconst 0, 1) := by decide +kernel
theorem dX12_holds_123 : decode cX12_holds 123 = .ok (.ireturn, 1) := by decide +kernel
theorem dX12_holds_124 : decode cX12_holds 124 = .ok (.aload_n 0, 1) := by decide +kernel
theorem dX12_holds_125 : decode cX12_holds 125 = .ok (.iload 4, 2) := by decide +kernel
theorem dX12_holds_127 : decode cX12_holds 127 = .ok (.iload_n 2, 1) := by decide +kernel
theorem dX12_holds_128 : decode cX12_holds 128 = .ok (.invokevirtual 467, 3) := by decide +kernel
theorem dX12_holds_131 : decode cX12_holds 131 = .ok (.ifCond .eq 17, 3) := by decide +kernel
theorem dX12_holds_134 : decode cX12_holds 134 = .ok (.aload_n 0, 1) := by decide +kernel
theorem dX12_holds_135 : decode cX12_holds 135 = .ok (.iload 5, 2) := by decide +kernel
theorem dX12_holds_137 : decode cX12_holds 137 = .ok (.iload_n 2, 1) := by decide +kernel
theorem dX12_holds_138 : decode cX12_holds 138 = .ok (.invokevirtual 467, 3) := by decide +kernel
theorem dX12_holds_141 : decode cX12_holds 141 = .ok (.ifCond .eq 7, 3) := by decide +kernel
theorem dX12_holds_144 : decode cX12_holds 144 = .ok (.iconst 1, 1) := by decide +kernel
theorem dX12_holds_145 : decode cX12_holds 145 = .ok (.goto 4, 3) := by decide +kernel
theorem dX12_holds_148 : decode cX12_holds 148 = .ok (.iconst 0, 1) := by decide +kernel
theorem dX12_holds_149 : decode cX12_holds 149 = .ok (.ireturn, 1) := by decide +kernel
theorem dX12_holds_150 : decode cX12_holds 150 = .ok (.aload_n 0, 1) := by decide +kernel
theorem dX12_holds_151 : decode cX12_holds 151 = .ok (.iload 4, 2) := by decide +kernel
theorem dX12_holds_153 : decode cX12_holds 153 = .ok (.iload_n 2, 1) := by decide +kernel
theorem dX12_holds_154 : decode cX12_holds 154 = .ok (.invokevirtual 467, 3) := by decide +kernel
theorem dX12_holds_157 : decode cX12_holds 157 = .ok (.ifCond .ne 13, 3) := by decide +kernel
theorem dX12_holds_160 : decode cX12_holds 160 = .ok (.aload_n 0, 1) := by decide +kernel
theorem dX12_holds_161 : decode cX12_holds 161 = .ok (.iload 5, 2) := by decide +kernel
theorem dX12_holds_163 : decode cX12_holds 163 = .ok (.iload_n 2, 1) := by decide +kernel
theorem dX12_holds_164 : decode cX12_holds 164 = .ok (.invokevirtual 467, 3) := by decide +kernel
theorem dX12_holds_167 : decode cX12_holds 167 = .ok (.ifCond .eq 7, 3) := by decide +kernel
theorem dX12_holds_170 : decode cX12_holds 170 = .ok (.iconst 1, 1) := by decide +kernel
theorem dX12_holds_171 : decode cX12_holds 171 = .ok (.goto 4, 3) := by decide +kernel
theorem dX12_holds_174 : decode cX12_holds 174 = .ok (.iconst 0, 1) := by decide +kernel
theorem dX12_holds_175 : decode cX12_holds 175 = .ok (.ireturn, 1) := by decide +kernel
theorem dX12_holds_176 : decode cX12_holds 176 = .ok (.aload_n 0, 1) := by decide +kernel
theorem dX12_holds_177 : decode cX12_holds 177 = .ok (.iload_n 2, 1) := by decide +kernel
theorem dX12_holds_178 : decode cX12_holds 178 = .ok (.iconst 0, 1) := by decide +kernel
theorem dX12_holds_179 : decode cX12_holds 179 = .ok (.invokevirtual 243, 3) := by decide +kernel
theorem dX12_holds_182 : decode cX12_holds 182 = .ok (.aload_n 0, 1) := by decide +kernel
theorem dX12_holds_183 : decode cX12_holds 183 = .ok (.iload_n 2, 1) := by decide +kernel
theorem dX12_holds_184 : decode cX12_holds 184 = .ok (.iconst 1, 1) := by decide +kernel
theorem dX12_holds_185 : decode cX12_holds 185 = .ok (.invokevirtual 243, 3) := by decide +kernel
theorem dX12_holds_188 : decode cX12_holds 188 = .ok (.if_icmp .ne 7, 3) := by decide +kernel
theorem dX12_holds_191 : decode cX12_holds 191 = .ok (.iconst 1, 1) := by decide +kernel
theorem dX12_holds_192 : decode cX12_holds 192 = .ok (.goto 4, 3) := by decide +kernel
theorem dX12_holds_195 : decode cX12_holds 195 = .ok (.iconst 0, 1) := by decide +kernel
theorem dX12_holds_196 : decode cX12_holds 196 = .ok (.ireturn, 1) := by decide +kernel
theorem dX12_holds_197 : decode cX12_holds 197 = .ok (.aload_n 0, 1) := by decide +kernel
theorem dX12_holds_198 : decode cX12_holds 198 = .ok (.getfield 13, 3) := by decide +kernel
theorem dX12_holds_201 : decode cX12_holds 201 = .ok (.bipush 95, 2) := by decide +kernel
theorem dX12_holds_203 : decode cX12_holds 203 = .ok (.iload_n 2, 1) := by decide +kernel
theorem dX12_holds_204 : decode cX12_holds 204 = .ok (.iadd, 1) := by decide +kernel
theorem dX12_holds_205 : decode cX12_holds 205 = .ok (.iaload, 1) := by decide +kernel
theorem dX12_holds_206 : decode cX12_holds 206 = .ok (.iconst 2, 1) := by decide +kernel
theorem dX12_holds_207 : decode cX12_holds 207 = .ok (.if_icmp .ne 7, 3) := by decide +kernel
theorem dX12_holds_210 : decode cX12_holds 210 = .ok (.iconst 1, 1) := by decide +kernel
theorem dX12_holds_211 : decode cX12_holds 211 = .ok (.goto 4, 3) := by decide +kernel
theorem dX12_holds_214 : decode cX12_holds 214 = .ok (.iconst 0, 1) := by decide +kernel
theorem dX12_holds_215 : decode cX12_holds 215 = .ok (.ireturn, 1) := by decide +kernel
theorem dX12_holds_216 : decode cX12_holds 216 = .ok (.aload_n 0, 1) := by decide +kernel
theorem dX12_holds_217 : decode cX12_holds 217 = .ok (.iload_n 2, 1) := by decide +kernel
theorem dX12_holds_218 : decode cX12_holds 218 = .ok (.invokevirtual 265, 3) := by decide +kernel
theorem dX12_holds_221 : decode cX12_holds 221 = .ok (.ireturn, 1) := by decide +kernel
theorem dX12_holds_222 : decode cX12_holds 222 = .ok (.aload_n 0, 1) := by decide +kernel
theorem dX12_holds_223 : decode cX12_holds 223 = .ok (.getfield 13, 3) := by decide +kernel
theorem dX12_holds_226 : decode cX12_holds 226 = .ok (.bipush 67, 2) := by decide +kernel
theorem dX12_holds_228 : decode cX12_holds 228 = .ok (.iload_n 2, 1) := by decide +kernel
theorem dX12_holds_229 : decode cX12_holds 229 = .ok (.iadd, 1) := by decide +kernel
theorem dX12_holds_230 : decode cX12_holds 230 = .ok (.iaload, 1) := by decide +kernel
theorem dX12_holds_231 : decode cX12_holds 231 = .ok (.iload 4, 2) := by decide +kernel
theorem dX12_holds_233 : decode cX12_holds 233 = .ok (.if_icmp .ne 7, 3) := by decide +kernel
theorem dX12_holds_236 : decode cX12_holds 236 = .ok (.iconst 1, 1) := by decide +kernel
theorem dX12_holds_237 : decode cX12_holds 237 = .ok (.goto 4, 3) := by decide +kernel
theorem dX12_holds_240 : decode cX12_holds 240 = .ok (.iconst 0, 1) := by decide +kernel
theorem dX12_holds_241 : decode cX12_holds 241 = .ok (.ireturn, 1) := by decide +kernel
theorem dX12_holds_242 : decode cX12_holds 242 = .ok (.aload_n 0, 1) := by decide +kernel
theorem dX12_holds_243 : decode cX12_holds 243 = .ok (.invokevirtual 250, 3) := by decide +kernel
theorem dX12_holds_246 : decode cX12_holds 246 = .ok (.ifCond .le 25, 3) := by decide +kernel
theorem dX12_holds_249 : decode cX12_holds 249 = .ok (.aload_n 0, 1) := by decide +kernel
theorem dX12_holds_250 : decode cX12_holds 250 = .ok (.iload_n 2, 1) := by decide +kernel
theorem dX12_holds_251 : decode cX12_holds 251 = .ok (.iconst 0, 1) := by decide +kernel
theorem dX12_holds_252 : decode cX12_holds 252 = .ok (.invokevirtual 306, 3) := by decide +kernel
theorem dX12_holds_255 : decode cX12_holds 255 = .ok (.ifCond .ne 12, 3) := by decide +kernel
theorem dX12_holds_258 : decode cX12_holds 258 = .ok (.aload_n 0, 1) := by decide +kernel
theorem dX12_holds_259 : decode cX12_holds 259 = .ok (.iload_n 2, 1) := by decide +kernel
theorem dX12_holds_260 : decode cX12_holds 260 = .ok (.iconst 1, 1) := by decide +kernel
theorem dX12_holds_261 : decode cX12_holds 261 = .ok (.invokevirtual 306, 3) := by decide +kernel
theorem dX12_holds_264 : decode cX12_holds 264 = .ok (.ifCond .eq 7, 3) := by decide +kernel
theorem dX12_holds_267 : decode cX12_holds 267 = .ok (.iconst 1, 1) := by decide +kernel
theorem dX12_holds_268 : decode cX12_holds 268 = .ok (.goto 4, 3) := by decide +kernel
theorem dX12_holds_271 : decode cX12_holds 271 = .ok (.iconst 0, 1) := by decide +kernel
theorem dX12_holds_272 : decode cX12_holds 272 = .ok (.ireturn, 1) := by decide +kernel
theorem dX12_holds_273 : decode cX12_holds 273 = .ok (.aload_n 0, 1) := by decide +kernel
theorem dX12_holds_274 : decode cX12_holds 274 = .ok (.aload_n 0, 1) := by decide +kernel
theorem dX12_holds_275 : decode cX12_holds 275 = .ok (.getfield 13, 3) := by decide +kernel
theorem dX12_holds_278 : decode cX12_holds 278 = .ok (.iload_n 3, 1) := by decide +kernel
theorem dX12_holds_279 : decode cX12_holds 279 = .ok (.iaload, 1) := by decide +kernel
theorem dX12_holds_280 : decode cX12_holds 280 = .ok (.bipush 50, 2) := by decide +kernel
theorem dX12_holds_282 : decode cX12_holds 282 = .ok (.isub, 1) := by decide +kernel
theorem dX12_holds_283 : decode cX12_holds 283 = .ok (.iload_n 2, 1) := by decide +kernel
theorem dX12_holds_284 : decode cX12_holds 284 = .ok (.invokevirtual 470, 3) := by decide +kernel
theorem dX12_holds_287 : decode cX12_holds 287 = .ok (.istore 6, 2) := by decide +kernel
theorem dX12_holds_289 : decode cX12_holds 289 = .ok (.aload_n 0, 1) := by decide +kernel
theorem dX12_holds_290 : decode cX12_holds 290 = .ok (.getfield 13, 3) := by decide +kernel
theorem dX12_holds_293 : decode cX12_holds 293 = .ok (.iload_n 3, 1) := by decide +kernel
theorem dX12_holds_294 : decode cX12_holds 294 = .ok (.iconst 3, 1) := by decide +kernel
theorem dX12_holds_295 : decode cX12_holds 295 = .ok (.iadd, 1) := by decide +kernel
theorem dX12_holds_296 : decode cX12_holds 296 = .ok (.iaload, 1) := by decide +kernel
theorem dX12_holds_297 : decode cX12_holds 297 = .ok (.bipush 60, 2) := by decide +kernel
theorem dX12_holds_299 : decode cX12_holds 299 = .ok (.if_icmp .ne 18, 3) := by decide +kernel
theorem dX12_holds_302 : decode cX12_holds 302 = .ok (.iload 6, 2) := by decide +kernel
theorem dX12_holds_304 : decode cX12_holds 304 = .ok (.iload 5, 2) := by decide +kernel
theorem dX12_holds_306 : decode cX12_holds 306 = .ok (.if_icmp .ge 7, 3) := by decide +kernel
theorem dX12_holds_309 : decode cX12_holds 309 = .ok (.iconst 1, 1) := by decide +kernel
theorem dX12_holds_310 : decode cX12_holds 310 = .ok (.goto 47, 3) := by decide +kernel
theorem dX12_holds_313 : decode cX12_holds 313 = .ok (.iconst 0, 1) := by decide +kernel
theorem dX12_holds_314 : decode cX12_holds 314 = .ok (.goto 43, 3) := by decide +kernel
theorem dX12_holds_317 : decode cX12_holds 317 = .ok (.aload_n 0, 1) := by decide +kernel
theorem dX12_holds_318 : decode cX12_holds 318 = .ok (.getfield 13, 3) := by decide +kernel
theorem dX12_holds_321 : decode cX12_holds 321 = .ok (.iload_n 3, 1) := by decide +kernel
theorem dX12_holds_322 : decode cX12_holds 322 = .ok (.iconst 3, 1) := by decide +kernel
theorem dX12_holds_323 : decode cX12_holds 323 = .ok (.iadd, 1) := by decide +kernel
theorem dX12_holds_324 : decode cX12_holds 324 = .ok (.iaload, 1) := by decide +kernel
theorem dX12_holds_325 : decode cX12_holds 325 = .ok (.bipush 61, 2) := by decide +kernel
theorem dX12_holds_327 : decode cX12_holds 327 = .ok (.if_icmp .ne 18, 3) := by decide +kernel
theorem dX12_holds_330 : decode cX12_holds 330 = .ok (.iload 6, 2) := by decide +kernel
theorem dX12_holds_332 : decode cX12_holds 332 = .ok (.iload 5, 2) := by decide +kernel
theorem dX12_holds_334 : decode cX12_holds 334 = .ok (.if_icmp .ne 7, 3) := by decide +kernel
theorem dX12_holds_337 : decode cX12_holds 337 = .ok (.iconst 1, 1) := by decide +kernel
theorem dX12_holds_338 : decode cX12_holds 338 = .ok (.goto 19, 3) := by decide +kernel
theorem dX12_holds_341 : decode cX12_holds 341 = .ok (.iconst 0, 1) := by decide +kernel
theorem dX12_holds_342 : decode cX12_holds 342 = .ok (.goto 15, 3) := by decide +kernel
theorem dX12_holds_345 : decode cX12_holds 345 = .ok (.iload 6, 2) := by decide +kernel
theorem dX12_holds_347 : decode cX12_holds 347 = .ok (.iload 5, 2) := by decide +kernel
theorem dX12_holds_349 : decode cX12_holds 349 = .ok (.if_icmp .le 7, 3) := by decide +kernel
theorem dX12_holds_352 : decode cX12_holds 352 = .ok (.iconst 1, 1) := by decide +kernel
theorem dX12_holds_353 : decode cX12_holds 353 = .ok (.goto 4, 3) := by decide +kernel
theorem dX12_holds_356 : decode cX12_holds 356 = .ok (.iconst 0, 1) := by decide +kernel
theorem dX12_holds_357 : decode cX12_holds 357 = .ok (.ireturn, 1) := by decide +kernel
def f_M_holds_s (n : Nat)  (gholds : Int → Int → JSg → Option (Int)) (a1 : Int) (a2 : Int) (σ : JSg) : Option (Int) :=
  lt_ (w32 (208 + (w32 (4 * a1)))) fun v1 => chk (0 ≤ (w32 (v1 + 1)) ∧ (w32 (v1 + 1)) < 448) <| lt_ (σ 181 (w32 (v1 + 1)).toNat) fun v2 => chk (0 ≤ (w32 (v1 + 2)) ∧ (w32 (v1 + 2)) < 448) <| lt_ (σ 181 (w32 (v1 + 2)).toNat) fun v3 => chk (0 ≤ v1 ∧ v1 < 448) <| ls_ (σ 181 v1.toNat) [1, 2, 3, 61, 62, 63, 64, 65] [bd1 (gholds v2 a2 σ) fun r4 => if r4 = 0 then (some 1) else (some 0), bd1 (gholds v2 a2 σ) fun r5 => if r5 = 0 then (some 0) else (bd1 (gholds v3 a2 σ) fun r6 => if r6 = 0 then (some 0) else (some 1)), bd1 (gholds v2 a2 σ) fun r7 => jn0 (some 1) fun j8 => if r7 = 0 then (bd1 (gholds v3 a2 σ) fun r9 => if r9 = 0 then (some 0) else (j8)) else (j8), bd1 (f_M_pip a2 0 σ) fun r10 => bd1 (f_M_pip a2 1 σ) fun r11 => if r10 = r11 then (some 1) else (some 0), chk (0 ≤ (w32 (95 + a2)) ∧ (w32 (95 + a2)) < 448) <| if (σ 181 (w32 (95 + a2)).toNat) = 2 then (some 1) else (some 0), bd1 (f_M_isHeld a2 σ) fun r12 => chk (r12 = 0 ∨ r12 = 1) <| some r12, chk (0 ≤ (w32 (67 + a2)) ∧ (w32 (67 + a2)) < 448) <| if (σ 181 (w32 (67 + a2)).toNat) = v2 then (some 1) else (some 0), bd1 (f_M_rowMany σ) fun r13 => if 0 < r13 then (bd1 (f_M_fitsEnd a2 0 σ) fun r14 => jn0 (some 1) fun j15 => if r14 = 0 then (bd1 (f_M_fitsEnd a2 1 σ) fun r16 => if r16 = 0 then (some 0) else (j15)) else (j15)) else (some 0)] (chk (0 ≤ v1 ∧ v1 < 448) <| bd1 (f_M_valueOf n (w32 ((σ 181 v1.toNat) - 50)) a2 σ) fun r17 => lt_ r17 fun v18 => chk (0 ≤ (w32 (v1 + 3)) ∧ (w32 (v1 + 3)) < 448) <| if (σ 181 (w32 (v1 + 3)).toNat) = 60 then (if v18 < v3 then (some 1) else (some 0)) else (chk (0 ≤ (w32 (v1 + 3)) ∧ (w32 (v1 + 3)) < 448) <| if (σ 181 (w32 (v1 + 3)).toNat) = 61 then (if v18 = v3 then (some 1) else (some 0)) else (if v3 < v18 then (some 1) else (some 0))))
set_option maxRecDepth 20000 in
set_option maxHeartbeats 4000000 in
theorem k_M_holds_s  (n : Nat)   (gholds : Int → Int → JSg → Option (Int)) (d : Nat) (hd9 : 4 ≤ d) (hgholds : ∀ (a1 : Int) (a2 : Int) (σ : JSg), Call yX12_holds cX12_holds 7 (some .boolean) d SH RHO [vR 179, vI a1, vI a2] σ (dIp σ) (gholds a1 a2 σ)) (a1 : Int) (a2 : Int) (σ : JSg) : Call yX12_holds cX12_holds 7 (some .boolean) (d + 1) SH RHO [vR 179, vI a1, vI a2] σ (dIp σ) (f_M_holds_s n gholds a1 a2 σ) := by
  refine call_of_sim (by decide +kernel) (Nat.le_of_ble_eq_true rfl) ?_
  show Sim RX12 cX12_holds 7 (some .boolean) (d + 1) SH RHO 0 [(0, vR 179), (1, vI a1), (2, vI a2)] [] σ (dIp σ) (f_M_holds_s n gholds a1 a2 σ)
  unfold f_M_holds_s
  refine sim_sipush dX12_holds_0 (by decide +kernel) ?_
  refine sim_iconst dX12_holds_3 (by decide) ?_
  refine sim_iload_n 1 rfl dX12_holds_4 ?_
  refine sim_imul dX12_holds_5 ?_
  refine sim_iadd dX12_holds_6 ?_
  refine sim_istore_n (fun v1 => [(3, vI v1), (0, vR 179), (1, vI a1), (2, vI a2)]) (fun _ => rfl) (by decide) dX12_holds_7 (fun v1 => ?_)
  refine sim_aload_n 1 rfl dX12_holds_8 ?_
  refine sim_getR g_RX12_13 sh_179 rh_179_14 dX12_holds_9 ?_
  refine sim_iload_n 0 rfl dX12_holds_12 ?_
  refine sim_iconst dX12_holds_13 (by decide) ?_
  refine sim_iadd dX12_holds_14 ?_
  refine sim_iaload sh_181 rfl dX12_holds_15 ?_
  refine sim_istore (fun v2 => [(4, vI v2), (3, vI v1), (0, vR 179), (1, vI a1), (2, vI a2)]) (fun _ => rfl) (by decide) dX12_holds_16 (fun v2 => ?_)
  refine sim_aload_n 2 rfl dX12_holds_18 ?_
  refine sim_getR g_RX12_13 sh_179 rh_179_14 dX12_holds_19 ?_
  refine sim_iload_n 1 rfl dX12_holds_22 ?_
  refine sim_iconst dX12_holds_23 (by decide) ?_
  refine sim_iadd dX12_holds_24 ?_
  refine sim_iaload sh_181 rfl dX12_holds_25 ?_
  refine sim_istore (fun v3 => [(5, vI v3), (4, vI v2), (3, vI v1), (0, vR 179), (1, vI a1), (2, vI a2)]) (fun _ => rfl) (by decide) dX12_holds_26 (fun v3 => ?_)
  refine sim_aload_n 3 rfl dX12_holds_28 ?_
  refine sim_getR g_RX12_13 sh_179 rh_179_14 dX12_holds_29 ?_
  refine sim_iload_n 2 rfl dX12_holds_32 ?_
  refine sim_iaload sh_181 rfl dX12_holds_33 ?_
  refine sim_lsw2 (td := 273) [108, 124, 150, 176, 197, 216, 222, 242] dX12_holds_34 (by decide) (by decide +kernel) (by decide +kernel) ⟨?_, ?_, ?_, ?_, ?_, ?_, ?_, ?_, trivial⟩ ?_
  · refine sim_aload_n 3 rfl dX12_holds_108 ?_
    refine sim_iload 1 rfl dX12_holds_109 ?_
    refine sim_iload_n 5 rfl dX12_holds_111 ?_
    refine sim_callVIp v_RX12_467 sh_179 dX12_holds_112 (hgholds v2 a2 σ) rfl ⟨by omega, by decide⟩ (S := []) rfl (Nat.le_of_ble_eq_true rfl) (fun r4 => ?_)
    refine sim_if_ne (tgt := 122) dX12_holds_115 (by decide) ?_ ?_
    · refine sim_iconst dX12_holds_122 (by decide) ?_
      exact sim_zret (Or.inl rfl) rfl rfl dX12_holds_123
    · refine sim_iconst dX12_holds_118 (by decide) ?_
      refine sim_goto (tgt := 123) dX12_holds_119 (by decide) ?_
      exact sim_zret (Or.inr rfl) rfl rfl dX12_holds_123
  · refine sim_aload_n 3 rfl dX12_holds_124 ?_
    refine sim_iload 1 rfl dX12_holds_125 ?_
    refine sim_iload_n 5 rfl dX12_holds_127 ?_
    refine sim_callVIp v_RX12_467 sh_179 dX12_holds_128 (hgholds v2 a2 σ) rfl ⟨by omega, by decide⟩ (S := []) rfl (Nat.le_of_ble_eq_true rfl) (fun r5 => ?_)
    refine sim_if_eq (tgt := 148) dX12_holds_131 (by decide) ?_ ?_
    · refine sim_iconst dX12_holds_148 (by decide) ?_
      exact sim_zret (Or.inl rfl) rfl rfl dX12_holds_149
    · refine sim_aload_n 3 rfl dX12_holds_134 ?_
      refine sim_iload 0 rfl dX12_holds_135 ?_
      refine sim_iload_n 5 rfl dX12_holds_137 ?_
      refine sim_callVIp v_RX12_467 sh_179 dX12_holds_138 (hgholds v3 a2 σ) rfl ⟨by omega, by decide⟩ (S := []) rfl (Nat.le_of_ble_eq_true rfl) (fun r6 => ?_)
      refine sim_if_eq (tgt := 148) dX12_holds_141 (by decide) ?_ ?_
      · refine sim_iconst dX12_holds_148 (by decide) ?_
        exact sim_zret (Or.inl rfl) rfl rfl dX12_holds_149
      · refine sim_iconst dX12_holds_144 (by decide) ?_
        refine sim_goto (tgt := 149) dX12_holds_145 (by decide) ?_
        exact sim_zret (Or.inr rfl) rfl rfl dX12_holds_149
  · refine sim_aload_n 3 rfl dX12_holds_150 ?_
    refine sim_iload 1 rfl dX12_holds_151 ?_
    refine sim_iload_n 5 rfl dX12_holds_153 ?_
    refine sim_callVIp v_RX12_467 sh_179 dX12_holds_154 (hgholds v2 a2 σ) rfl ⟨by omega, by decide⟩ (S := []) rfl (Nat.le_of_ble_eq_true rfl) (fun r7 => ?_)
    refine sim_jn0 (pc' := 170) ([]) ([]) (σ) ?_ (fun j8 hj8 => ?_)
    · refine sim_iconst dX12_holds_170 (by decide) ?_
      refine sim_goto (tgt := 175) dX12_holds_171 (by decide) ?_
      exact sim_zret (Or.inr rfl) rfl rfl dX12_holds_175
    refine sim_if_ne (tgt := 170) dX12_holds_157 (by decide) ?_ ?_
    · exact sim_sub [] rfl (hj8 )
    · refine sim_aload_n 3 rfl dX12_holds_160 ?_
      refine sim_iload 0 rfl dX12_holds_161 ?_
      refine sim_iload_n 5 rfl dX12_holds_163 ?_
      refine sim_callVIp v_RX12_467 sh_179 dX12_holds_164 (hgholds v3 a2 σ) rfl ⟨by omega, by decide⟩ (S := []) rfl (Nat.le_of_ble_eq_true rfl) (fun r9 => ?_)
      refine sim_if_eq (tgt := 174) dX12_holds_167 (by decide) ?_ ?_
      · refine sim_iconst dX12_holds_174 (by decide) ?_
        exact sim_zret (Or.inl rfl) rfl rfl dX12_holds_175
      · exact sim_sub [] rfl (hj8 )
  · refine sim_aload_n 3 rfl dX12_holds_176 ?_
    refine sim_iload_n 5 rfl dX12_holds_177 ?_
    refine sim_iconst dX12_holds_178 (by decide) ?_
    refine sim_callVIp v_RX12_243 sh_179 dX12_holds_179 (k_M_pip a2 0 σ) rfl ⟨by omega, by decide⟩ (S := []) rfl (Nat.le_of_ble_eq_true rfl) (fun r10 => ?_)
    refine sim_aload_n 3 rfl dX12_holds_182 ?_
    refine sim_iload_n 5 rfl dX12_holds_183 ?_
    refine sim_iconst dX12_holds_184 (by decide) ?_
    refine sim_callVIp v_RX12_243 sh_179 dX12_holds_185 (k_M_pip a2 1 σ) rfl ⟨by omega, by decide⟩ (S := [vI r10]) rfl (Nat.le_of_ble_eq_true rfl) (fun r11 => ?_)
    refine sim_icmp_ne (tgt := 195) dX12_holds_188 (by decide) ?_ ?_
    · refine sim_iconst dX12_holds_195 (by decide) ?_
      exact sim_zret (Or.inl rfl) rfl rfl dX12_holds_196
    · refine sim_iconst dX12_holds_191 (by decide) ?_
      refine sim_goto (tgt := 196) dX12_holds_192 (by decide) ?_
      exact sim_zret (Or.inr rfl) rfl rfl dX12_holds_196
  · refine sim_aload_n 3 rfl dX12_holds_197 ?_
    refine sim_getR g_RX12_13 sh_179 rh_179_14 dX12_holds_198 ?_
    refine sim_bipush dX12_holds_201 (by decide +kernel) ?_
    refine sim_iload_n 5 rfl dX12_holds_203 ?_
    refine sim_iadd dX12_holds_204 ?_
    refine sim_iaload sh_181 rfl dX12_holds_205 ?_
    refine sim_iconst dX12_holds_206 (by decide) ?_
    refine sim_icmp_ne (tgt := 214) dX12_holds_207 (by decide) ?_ ?_
    · refine sim_iconst dX12_holds_214 (by decide) ?_
      exact sim_zret (Or.inl rfl) rfl rfl dX12_holds_215
    · refine sim_iconst dX12_holds_210 (by decide) ?_
      refine sim_goto (tgt := 215) dX12_holds_211 (by decide) ?_
      exact sim_zret (Or.inr rfl) rfl rfl dX12_holds_215
  · refine sim_aload_n 3 rfl dX12_holds_216 ?_
    refine sim_iload_n 5 rfl dX12_holds_217 ?_
    refine sim_callVIp v_RX12_265 sh_179 dX12_holds_218 (k_M_isHeld a2 σ) rfl ⟨by omega, by decide⟩ (S := []) rfl (Nat.le_of_ble_eq_true rfl) (fun r12 => ?_)
    exact sim_zretc rfl rfl dX12_holds_221
  · refine sim_aload_n 3 rfl dX12_holds_222 ?_
    refine sim_getR g_RX12_13 sh_179 rh_179_14 dX12_holds_223 ?_
    refine sim_bipush dX12_holds_226 (by decide +kernel) ?_
    refine sim_iload_n 5 rfl dX12_holds_228 ?_
    refine sim_iadd dX12_holds_229 ?_
    refine sim_iaload sh_181 rfl dX12_holds_230 ?_
    refine sim_iload 1 rfl dX12_holds_231 ?_
    refine sim_icmp_ne (tgt := 240) dX12_holds_233 (by decide) ?_ ?_
    · refine sim_iconst dX12_holds_240 (by decide) ?_
      exact sim_zret (Or.inl rfl) rfl rfl dX12_holds_241
    · refine sim_iconst dX12_holds_236 (by decide) ?_
      refine sim_goto (tgt := 241) dX12_holds_237 (by decide) ?_
      exact sim_zret (Or.inr rfl) rfl rfl dX12_holds_241
  · refine sim_aload_n 3 rfl dX12_holds_242 ?_
    refine sim_callVIp v_RX12_250 sh_179 dX12_holds_243 (k_M_rowMany σ) rfl ⟨by omega, by decide⟩ (S := []) rfl (Nat.le_of_ble_eq_true rfl) (fun r13 => ?_)
    refine sim_if_le (tgt := 271) dX12_holds_246 (by decide) ?_ ?_
    · refine sim_iconst dX12_holds_271 (by decide) ?_
      exact sim_zret (Or.inl rfl) rfl rfl dX12_holds_272
    · refine sim_aload_n 3 rfl dX12_holds_249 ?_
      refine sim_iload_n 5 rfl dX12_holds_250 ?_
      refine sim_iconst dX12_holds_251 (by decide) ?_
      refine sim_callVIp v_RX12_306 sh_179 dX12_holds_252 (k_M_fitsEnd a2 0 σ) rfl ⟨by omega, by decide⟩ (S := []) rfl (Nat.le_of_ble_eq_true rfl) (fun r14 => ?_)
      refine sim_jn0 (pc' := 267) ([]) ([]) (σ) ?_ (fun j15 hj15 => ?_)
      · refine sim_iconst dX12_holds_267 (by decide) ?_
        refine sim_goto (tgt := 272) dX12_holds_268 (by decide) ?_
        exact sim_zret (Or.inr rfl) rfl rfl dX12_holds_272
      refine sim_if_ne (tgt := 267) dX12_holds_255 (by decide) ?_ ?_
      · exact sim_sub [] rfl (hj15 )
      · refine sim_aload_n 3 rfl dX12_holds_258 ?_
        refine sim_iload_n 5 rfl dX12_holds_259 ?_
        refine sim_iconst dX12_holds_260 (by decide) ?_
        refine sim_callVIp v_RX12_306 sh_179 dX12_holds_261 (k_M_fitsEnd a2 1 σ) rfl ⟨by omega, by decide⟩ (S := []) rfl (Nat.le_of_ble_eq_true rfl) (fun r16 => ?_)
        refine sim_if_eq (tgt := 271) dX12_holds_264 (by decide) ?_ ?_
        · refine sim_iconst dX12_holds_271 (by decide) ?_
          exact sim_zret (Or.inl rfl) rfl rfl dX12_holds_272
        · exact sim_sub [] rfl (hj15 )
  · refine sim_aload_n 3 rfl dX12_holds_273 ?_
    refine sim_aload_n 3 rfl dX12_holds_274 ?_
    refine sim_getR g_RX12_13 sh_179 rh_179_14 dX12_holds_275 ?_
    refine sim_iload_n 2 rfl dX12_holds_278 ?_
    refine sim_iaload sh_181 rfl dX12_holds_279 ?_
    refine sim_bipush dX12_holds_280 (by decide +kernel) ?_
    refine sim_isub dX12_holds_282 ?_
    refine sim_iload_n 5 rfl dX12_holds_283 ?_
    refine sim_callVIp v_RX12_470 sh_179 dX12_holds_284 (k_M_valueOf n (w32 ((σ 181 v1.toNat) - 50)) a2 σ) rfl ⟨by omega, by decide⟩ (S := []) rfl (Nat.le_of_ble_eq_true rfl) (fun r17 => ?_)
    refine sim_istore (fun v18 => [(6, vI v18), (5, vI v3), (4, vI v2), (3, vI v1), (0, vR 179), (1, vI a1), (2, vI a2)]) (fun _ => rfl) (by decide) dX12_holds_287 (fun v18 => ?_)
    refine sim_aload_n 4 rfl dX12_holds_289 ?_
    refine sim_getR g_RX12_13 sh_179 rh_179_14 dX12_holds_290 ?_
    refine sim_iload_n 3 rfl dX12_holds_293 ?_
    refine sim_iconst dX12_holds_294 (by decide) ?_
    refine sim_iadd dX12_holds_295 ?_
    refine sim_iaload sh_181 rfl dX12_holds_296 ?_
    refine sim_bipush dX12_holds_297 (by decide +kernel) ?_
    refine sim_icmp_ne (tgt := 317) dX12_holds_299 (by decide) ?_ ?_
    · refine sim_aload_n 4 rfl dX12_holds_317 ?_
      refine sim_getR g_RX12_13 sh_179 rh_179_14 dX12_holds_318 ?_
      refine sim_iload_n 3 rfl dX12_holds_321 ?_
      refine sim_iconst dX12_holds_322 (by decide) ?_
      refine sim_iadd dX12_holds_323 ?_
      refine sim_iaload sh_181 rfl dX12_holds_324 ?_
      refine sim_bipush dX12_holds_325 (by decide +kernel) ?_
      refine sim_icmp_ne (tgt := 345) dX12_holds_327 (by decide) ?_ ?_
      · refine sim_iload 0 rfl dX12_holds_345 ?_
        refine sim_iload 1 rfl dX12_holds_347 ?_
        refine sim_icmp_le (tgt := 356) dX12_holds_349 (by decide) ?_ ?_
        · refine sim_iconst dX12_holds_356 (by decide) ?_
          exact sim_zret (Or.inl rfl) rfl rfl dX12_holds_357
        · refine sim_iconst dX12_holds_352 (by decide) ?_
          refine sim_goto (tgt := 357) dX12_holds_353 (by decide) ?_
          exact sim_zret (Or.inr rfl) rfl rfl dX12_holds_357
      · refine sim_iload 0 rfl dX12_holds_330 ?_
        refine sim_iload 1 rfl dX12_holds_332 ?_
        refine sim_icmp_ne (tgt := 341) dX12_holds_334 (by decide) ?_ ?_
        · refine sim_iconst dX12_holds_341 (by decide) ?_
          refine sim_goto (tgt := 357) dX12_holds_342 (by decide) ?_
          exact sim_zret (Or.inl rfl) rfl rfl dX12_holds_357
        · refine sim_iconst dX12_holds_337 (by decide) ?_
          refine sim_goto (tgt := 357) dX12_holds_338 (by decide) ?_
          exact sim_zret (Or.inr rfl) rfl rfl dX12_holds_357
    · refine sim_iload 0 rfl dX12_holds_302 ?_
      refine sim_iload 1 rfl dX12_holds_304 ?_
      refine sim_icmp_ge (tgt := 313) dX12_holds_306 (by decide) ?_ ?_
      · refine sim_iconst dX12_holds_313 (by decide) ?_
        refine sim_goto (tgt := 357) dX12_holds_314 (by decide) ?_
        exact sim_zret (Or.inl rfl) rfl rfl dX12_holds_357
      · refine sim_iconst dX12_holds_309 (by decide) ?_
        refine sim_goto (tgt := 357) dX12_holds_310 (by decide) ?_
        exact sim_zret (Or.inr rfl) rfl rfl dX12_holds_357
def fg_M_holds (n : Nat)  : Nat → (Int → Int → JSg → Option (Int))
  | 0 => (fun _ _ _ => none)
  | r + 1 => (f_M_holds_s n (fg_M_holds n r))
def f_M_holds (n : Nat)  (a1 : Int) (a2 : Int) (σ : JSg) : Option (Int) := (fg_M_holds n 64) a1 a2 σ
theorem kg_M_holds  (n : Nat)   : ∀ r : Nat, (∀ (a1 : Int) (a2 : Int) (σ : JSg), Call yX12_holds cX12_holds 7 (some .boolean) (4 + r) SH RHO [vR 179, vI a1, vI a2] σ (dIp σ) ((fg_M_holds n r) a1 a2 σ)) := by
  intro r
  induction r with
  | zero => exact fun _ _ _ _ _ _ h => (by cases h)
  | succ r ih =>
    have h0 := ih
    exact fun a1 a2 σ => k_M_holds_s n _ (4 + r) (by omega) h0 a1 a2 σ
theorem k_M_holds  (n : Nat)   (a1 : Int) (a2 : Int) (σ : JSg) : Call yX12_holds cX12_holds 7 (some .boolean) 68 SH RHO [vR 179, vI a1, vI a2] σ (dIp σ) (f_M_holds n a1 a2 σ) := (kg_M_holds n 64) a1 a2 σ
theorem dX12_said_0 : decode cX12_said 0 = .ok (.aload_n 0, 1) := by decide +kernel
theorem dX12_said_1 : decode cX12_said 1 = .ok (.iconst 0, 1) := by decide +kernel
theorem dX12_said_2 : decode cX12_said 2 = .ok (.putfield 87, 3) := by decide +kernel
theorem dX12_said_5 : decode cX12_said 5 = .ok (.aload_n 0, 1) := by decide +kernel
theorem dX12_said_6 : decode cX12_said 6 = .ok (.getfield 13, 3) := by decide +kernel
theorem dX12_said_9 : decode cX12_said 9 = .ok (.sipush 206, 3) := by decide +kernel
theorem dX12_said_12 : decode cX12_said 12 = .ok (.iaload, 1) := by decide +kernel
theorem dX12_said_13 : decode cX12_said 13 = .ok (.ifCond .ne 5, 3) := by decide +kernel
theorem dX12_said_16 : decode cX12_said 16 = .ok (.iconst (-1), 1) := by decide +kernel
theorem dX12_said_17 : decode cX12_said 17 = .ok (.ireturn, 1) := by decide +kernel
theorem dX12_said_18 : decode cX12_said 18 = .ok (.iconst 0, 1) := by decide +kernel
theorem dX12_said_19 : decode cX12_said 19 = .ok (.istore_n 2, 1) := by decide +kernel
theorem dX12_said_20 : decode cX12_said 20 = .ok (.iconst 0, 1) := by decide +kernel
theorem dX12_said_21 : decode cX12_said 21 = .ok (.istore_n 3, 1) := by decide +kernel
theorem dX12_said_22 : decode cX12_said 22 = .ok (.iload_n 3, 1) := by decide +kernel
theorem dX12_said_23 : decode cX12_said 23 = .ok (.aload_n 0, 1) := by decide +kernel
theorem dX12_said_24 : decode cX12_said 24 = .ok (.invokevirtual 240, 3) := by decide +kernel
theorem dX12_said_27 : decode cX12_said 27 = .ok (.if_icmp .ge 38, 3) := by decide +kernel
theorem dX12_said_30 : decode cX12_said 30 = .ok (.aload_n 0, 1) := by decide +kernel
theorem dX12_said_31 : decode cX12_said 31 = .ok (.aload_n 0, 1) := by decide +kernel
theorem dX12_said_32 : decode cX12_said 32 = .ok (.getfield 13, 3) := by decide +kernel
theorem dX12_said_35 : decode cX12_said 35 = .ok (.sipush 207, 3) := by decide +kernel
theorem dX12_said_38 : decode cX12_said 38 = .ok (.iaload, 1) := by decide +kernel
theorem dX12_said_39 : decode cX12_said 39 = .ok (.iload_n 3, 1) := by decide +kernel
theorem dX12_said_40 : decode cX12_said 40 = .ok (.invokevirtual 467, 3) := by decide +kernel
theorem dX12_said_43 : decode cX12_said 43 = .ok (.ifCond .ne 6, 3) := by decide +kernel
theorem dX12_said_46 : decode cX12_said 46 = .ok (.goto 13, 3) := by decide +kernel
theorem dX12_said_49 : decode cX12_said 49 = .ok (.iload_n 2, 1) := by decide +kernel
theorem dX12_said_50 : decode cX12_said 50 = .ok (.iload_n 1, 1) := by decide +kernel
theorem dX12_said_51 : decode cX12_said 51 = .ok (.if_icmp .ne 5, 3) := by decide +kernel
theorem dX12_said_54 : decode cX12_said 54 = .ok (.iload_n 3, 1) := by decide +kernel
theorem dX12_said_55 : decode cX12_said 55 = .ok (.ireturn, 1) := by decide +kernel
theorem dX12_said_56 : decode cX12_said 56 = .ok (.iinc 2 1, 3) := by decide +kernel
theorem dX12_said_59 : decode cX12_said 59 = .ok (.iinc 3 1, 3) := by decide +kernel
theorem dX12_said_62 : decode cX12_said 62 = .ok (.goto (-40), 3) := by decide +kernel
theorem dX12_said_65 : decode cX12_said 65 = .ok (.iload_n 1, 1) := by decide +kernel
theorem dX12_said_66 : decode cX12_said 66 = .ok (.iconst (-1), 1) := by decide +kernel
theorem dX12_said_67 : decode cX12_said 67 = .ok (.if_icmp .ne 7, 3) := by decide +kernel
theorem dX12_said_70 : decode cX12_said 70 = .ok (.iload_n 2, 1) := by decide +kernel
theorem dX12_said_71 : decode cX12_said 71 = .ok (.goto 4, 3) := by decide +kernel
theorem dX12_said_74 : decode cX12_said 74 = .ok (.iconst (-1), 1) := by decide +kernel
theorem dX12_said_75 : decode cX12_said 75 = .ok (.ireturn, 1) := by decide +kernel
def f_M_said (n : Nat)  (a1 : Int) (σ : JSg) : Option (Int × JSg) :=
  lt_ (sp σ 179 0 0) fun s1 => if (s1 181 206) = 0 then (some ((-1), s1)) else (lt_ 0 fun v2 => lt_ 0 fun v3 => wh2 n (fun rc4 (x5 : Int) (x6 : Int) => bd1 (f_M_stones s1) fun r7 => if x6 < r7 then (bd1 (f_M_holds n (s1 181 207) x6 s1) fun r8 => jn1 (fun (y10 : Int) => lt_ (w32 (x6 + 1)) fun v11 => rc4 y10 v11) fun j9 => if r8 = 0 then (j9 x5) else (if x5 = a1 then (some (x6, s1)) else (lt_ (w32 (x5 + 1)) fun v12 => j9 v12))) else (if a1 = (-1) then (some (x5, s1)) else (some ((-1), s1)))) v2 v3)
set_option maxRecDepth 20000 in
set_option maxHeartbeats 4000000 in
theorem k_M_said  (n : Nat)   (a1 : Int) (σ : JSg) : Call yX12_said cX12_said 4 (some .int) 69 SH RHO [vR 179, vI a1] σ dIm (f_M_said n a1 σ) := by
  refine call_of_sim (by decide +kernel) (Nat.le_of_ble_eq_true rfl) ?_
  show Sim RX12 cX12_said 4 (some .int) 69 SH RHO 0 [(0, vR 179), (1, vI a1)] [] σ dIm (f_M_said n a1 σ)
  unfold f_M_said
  refine sim_aload_n 0 rfl dX12_said_0 ?_
  refine sim_iconst dX12_said_1 (by decide) ?_
  refine sim_putI g_RX12_87 sh_179 dX12_said_2 (fun s1 => ?_)
  refine sim_aload_n 0 rfl dX12_said_5 ?_
  refine sim_getR g_RX12_13 sh_179 rh_179_14 dX12_said_6 ?_
  refine sim_sipush dX12_said_9 (by decide +kernel) ?_
  refine sim_ialoadK (j := 206) sh_181 rfl (by decide) dX12_said_12 ?_
  refine sim_if_ne (tgt := 18) dX12_said_13 (by decide) ?_ ?_
  · refine sim_iconst dX12_said_18 (by decide) ?_
    refine sim_istore_n (fun v2 => [(2, vI v2), (0, vR 179), (1, vI a1)]) (fun _ => rfl) (by decide) dX12_said_19 (fun v2 => ?_)
    refine sim_iconst dX12_said_20 (by decide) ?_
    refine sim_istore_n (fun v3 => [(3, vI v3), (2, vI v2), (0, vR 179), (1, vI a1)]) (fun _ => rfl) (by decide) dX12_said_21 (fun v3 => ?_)
    refine sim_sub [2, 3, 1, 0] (L' := [(0, vR 179), (1, vI a1), (2, vI v2), (3, vI v3)]) rfl ?_
    refine sim_wh2 (fun (x5 : Int) (x6 : Int) => [(0, vR 179), (1, vI a1), (2, vI x5), (3, vI x6)]) (fun (x5 : Int) (x6 : Int) => s1) ?_ n v2 v3
    intro rc4 hrc4 x5 x6
    refine sim_iload_n 3 rfl dX12_said_22 ?_
    refine sim_aload_n 0 rfl dX12_said_23 ?_
    refine sim_callVIp v_RX12_240 sh_179 dX12_said_24 (k_M_stones s1) rfl ⟨by decide, by decide⟩ (S := [vI x6]) rfl (Nat.le_of_ble_eq_true rfl) (fun r7 => ?_)
    refine sim_icmp_ge (tgt := 65) dX12_said_27 (by decide) ?_ ?_
    · refine sim_iload_n 1 rfl dX12_said_65 ?_
      refine sim_iconst dX12_said_66 (by decide) ?_
      refine sim_icmp_ne (tgt := 74) dX12_said_67 (by decide) ?_ ?_
      · refine sim_iconst dX12_said_74 (by decide) ?_
        exact sim_iret rfl rfl dX12_said_75
      · refine sim_iload_n 2 rfl dX12_said_70 ?_
        refine sim_goto (tgt := 75) dX12_said_71 (by decide) ?_
        exact sim_iret rfl rfl dX12_said_75
    · refine sim_aload_n 0 rfl dX12_said_30 ?_
      refine sim_aload_n 0 rfl dX12_said_31 ?_
      refine sim_getR g_RX12_13 sh_179 rh_179_14 dX12_said_32 ?_
      refine sim_sipush dX12_said_35 (by decide +kernel) ?_
      refine sim_ialoadK (j := 207) sh_181 rfl (by decide) dX12_said_38 ?_
      refine sim_iload_n 3 rfl dX12_said_39 ?_
      refine sim_callVIp v_RX12_467 sh_179 dX12_said_40 (k_M_holds n (s1 181 207) x6 s1) rfl ⟨by decide, by decide⟩ (S := []) rfl (Nat.le_of_ble_eq_true rfl) (fun r8 => ?_)
      refine sim_jn1 (pc' := 59) (fun (y10 : Int) => [(0, vR 179), (1, vI a1), (2, vI y10), (3, vI x6)]) (fun (y10 : Int) => []) (fun (y10 : Int) => s1) ?_ (fun j9 hj9 => ?_)
      · intro y10
        refine sim_iinc 3 rfl (fun v11 => [(3, vI v11), (0, vR 179), (1, vI a1), (2, vI y10)]) (fun _ => rfl) (by decide) dX12_said_59 (fun v11 => ?_)
        refine sim_goto (tgt := 22) dX12_said_62 (by decide) ?_
        exact sim_sub [1, 2, 3, 0] rfl (hrc4 y10 v11)
      refine sim_if_ne (tgt := 49) dX12_said_43 (by decide) ?_ ?_
      · refine sim_iload_n 2 rfl dX12_said_49 ?_
        refine sim_iload_n 1 rfl dX12_said_50 ?_
        refine sim_icmp_ne (tgt := 56) dX12_said_51 (by decide) ?_ ?_
        · refine sim_iinc 2 rfl (fun v12 => [(2, vI v12), (0, vR 179), (1, vI a1), (3, vI x6)]) (fun _ => rfl) (by decide) dX12_said_56 (fun v12 => ?_)
          exact sim_sub [1, 2, 0, 3] rfl (hj9 v12)
        · refine sim_iload_n 3 rfl dX12_said_54 ?_
          exact sim_iret rfl rfl dX12_said_55
      · refine sim_goto (tgt := 59) dX12_said_46 (by decide) ?_
        exact sim_sub [0, 1, 2, 3] rfl (hj9 x5)
  · refine sim_iconst dX12_said_16 (by decide) ?_
    exact sim_iret rfl rfl dX12_said_17
theorem dX12_take_0 : decode cX12_take 0 = .ok (.aload_n 0, 1) := by decide +kernel
theorem dX12_take_1 : decode cX12_take 1 = .ok (.getfield 90, 3) := by decide +kernel
theorem dX12_take_4 : decode cX12_take 4 = .ok (.istore_n 1, 1) := by decide +kernel
theorem dX12_take_5 : decode cX12_take 5 = .ok (.aload_n 0, 1) := by decide +kernel
theorem dX12_take_6 : decode cX12_take 6 = .ok (.iconst 0, 1) := by decide +kernel
theorem dX12_take_7 : decode cX12_take 7 = .ok (.putfield 90, 3) := by decide +kernel
theorem dX12_take_10 : decode cX12_take 10 = .ok (.iload_n 1, 1) := by decide +kernel
theorem dX12_take_11 : decode cX12_take 11 = .ok (.ireturn, 1) := by decide +kernel
def f_M_take    (σ : JSg) : Option (Int × JSg) :=
  lt_ (σ 179 2) fun v1 => lt_ (sp σ 179 2 0) fun s2 => some (v1, s2)
set_option maxRecDepth 20000 in
set_option maxHeartbeats 4000000 in
theorem k_M_take      (σ : JSg) : Call yX12_take cX12_take 2 (some .int) 0 SH RHO [vR 179] σ dIm (f_M_take  σ) := by
  refine call_of_sim (by decide +kernel) (Nat.le_of_ble_eq_true rfl) ?_
  show Sim RX12 cX12_take 2 (some .int) 0 SH RHO 0 [(0, vR 179)] [] σ dIm (f_M_take  σ)
  unfold f_M_take
  refine sim_aload_n 0 rfl dX12_take_0 ?_
  refine sim_getI g_RX12_90 sh_179 dX12_take_1 ?_
  refine sim_istore_n (fun v1 => [(1, vI v1), (0, vR 179)]) (fun _ => rfl) (by decide) dX12_take_4 (fun v1 => ?_)
  refine sim_aload_n 1 rfl dX12_take_5 ?_
  refine sim_iconst dX12_take_6 (by decide) ?_
  refine sim_putI g_RX12_90 sh_179 dX12_take_7 (fun s2 => ?_)
  refine sim_iload_n 0 rfl dX12_take_10 ?_
  exact sim_iret rfl rfl dX12_take_11
theorem dX12_isLetter_0 : decode cX12_isLetter 0 = .ok (.iload_n 0, 1) := by decide +kernel
theorem dX12_isLetter_1 : decode cX12_isLetter 1 = .ok (.bipush 97, 2) := by decide +kernel
theorem dX12_isLetter_3 : decode cX12_isLetter 3 = .ok (.if_icmp .lt 13, 3) := by decide +kernel
theorem dX12_isLetter_6 : decode cX12_isLetter 6 = .ok (.iload_n 0, 1) := by decide +kernel
theorem dX12_isLetter_7 : decode cX12_isLetter 7 = .ok (.bipush 122, 2) := by decide +kernel
theorem dX12_isLetter_9 : decode cX12_isLetter 9 = .ok (.if_icmp .gt 7, 3) := by decide +kernel
theorem dX12_isLetter_12 : decode cX12_isLetter 12 = .ok (.iconst 1, 1) := by decide +kernel
theorem dX12_isLetter_13 : decode cX12_isLetter 13 = .ok (.goto 4, 3) := by decide +kernel
theorem dX12_isLetter_16 : decode cX12_isLetter 16 = .ok (.iconst 0, 1) := by decide +kernel
theorem dX12_isLetter_17 : decode cX12_isLetter 17 = .ok (.ireturn, 1) := by decide +kernel
def f_M_isLetter   (a1 : Int) (σ : JSg) : Option (Int) :=
  if a1 < 97 then (some 0) else (if 122 < a1 then (some 0) else (some 1))
set_option maxRecDepth 20000 in
set_option maxHeartbeats 4000000 in
theorem k_M_isLetter (Sh : JSh) (ρ : JRo)    (a1 : Int) (σ : JSg) : Call yX12_isLetter cX12_isLetter 1 (some .boolean) 0 Sh ρ [vI a1] σ (dIp σ) (f_M_isLetter a1 σ) := by
  refine call_of_sim (by decide +kernel) (Nat.le_of_ble_eq_true rfl) ?_
  show Sim RX12 cX12_isLetter 1 (some .boolean) 0 Sh ρ 0 [(0, vI a1)] [] σ (dIp σ) (f_M_isLetter a1 σ)
  unfold f_M_isLetter
  refine sim_iload_n 0 rfl dX12_isLetter_0 ?_
  refine sim_bipush dX12_isLetter_1 (by decide +kernel) ?_
  refine sim_icmp_lt (tgt := 16) dX12_isLetter_3 (by decide) ?_ ?_
  · refine sim_iconst dX12_isLetter_16 (by decide) ?_
    exact sim_zret (Or.inl rfl) rfl rfl dX12_isLetter_17
  · refine sim_iload_n 0 rfl dX12_isLetter_6 ?_
    refine sim_bipush dX12_isLetter_7 (by decide +kernel) ?_
    refine sim_icmp_gt (tgt := 16) dX12_isLetter_9 (by decide) ?_ ?_
    · refine sim_iconst dX12_isLetter_16 (by decide) ?_
      exact sim_zret (Or.inl rfl) rfl rfl dX12_isLetter_17
    · refine sim_iconst dX12_isLetter_12 (by decide) ?_
      refine sim_goto (tgt := 17) dX12_isLetter_13 (by decide) ?_
      exact sim_zret (Or.inr rfl) rfl rfl dX12_isLetter_17
theorem dX12_isDigit_0 : decode cX12_isDigit 0 = .ok (.iload_n 0, 1) := by decide +kernel
theorem dX12_isDigit_1 : decode cX12_isDigit 1 = .ok (.bipush 48, 2) := by decide +kernel
theorem dX12_isDigit_3 : decode cX12_isDigit 3 = .ok (.if_icmp .lt 13, 3) := by decide +kernel
theorem dX12_isDigit_6 : decode cX12_isDigit 6 = .ok (.iload_n 0, 1) := by decide +kernel
theorem dX12_isDigit_7 : decode cX12_isDigit 7 = .ok (.bipush 57, 2) := by decide +kernel
theorem dX12_isDigit_9 : decode cX12_isDigit 9 = .ok (.if_icmp .gt 7, 3) := by decide +kernel
theorem dX12_isDigit_12 : decode cX12_isDigit 12 = .ok (.iconst 1, 1) := by decide +kernel
theorem dX12_isDigit_13 : decode cX12_isDigit 13 = .ok (.goto 4, 3) := by decide +kernel
theorem dX12_isDigit_16 : decode cX12_isDigit 16 = .ok (.iconst 0, 1) := by decide +kernel
theorem dX12_isDigit_17 : decode cX12_isDigit 17 = .ok (.ireturn, 1) := by decide +kernel
def f_M_isDigit   (a1 : Int) (σ : JSg) : Option (Int) :=
  if a1 < 48 then (some 0) else (if 57 < a1 then (some 0) else (some 1))
set_option maxRecDepth 20000 in
set_option maxHeartbeats 4000000 in
theorem k_M_isDigit (Sh : JSh) (ρ : JRo)    (a1 : Int) (σ : JSg) : Call yX12_isDigit cX12_isDigit 1 (some .boolean) 0 Sh ρ [vI a1] σ (dIp σ) (f_M_isDigit a1 σ) := by
  refine call_of_sim (by decide +kernel) (Nat.le_of_ble_eq_true rfl) ?_
  show Sim RX12 cX12_isDigit 1 (some .boolean) 0 Sh ρ 0 [(0, vI a1)] [] σ (dIp σ) (f_M_isDigit a1 σ)
  unfold f_M_isDigit
  refine sim_iload_n 0 rfl dX12_isDigit_0 ?_
  refine sim_bipush dX12_isDigit_1 (by decide +kernel) ?_
  refine sim_icmp_lt (tgt := 16) dX12_isDigit_3 (by decide) ?_ ?_
  · refine sim_iconst dX12_isDigit_16 (by decide) ?_
    exact sim_zret (Or.inl rfl) rfl rfl dX12_isDigit_17
  · refine sim_iload_n 0 rfl dX12_isDigit_6 ?_
    refine sim_bipush dX12_isDigit_7 (by decide +kernel) ?_
    refine sim_icmp_gt (tgt := 16) dX12_isDigit_9 (by decide) ?_ ?_
    · refine sim_iconst dX12_isDigit_16 (by decide) ?_
      exact sim_zret (Or.inl rfl) rfl rfl dX12_isDigit_17
    · refine sim_iconst dX12_isDigit_12 (by decide) ?_
      refine sim_goto (tgt := 17) dX12_isDigit_13 (by decide) ?_
      exact sim_zret (Or.inr rfl) rfl rfl dX12_isDigit_17
theorem dX12_tapeAt_0 : decode cX12_tapeAt 0 = .ok (.iload_n 1, 1) := by decide +kernel
theorem dX12_tapeAt_1 : decode cX12_tapeAt 1 = .ok (.aload_n 0, 1) := by decide +kernel
theorem dX12_tapeAt_2 : decode cX12_tapeAt 2 = .ok (.getfield 97, 3) := by decide +kernel
theorem dX12_tapeAt_5 : decode cX12_tapeAt 5 = .ok (.if_icmp .ge 12, 3) := by decide +kernel
theorem dX12_tapeAt_8 : decode cX12_tapeAt 8 = .ok (.aload_n 0, 1) := by decide +kernel
theorem dX12_tapeAt_9 : decode cX12_tapeAt 9 = .ok (.getfield 7, 3) := by decide +kernel
theorem dX12_tapeAt_12 : decode cX12_tapeAt 12 = .ok (.iload_n 1, 1) := by decide +kernel
theorem dX12_tapeAt_13 : decode cX12_tapeAt 13 = .ok (.iaload, 1) := by decide +kernel
theorem dX12_tapeAt_14 : decode cX12_tapeAt 14 = .ok (.goto 4, 3) := by decide +kernel
theorem dX12_tapeAt_17 : decode cX12_tapeAt 17 = .ok (.iconst 0, 1) := by decide +kernel
theorem dX12_tapeAt_18 : decode cX12_tapeAt 18 = .ok (.ireturn, 1) := by decide +kernel
def f_M_tapeAt   (a1 : Int) (σ : JSg) : Option (Int) :=
  if a1 < (σ 179 3) then (chk (0 ≤ a1 ∧ a1 < 940) <| some (σ 180 a1.toNat)) else (some 0)
set_option maxRecDepth 20000 in
set_option maxHeartbeats 4000000 in
theorem k_M_tapeAt     (a1 : Int) (σ : JSg) : Call yX12_tapeAt cX12_tapeAt 2 (some .int) 0 SH RHO [vR 179, vI a1] σ (dIp σ) (f_M_tapeAt a1 σ) := by
  refine call_of_sim (by decide +kernel) (Nat.le_of_ble_eq_true rfl) ?_
  show Sim RX12 cX12_tapeAt 2 (some .int) 0 SH RHO 0 [(0, vR 179), (1, vI a1)] [] σ (dIp σ) (f_M_tapeAt a1 σ)
  unfold f_M_tapeAt
  refine sim_iload_n 1 rfl dX12_tapeAt_0 ?_
  refine sim_aload_n 0 rfl dX12_tapeAt_1 ?_
  refine sim_getI g_RX12_97 sh_179 dX12_tapeAt_2 ?_
  refine sim_icmp_ge (tgt := 17) dX12_tapeAt_5 (by decide) ?_ ?_
  · refine sim_iconst dX12_tapeAt_17 (by decide) ?_
    exact sim_iret rfl rfl dX12_tapeAt_18
  · refine sim_aload_n 0 rfl dX12_tapeAt_8 ?_
    refine sim_getR g_RX12_7 sh_179 rh_179_1 dX12_tapeAt_9 ?_
    refine sim_iload_n 1 rfl dX12_tapeAt_12 ?_
    refine sim_iaload sh_180 rfl dX12_tapeAt_13 ?_
    refine sim_goto (tgt := 18) dX12_tapeAt_14 (by decide) ?_
    exact sim_iret rfl rfl dX12_tapeAt_18
theorem dX12_go_0 : decode cX12_go 0 = .ok (.aload_n 0, 1) := by decide +kernel
theorem dX12_go_1 : decode cX12_go 1 = .ok (.getfield 100, 3) := by decide +kernel
theorem dX12_go_4 : decode cX12_go 4 = .ok (.aload_n 0, 1) := by decide +kernel
theorem dX12_go_5 : decode cX12_go 5 = .ok (.getfield 97, 3) := by decide +kernel
theorem dX12_go_8 : decode cX12_go 8 = .ok (.if_icmp .ge 44, 3) := by decide +kernel
theorem dX12_go_11 : decode cX12_go 11 = .ok (.aload_n 0, 1) := by decide +kernel
theorem dX12_go_12 : decode cX12_go 12 = .ok (.getfield 7, 3) := by decide +kernel
theorem dX12_go_15 : decode cX12_go 15 = .ok (.aload_n 0, 1) := by decide +kernel
theorem dX12_go_16 : decode cX12_go 16 = .ok (.getfield 100, 3) := by decide +kernel
theorem dX12_go_19 : decode cX12_go 19 = .ok (.iaload, 1) := by decide +kernel
theorem dX12_go_20 : decode cX12_go 20 = .ok (.bipush 32, 2) := by decide +kernel
theorem dX12_go_22 : decode cX12_go 22 = .ok (.if_icmp .eq 17, 3) := by decide +kernel
theorem dX12_go_25 : decode cX12_go 25 = .ok (.aload_n 0, 1) := by decide +kernel
theorem dX12_go_26 : decode cX12_go 26 = .ok (.getfield 7, 3) := by decide +kernel
theorem dX12_go_29 : decode cX12_go 29 = .ok (.aload_n 0, 1) := by decide +kernel
theorem dX12_go_30 : decode cX12_go 30 = .ok (.getfield 100, 3) := by decide +kernel
theorem dX12_go_33 : decode cX12_go 33 = .ok (.iaload, 1) := by decide +kernel
theorem dX12_go_34 : decode cX12_go 34 = .ok (.bipush 10, 2) := by decide +kernel
theorem dX12_go_36 : decode cX12_go 36 = .ok (.if_icmp .ne 16, 3) := by decide +kernel
theorem dX12_go_39 : decode cX12_go 39 = .ok (.aload_n 0, 1) := by decide +kernel
theorem dX12_go_40 : decode cX12_go 40 = .ok (.dup, 1) := by decide +kernel
theorem dX12_go_41 : decode cX12_go 41 = .ok (.getfield 100, 3) := by decide +kernel
theorem dX12_go_44 : decode cX12_go 44 = .ok (.iconst 1, 1) := by decide +kernel
theorem dX12_go_45 : decode cX12_go 45 = .ok (.iadd, 1) := by decide +kernel
theorem dX12_go_46 : decode cX12_go 46 = .ok (.putfield 100, 3) := by decide +kernel
theorem dX12_go_49 : decode cX12_go 49 = .ok (.goto (-49), 3) := by decide +kernel
theorem dX12_go_52 : decode cX12_go 52 = .ok (.aload_n 0, 1) := by decide +kernel
theorem dX12_go_53 : decode cX12_go 53 = .ok (.aload_n 0, 1) := by decide +kernel
theorem dX12_go_54 : decode cX12_go 54 = .ok (.getfield 100, 3) := by decide +kernel
theorem dX12_go_57 : decode cX12_go 57 = .ok (.putfield 103, 3) := by decide +kernel
theorem dX12_go_60 : decode cX12_go 60 = .ok (.aload_n 0, 1) := by decide +kernel
theorem dX12_go_61 : decode cX12_go 61 = .ok (.getfield 97, 3) := by decide +kernel
theorem dX12_go_64 : decode cX12_go 64 = .ok (.aload_n 0, 1) := by decide +kernel
theorem dX12_go_65 : decode cX12_go 65 = .ok (.getfield 106, 3) := by decide +kernel
theorem dX12_go_68 : decode cX12_go 68 = .ok (.if_icmp .le 28, 3) := by decide +kernel
theorem dX12_go_71 : decode cX12_go 71 = .ok (.aload_n 0, 1) := by decide +kernel
theorem dX12_go_72 : decode cX12_go 72 = .ok (.getfield 103, 3) := by decide +kernel
theorem dX12_go_75 : decode cX12_go 75 = .ok (.aload_n 0, 1) := by decide +kernel
theorem dX12_go_76 : decode cX12_go 76 = .ok (.getfield 106, 3) := by decide +kernel
theorem dX12_go_79 : decode cX12_go 79 = .ok (.if_icmp .lt 17, 3) := by decide +kernel
theorem dX12_go_82 : decode cX12_go 82 = .ok (.aload_n 0, 1) := by decide +kernel
theorem dX12_go_83 : decode cX12_go 83 = .ok (.aload_n 0, 1) := by decide +kernel
theorem dX12_go_84 : decode cX12_go 84 = .ok (.getfield 106, 3) := by decide +kernel
theorem dX12_go_87 : decode cX12_go 87 = .ok (.putfield 103, 3) := by decide +kernel
theorem dX12_go_90 : decode cX12_go 90 = .ok (.aload_n 0, 1) := by decide +kernel
theorem dX12_go_91 : decode cX12_go 91 = .ok (.iconst 1, 1) := by decide +kernel
theorem dX12_go_92 : decode cX12_go 92 = .ok (.putfield 109, 3) := by decide +kernel
theorem dX12_go_95 : decode cX12_go 95 = .ok (.return_, 1) := by decide +kernel
theorem dX12_go_96 : decode cX12_go 96 = .ok (.aload_n 0, 1) := by decide +kernel
theorem dX12_go_97 : decode cX12_go 97 = .ok (.getfield 100, 3) := by decide +kernel
theorem dX12_go_100 : decode cX12_go 100 = .ok (.aload_n 0, 1) := by decide +kernel
theorem dX12_go_101 : decode cX12_go 101 = .ok (.getfield 97, 3) := by decide +kernel
theorem dX12_go_104 : decode cX12_go 104 = .ok (.if_icmp .lt 9, 3) := by decide +kernel
theorem dX12_go_107 : decode cX12_go 107 = .ok (.aload_n 0, 1) := by decide +kernel
theorem dX12_go_108 : decode cX12_go 108 = .ok (.iconst 0, 1) := by decide +kernel
theorem dX12_go_109 : decode cX12_go 109 = .ok (.putfield 109, 3) := by decide +kernel
theorem dX12_go_112 : decode cX12_go 112 = .ok (.return_, 1) := by decide +kernel
theorem dX12_go_113 : decode cX12_go 113 = .ok (.aload_n 0, 1) := by decide +kernel
theorem dX12_go_114 : decode cX12_go 114 = .ok (.getfield 7, 3) := by decide +kernel
theorem dX12_go_117 : decode cX12_go 117 = .ok (.aload_n 0, 1) := by decide +kernel
theorem dX12_go_118 : decode cX12_go 118 = .ok (.getfield 100, 3) := by decide +kernel
theorem dX12_go_121 : decode cX12_go 121 = .ok (.iaload, 1) := by decide +kernel
theorem dX12_go_122 : decode cX12_go 122 = .ok (.istore_n 1, 1) := by decide +kernel
theorem dX12_go_123 : decode cX12_go 123 = .ok (.iload_n 1, 1) := by decide +kernel
theorem dX12_go_124 : decode cX12_go 124 = .ok (.invokestatic 112, 3) := by decide +kernel
theorem dX12_go_127 : decode cX12_go 127 = .ok (.ifCond .ne 71, 3) := by decide +kernel
theorem dX12_go_130 : decode cX12_go 130 = .ok (.iload_n 1, 1) := by decide +kernel
theorem dX12_go_131 : decode cX12_go 131 = .ok (.invokestatic 116, 3) := by decide +kernel
theorem dX12_go_134 : decode cX12_go 134 = .ok (.ifCond .ne 64, 3) := by decide +kernel
theorem dX12_go_137 : decode cX12_go 137 = .ok (.aload_n 0, 1) := by decide +kernel
theorem dX12_go_138 : decode cX12_go 138 = .ok (.iload_n 1, 1) := by decide +kernel
theorem dX12_go_139 : decode cX12_go 139 = .ok (.bipush 59, 2) := by decide +kernel
theorem dX12_go_141 : decode cX12_go 141 = .ok (.if_icmp .eq 33, 3) := by decide +kernel
theorem dX12_go_144 : decode cX12_go 144 = .ok (.iload_n 1, 1) := by decide +kernel
theorem dX12_go_145 : decode cX12_go 145 = .ok (.bipush 60, 2) := by decide +kernel
theorem dX12_go_147 : decode cX12_go 147 = .ok (.if_icmp .eq 27, 3) := by decide +kernel
theorem dX12_go_150 : decode cX12_go 150 = .ok (.iload_n 1, 1) := by decide +kernel
theorem dX12_go_151 : decode cX12_go 151 = .ok (.bipush 61, 2) := by decide +kernel
theorem dX12_go_153 : decode cX12_go 153 = .ok (.if_icmp .eq 21, 3) := by decide +kernel
theorem dX12_go_156 : decode cX12_go 156 = .ok (.iload_n 1, 1) := by decide +kernel
theorem dX12_go_157 : decode cX12_go 157 = .ok (.bipush 62, 2) := by decide +kernel
theorem dX12_go_159 : decode cX12_go 159 = .ok (.if_icmp .eq 15, 3) := by decide +kernel
theorem dX12_go_162 : decode cX12_go 162 = .ok (.iload_n 1, 1) := by decide +kernel
theorem dX12_go_163 : decode cX12_go 163 = .ok (.bipush 40, 2) := by decide +kernel
theorem dX12_go_165 : decode cX12_go 165 = .ok (.if_icmp .eq 9, 3) := by decide +kernel
theorem dX12_go_168 : decode cX12_go 168 = .ok (.iload_n 1, 1) := by decide +kernel
theorem dX12_go_169 : decode cX12_go 169 = .ok (.bipush 41, 2) := by decide +kernel
theorem dX12_go_171 : decode cX12_go 171 = .ok (.if_icmp .ne 7, 3) := by decide +kernel
theorem dX12_go_174 : decode cX12_go 174 = .ok (.iconst 4, 1) := by decide +kernel
theorem dX12_go_175 : decode cX12_go 175 = .ok (.goto 4, 3) := by decide +kernel
theorem dX12_go_178 : decode cX12_go 178 = .ok (.iconst 1, 1) := by decide +kernel
theorem dX12_go_179 : decode cX12_go 179 = .ok (.putfield 109, 3) := by decide +kernel
theorem dX12_go_182 : decode cX12_go 182 = .ok (.aload_n 0, 1) := by decide +kernel
theorem dX12_go_183 : decode cX12_go 183 = .ok (.iload_n 1, 1) := by decide +kernel
theorem dX12_go_184 : decode cX12_go 184 = .ok (.putfield 119, 3) := by decide +kernel
theorem dX12_go_187 : decode cX12_go 187 = .ok (.aload_n 0, 1) := by decide +kernel
theorem dX12_go_188 : decode cX12_go 188 = .ok (.dup, 1) := by decide +kernel
theorem dX12_go_189 : decode cX12_go 189 = .ok (.getfield 100, 3) := by decide +kernel
theorem dX12_go_192 : decode cX12_go 192 = .ok (.iconst 1, 1) := by decide +kernel
theorem dX12_go_193 : decode cX12_go 193 = .ok (.iadd, 1) := by decide +kernel
theorem dX12_go_194 : decode cX12_go 194 = .ok (.putfield 100, 3) := by decide +kernel
theorem dX12_go_197 : decode cX12_go 197 = .ok (.return_, 1) := by decide +kernel
theorem dX12_go_198 : decode cX12_go 198 = .ok (.iload_n 1, 1) := by decide +kernel
theorem dX12_go_199 : decode cX12_go 199 = .ok (.invokestatic 112, 3) := by decide +kernel
theorem dX12_go_202 : decode cX12_go 202 = .ok (.istore_n 2, 1) := by decide +kernel
theorem dX12_go_203 : decode cX12_go 203 = .ok (.iconst 1, 1) := by decide +kernel
theorem dX12_go_204 : decode cX12_go 204 = .ok (.istore_n 3, 1) := by decide +kernel
theorem dX12_go_205 : decode cX12_go 205 = .ok (.aload_n 0, 1) := by decide +kernel
theorem dX12_go_206 : decode cX12_go 206 = .ok (.lconst 0, 1) := by decide +kernel
theorem dX12_go_207 : decode cX12_go 207 = .ok (.putfield 122, 3) := by decide +kernel
theorem dX12_go_210 : decode cX12_go 210 = .ok (.aload_n 0, 1) := by decide +kernel
theorem dX12_go_211 : decode cX12_go 211 = .ok (.iconst 0, 1) := by decide +kernel
theorem dX12_go_212 : decode cX12_go 212 = .ok (.putfield 126, 3) := by decide +kernel
theorem dX12_go_215 : decode cX12_go 215 = .ok (.aload_n 0, 1) := by decide +kernel
theorem dX12_go_216 : decode cX12_go 216 = .ok (.aload_n 0, 1) := by decide +kernel
theorem dX12_go_217 : decode cX12_go 217 = .ok (.getfield 100, 3) := by decide +kernel
theorem dX12_go_220 : decode cX12_go 220 = .ok (.invokevirtual 129, 3) := by decide +kernel
theorem dX12_go_223 : decode cX12_go 223 = .ok (.invokestatic 112, 3) := by decide +kernel
theorem dX12_go_226 : decode cX12_go 226 = .ok (.ifCond .ne 17, 3) := by decide +kernel
theorem dX12_go_229 : decode cX12_go 229 = .ok (.aload_n 0, 1) := by decide +kernel
theorem dX12_go_230 : decode cX12_go 230 = .ok (.aload_n 0, 1) := by decide +kernel
theorem dX12_go_231 : decode cX12_go 231 = .ok (.getfield 100, 3) := by decide +kernel
theorem dX12_go_234 : decode cX12_go 234 = .ok (.invokevirtual 129, 3) := by decide +kernel
theorem dX12_go_237 : decode cX12_go 237 = .ok (.invokestatic 116, 3) := by decide +kernel
theorem dX12_go_240 : decode cX12_go 240 = .ok (.ifCond .eq 110, 3) := by decide +kernel
theorem dX12_go_243 : decode cX12_go 243 = .ok (.aload_n 0, 1) := by decide +kernel
theorem dX12_go_244 : decode cX12_go 244 = .ok (.getfield 7, 3) := by decide +kernel
theorem dX12_go_247 : decode cX12_go 247 = .ok (.aload_n 0, 1) := by decide +kernel
theorem dX12_go_248 : decode cX12_go 248 = .ok (.getfield 100, 3) := by decide +kernel
theorem dX12_go_251 : decode cX12_go 251 = .ok (.iaload, 1) := by decide +kernel
theorem dX12_go_252 : decode cX12_go 252 = .ok (.istore 4, 2) := by decide +kernel
theorem dX12_go_254 : decode cX12_go 254 = .ok (.iload_n 3, 1) := by decide +kernel
theorem dX12_go_255 : decode cX12_go 255 = .ok (.ifCond .eq 16, 3) := by decide +kernel
theorem dX12_go_258 : decode cX12_go 258 = .ok (.iload 4, 2) := by decide +kernel
theorem dX12_go_260 : decode cX12_go 260 = .ok (.invokestatic 112, 3) := by decide +kernel
theorem dX12_go_263 : decode cX12_go 263 = .ok (.iload_n 2, 1) := by decide +kernel
theorem dX12_go_264 : decode cX12_go 264 = .ok (.if_icmp .ne 7, 3) := by decide +kernel
theorem dX12_go_267 : decode cX12_go 267 = .ok (.iconst 1, 1) := by decide +kernel
theorem dX12_go_268 : decode cX12_go 268 = .ok (.goto 4, 3) := by decide +kernel
theorem dX12_go_271 : decode cX12_go 271 = .ok (.iconst 0, 1) := by decide +kernel
theorem dX12_go_272 : decode cX12_go 272 = .ok (.istore_n 3, 1) := by decide +kernel
theorem dX12_go_273 : decode cX12_go 273 = .ok (.aload_n 0, 1) := by decide +kernel
theorem dX12_go_274 : decode cX12_go 274 = .ok (.getfield 100, 3) := by decide +kernel
theorem dX12_go_277 : decode cX12_go 277 = .ok (.aload_n 0, 1) := by decide +kernel
theorem dX12_go_278 : decode cX12_go 278 = .ok (.getfield 103, 3) := by decide +kernel
theorem dX12_go_281 : decode cX12_go 281 = .ok (.isub, 1) := by decide +kernel
theorem dX12_go_282 : decode cX12_go 282 = .ok (.bipush 7, 2) := by decide +kernel
theorem dX12_go_284 : decode cX12_go 284 = .ok (.if_icmp .ge 23, 3) := by decide +kernel
theorem dX12_go_287 : decode cX12_go 287 = .ok (.aload_n 0, 1) := by decide +kernel
theorem dX12_go_288 : decode cX12_go 288 = .ok (.ldc2_w 133, 3) := by decide +kernel
theorem dX12_go_291 : decode cX12_go 291 = .ok (.aload_n 0, 1) := by decide +kernel
theorem dX12_go_292 : decode cX12_go 292 = .ok (.getfield 122, 3) := by decide +kernel
theorem dX12_go_295 : decode cX12_go 295 = .ok (.lmul, 1) := by decide +kernel
theorem dX12_go_296 : decode cX12_go 296 = .ok (.iload 4, 2) := by decide +kernel
theorem dX12_go_298 : decode cX12_go 298 = .ok (.i2l, 1) := by decide +kernel
theorem dX12_go_299 : decode cX12_go 299 = .ok (.ladd, 1) := by decide +kernel
theorem dX12_go_300 : decode cX12_go 300 = .ok (.ldc2_w 135, 3) := by decide +kernel
theorem dX12_go_303 : decode cX12_go 303 = .ok (.lsub, 1) := by decide +kernel
theorem dX12_go_304 : decode cX12_go 304 = .ok (.putfield 122, 3) := by decide +kernel
theorem dX12_go_307 : decode cX12_go 307 = .ok (.aload_n 0, 1) := by decide +kernel
theorem dX12_go_308 : decode cX12_go 308 = .ok (.getfield 100, 3) := by decide +kernel
theorem dX12_go_311 : decode cX12_go 311 = .ok (.aload_n 0, 1) := by decide +kernel
theorem dX12_go_312 : decode cX12_go 312 = .ok (.getfield 103, 3) := by decide +kernel
theorem dX12_go_315 : decode cX12_go 315 = .ok (.isub, 1) := by decide +kernel
theorem dX12_go_316 : decode cX12_go 316 = .ok (.iconst 3, 1) := by decide +kernel
theorem dX12_go_317 : decode cX12_go 317 = .ok (.if_icmp .ge 20, 3) := by decide +kernel
theorem dX12_go_320 : decode cX12_go 320 = .ok (.aload_n 0, 1) := by decide +kernel
theorem dX12_go_321 : decode cX12_go 321 = .ok (.bipush 10, 2) := by decide +kernel
theorem dX12_go_323 : decode cX12_go 323 = .ok (.aload_n 0, 1) := by decide +kernel
theorem dX12_go_324 : decode cX12_go 324 = .ok (.getfield 126, 3) := by decide +kernel
theorem dX12_go_327 : decode cX12_go 327 = .ok (.imul, 1) := by decide +kernel
theorem dX12_go_328 : decode cX12_go 328 = .ok (.iload 4, 2) := by decide +kernel
theorem dX12_go_330 : decode cX12_go 330 = .ok (.iadd, 1) := by decide +kernel
theorem dX12_go_331 : decode cX12_go 331 = .ok (.bipush 48, 2) := by decide +kernel
theorem dX12_go_333 : decode cX12_go 333 = .ok (.isub, 1) := by decide +kernel
theorem dX12_go_334 : decode cX12_go 334 = .ok (.putfield 126, 3) := by decide +kernel
theorem dX12_go_337 : decode cX12_go 337 = .ok (.aload_n 0, 1) := by decide +kernel
theorem dX12_go_338 : decode cX12_go 338 = .ok (.dup, 1) := by decide +kernel
theorem dX12_go_339 : decode cX12_go 339 = .ok (.getfield 100, 3) := by decide +kernel
theorem dX12_go_342 : decode cX12_go 342 = .ok (.iconst 1, 1) := by decide +kernel
theorem dX12_go_343 : decode cX12_go 343 = .ok (.iadd, 1) := by decide +kernel
theorem dX12_go_344 : decode cX12_go 344 = .ok (.putfield 100, 3) := by decide +kernel
theorem dX12_go_347 : decode cX12_go 347 = .ok (.goto (-132), 3) := by decide +kernel
theorem dX12_go_350 : decode cX12_go 350 = .ok (.aload_n 0, 1) := by decide +kernel
theorem dX12_go_351 : decode cX12_go 351 = .ok (.iload_n 3, 1) := by decide +kernel
theorem dX12_go_352 : decode cX12_go 352 = .ok (.ifCond .eq 25, 3) := by decide +kernel
theorem dX12_go_355 : decode cX12_go 355 = .ok (.aload_n 0, 1) := by decide +kernel
theorem dX12_go_356 : decode cX12_go 356 = .ok (.getfield 100, 3) := by decide +kernel
theorem dX12_go_359 : decode cX12_go 359 = .ok (.aload_n 0, 1) := by decide +kernel
theorem dX12_go_360 : decode cX12_go 360 = .ok (.getfield 103, 3) := by decide +kernel
theorem dX12_go_363 : decode cX12_go 363 = .ok (.isub, 1) := by decide +kernel
theorem dX12_go_364 : decode cX12_go 364 = .ok (.iload_n 2, 1) := by decide +kernel
theorem dX12_go_365 : decode cX12_go 365 = .ok (.ifCond .eq 8, 3) := by decide +kernel
theorem dX12_go_368 : decode cX12_go 368 = .ok (.bipush 7, 2) := by decide +kernel
theorem dX12_go_370 : decode cX12_go 370 = .ok (.goto 4, 3) := by decide +kernel
theorem dX12_go_373 : decode cX12_go 373 = .ok (.iconst 3, 1) := by decide +kernel
theorem dX12_go_374 : decode cX12_go 374 = .ok (.if_icmp .le 7, 3) := by decide +kernel
theorem dX12_go_377 : decode cX12_go 377 = .ok (.iconst 1, 1) := by decide +kernel
theorem dX12_go_378 : decode cX12_go 378 = .ok (.goto 12, 3) := by decide +kernel
theorem dX12_go_381 : decode cX12_go 381 = .ok (.iload_n 2, 1) := by decide +kernel
theorem dX12_go_382 : decode cX12_go 382 = .ok (.ifCond .eq 7, 3) := by decide +kernel
theorem dX12_go_385 : decode cX12_go 385 = .ok (.iconst 2, 1) := by decide +kernel
theorem dX12_go_386 : decode cX12_go 386 = .ok (.goto 4, 3) := by decide +kernel
theorem dX12_go_389 : decode cX12_go 389 = .ok (.iconst 3, 1) := by decide +kernel
theorem dX12_go_390 : decode cX12_go 390 = .ok (.putfield 109, 3) := by decide +kernel
theorem dX12_go_393 : decode cX12_go 393 = .ok (.return_, 1) := by decide +kernel
def f_M_go (n : Nat)   (σ : JSg) : Option (JSg) :=
  wh1 n (fun rc1  (s2 : JSg) => jn0 (lt_ (sp s2 179 6 (s2 179 5)) fun s4 => jn0 (if (s4 179 5) < (s4 179 3) then (chk (0 ≤ (s4 179 5) ∧ (s4 179 5) < 940) <| lt_ (s4 180 (s4 179 5).toNat) fun v6 => bd1 (f_M_isLetter v6 s4) fun r7 => jn0 (bd1 (f_M_isLetter v6 s4) fun r9 => lt_ r9 fun v10 => lt_ 1 fun v11 => lt_ (sp s4 179 12 0) fun s12 => lt_ (sp s12 179 8 0) fun s13 => wh2 n (fun rc14 (x15 : Int) (s16 : JSg) => bd1 (f_M_tapeAt (s16 179 5) s16) fun r17 => bd1 (f_M_isLetter r17 s16) fun r18 => jn0 (chk (0 ≤ (s16 179 5) ∧ (s16 179 5) < 940) <| lt_ (s16 180 (s16 179 5).toNat) fun v20 => jn1 (fun (u22 : Int) => lt_ u22 fun v23 => jn1 (fun  (s25 : JSg) => jn1 (fun  (s27 : JSg) => lt_ (sp s27 179 5 (w32 ((s27 179 5) + 1))) fun s28 => rc14 v23 s28) fun j26 => if (w32 ((s25 179 5) - (s25 179 6))) < 3 then (lt_ (sp s25 179 8 (w32 ((w32 ((w32 (10 * (s25 179 8))) + v20)) - 48))) fun s29 => j26 s29) else (j26 s25)) fun j24 => if (w32 ((s16 179 5) - (s16 179 6))) < 7 then (lt_ (sp s16 179 12 (w64 ((w64 ((w64 (27 * (s16 179 12))) + v20)) - 96))) fun s30 => j24 s30) else (j24 s16)) fun j21 => jn0 (j21 0) fun j31 => if x15 = 0 then (j31) else (bd1 (f_M_isLetter v20 s16) fun r32 => if r32 = v10 then (j21 1) else (j31))) fun j19 => if r18 = 0 then (bd1 (f_M_tapeAt (s16 179 5) s16) fun r33 => bd1 (f_M_isDigit r33 s16) fun r34 => if r34 = 0 then (jn1 (fun (u36 : Int) => lt_ (sp s16 179 7 u36) fun s37 => some s37) fun j35 => jn0 (j35 1) fun j38 => if x15 = 0 then (j38) else (jn1 (fun (u40 : Int) => if u40 < (w32 ((s16 179 5) - (s16 179 6))) then (j38) else (if v10 = 0 then (j35 3) else (j35 2))) fun j39 => if v10 = 0 then (j39 3) else (j39 7))) else (j19)) else (j19)) v11 s13) fun j8 => if r7 = 0 then (bd1 (f_M_isDigit v6 s4) fun r41 => if r41 = 0 then (jn1 (fun (u43 : Int) => lt_ (sp s4 179 7 u43) fun s44 => lt_ (sp s44 179 9 v6) fun s45 => lt_ (sp s45 179 5 (w32 ((s45 179 5) + 1))) fun s46 => some s46) fun j42 => jn0 (j42 4) fun j47 => if v6 = 59 then (j47) else (if v6 = 60 then (j47) else (if v6 = 61 then (j47) else (if v6 = 62 then (j47) else (if v6 = 40 then (j47) else (if v6 = 41 then (j47) else (j42 1))))))) else (j8)) else (j8)) else (lt_ (sp s4 179 7 0) fun s48 => some s48)) fun j5 => if (s4 179 4) < (s4 179 3) then (if (s4 179 6) < (s4 179 4) then (j5) else (lt_ (sp s4 179 6 (s4 179 4)) fun s49 => lt_ (sp s49 179 7 1) fun s50 => some s50)) else (j5)) fun j3 => if (s2 179 5) < (s2 179 3) then (chk (0 ≤ (s2 179 5) ∧ (s2 179 5) < 940) <| jn0 (lt_ (sp s2 179 5 (w32 ((s2 179 5) + 1))) fun s52 => rc1 s52) fun j51 => if (s2 180 (s2 179 5).toNat) = 32 then (j51) else (chk (0 ≤ (s2 179 5) ∧ (s2 179 5) < 940) <| if (s2 180 (s2 179 5).toNat) = 10 then (j51) else (j3))) else (j3)) (σ)
set_option maxRecDepth 20000 in
set_option maxHeartbeats 4000000 in
theorem k_M_go  (n : Nat)    (σ : JSg) : Call yX12_go cX12_go 5 none 1 SH RHO [vR 179] σ dVm (f_M_go n σ) := by
  refine call_of_sim (by decide +kernel) (Nat.le_of_ble_eq_true rfl) ?_
  show Sim RX12 cX12_go 5 none 1 SH RHO 0 [(0, vR 179)] [] σ dVm (f_M_go n σ)
  unfold f_M_go
  refine sim_sub [0] (L' := [(0, vR 179)]) rfl ?_
  refine sim_wh1 (fun  (s2 : JSg) => [(0, vR 179)]) (fun  (s2 : JSg) => s2) ?_ n (σ)
  intro rc1 hrc1 s2
  refine sim_aload_n 0 rfl dX12_go_0 ?_
  refine sim_getI g_RX12_100 sh_179 dX12_go_1 ?_
  refine sim_aload_n 0 rfl dX12_go_4 ?_
  refine sim_getI g_RX12_97 sh_179 dX12_go_5 ?_
  refine sim_jn0 (pc' := 52) ([(0, vR 179)]) ([]) (s2) ?_ (fun j3 hj3 => ?_)
  · refine sim_aload_n 0 rfl dX12_go_52 ?_
    refine sim_aload_n 0 rfl dX12_go_53 ?_
    refine sim_getI g_RX12_100 sh_179 dX12_go_54 ?_
    refine sim_putI g_RX12_103 sh_179 dX12_go_57 (fun s4 => ?_)
    refine sim_aload_n 0 rfl dX12_go_60 ?_
    refine sim_getI g_RX12_97 sh_179 dX12_go_61 ?_
    refine sim_aload_n 0 rfl dX12_go_64 ?_
    refine sim_getI g_RX12_106 sh_179 dX12_go_65 ?_
    refine sim_jn0 (pc' := 96) ([(0, vR 179)]) ([]) (s4) ?_ (fun j5 hj5 => ?_)
    · refine sim_aload_n 0 rfl dX12_go_96 ?_
      refine sim_getI g_RX12_100 sh_179 dX12_go_97 ?_
      refine sim_aload_n 0 rfl dX12_go_100 ?_
      refine sim_getI g_RX12_97 sh_179 dX12_go_101 ?_
      refine sim_icmp_lt (tgt := 113) dX12_go_104 (by decide) ?_ ?_
      · refine sim_aload_n 0 rfl dX12_go_113 ?_
        refine sim_getR g_RX12_7 sh_179 rh_179_1 dX12_go_114 ?_
        refine sim_aload_n 0 rfl dX12_go_117 ?_
        refine sim_getI g_RX12_100 sh_179 dX12_go_118 ?_
        refine sim_iaload sh_180 rfl dX12_go_121 ?_
        refine sim_istore_n (fun v6 => [(1, vI v6), (0, vR 179)]) (fun _ => rfl) (by decide) dX12_go_122 (fun v6 => ?_)
        refine sim_iload_n 0 rfl dX12_go_123 ?_
        refine sim_callSIp s_RX12_112 dX12_go_124 (k_M_isLetter SH RHO v6 s4) rfl ⟨by decide, by decide⟩ (S := []) rfl (Nat.le_of_ble_eq_true rfl) (fun r7 => ?_)
        refine sim_jn0 (pc' := 198) ([(0, vR 179), (1, vI v6)]) ([]) (s4) ?_ (fun j8 hj8 => ?_)
        · refine sim_iload_n 1 rfl dX12_go_198 ?_
          refine sim_callSIp s_RX12_112 dX12_go_199 (k_M_isLetter SH RHO v6 s4) rfl ⟨by decide, by decide⟩ (S := []) rfl (Nat.le_of_ble_eq_true rfl) (fun r9 => ?_)
          refine sim_istore_n (fun v10 => [(2, vI v10), (0, vR 179), (1, vI v6)]) (fun _ => rfl) (by decide) dX12_go_202 (fun v10 => ?_)
          refine sim_iconst dX12_go_203 (by decide) ?_
          refine sim_istore_n (fun v11 => [(3, vI v11), (2, vI v10), (0, vR 179), (1, vI v6)]) (fun _ => rfl) (by decide) dX12_go_204 (fun v11 => ?_)
          refine sim_aload_n 2 rfl dX12_go_205 ?_
          refine sim_lconst (v := 0) dX12_go_206 (by decide +kernel) ?_
          refine sim_putL g_RX12_122 sh_179 dX12_go_207 (fun s12 => ?_)
          refine sim_aload_n 2 rfl dX12_go_210 ?_
          refine sim_iconst dX12_go_211 (by decide) ?_
          refine sim_putI g_RX12_126 sh_179 dX12_go_212 (fun s13 => ?_)
          refine sim_sub [2, 1, 0] (L' := [(0, vR 179), (2, vI v10), (3, vI v11)]) rfl ?_
          refine sim_wh2 (fun (x15 : Int) (s16 : JSg) => [(0, vR 179), (2, vI v10), (3, vI x15)]) (fun (x15 : Int) (s16 : JSg) => s16) ?_ n v11 s13
          intro rc14 hrc14 x15 s16
          refine sim_aload_n 0 rfl dX12_go_215 ?_
          refine sim_aload_n 0 rfl dX12_go_216 ?_
          refine sim_getI g_RX12_100 sh_179 dX12_go_217 ?_
          refine sim_callVIp v_RX12_129 sh_179 dX12_go_220 (k_M_tapeAt (s16 179 5) s16) rfl ⟨by decide, by decide⟩ (S := []) rfl (Nat.le_of_ble_eq_true rfl) (fun r17 => ?_)
          refine sim_callSIp s_RX12_112 dX12_go_223 (k_M_isLetter SH RHO r17 s16) rfl ⟨by decide, by decide⟩ (S := []) rfl (Nat.le_of_ble_eq_true rfl) (fun r18 => ?_)
          refine sim_jn0 (pc' := 243) ([(0, vR 179), (2, vI v10), (3, vI x15)]) ([]) (s16) ?_ (fun j19 hj19 => ?_)
          · refine sim_aload_n 0 rfl dX12_go_243 ?_
            refine sim_getR g_RX12_7 sh_179 rh_179_1 dX12_go_244 ?_
            refine sim_aload_n 0 rfl dX12_go_247 ?_
            refine sim_getI g_RX12_100 sh_179 dX12_go_248 ?_
            refine sim_iaload sh_180 rfl dX12_go_251 ?_
            refine sim_istore (fun v20 => [(4, vI v20), (0, vR 179), (2, vI v10), (3, vI x15)]) (fun _ => rfl) (by decide) dX12_go_252 (fun v20 => ?_)
            refine sim_iload_n 3 rfl dX12_go_254 ?_
            refine sim_jn1 (pc' := 272) (fun (u22 : Int) => [(0, vR 179), (2, vI v10), (4, vI v20)]) (fun (u22 : Int) => [vI u22]) (fun (u22 : Int) => s16) ?_ (fun j21 hj21 => ?_)
            · intro u22
              refine sim_istore_n (fun v23 => [(3, vI v23), (0, vR 179), (2, vI v10), (4, vI v20)]) (fun _ => rfl) (by decide) dX12_go_272 (fun v23 => ?_)
              refine sim_aload_n 1 rfl dX12_go_273 ?_
              refine sim_getI g_RX12_100 sh_179 dX12_go_274 ?_
              refine sim_aload_n 1 rfl dX12_go_277 ?_
              refine sim_getI g_RX12_103 sh_179 dX12_go_278 ?_
              refine sim_isub dX12_go_281 ?_
              refine sim_bipush dX12_go_282 (by decide +kernel) ?_
              refine sim_jn1 (pc' := 307) (fun  (s25 : JSg) => [(0, vR 179), (2, vI v10), (3, vI v23), (4, vI v20)]) (fun  (s25 : JSg) => []) (fun  (s25 : JSg) => s25) ?_ (fun j24 hj24 => ?_)
              · intro s25
                refine sim_aload_n 0 rfl dX12_go_307 ?_
                refine sim_getI g_RX12_100 sh_179 dX12_go_308 ?_
                refine sim_aload_n 0 rfl dX12_go_311 ?_
                refine sim_getI g_RX12_103 sh_179 dX12_go_312 ?_
                refine sim_isub dX12_go_315 ?_
                refine sim_iconst dX12_go_316 (by decide) ?_
                refine sim_jn1 (pc' := 337) (fun  (s27 : JSg) => [(0, vR 179), (2, vI v10), (3, vI v23)]) (fun  (s27 : JSg) => []) (fun  (s27 : JSg) => s27) ?_ (fun j26 hj26 => ?_)
                · intro s27
                  refine sim_aload_n 0 rfl dX12_go_337 ?_
                  refine sim_dup rfl dX12_go_338 ?_
                  refine sim_getI g_RX12_100 sh_179 dX12_go_339 ?_
                  refine sim_iconst dX12_go_342 (by decide) ?_
                  refine sim_iadd dX12_go_343 ?_
                  refine sim_putI g_RX12_100 sh_179 dX12_go_344 (fun s28 => ?_)
                  refine sim_goto (tgt := 215) dX12_go_347 (by decide) ?_
                  exact sim_sub [0, 1, 2] rfl (hrc14 v23 s28)
                refine sim_icmp_ge (tgt := 337) dX12_go_317 (by decide) ?_ ?_
                · exact sim_sub [0, 1, 2] rfl (hj26 s25)
                · refine sim_aload_n 0 rfl dX12_go_320 ?_
                  refine sim_bipush dX12_go_321 (by decide +kernel) ?_
                  refine sim_aload_n 0 rfl dX12_go_323 ?_
                  refine sim_getI g_RX12_126 sh_179 dX12_go_324 ?_
                  refine sim_imul dX12_go_327 ?_
                  refine sim_iload 3 rfl dX12_go_328 ?_
                  refine sim_iadd dX12_go_330 ?_
                  refine sim_bipush dX12_go_331 (by decide +kernel) ?_
                  refine sim_isub dX12_go_333 ?_
                  refine sim_putI g_RX12_126 sh_179 dX12_go_334 (fun s29 => ?_)
                  exact sim_sub [0, 1, 2] rfl (hj26 s29)
              refine sim_icmp_ge (tgt := 307) dX12_go_284 (by decide) ?_ ?_
              · exact sim_sub [1, 2, 0, 3] rfl (hj24 s16)
              · refine sim_aload_n 1 rfl dX12_go_287 ?_
                refine sim_ldc2 (v := 27) w_1687 (by decide +kernel) dX12_go_288 ?_
                refine sim_aload_n 1 rfl dX12_go_291 ?_
                refine sim_getL g_RX12_122 sh_179 dX12_go_292 ?_
                refine sim_lmul dX12_go_295 ?_
                refine sim_iload 3 rfl dX12_go_296 ?_
                refine sim_i2l dX12_go_298 ?_
                refine sim_ladd dX12_go_299 ?_
                refine sim_ldc2 (v := 96) w_1688 (by decide +kernel) dX12_go_300 ?_
                refine sim_lsub dX12_go_303 ?_
                refine sim_putL g_RX12_122 sh_179 dX12_go_304 (fun s30 => ?_)
                exact sim_sub [1, 2, 0, 3] rfl (hj24 s30)
            refine sim_jn0 (pc' := 271) ([(0, vR 179), (2, vI v10), (4, vI v20)]) ([]) (s16) ?_ (fun j31 hj31 => ?_)
            · refine sim_iconst dX12_go_271 (by decide) ?_
              exact sim_sub [0, 1, 2] rfl (hj21 0)
            refine sim_if_eq (tgt := 271) dX12_go_255 (by decide) ?_ ?_
            · exact sim_sub [1, 2, 0] rfl (hj31 )
            · refine sim_iload 0 rfl dX12_go_258 ?_
              refine sim_callSIp s_RX12_112 dX12_go_260 (k_M_isLetter SH RHO v20 s16) rfl ⟨by decide, by decide⟩ (S := []) rfl (Nat.le_of_ble_eq_true rfl) (fun r32 => ?_)
              refine sim_iload_n 2 rfl dX12_go_263 ?_
              refine sim_icmp_ne (tgt := 271) dX12_go_264 (by decide) ?_ ?_
              · exact sim_sub [1, 2, 0] rfl (hj31 )
              · refine sim_iconst dX12_go_267 (by decide) ?_
                refine sim_goto (tgt := 272) dX12_go_268 (by decide) ?_
                exact sim_sub [1, 2, 0] rfl (hj21 1)
          refine sim_if_ne (tgt := 243) dX12_go_226 (by decide) ?_ ?_
          · exact sim_sub [0, 1, 2] rfl (hj19 )
          · refine sim_aload_n 0 rfl dX12_go_229 ?_
            refine sim_aload_n 0 rfl dX12_go_230 ?_
            refine sim_getI g_RX12_100 sh_179 dX12_go_231 ?_
            refine sim_callVIp v_RX12_129 sh_179 dX12_go_234 (k_M_tapeAt (s16 179 5) s16) rfl ⟨by decide, by decide⟩ (S := []) rfl (Nat.le_of_ble_eq_true rfl) (fun r33 => ?_)
            refine sim_callSIp s_RX12_116 dX12_go_237 (k_M_isDigit SH RHO r33 s16) rfl ⟨by decide, by decide⟩ (S := []) rfl (Nat.le_of_ble_eq_true rfl) (fun r34 => ?_)
            refine sim_if_eq (tgt := 350) dX12_go_240 (by decide) ?_ ?_
            · refine sim_aload_n 0 rfl dX12_go_350 ?_
              refine sim_iload_n 2 rfl dX12_go_351 ?_
              refine sim_jn1 (pc' := 390) (fun (u36 : Int) => []) (fun (u36 : Int) => [vI u36, vR 179]) (fun (u36 : Int) => s16) ?_ (fun j35 hj35 => ?_)
              · intro u36
                refine sim_putI g_RX12_109 sh_179 dX12_go_390 (fun s37 => ?_)
                exact sim_vret rfl rfl dX12_go_393
              refine sim_jn0 (pc' := 377) ([]) ([vR 179]) (s16) ?_ (fun j38 hj38 => ?_)
              · refine sim_iconst dX12_go_377 (by decide) ?_
                refine sim_goto (tgt := 390) dX12_go_378 (by decide) ?_
                exact sim_sub [] rfl (hj35 1)
              refine sim_if_eq (tgt := 377) dX12_go_352 (by decide) ?_ ?_
              · exact sim_sub [] rfl (hj38 )
              · refine sim_aload_n 0 rfl dX12_go_355 ?_
                refine sim_getI g_RX12_100 sh_179 dX12_go_356 ?_
                refine sim_aload_n 0 rfl dX12_go_359 ?_
                refine sim_getI g_RX12_103 sh_179 dX12_go_360 ?_
                refine sim_isub dX12_go_363 ?_
                refine sim_iload_n 1 rfl dX12_go_364 ?_
                refine sim_jn1 (pc' := 374) (fun (u40 : Int) => [(2, vI v10)]) (fun (u40 : Int) => [vI u40, vI (w32 ((s16 179 5) - (s16 179 6))), vR 179]) (fun (u40 : Int) => s16) ?_ (fun j39 hj39 => ?_)
                · intro u40
                  refine sim_icmp_le (tgt := 381) dX12_go_374 (by decide) ?_ ?_
                  · refine sim_iload_n 0 rfl dX12_go_381 ?_
                    refine sim_if_eq (tgt := 389) dX12_go_382 (by decide) ?_ ?_
                    · refine sim_iconst dX12_go_389 (by decide) ?_
                      exact sim_sub [] rfl (hj35 3)
                    · refine sim_iconst dX12_go_385 (by decide) ?_
                      refine sim_goto (tgt := 390) dX12_go_386 (by decide) ?_
                      exact sim_sub [] rfl (hj35 2)
                  · exact sim_sub [] rfl (hj38 )
                refine sim_if_eq (tgt := 373) dX12_go_365 (by decide) ?_ ?_
                · refine sim_iconst dX12_go_373 (by decide) ?_
                  exact sim_sub [1] rfl (hj39 3)
                · refine sim_bipush dX12_go_368 (by decide +kernel) ?_
                  refine sim_goto (tgt := 374) dX12_go_370 (by decide) ?_
                  exact sim_sub [1] rfl (hj39 7)
            · exact sim_sub [0, 1, 2] rfl (hj19 )
        refine sim_if_ne (tgt := 198) dX12_go_127 (by decide) ?_ ?_
        · exact sim_sub [1, 0] rfl (hj8 )
        · refine sim_iload_n 0 rfl dX12_go_130 ?_
          refine sim_callSIp s_RX12_116 dX12_go_131 (k_M_isDigit SH RHO v6 s4) rfl ⟨by decide, by decide⟩ (S := []) rfl (Nat.le_of_ble_eq_true rfl) (fun r41 => ?_)
          refine sim_if_ne (tgt := 198) dX12_go_134 (by decide) ?_ ?_
          · exact sim_sub [1, 0] rfl (hj8 )
          · refine sim_aload_n 1 rfl dX12_go_137 ?_
            refine sim_iload_n 0 rfl dX12_go_138 ?_
            refine sim_bipush dX12_go_139 (by decide +kernel) ?_
            refine sim_jn1 (pc' := 179) (fun (u43 : Int) => [(0, vR 179), (1, vI v6)]) (fun (u43 : Int) => [vI u43, vR 179]) (fun (u43 : Int) => s4) ?_ (fun j42 hj42 => ?_)
            · intro u43
              refine sim_putI g_RX12_109 sh_179 dX12_go_179 (fun s44 => ?_)
              refine sim_aload_n 0 rfl dX12_go_182 ?_
              refine sim_iload_n 1 rfl dX12_go_183 ?_
              refine sim_putI g_RX12_119 sh_179 dX12_go_184 (fun s45 => ?_)
              refine sim_aload_n 0 rfl dX12_go_187 ?_
              refine sim_dup rfl dX12_go_188 ?_
              refine sim_getI g_RX12_100 sh_179 dX12_go_189 ?_
              refine sim_iconst dX12_go_192 (by decide) ?_
              refine sim_iadd dX12_go_193 ?_
              refine sim_putI g_RX12_100 sh_179 dX12_go_194 (fun s46 => ?_)
              exact sim_vret rfl rfl dX12_go_197
            refine sim_jn0 (pc' := 174) ([(0, vR 179), (1, vI v6)]) ([vR 179]) (s4) ?_ (fun j47 hj47 => ?_)
            · refine sim_iconst dX12_go_174 (by decide) ?_
              refine sim_goto (tgt := 179) dX12_go_175 (by decide) ?_
              exact sim_sub [0, 1] rfl (hj42 4)
            refine sim_icmp_eq (tgt := 174) dX12_go_141 (by decide) ?_ ?_
            · exact sim_sub [1, 0] rfl (hj47 )
            · refine sim_iload_n 0 rfl dX12_go_144 ?_
              refine sim_bipush dX12_go_145 (by decide +kernel) ?_
              refine sim_icmp_eq (tgt := 174) dX12_go_147 (by decide) ?_ ?_
              · exact sim_sub [1, 0] rfl (hj47 )
              · refine sim_iload_n 0 rfl dX12_go_150 ?_
                refine sim_bipush dX12_go_151 (by decide +kernel) ?_
                refine sim_icmp_eq (tgt := 174) dX12_go_153 (by decide) ?_ ?_
                · exact sim_sub [1, 0] rfl (hj47 )
                · refine sim_iload_n 0 rfl dX12_go_156 ?_
                  refine sim_bipush dX12_go_157 (by decide +kernel) ?_
                  refine sim_icmp_eq (tgt := 174) dX12_go_159 (by decide) ?_ ?_
                  · exact sim_sub [1, 0] rfl (hj47 )
                  · refine sim_iload_n 0 rfl dX12_go_162 ?_
                    refine sim_bipush dX12_go_163 (by decide +kernel) ?_
                    refine sim_icmp_eq (tgt := 174) dX12_go_165 (by decide) ?_ ?_
                    · exact sim_sub [1, 0] rfl (hj47 )
                    · refine sim_iload_n 0 rfl dX12_go_168 ?_
                      refine sim_bipush dX12_go_169 (by decide +kernel) ?_
                      refine sim_icmp_ne (tgt := 178) dX12_go_171 (by decide) ?_ ?_
                      · refine sim_iconst dX12_go_178 (by decide) ?_
                        exact sim_sub [1, 0] rfl (hj42 1)
                      · exact sim_sub [1, 0] rfl (hj47 )
      · refine sim_aload_n 0 rfl dX12_go_107 ?_
        refine sim_iconst dX12_go_108 (by decide) ?_
        refine sim_putI g_RX12_109 sh_179 dX12_go_109 (fun s48 => ?_)
        exact sim_vret rfl rfl dX12_go_112
    refine sim_icmp_le (tgt := 96) dX12_go_68 (by decide) ?_ ?_
    · exact sim_sub [0] rfl (hj5 )
    · refine sim_aload_n 0 rfl dX12_go_71 ?_
      refine sim_getI g_RX12_103 sh_179 dX12_go_72 ?_
      refine sim_aload_n 0 rfl dX12_go_75 ?_
      refine sim_getI g_RX12_106 sh_179 dX12_go_76 ?_
      refine sim_icmp_lt (tgt := 96) dX12_go_79 (by decide) ?_ ?_
      · exact sim_sub [0] rfl (hj5 )
      · refine sim_aload_n 0 rfl dX12_go_82 ?_
        refine sim_aload_n 0 rfl dX12_go_83 ?_
        refine sim_getI g_RX12_106 sh_179 dX12_go_84 ?_
        refine sim_putI g_RX12_103 sh_179 dX12_go_87 (fun s49 => ?_)
        refine sim_aload_n 0 rfl dX12_go_90 ?_
        refine sim_iconst dX12_go_91 (by decide) ?_
        refine sim_putI g_RX12_109 sh_179 dX12_go_92 (fun s50 => ?_)
        exact sim_vret rfl rfl dX12_go_95
  refine sim_icmp_ge (tgt := 52) dX12_go_8 (by decide) ?_ ?_
  · exact sim_sub [0] rfl (hj3 )
  · refine sim_aload_n 0 rfl dX12_go_11 ?_
    refine sim_getR g_RX12_7 sh_179 rh_179_1 dX12_go_12 ?_
    refine sim_aload_n 0 rfl dX12_go_15 ?_
    refine sim_getI g_RX12_100 sh_179 dX12_go_16 ?_
    refine sim_iaload sh_180 rfl dX12_go_19 ?_
    refine sim_bipush dX12_go_20 (by decide +kernel) ?_
    refine sim_jn0 (pc' := 39) ([(0, vR 179)]) ([]) (s2) ?_ (fun j51 hj51 => ?_)
    · refine sim_aload_n 0 rfl dX12_go_39 ?_
      refine sim_dup rfl dX12_go_40 ?_
      refine sim_getI g_RX12_100 sh_179 dX12_go_41 ?_
      refine sim_iconst dX12_go_44 (by decide) ?_
      refine sim_iadd dX12_go_45 ?_
      refine sim_putI g_RX12_100 sh_179 dX12_go_46 (fun s52 => ?_)
      refine sim_goto (tgt := 0) dX12_go_49 (by decide) ?_
      exact sim_sub [0] rfl (hrc1 s52)
    refine sim_icmp_eq (tgt := 39) dX12_go_22 (by decide) ?_ ?_
    · exact sim_sub [0] rfl (hj51 )
    · refine sim_aload_n 0 rfl dX12_go_25 ?_
      refine sim_getR g_RX12_7 sh_179 rh_179_1 dX12_go_26 ?_
      refine sim_aload_n 0 rfl dX12_go_29 ?_
      refine sim_getI g_RX12_100 sh_179 dX12_go_30 ?_
      refine sim_iaload sh_180 rfl dX12_go_33 ?_
      refine sim_bipush dX12_go_34 (by decide +kernel) ?_
      refine sim_icmp_ne (tgt := 52) dX12_go_36 (by decide) ?_ ?_
      · exact sim_sub [0] rfl (hj3 )
      · exact sim_sub [0] rfl (hj51 )
theorem dX12_begin_0 : decode cX12_begin 0 = .ok (.aload_n 0, 1) := by decide +kernel
theorem dX12_begin_1 : decode cX12_begin 1 = .ok (.iconst 0, 1) := by decide +kernel
theorem dX12_begin_2 : decode cX12_begin 2 = .ok (.putfield 87, 3) := by decide +kernel
theorem dX12_begin_5 : decode cX12_begin 5 = .ok (.aload_n 0, 1) := by decide +kernel
theorem dX12_begin_6 : decode cX12_begin 6 = .ok (.invokevirtual 175, 3) := by decide +kernel
theorem dX12_begin_9 : decode cX12_begin 9 = .ok (.aload_n 0, 1) := by decide +kernel
theorem dX12_begin_10 : decode cX12_begin 10 = .ok (.aload_n 0, 1) := by decide +kernel
theorem dX12_begin_11 : decode cX12_begin 11 = .ok (.invokevirtual 178, 3) := by decide +kernel
theorem dX12_begin_14 : decode cX12_begin 14 = .ok (.putfield 97, 3) := by decide +kernel
theorem dX12_begin_17 : decode cX12_begin 17 = .ok (.aload_n 0, 1) := by decide +kernel
theorem dX12_begin_18 : decode cX12_begin 18 = .ok (.iload_n 1, 1) := by decide +kernel
theorem dX12_begin_19 : decode cX12_begin 19 = .ok (.putfield 106, 3) := by decide +kernel
theorem dX12_begin_22 : decode cX12_begin 22 = .ok (.aload_n 0, 1) := by decide +kernel
theorem dX12_begin_23 : decode cX12_begin 23 = .ok (.iconst 0, 1) := by decide +kernel
theorem dX12_begin_24 : decode cX12_begin 24 = .ok (.putfield 149, 3) := by decide +kernel
theorem dX12_begin_27 : decode cX12_begin 27 = .ok (.aload_n 0, 1) := by decide +kernel
theorem dX12_begin_28 : decode cX12_begin 28 = .ok (.iconst 0, 1) := by decide +kernel
theorem dX12_begin_29 : decode cX12_begin 29 = .ok (.putfield 100, 3) := by decide +kernel
theorem dX12_begin_32 : decode cX12_begin 32 = .ok (.aload_n 0, 1) := by decide +kernel
theorem dX12_begin_33 : decode cX12_begin 33 = .ok (.invokevirtual 169, 3) := by decide +kernel
theorem dX12_begin_36 : decode cX12_begin 36 = .ok (.return_, 1) := by decide +kernel
def f_M_begin (n : Nat)  (a1 : Int) (σ : JSg) : Option (JSg) :=
  lt_ (sp σ 179 0 0) fun s1 => bd1 (f_M_layAll s1) fun s2 => bd2 (f_M_take s2) fun r3 s4 => lt_ (sp s4 179 3 r3) fun s5 => lt_ (sp s5 179 4 a1) fun s6 => lt_ (sp s6 179 10 0) fun s7 => lt_ (sp s7 179 5 0) fun s8 => bd1 (f_M_go n s8) fun s9 => some s9
set_option maxRecDepth 20000 in
set_option maxHeartbeats 4000000 in
theorem k_M_begin  (n : Nat)   (a1 : Int) (σ : JSg) : Call yX12_begin cX12_begin 2 none 2 SH RHO [vR 179, vI a1] σ dVm (f_M_begin n a1 σ) := by
  refine call_of_sim (by decide +kernel) (Nat.le_of_ble_eq_true rfl) ?_
  show Sim RX12 cX12_begin 2 none 2 SH RHO 0 [(0, vR 179), (1, vI a1)] [] σ dVm (f_M_begin n a1 σ)
  unfold f_M_begin
  refine sim_aload_n 0 rfl dX12_begin_0 ?_
  refine sim_iconst dX12_begin_1 (by decide) ?_
  refine sim_putI g_RX12_87 sh_179 dX12_begin_2 (fun s1 => ?_)
  refine sim_aload_n 0 rfl dX12_begin_5 ?_
  refine sim_callVVm v_RX12_175 sh_179 dX12_begin_6 (k_M_layAll s1) rfl ⟨by decide, by decide⟩ (S := []) rfl (Nat.le_of_ble_eq_true rfl) (fun s2 => ?_)
  refine sim_aload_n 0 rfl dX12_begin_9 ?_
  refine sim_aload_n 0 rfl dX12_begin_10 ?_
  refine sim_callVIm v_RX12_178 sh_179 dX12_begin_11 (k_M_take s2) rfl ⟨by decide, by decide⟩ (S := [vR 179]) rfl (Nat.le_of_ble_eq_true rfl) (fun r3 s4 => ?_)
  refine sim_putI g_RX12_97 sh_179 dX12_begin_14 (fun s5 => ?_)
  refine sim_aload_n 0 rfl dX12_begin_17 ?_
  refine sim_iload_n 1 rfl dX12_begin_18 ?_
  refine sim_putI g_RX12_106 sh_179 dX12_begin_19 (fun s6 => ?_)
  refine sim_aload_n 0 rfl dX12_begin_22 ?_
  refine sim_iconst dX12_begin_23 (by decide) ?_
  refine sim_putI g_RX12_149 sh_179 dX12_begin_24 (fun s7 => ?_)
  refine sim_aload_n 0 rfl dX12_begin_27 ?_
  refine sim_iconst dX12_begin_28 (by decide) ?_
  refine sim_putI g_RX12_100 sh_179 dX12_begin_29 (fun s8 => ?_)
  refine sim_aload_n 0 rfl dX12_begin_32 ?_
  refine sim_callVVm v_RX12_169 sh_179 dX12_begin_33 (k_M_go n s8) rfl ⟨by decide, by decide⟩ (S := []) rfl (Nat.le_of_ble_eq_true rfl) (fun s9 => ?_)
  exact sim_vret rfl rfl dX12_begin_36
