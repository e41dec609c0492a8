theorem dX11_dearest_0 : decode cX11_dearest 0 = .ok (.iconst (-1), 1) := by decide +kernel
theorem dX11_dearest_1 : decode cX11_dearest 1 = .ok (.istore_n 1, 1) := by decide +kernel
theorem dX11_dearest_2 : decode cX11_dearest 2 = .ok (.iconst 0, 1) := by decide +kernel
theorem dX11_dearest_3 : decode cX11_dearest 3 = .ok (.istore_n 2, 1) := by decide +kernel
theorem dX11_dearest_4 : decode cX11_dearest 4 = .ok (.iconst 0, 1) := by decide +kernel
theorem dX11_dearest_5 : decode cX11_dearest 5 = .ok (.istore_n 3, 1) := by decide +kernel
theorem dX11_dearest_6 : decode cX11_dearest 6 = .ok (.iload_n 3, 1) := by decide +kernel
theorem dX11_dearest_7 : decode cX11_dearest 7 = .ok (.aload_n 0, 1) := by decide +kernel
theorem dX11_dearest_8 : decode cX11_dearest 8 = .ok (.getfield 29, 3) := by decide +kernel
theorem dX11_dearest_11 : decode cX11_dearest 11 = .ok (.getfield 54, 3) := by decide +kernel
theorem dX11_dearest_14 : decode cX11_dearest 14 = .ok (.getfield 257, 3) := by decide +kernel
theorem dX11_dearest_17 : decode cX11_dearest 17 = .ok (.if_icmp .ge 52, 3) := by decide +kernel
theorem dX11_dearest_20 : decode cX11_dearest 20 = .ok (.aload_n 0, 1) := by decide +kernel
theorem dX11_dearest_21 : decode cX11_dearest 21 = .ok (.getfield 29, 3) := by decide +kernel
theorem dX11_dearest_24 : decode cX11_dearest 24 = .ok (.getfield 72, 3) := by decide +kernel
theorem dX11_dearest_27 : decode cX11_dearest 27 = .ok (.getfield 192, 3) := by decide +kernel
theorem dX11_dearest_30 : decode cX11_dearest 30 = .ok (.iload_n 3, 1) := by decide +kernel
theorem dX11_dearest_31 : decode cX11_dearest 31 = .ok (.iaload, 1) := by decide +kernel
theorem dX11_dearest_32 : decode cX11_dearest 32 = .ok (.aload_n 0, 1) := by decide +kernel
theorem dX11_dearest_33 : decode cX11_dearest 33 = .ok (.getfield 29, 3) := by decide +kernel
theorem dX11_dearest_36 : decode cX11_dearest 36 = .ok (.getfield 72, 3) := by decide +kernel
theorem dX11_dearest_39 : decode cX11_dearest 39 = .ok (.getfield 195, 3) := by decide +kernel
theorem dX11_dearest_42 : decode cX11_dearest 42 = .ok (.iload_n 3, 1) := by decide +kernel
theorem dX11_dearest_43 : decode cX11_dearest 43 = .ok (.iaload, 1) := by decide +kernel
theorem dX11_dearest_44 : decode cX11_dearest 44 = .ok (.isub, 1) := by decide +kernel
theorem dX11_dearest_45 : decode cX11_dearest 45 = .ok (.istore 4, 2) := by decide +kernel
theorem dX11_dearest_47 : decode cX11_dearest 47 = .ok (.iload_n 1, 1) := by decide +kernel
theorem dX11_dearest_48 : decode cX11_dearest 48 = .ok (.iconst (-1), 1) := by decide +kernel
theorem dX11_dearest_49 : decode cX11_dearest 49 = .ok (.if_icmp .eq 9, 3) := by decide +kernel
theorem dX11_dearest_52 : decode cX11_dearest 52 = .ok (.iload 4, 2) := by decide +kernel
theorem dX11_dearest_54 : decode cX11_dearest 54 = .ok (.iload_n 2, 1) := by decide +kernel
theorem dX11_dearest_55 : decode cX11_dearest 55 = .ok (.if_icmp .le 8, 3) := by decide +kernel
theorem dX11_dearest_58 : decode cX11_dearest 58 = .ok (.iload_n 3, 1) := by decide +kernel
theorem dX11_dearest_59 : decode cX11_dearest 59 = .ok (.istore_n 1, 1) := by decide +kernel
theorem dX11_dearest_60 : decode cX11_dearest 60 = .ok (.iload 4, 2) := by decide +kernel
theorem dX11_dearest_62 : decode cX11_dearest 62 = .ok (.istore_n 2, 1) := by decide +kernel
theorem dX11_dearest_63 : decode cX11_dearest 63 = .ok (.iinc 3 1, 3) := by decide +kernel
theorem dX11_dearest_66 : decode cX11_dearest 66 = .ok (.goto (-60), 3) := by decide +kernel
theorem dX11_dearest_69 : decode cX11_dearest 69 = .ok (.iload_n 1, 1) := by decide +kernel
theorem dX11_dearest_70 : decode cX11_dearest 70 = .ok (.ireturn, 1) := by decide +kernel
def f_W_dearest (n : Nat)   (σ : JSg) : Option (Int) :=
  lt_ (-1) fun v1 => lt_ 0 fun v2 => lt_ 0 fun v3 => wh3 n (fun rc4 (x5 : Int) (x6 : Int) (x7 : Int) => if x7 < (σ 4 1) then (chk (0 ≤ x7 ∧ x7 < 6) <| chk (0 ≤ x7 ∧ x7 < 6) <| lt_ (w32 ((σ 16 x7.toNat) - (σ 17 x7.toNat))) fun v8 => jn2 (fun (y10 : Int) (y11 : Int) => lt_ (w32 (x7 + 1)) fun v12 => rc4 y10 y11 v12) fun j9 => jn0 (lt_ x7 fun v14 => lt_ v8 fun v15 => j9 v14 v15) fun j13 => if x5 = (-1) then (j13) else (if x6 < v8 then (j13) else (j9 x5 x6))) else (some x5)) v1 v2 v3
set_option maxRecDepth 20000 in
set_option maxHeartbeats 4000000 in
theorem k_W_dearest  (n : Nat)    (σ : JSg) : Call yX11_dearest cX11_dearest 5 (some .int) 0 SH RHO [vR 0] σ (dIp σ) (f_W_dearest n σ) := by
  refine call_of_sim (by decide +kernel) (Nat.le_of_ble_eq_true rfl) ?_
  show Sim RX11 cX11_dearest 5 (some .int) 0 SH RHO 0 [(0, vR 0)] [] σ (dIp σ) (f_W_dearest n σ)
  unfold f_W_dearest
  refine sim_iconst dX11_dearest_0 (by decide) ?_
  refine sim_istore_n (fun v1 => [(1, vI v1), (0, vR 0)]) (fun _ => rfl) (by decide) dX11_dearest_1 (fun v1 => ?_)
  refine sim_iconst dX11_dearest_2 (by decide) ?_
  refine sim_istore_n (fun v2 => [(2, vI v2), (1, vI v1), (0, vR 0)]) (fun _ => rfl) (by decide) dX11_dearest_3 (fun v2 => ?_)
  refine sim_iconst dX11_dearest_4 (by decide) ?_
  refine sim_istore_n (fun v3 => [(3, vI v3), (2, vI v2), (1, vI v1), (0, vR 0)]) (fun _ => rfl) (by decide) dX11_dearest_5 (fun v3 => ?_)
  refine sim_sub [3, 2, 1, 0] (L' := [(0, vR 0), (1, vI v1), (2, vI v2), (3, vI v3)]) rfl ?_
  refine sim_wh3 (fun (x5 : Int) (x6 : Int) (x7 : Int) => [(0, vR 0), (1, vI x5), (2, vI x6), (3, vI x7)]) (fun (x5 : Int) (x6 : Int) (x7 : Int) => σ) ?_ n v1 v2 v3
  intro rc4 hrc4 x5 x6 x7
  refine sim_iload_n 3 rfl dX11_dearest_6 ?_
  refine sim_aload_n 0 rfl dX11_dearest_7 ?_
  refine sim_getR g_RX11_29 sh_0 rh_0_3 dX11_dearest_8 ?_
  refine sim_getR g_RX11_54 (LWld_o lay_3) rh_3_0 dX11_dearest_11 ?_
  refine sim_getI g_RX11_257 (LIsl_o lay_4) dX11_dearest_14 ?_
  refine sim_icmp_ge (tgt := 69) dX11_dearest_17 (by decide) ?_ ?_
  · refine sim_iload_n 1 rfl dX11_dearest_69 ?_
    exact sim_iret rfl rfl dX11_dearest_70
  · refine sim_aload_n 0 rfl dX11_dearest_20 ?_
    refine sim_getR g_RX11_29 sh_0 rh_0_3 dX11_dearest_21 ?_
    refine sim_getR g_RX11_72 (LWld_o lay_3) rh_3_1 dX11_dearest_24 ?_
    refine sim_getR g_RX11_192 (LRow_o lay_11) rh_11_6 dX11_dearest_27 ?_
    refine sim_iload_n 3 rfl dX11_dearest_30 ?_
    refine sim_iaload sh_16 rfl dX11_dearest_31 ?_
    refine sim_aload_n 0 rfl dX11_dearest_32 ?_
    refine sim_getR g_RX11_29 sh_0 rh_0_3 dX11_dearest_33 ?_
    refine sim_getR g_RX11_72 (LWld_o lay_3) rh_3_1 dX11_dearest_36 ?_
    refine sim_getR g_RX11_195 (LRow_o lay_11) rh_11_7 dX11_dearest_39 ?_
    refine sim_iload_n 3 rfl dX11_dearest_42 ?_
    refine sim_iaload sh_17 rfl dX11_dearest_43 ?_
    refine sim_isub dX11_dearest_44 ?_
    refine sim_istore (fun v8 => [(4, vI v8), (0, vR 0), (1, vI x5), (2, vI x6), (3, vI x7)]) (fun _ => rfl) (by decide) dX11_dearest_45 (fun v8 => ?_)
    refine sim_iload_n 2 rfl dX11_dearest_47 ?_
    refine sim_iconst dX11_dearest_48 (by decide) ?_
    refine sim_jn2 (pc' := 63) (fun (y10 : Int) (y11 : Int) => [(0, vR 0), (1, vI y10), (2, vI y11), (3, vI x7)]) (fun (y10 : Int) (y11 : Int) => []) (fun (y10 : Int) (y11 : Int) => σ) ?_ (fun j9 hj9 => ?_)
    · intro y10 y11
      refine sim_iinc 3 rfl (fun v12 => [(3, vI v12), (0, vR 0), (1, vI y10), (2, vI y11)]) (fun _ => rfl) (by decide) dX11_dearest_63 (fun v12 => ?_)
      refine sim_goto (tgt := 6) dX11_dearest_66 (by decide) ?_
      exact sim_sub [1, 2, 3, 0] rfl (hrc4 y10 y11 v12)
    refine sim_jn0 (pc' := 58) ([(0, vR 0), (3, vI x7), (4, vI v8)]) ([]) (σ) ?_ (fun j13 hj13 => ?_)
    · refine sim_iload_n 1 rfl dX11_dearest_58 ?_
      refine sim_istore_n (fun v14 => [(1, vI v14), (0, vR 0), (3, vI x7), (4, vI v8)]) (fun _ => rfl) (by decide) dX11_dearest_59 (fun v14 => ?_)
      refine sim_iload 3 rfl dX11_dearest_60 ?_
      refine sim_istore_n (fun v15 => [(2, vI v15), (1, vI v14), (0, vR 0), (3, vI x7), (4, vI v8)]) (fun _ => rfl) (by decide) dX11_dearest_62 (fun v15 => ?_)
      exact sim_sub [2, 1, 0, 3] rfl (hj9 v14 v15)
    refine sim_icmp_eq (tgt := 58) dX11_dearest_49 (by decide) ?_ ?_
    · exact sim_sub [1, 4, 0] rfl (hj13 )
    · refine sim_iload 0 rfl dX11_dearest_52 ?_
      refine sim_iload_n 3 rfl dX11_dearest_54 ?_
      refine sim_icmp_le (tgt := 63) dX11_dearest_55 (by decide) ?_ ?_
      · exact sim_sub [1, 2, 3, 4] rfl (hj9 x5 x6)
      · exact sim_sub [1, 4, 0] rfl (hj13 )
theorem dX7_gather_0 : decode cX7_gather 0 = .ok (.iconst 0, 1) := by decide +kernel
theorem dX7_gather_1 : decode cX7_gather 1 = .ok (.istore_n 2, 1) := by decide +kernel
theorem dX7_gather_2 : decode cX7_gather 2 = .ok (.iconst 0, 1) := by decide +kernel
theorem dX7_gather_3 : decode cX7_gather 3 = .ok (.istore_n 3, 1) := by decide +kernel
theorem dX7_gather_4 : decode cX7_gather 4 = .ok (.iload_n 3, 1) := by decide +kernel
theorem dX7_gather_5 : decode cX7_gather 5 = .ok (.aload_n 0, 1) := by decide +kernel
theorem dX7_gather_6 : decode cX7_gather 6 = .ok (.getfield 34, 3) := by decide +kernel
theorem dX7_gather_9 : decode cX7_gather 9 = .ok (.getfield 55, 3) := by decide +kernel
theorem dX7_gather_12 : decode cX7_gather 12 = .ok (.if_icmp .ge 33, 3) := by decide +kernel
theorem dX7_gather_15 : decode cX7_gather 15 = .ok (.aload_n 0, 1) := by decide +kernel
theorem dX7_gather_16 : decode cX7_gather 16 = .ok (.getfield 15, 3) := by decide +kernel
theorem dX7_gather_19 : decode cX7_gather 19 = .ok (.iload_n 3, 1) := by decide +kernel
theorem dX7_gather_20 : decode cX7_gather 20 = .ok (.iaload, 1) := by decide +kernel
theorem dX7_gather_21 : decode cX7_gather 21 = .ok (.ifCond .ne 18, 3) := by decide +kernel
theorem dX7_gather_24 : decode cX7_gather 24 = .ok (.iload_n 2, 1) := by decide +kernel
theorem dX7_gather_25 : decode cX7_gather 25 = .ok (.aload_n 1, 1) := by decide +kernel
theorem dX7_gather_26 : decode cX7_gather 26 = .ok (.arraylength, 1) := by decide +kernel
theorem dX7_gather_27 : decode cX7_gather 27 = .ok (.if_icmp .lt 5, 3) := by decide +kernel
theorem dX7_gather_30 : decode cX7_gather 30 = .ok (.iconst (-1), 1) := by decide +kernel
theorem dX7_gather_31 : decode cX7_gather 31 = .ok (.ireturn, 1) := by decide +kernel
theorem dX7_gather_32 : decode cX7_gather 32 = .ok (.aload_n 1, 1) := by decide +kernel
theorem dX7_gather_33 : decode cX7_gather 33 = .ok (.iload_n 2, 1) := by decide +kernel
theorem dX7_gather_34 : decode cX7_gather 34 = .ok (.iload_n 3, 1) := by decide +kernel
theorem dX7_gather_35 : decode cX7_gather 35 = .ok (.iastore, 1) := by decide +kernel
theorem dX7_gather_36 : decode cX7_gather 36 = .ok (.iinc 2 1, 3) := by decide +kernel
theorem dX7_gather_39 : decode cX7_gather 39 = .ok (.iinc 3 1, 3) := by decide +kernel
theorem dX7_gather_42 : decode cX7_gather 42 = .ok (.goto (-38), 3) := by decide +kernel
theorem dX7_gather_45 : decode cX7_gather 45 = .ok (.iload_n 2, 1) := by decide +kernel
theorem dX7_gather_46 : decode cX7_gather 46 = .ok (.ireturn, 1) := by decide +kernel
def f_Row_gather (n : Nat) (p : Nat) (ip : Nat) (q : Nat) (Nq : Nat)  (σ : JSg) : Option (Int × JSg) :=
  lt_ 0 fun v1 => lt_ 0 fun v2 => wh3 n (fun rc3 (x4 : Int) (x5 : Int) (s6 : JSg) => if x5 < (s6 ip 2) then (chk (0 ≤ x5 ∧ x5 < 28) <| jn2 (fun (y8 : Int) (s9 : JSg) => lt_ (w32 (x5 + 1)) fun v10 => rc3 y8 v10 s9) fun j7 => if (s6 (p + 2) x5.toNat) = 0 then (if x4 < (Nq : Int) then (chk (0 ≤ x4 ∧ x4 < (Nq : Int)) <| lt_ (sp s6 q x4.toNat x5) fun s11 => lt_ (w32 (x4 + 1)) fun v12 => j7 v12 s11) else (some ((-1), s6))) else (j7 x4 s6)) else (some (x4, s6))) v1 v2 (σ)
set_option maxRecDepth 20000 in
set_option maxHeartbeats 4000000 in
theorem k_Row_gather (Sh : JSh) (ρ : JRo) (n : Nat) (p : Nat) (ip : Nat) (q : Nat) (Nq : Nat) (hp : LRow Sh ρ p ip) (hip : LIsl Sh ρ ip) (hq : Sh[q]? = some (.inr (0, Nq))) (hNq : okI (Nq : Int))  (σ : JSg) : Call yX7_gather cX7_gather 4 (some .int) 0 Sh ρ [vR p, vR q] σ dIm (f_Row_gather n p ip q Nq σ) := by
  refine call_of_sim (by decide +kernel) (Nat.le_of_ble_eq_true rfl) ?_
  show Sim RX7 cX7_gather 4 (some .int) 0 Sh ρ 0 [(0, vR p), (1, vR q)] [] σ dIm (f_Row_gather n p ip q Nq σ)
  unfold f_Row_gather
  refine sim_iconst dX7_gather_0 (by decide) ?_
  refine sim_istore_n (fun v1 => [(2, vI v1), (0, vR p), (1, vR q)]) (fun _ => rfl) (by decide) dX7_gather_1 (fun v1 => ?_)
  refine sim_iconst dX7_gather_2 (by decide) ?_
  refine sim_istore_n (fun v2 => [(3, vI v2), (2, vI v1), (0, vR p), (1, vR q)]) (fun _ => rfl) (by decide) dX7_gather_3 (fun v2 => ?_)
  refine sim_sub [2, 3, 1, 0] (L' := [(0, vR p), (1, vR q), (2, vI v1), (3, vI v2)]) rfl ?_
  refine sim_wh3 (fun (x4 : Int) (x5 : Int) (s6 : JSg) => [(0, vR p), (1, vR q), (2, vI x4), (3, vI x5)]) (fun (x4 : Int) (x5 : Int) (s6 : JSg) => s6) ?_ n v1 v2 (σ)
  intro rc3 hrc3 x4 x5 s6
  refine sim_iload_n 3 rfl dX7_gather_4 ?_
  refine sim_aload_n 0 rfl dX7_gather_5 ?_
  refine sim_getR g_RX7_34 (LRow_o hp) (LRow_r0 hp) dX7_gather_6 ?_
  refine sim_getI g_RX7_55 (LIsl_o hip) dX7_gather_9 ?_
  refine sim_icmp_ge (tgt := 45) dX7_gather_12 (by decide) ?_ ?_
  · refine sim_iload_n 2 rfl dX7_gather_45 ?_
    exact sim_iret rfl rfl dX7_gather_46
  · refine sim_aload_n 0 rfl dX7_gather_15 ?_
    refine sim_getR g_RX7_15 (LRow_o hp) (LRow_r2 hp) dX7_gather_16 ?_
    refine sim_iload_n 3 rfl dX7_gather_19 ?_
    refine sim_iaload (LRow_a2 hp) rfl dX7_gather_20 ?_
    refine sim_jn2 (pc' := 39) (fun (y8 : Int) (s9 : JSg) => [(0, vR p), (1, vR q), (2, vI y8), (3, vI x5)]) (fun (y8 : Int) (s9 : JSg) => []) (fun (y8 : Int) (s9 : JSg) => s9) ?_ (fun j7 hj7 => ?_)
    · intro y8 s9
      refine sim_iinc 3 rfl (fun v10 => [(3, vI v10), (0, vR p), (1, vR q), (2, vI y8)]) (fun _ => rfl) (by decide) dX7_gather_39 (fun v10 => ?_)
      refine sim_goto (tgt := 4) dX7_gather_42 (by decide) ?_
      exact sim_sub [1, 2, 3, 0] rfl (hrc3 y8 v10 s9)
    refine sim_if_ne (tgt := 39) dX7_gather_21 (by decide) ?_ ?_
    · exact sim_sub [0, 1, 2, 3] rfl (hj7 x4 s6)
    · refine sim_iload_n 2 rfl dX7_gather_24 ?_
      refine sim_aload_n 1 rfl dX7_gather_25 ?_
      refine sim_alen hq (by decide) ⟨rfl, hNq⟩ dX7_gather_26 ?_
      refine sim_icmp_lt (tgt := 32) dX7_gather_27 (by decide) ?_ ?_
      · refine sim_aload_n 1 rfl dX7_gather_32 ?_
        refine sim_iload_n 2 rfl dX7_gather_33 ?_
        refine sim_iload_n 3 rfl dX7_gather_34 ?_
        refine sim_iastore hq rfl dX7_gather_35 (fun s11 => ?_)
        refine sim_iinc 2 rfl (fun v12 => [(2, vI v12), (0, vR p), (1, vR q), (3, vI x5)]) (fun _ => rfl) (by decide) dX7_gather_36 (fun v12 => ?_)
        exact sim_sub [1, 2, 0, 3] rfl (hj7 v12 s11)
      · refine sim_iconst dX7_gather_30 (by decide) ?_
        exact sim_iret rfl rfl dX7_gather_31
theorem dJ7_rangeCheck_23922_0 : decode cJ7_rangeCheck_23922 0 = .ok (.iload_n 1, 1) := by decide +kernel
theorem dJ7_rangeCheck_23922_1 : decode cJ7_rangeCheck_23922 1 = .ok (.iload_n 2, 1) := by decide +kernel
theorem dJ7_rangeCheck_23922_2 : decode cJ7_rangeCheck_23922 2 = .ok (.if_icmp .le 44, 3) := by decide +kernel
theorem dJ7_rangeCheck_23922_5 : decode cJ7_rangeCheck_23922 5 = .ok (.new 43, 3) := by decide +kernel
theorem dJ7_rangeCheck_23922_46 : decode cJ7_rangeCheck_23922 46 = .ok (.iload_n 1, 1) := by decide +kernel
theorem dJ7_rangeCheck_23922_47 : decode cJ7_rangeCheck_23922 47 = .ok (.ifCond .ge 12, 3) := by decide +kernel
theorem dJ7_rangeCheck_23922_50 : decode cJ7_rangeCheck_23922 50 = .ok (.new 68, 3) := by decide +kernel
theorem dJ7_rangeCheck_23922_59 : decode cJ7_rangeCheck_23922 59 = .ok (.iload_n 2, 1) := by decide +kernel
theorem dJ7_rangeCheck_23922_60 : decode cJ7_rangeCheck_23922 60 = .ok (.iload_n 0, 1) := by decide +kernel
theorem dJ7_rangeCheck_23922_61 : decode cJ7_rangeCheck_23922 61 = .ok (.if_icmp .le 12, 3) := by decide +kernel
theorem dJ7_rangeCheck_23922_64 : decode cJ7_rangeCheck_23922 64 = .ok (.new 68, 3) := by decide +kernel
theorem dJ7_rangeCheck_23922_73 : decode cJ7_rangeCheck_23922 73 = .ok (.return_, 1) := by decide +kernel
def f_JArr_rangeCheck_23922   (a1 : Int) (a2 : Int) (a3 : Int) (σ : JSg) : Option (Unit) :=
  if a3 < a2 then (none) else (if a2 < 0 then (none) else (if a1 < a3 then (none) else (some ())))
set_option maxRecDepth 20000 in
set_option maxHeartbeats 4000000 in
theorem k_JArr_rangeCheck_23922 (Sh : JSh) (ρ : JRo)    (a1 : Int) (a2 : Int) (a3 : Int) (σ : JSg) : Call yJ7_rangeCheck_23922 cJ7_rangeCheck_23922 3 none 0 Sh ρ [vI a1, vI a2, vI a3] σ (dVp σ) (f_JArr_rangeCheck_23922 a1 a2 a3 σ) := by
  refine call_of_sim (by decide +kernel) (Nat.le_of_ble_eq_true rfl) ?_
  show Sim RJ7 cJ7_rangeCheck_23922 3 none 0 Sh ρ 0 [(0, vI a1), (1, vI a2), (2, vI a3)] [] σ (dVp σ) (f_JArr_rangeCheck_23922 a1 a2 a3 σ)
  unfold f_JArr_rangeCheck_23922
  refine sim_iload_n 1 rfl dJ7_rangeCheck_23922_0 ?_
  refine sim_iload_n 2 rfl dJ7_rangeCheck_23922_1 ?_
  refine sim_icmp_le (tgt := 46) dJ7_rangeCheck_23922_2 (by decide) ?_ ?_
  · refine sim_iload_n 1 rfl dJ7_rangeCheck_23922_46 ?_
    refine sim_if_ge (tgt := 59) dJ7_rangeCheck_23922_47 (by decide) ?_ ?_
    · refine sim_iload_n 2 rfl dJ7_rangeCheck_23922_59 ?_
      refine sim_iload_n 0 rfl dJ7_rangeCheck_23922_60 ?_
      refine sim_icmp_le (tgt := 73) dJ7_rangeCheck_23922_61 (by decide) ?_ ?_
      · exact sim_vret rfl rfl dJ7_rangeCheck_23922_73
      · exact sim_none
    · exact sim_none
  · exact sim_none
theorem dJ7_fill_bad5a_0 : decode cJ7_fill_bad5a 0 = .ok (.aload_n 0, 1) := by decide +kernel
theorem dJ7_fill_bad5a_1 : decode cJ7_fill_bad5a 1 = .ok (.arraylength, 1) := by decide +kernel
theorem dJ7_fill_bad5a_2 : decode cJ7_fill_bad5a 2 = .ok (.iload_n 1, 1) := by decide +kernel
theorem dJ7_fill_bad5a_3 : decode cJ7_fill_bad5a 3 = .ok (.iload_n 2, 1) := by decide +kernel
theorem dJ7_fill_bad5a_4 : decode cJ7_fill_bad5a 4 = .ok (.invokestatic 13, 3) := by decide +kernel
theorem dJ7_fill_bad5a_7 : decode cJ7_fill_bad5a 7 = .ok (.iload_n 1, 1) := by decide +kernel
theorem dJ7_fill_bad5a_8 : decode cJ7_fill_bad5a 8 = .ok (.istore 5, 2) := by decide +kernel
theorem dJ7_fill_bad5a_10 : decode cJ7_fill_bad5a 10 = .ok (.iload 5, 2) := by decide +kernel
theorem dJ7_fill_bad5a_12 : decode cJ7_fill_bad5a 12 = .ok (.iload_n 2, 1) := by decide +kernel
theorem dJ7_fill_bad5a_13 : decode cJ7_fill_bad5a 13 = .ok (.if_icmp .ge 14, 3) := by decide +kernel
theorem dJ7_fill_bad5a_16 : decode cJ7_fill_bad5a 16 = .ok (.aload_n 0, 1) := by decide +kernel
theorem dJ7_fill_bad5a_17 : decode cJ7_fill_bad5a 17 = .ok (.iload 5, 2) := by decide +kernel
theorem dJ7_fill_bad5a_19 : decode cJ7_fill_bad5a 19 = .ok (.lload_n 3, 1) := by decide +kernel
theorem dJ7_fill_bad5a_20 : decode cJ7_fill_bad5a 20 = .ok (.lastore, 1) := by decide +kernel
theorem dJ7_fill_bad5a_21 : decode cJ7_fill_bad5a 21 = .ok (.iinc 5 1, 3) := by decide +kernel
theorem dJ7_fill_bad5a_24 : decode cJ7_fill_bad5a 24 = .ok (.goto (-14), 3) := by decide +kernel
theorem dJ7_fill_bad5a_27 : decode cJ7_fill_bad5a 27 = .ok (.return_, 1) := by decide +kernel
def f_JArr_fill_bad5a (n : Nat) (p : Nat) (Np : Nat) (a2 : Int) (a3 : Int) (a4 : Int) (σ : JSg) : Option (JSg) :=
  bd1 (f_JArr_rangeCheck_23922 (Np : Int) a2 a3 σ) fun _ => lt_ a2 fun v1 => wh2 n (fun rc2 (x3 : Int) (s4 : JSg) => if x3 < a3 then (chk (0 ≤ x3 ∧ x3 < (Np : Int)) <| lt_ (sp s4 p x3.toNat a4) fun s5 => lt_ (w32 (x3 + 1)) fun v6 => rc2 v6 s5) else (some s4)) v1 (σ)
set_option maxRecDepth 20000 in
set_option maxHeartbeats 4000000 in
theorem k_JArr_fill_bad5a (Sh : JSh) (ρ : JRo) (n : Nat) (p : Nat) (Np : Nat) (hp : Sh[p]? = some (.inr (2, Np))) (hNp : okI (Np : Int)) (a2 : Int) (a3 : Int) (a4 : Int) (σ : JSg) : Call yJ7_fill_bad5a cJ7_fill_bad5a 6 none 1 Sh ρ [vR p, vI a2, vI a3, vL a4] σ dVm (f_JArr_fill_bad5a n p Np a2 a3 a4 σ) := by
  refine call_of_sim (by decide +kernel) (Nat.le_of_ble_eq_true rfl) ?_
  show Sim RJ7 cJ7_fill_bad5a 6 none 1 Sh ρ 0 [(0, vR p), (1, vI a2), (2, vI a3), (3, vL a4)] [] σ dVm (f_JArr_fill_bad5a n p Np a2 a3 a4 σ)
  unfold f_JArr_fill_bad5a
  refine sim_aload_n 0 rfl dJ7_fill_bad5a_0 ?_
  refine sim_alen hp (by decide) ⟨rfl, hNp⟩ dJ7_fill_bad5a_1 ?_
  refine sim_iload_n 1 rfl dJ7_fill_bad5a_2 ?_
  refine sim_iload_n 2 rfl dJ7_fill_bad5a_3 ?_
  refine sim_callSVp s_RJ7_13 dJ7_fill_bad5a_4 (k_JArr_rangeCheck_23922 Sh ρ (Np : Int) a2 a3 σ) rfl ⟨by decide, by decide⟩ (S := []) rfl (Nat.le_of_ble_eq_true rfl) (fun _ => ?_)
  refine sim_iload_n 1 rfl dJ7_fill_bad5a_7 ?_
  refine sim_istore (fun v1 => [(5, vI v1), (0, vR p), (1, vI a2), (2, vI a3), (3, vL a4)]) (fun _ => rfl) (by decide) dJ7_fill_bad5a_8 (fun v1 => ?_)
  refine sim_sub [1, 3, 4, 0] (L' := [(0, vR p), (2, vI a3), (3, vL a4), (5, vI v1)]) rfl ?_
  refine sim_wh2 (fun (x3 : Int) (s4 : JSg) => [(0, vR p), (2, vI a3), (3, vL a4), (5, vI x3)]) (fun (x3 : Int) (s4 : JSg) => s4) ?_ n v1 (σ)
  intro rc2 hrc2 x3 s4
  refine sim_iload 3 rfl dJ7_fill_bad5a_10 ?_
  refine sim_iload_n 1 rfl dJ7_fill_bad5a_12 ?_
  refine sim_icmp_ge (tgt := 27) dJ7_fill_bad5a_13 (by decide) ?_ ?_
  · exact sim_vret rfl rfl dJ7_fill_bad5a_27
  · refine sim_aload_n 0 rfl dJ7_fill_bad5a_16 ?_
    refine sim_iload 3 rfl dJ7_fill_bad5a_17 ?_
    refine sim_lload_n 2 rfl dJ7_fill_bad5a_19 ?_
    refine sim_lastore hp rfl dJ7_fill_bad5a_20 (fun s5 => ?_)
    refine sim_iinc 3 rfl (fun v6 => [(5, vI v6), (0, vR p), (2, vI a3), (3, vL a4)]) (fun _ => rfl) (by decide) dJ7_fill_bad5a_21 (fun v6 => ?_)
    refine sim_goto (tgt := 10) dJ7_fill_bad5a_24 (by decide) ?_
    exact sim_sub [1, 2, 3, 0] rfl (hrc2 v6 s5)
theorem dX0_ahead_0 : decode cX0_ahead 0 = .ok (.aload_n 0, 1) := by decide +kernel
theorem dX0_ahead_1 : decode cX0_ahead 1 = .ok (.getfield 35, 3) := by decide +kernel
theorem dX0_ahead_4 : decode cX0_ahead 4 = .ok (.getfield 70, 3) := by decide +kernel
theorem dX0_ahead_7 : decode cX0_ahead 7 = .ok (.iload_n 1, 1) := by decide +kernel
theorem dX0_ahead_8 : decode cX0_ahead 8 = .ok (.iaload, 1) := by decide +kernel
theorem dX0_ahead_9 : decode cX0_ahead 9 = .ok (.sipush 128, 3) := by decide +kernel
theorem dX0_ahead_12 : decode cX0_ahead 12 = .ok (.ior, 1) := by decide +kernel
theorem dX0_ahead_13 : decode cX0_ahead 13 = .ok (.i2l, 1) := by decide +kernel
theorem dX0_ahead_14 : decode cX0_ahead 14 = .ok (.lreturn, 1) := by decide +kernel
def f_Chn_ahead   (a1 : Int) (σ : JSg) : Option (Int) :=
  chk (0 ≤ a1 ∧ a1 < 7) <| some (or32 (σ 10 a1.toNat) 128)
set_option maxRecDepth 20000 in
set_option maxHeartbeats 4000000 in
theorem k_Chn_ahead     (a1 : Int) (σ : JSg) : Call yX0_ahead cX0_ahead 2 (some .long) 0 SH RHO [vR 104, vI a1] σ (dLp σ) (f_Chn_ahead a1 σ) := by
  refine call_of_sim (by decide +kernel) (Nat.le_of_ble_eq_true rfl) ?_
  show Sim RX0 cX0_ahead 2 (some .long) 0 SH RHO 0 [(0, vR 104), (1, vI a1)] [] σ (dLp σ) (f_Chn_ahead a1 σ)
  unfold f_Chn_ahead
  refine sim_aload_n 0 rfl dX0_ahead_0 ?_
  refine sim_getR g_RX0_35 sh_104 rh_104_1 dX0_ahead_1 ?_
  refine sim_getR g_RX0_70 (LIsl_o lay_4) rh_4_12 dX0_ahead_4 ?_
  refine sim_iload_n 1 rfl dX0_ahead_7 ?_
  refine sim_iaload sh_10 rfl dX0_ahead_8 ?_
  refine sim_sipush dX0_ahead_9 (by decide +kernel) ?_
  refine sim_ior dX0_ahead_12 ?_
  refine sim_i2l dX0_ahead_13 ?_
  exact sim_lret rfl rfl dX0_ahead_14
theorem dX0_spreadOver_0 : decode cX0_spreadOver 0 = .ok (.iload_n 1, 1) := by decide +kernel
theorem dX0_spreadOver_1 : decode cX0_spreadOver 1 = .ok (.iconst 1, 1) := by decide +kernel
theorem dX0_spreadOver_2 : decode cX0_spreadOver 2 = .ok (.iload_n 2, 1) := by decide +kernel
theorem dX0_spreadOver_3 : decode cX0_spreadOver 3 = .ok (.ishl, 1) := by decide +kernel
theorem dX0_spreadOver_4 : decode cX0_spreadOver 4 = .ok (.ior, 1) := by decide +kernel
theorem dX0_spreadOver_5 : decode cX0_spreadOver 5 = .ok (.istore_n 3, 1) := by decide +kernel
theorem dX0_spreadOver_6 : decode cX0_spreadOver 6 = .ok (.aload_n 0, 1) := by decide +kernel
theorem dX0_spreadOver_7 : decode cX0_spreadOver 7 = .ok (.getfield 35, 3) := by decide +kernel
theorem dX0_spreadOver_10 : decode cX0_spreadOver 10 = .ok (.getfield 85, 3) := by decide +kernel
theorem dX0_spreadOver_13 : decode cX0_spreadOver 13 = .ok (.aload_n 0, 1) := by decide +kernel
theorem dX0_spreadOver_14 : decode cX0_spreadOver 14 = .ok (.getfield 11, 3) := by decide +kernel
theorem dX0_spreadOver_17 : decode cX0_spreadOver 17 = .ok (.iload_n 2, 1) := by decide +kernel
theorem dX0_spreadOver_18 : decode cX0_spreadOver 18 = .ok (.iaload, 1) := by decide +kernel
theorem dX0_spreadOver_19 : decode cX0_spreadOver 19 = .ok (.iaload, 1) := by decide +kernel
theorem dX0_spreadOver_20 : decode cX0_spreadOver 20 = .ok (.istore 4, 2) := by decide +kernel
theorem dX0_spreadOver_22 : decode cX0_spreadOver 22 = .ok (.aload_n 0, 1) := by decide +kernel
theorem dX0_spreadOver_23 : decode cX0_spreadOver 23 = .ok (.getfield 35, 3) := by decide +kernel
theorem dX0_spreadOver_26 : decode cX0_spreadOver 26 = .ok (.getfield 88, 3) := by decide +kernel
theorem dX0_spreadOver_29 : decode cX0_spreadOver 29 = .ok (.aload_n 0, 1) := by decide +kernel
theorem dX0_spreadOver_30 : decode cX0_spreadOver 30 = .ok (.getfield 11, 3) := by decide +kernel
theorem dX0_spreadOver_33 : decode cX0_spreadOver 33 = .ok (.iload_n 2, 1) := by decide +kernel
theorem dX0_spreadOver_34 : decode cX0_spreadOver 34 = .ok (.iaload, 1) := by decide +kernel
theorem dX0_spreadOver_35 : decode cX0_spreadOver 35 = .ok (.iaload, 1) := by decide +kernel
theorem dX0_spreadOver_36 : decode cX0_spreadOver 36 = .ok (.istore 5, 2) := by decide +kernel
theorem dX0_spreadOver_38 : decode cX0_spreadOver 38 = .ok (.aload_n 0, 1) := by decide +kernel
theorem dX0_spreadOver_39 : decode cX0_spreadOver 39 = .ok (.getfield 36, 3) := by decide +kernel
theorem dX0_spreadOver_42 : decode cX0_spreadOver 42 = .ok (.iload_n 1, 1) := by decide +kernel
theorem dX0_spreadOver_43 : decode cX0_spreadOver 43 = .ok (.laload, 1) := by decide +kernel
theorem dX0_spreadOver_44 : decode cX0_spreadOver 44 = .ok (.aload_n 0, 1) := by decide +kernel
theorem dX0_spreadOver_45 : decode cX0_spreadOver 45 = .ok (.iload 4, 2) := by decide +kernel
theorem dX0_spreadOver_47 : decode cX0_spreadOver 47 = .ok (.invokevirtual 91, 3) := by decide +kernel
theorem dX0_spreadOver_50 : decode cX0_spreadOver 50 = .ok (.land, 1) := by decide +kernel
theorem dX0_spreadOver_51 : decode cX0_spreadOver 51 = .ok (.lconst 0, 1) := by decide +kernel
theorem dX0_spreadOver_52 : decode cX0_spreadOver 52 = .ok (.lcmp, 1) := by decide +kernel
theorem dX0_spreadOver_53 : decode cX0_spreadOver 53 = .ok (.ifCond .eq 16, 3) := by decide +kernel
theorem dX0_spreadOver_56 : decode cX0_spreadOver 56 = .ok (.aload_n 0, 1) := by decide +kernel
theorem dX0_spreadOver_57 : decode cX0_spreadOver 57 = .ok (.getfield 36, 3) := by decide +kernel
theorem dX0_spreadOver_60 : decode cX0_spreadOver 60 = .ok (.iload_n 3, 1) := by decide +kernel
theorem dX0_spreadOver_61 : decode cX0_spreadOver 61 = .ok (.dup2, 1) := by decide +kernel
theorem dX0_spreadOver_62 : decode cX0_spreadOver 62 = .ok (.laload, 1) := by decide +kernel
theorem dX0_spreadOver_63 : decode cX0_spreadOver 63 = .ok (.lconst 1, 1) := by decide +kernel
theorem dX0_spreadOver_64 : decode cX0_spreadOver 64 = .ok (.iload 5, 2) := by decide +kernel
theorem dX0_spreadOver_66 : decode cX0_spreadOver 66 = .ok (.lshl, 1) := by decide +kernel
theorem dX0_spreadOver_67 : decode cX0_spreadOver 67 = .ok (.lor, 1) := by decide +kernel
theorem dX0_spreadOver_68 : decode cX0_spreadOver 68 = .ok (.lastore, 1) := by decide +kernel
theorem dX0_spreadOver_69 : decode cX0_spreadOver 69 = .ok (.aload_n 0, 1) := by decide +kernel
theorem dX0_spreadOver_70 : decode cX0_spreadOver 70 = .ok (.getfield 36, 3) := by decide +kernel
theorem dX0_spreadOver_73 : decode cX0_spreadOver 73 = .ok (.iload_n 1, 1) := by decide +kernel
theorem dX0_spreadOver_74 : decode cX0_spreadOver 74 = .ok (.laload, 1) := by decide +kernel
theorem dX0_spreadOver_75 : decode cX0_spreadOver 75 = .ok (.aload_n 0, 1) := by decide +kernel
theorem dX0_spreadOver_76 : decode cX0_spreadOver 76 = .ok (.iload 5, 2) := by decide +kernel
theorem dX0_spreadOver_78 : decode cX0_spreadOver 78 = .ok (.invokevirtual 91, 3) := by decide +kernel
theorem dX0_spreadOver_81 : decode cX0_spreadOver 81 = .ok (.land, 1) := by decide +kernel
theorem dX0_spreadOver_82 : decode cX0_spreadOver 82 = .ok (.lconst 0, 1) := by decide +kernel
theorem dX0_spreadOver_83 : decode cX0_spreadOver 83 = .ok (.lcmp, 1) := by decide +kernel
theorem dX0_spreadOver_84 : decode cX0_spreadOver 84 = .ok (.ifCond .eq 16, 3) := by decide +kernel
theorem dX0_spreadOver_87 : decode cX0_spreadOver 87 = .ok (.aload_n 0, 1) := by decide +kernel
theorem dX0_spreadOver_88 : decode cX0_spreadOver 88 = .ok (.getfield 36, 3) := by decide +kernel
theorem dX0_spreadOver_91 : decode cX0_spreadOver 91 = .ok (.iload_n 3, 1) := by decide +kernel
theorem dX0_spreadOver_92 : decode cX0_spreadOver 92 = .ok (.dup2, 1) := by decide +kernel
theorem dX0_spreadOver_93 : decode cX0_spreadOver 93 = .ok (.laload, 1) := by decide +kernel
theorem dX0_spreadOver_94 : decode cX0_spreadOver 94 = .ok (.lconst 1, 1) := by decide +kernel
theorem dX0_spreadOver_95 : decode cX0_spreadOver 95 = .ok (.iload 4, 2) := by decide +kernel
theorem dX0_spreadOver_97 : decode cX0_spreadOver 97 = .ok (.lshl, 1) := by decide +kernel
theorem dX0_spreadOver_98 : decode cX0_spreadOver 98 = .ok (.lor, 1) := by decide +kernel
theorem dX0_spreadOver_99 : decode cX0_spreadOver 99 = .ok (.lastore, 1) := by decide +kernel
theorem dX0_spreadOver_100 : decode cX0_spreadOver 100 = .ok (.return_, 1) := by decide +kernel
def f_Chn_spreadOver   (a1 : Int) (a2 : Int) (σ : JSg) : Option (JSg) :=
  lt_ (or32 a1 (sl32 1 a2)) fun v1 => chk (0 ≤ a2 ∧ a2 < 12) <| chk (0 ≤ (σ 105 a2.toNat) ∧ (σ 105 a2.toNat) < 28) <| lt_ (σ 6 (σ 105 a2.toNat).toNat) fun v2 => chk (0 ≤ a2 ∧ a2 < 12) <| chk (0 ≤ (σ 105 a2.toNat) ∧ (σ 105 a2.toNat) < 28) <| lt_ (σ 7 (σ 105 a2.toNat).toNat) fun v3 => chk (0 ≤ a1 ∧ a1 < 32768) <| bd1 (f_Chn_ahead v2 σ) fun r4 => jn1 (fun  (s6 : JSg) => chk (0 ≤ a1 ∧ a1 < 32768) <| bd1 (f_Chn_ahead v3 s6) fun r7 => if (cmpL (an64 (s6 103 a1.toNat) r7) 0) = 0 then (some s6) else (chk (0 ≤ v1 ∧ v1 < 32768) <| chk (0 ≤ v1 ∧ v1 < 32768) <| lt_ (sp s6 103 v1.toNat (or64 (s6 103 v1.toNat) (sl64 1 v2))) fun s8 => some s8)) fun j5 => if (cmpL (an64 (σ 103 a1.toNat) r4) 0) = 0 then (j5 (σ)) else (chk (0 ≤ v1 ∧ v1 < 32768) <| chk (0 ≤ v1 ∧ v1 < 32768) <| lt_ (sp σ 103 v1.toNat (or64 (σ 103 v1.toNat) (sl64 1 v3))) fun s9 => j5 s9)
set_option maxRecDepth 20000 in
set_option maxHeartbeats 4000000 in
theorem k_Chn_spreadOver     (a1 : Int) (a2 : Int) (σ : JSg) : Call yX0_spreadOver cX0_spreadOver 6 none 1 SH RHO [vR 104, vI a1, vI a2] σ dVm (f_Chn_spreadOver a1 a2 σ) := by
  refine call_of_sim (by decide +kernel) (Nat.le_of_ble_eq_true rfl) ?_
  show Sim RX0 cX0_spreadOver 6 none 1 SH RHO 0 [(0, vR 104), (1, vI a1), (2, vI a2)] [] σ dVm (f_Chn_spreadOver a1 a2 σ)
  unfold f_Chn_spreadOver
  refine sim_iload_n 1 rfl dX0_spreadOver_0 ?_
  refine sim_iconst dX0_spreadOver_1 (by decide) ?_
  refine sim_iload_n 2 rfl dX0_spreadOver_2 ?_
  refine sim_ishl dX0_spreadOver_3 ?_
  refine sim_ior dX0_spreadOver_4 ?_
  refine sim_istore_n (fun v1 => [(3, vI v1), (0, vR 104), (1, vI a1), (2, vI a2)]) (fun _ => rfl) (by decide) dX0_spreadOver_5 (fun v1 => ?_)
  refine sim_aload_n 1 rfl dX0_spreadOver_6 ?_
  refine sim_getR g_RX0_35 sh_104 rh_104_1 dX0_spreadOver_7 ?_
  refine sim_getR g_RX0_85 (LIsl_o lay_4) rh_4_8 dX0_spreadOver_10 ?_
  refine sim_aload_n 1 rfl dX0_spreadOver_13 ?_
  refine sim_getR g_RX0_11 sh_104 rh_104_3 dX0_spreadOver_14 ?_
  refine sim_iload_n 3 rfl dX0_spreadOver_17 ?_
  refine sim_iaload sh_105 rfl dX0_spreadOver_18 ?_
  refine sim_iaload sh_6 rfl dX0_spreadOver_19 ?_
  refine sim_istore (fun v2 => [(4, vI v2), (3, vI v1), (0, vR 104), (1, vI a1), (2, vI a2)]) (fun _ => rfl) (by decide) dX0_spreadOver_20 (fun v2 => ?_)
  refine sim_aload_n 2 rfl dX0_spreadOver_22 ?_
  refine sim_getR g_RX0_35 sh_104 rh_104_1 dX0_spreadOver_23 ?_
  refine sim_getR g_RX0_88 (LIsl_o lay_4) rh_4_9 dX0_spreadOver_26 ?_
  refine sim_aload_n 2 rfl dX0_spreadOver_29 ?_
  refine sim_getR g_RX0_11 sh_104 rh_104_3 dX0_spreadOver_30 ?_
  refine sim_iload_n 4 rfl dX0_spreadOver_33 ?_
  refine sim_iaload sh_105 rfl dX0_spreadOver_34 ?_
  refine sim_iaload sh_7 rfl dX0_spreadOver_35 ?_
  refine sim_istore (fun v3 => [(5, vI v3), (4, vI v2), (3, vI v1), (0, vR 104), (1, vI a1), (2, vI a2)]) (fun _ => rfl) (by decide) dX0_spreadOver_36 (fun v3 => ?_)
  refine sim_aload_n 3 rfl dX0_spreadOver_38 ?_
  refine sim_getR g_RX0_36 sh_104 rh_104_2 dX0_spreadOver_39 ?_
  refine sim_iload_n 4 rfl dX0_spreadOver_42 ?_
  refine sim_laload sh_103 rfl dX0_spreadOver_43 ?_
  refine sim_aload_n 3 rfl dX0_spreadOver_44 ?_
  refine sim_iload 1 rfl dX0_spreadOver_45 ?_
  refine sim_callVLp v_RX0_91 sh_104 dX0_spreadOver_47 (k_Chn_ahead v2 σ) rfl ⟨by decide, by decide⟩ (S := [vL (σ 103 a1.toNat)]) rfl (Nat.le_of_ble_eq_true rfl) (fun r4 => ?_)
  refine sim_land dX0_spreadOver_50 ?_
  refine sim_lconst (v := 0) dX0_spreadOver_51 (by decide +kernel) ?_
  refine sim_lcmp dX0_spreadOver_52 ?_
  refine sim_jn1 (pc' := 69) (fun  (s6 : JSg) => [(0, vR 104), (1, vI a1), (3, vI v1), (4, vI v2), (5, vI v3)]) (fun  (s6 : JSg) => []) (fun  (s6 : JSg) => s6) ?_ (fun j5 hj5 => ?_)
  · intro s6
    refine sim_aload_n 0 rfl dX0_spreadOver_69 ?_
    refine sim_getR g_RX0_36 sh_104 rh_104_2 dX0_spreadOver_70 ?_
    refine sim_iload_n 1 rfl dX0_spreadOver_73 ?_
    refine sim_laload sh_103 rfl dX0_spreadOver_74 ?_
    refine sim_aload_n 0 rfl dX0_spreadOver_75 ?_
    refine sim_iload 4 rfl dX0_spreadOver_76 ?_
    refine sim_callVLp v_RX0_91 sh_104 dX0_spreadOver_78 (k_Chn_ahead v3 s6) rfl ⟨by decide, by decide⟩ (S := [vL (s6 103 a1.toNat)]) rfl (Nat.le_of_ble_eq_true rfl) (fun r7 => ?_)
    refine sim_land dX0_spreadOver_81 ?_
    refine sim_lconst (v := 0) dX0_spreadOver_82 (by decide +kernel) ?_
    refine sim_lcmp dX0_spreadOver_83 ?_
    refine sim_if_eq (tgt := 100) dX0_spreadOver_84 (by decide) ?_ ?_
    · exact sim_vret rfl rfl dX0_spreadOver_100
    · refine sim_aload_n 0 rfl dX0_spreadOver_87 ?_
      refine sim_getR g_RX0_36 sh_104 rh_104_2 dX0_spreadOver_88 ?_
      refine sim_iload_n 2 rfl dX0_spreadOver_91 ?_
      refine sim_dup2 rfl rfl dX0_spreadOver_92 ?_
      refine sim_laload sh_103 rfl dX0_spreadOver_93 ?_
      refine sim_lconst (v := 1) dX0_spreadOver_94 (by decide +kernel) ?_
      refine sim_iload 3 rfl dX0_spreadOver_95 ?_
      refine sim_lshl dX0_spreadOver_97 ?_
      refine sim_lor dX0_spreadOver_98 ?_
      refine sim_lastore sh_103 rfl dX0_spreadOver_99 (fun s8 => ?_)
      exact sim_vret rfl rfl dX0_spreadOver_100
  refine sim_if_eq (tgt := 69) dX0_spreadOver_53 (by decide) ?_ ?_
  · exact sim_sub [3, 4, 2, 1, 0] rfl (hj5 (σ))
  · refine sim_aload_n 3 rfl dX0_spreadOver_56 ?_
    refine sim_getR g_RX0_36 sh_104 rh_104_2 dX0_spreadOver_57 ?_
    refine sim_iload_n 2 rfl dX0_spreadOver_60 ?_
    refine sim_dup2 rfl rfl dX0_spreadOver_61 ?_
    refine sim_laload sh_103 rfl dX0_spreadOver_62 ?_
    refine sim_lconst (v := 1) dX0_spreadOver_63 (by decide +kernel) ?_
    refine sim_iload 0 rfl dX0_spreadOver_64 ?_
    refine sim_lshl dX0_spreadOver_66 ?_
    refine sim_lor dX0_spreadOver_67 ?_
    refine sim_lastore sh_103 rfl dX0_spreadOver_68 (fun s9 => ?_)
    exact sim_sub [3, 4, 2, 1, 0] rfl (hj5 s9)
theorem dX0_spread_0 : decode cX0_spread 0 = .ok (.aload_n 0, 1) := by decide +kernel
theorem dX0_spread_1 : decode cX0_spread 1 = .ok (.getfield 36, 3) := by decide +kernel
theorem dX0_spread_4 : decode cX0_spread 4 = .ok (.iconst 0, 1) := by decide +kernel
theorem dX0_spread_5 : decode cX0_spread 5 = .ok (.iconst 1, 1) := by decide +kernel
theorem dX0_spread_6 : decode cX0_spread 6 = .ok (.aload_n 0, 1) := by decide +kernel
theorem dX0_spread_7 : decode cX0_spread 7 = .ok (.getfield 15, 3) := by decide +kernel
theorem dX0_spread_10 : decode cX0_spread 10 = .ok (.ishl, 1) := by decide +kernel
theorem dX0_spread_11 : decode cX0_spread 11 = .ok (.lconst 0, 1) := by decide +kernel
theorem dX0_spread_12 : decode cX0_spread 12 = .ok (.invokestatic 75, 3) := by decide +kernel
theorem dX0_spread_15 : decode cX0_spread 15 = .ok (.aload_n 0, 1) := by decide +kernel
theorem dX0_spread_16 : decode cX0_spread 16 = .ok (.getfield 36, 3) := by decide +kernel
theorem dX0_spread_19 : decode cX0_spread 19 = .ok (.iconst 0, 1) := by decide +kernel
theorem dX0_spread_20 : decode cX0_spread 20 = .ok (.lconst 1, 1) := by decide +kernel
theorem dX0_spread_21 : decode cX0_spread 21 = .ok (.iload_n 1, 1) := by decide +kernel
theorem dX0_spread_22 : decode cX0_spread 22 = .ok (.lshl, 1) := by decide +kernel
theorem dX0_spread_23 : decode cX0_spread 23 = .ok (.lastore, 1) := by decide +kernel
theorem dX0_spread_24 : decode cX0_spread 24 = .ok (.iconst 0, 1) := by decide +kernel
theorem dX0_spread_25 : decode cX0_spread 25 = .ok (.istore_n 2, 1) := by decide +kernel
theorem dX0_spread_26 : decode cX0_spread 26 = .ok (.iload_n 2, 1) := by decide +kernel
theorem dX0_spread_27 : decode cX0_spread 27 = .ok (.iconst 1, 1) := by decide +kernel
theorem dX0_spread_28 : decode cX0_spread 28 = .ok (.aload_n 0, 1) := by decide +kernel
theorem dX0_spread_29 : decode cX0_spread 29 = .ok (.getfield 15, 3) := by decide +kernel
theorem dX0_spread_32 : decode cX0_spread 32 = .ok (.ishl, 1) := by decide +kernel
theorem dX0_spread_33 : decode cX0_spread 33 = .ok (.if_icmp .ge 50, 3) := by decide +kernel
theorem dX0_spread_36 : decode cX0_spread 36 = .ok (.iconst 0, 1) := by decide +kernel
theorem dX0_spread_37 : decode cX0_spread 37 = .ok (.istore_n 3, 1) := by decide +kernel
theorem dX0_spread_38 : decode cX0_spread 38 = .ok (.iload_n 3, 1) := by decide +kernel
theorem dX0_spread_39 : decode cX0_spread 39 = .ok (.aload_n 0, 1) := by decide +kernel
theorem dX0_spread_40 : decode cX0_spread 40 = .ok (.getfield 15, 3) := by decide +kernel
theorem dX0_spread_43 : decode cX0_spread 43 = .ok (.if_icmp .ge 34, 3) := by decide +kernel
theorem dX0_spread_46 : decode cX0_spread 46 = .ok (.aload_n 0, 1) := by decide +kernel
theorem dX0_spread_47 : decode cX0_spread 47 = .ok (.getfield 36, 3) := by decide +kernel
theorem dX0_spread_50 : decode cX0_spread 50 = .ok (.iload_n 2, 1) := by decide +kernel
theorem dX0_spread_51 : decode cX0_spread 51 = .ok (.laload, 1) := by decide +kernel
theorem dX0_spread_52 : decode cX0_spread 52 = .ok (.lconst 0, 1) := by decide +kernel
theorem dX0_spread_53 : decode cX0_spread 53 = .ok (.lcmp, 1) := by decide +kernel
theorem dX0_spread_54 : decode cX0_spread 54 = .ok (.ifCond .eq 23, 3) := by decide +kernel
theorem dX0_spread_57 : decode cX0_spread 57 = .ok (.iload_n 2, 1) := by decide +kernel
theorem dX0_spread_58 : decode cX0_spread 58 = .ok (.iload_n 3, 1) := by decide +kernel
theorem dX0_spread_59 : decode cX0_spread 59 = .ok (.ishr, 1) := by decide +kernel
theorem dX0_spread_60 : decode cX0_spread 60 = .ok (.iconst 1, 1) := by decide +kernel
theorem dX0_spread_61 : decode cX0_spread 61 = .ok (.iand, 1) := by decide +kernel
theorem dX0_spread_62 : decode cX0_spread 62 = .ok (.ifCond .ne 9, 3) := by decide +kernel
theorem dX0_spread_65 : decode cX0_spread 65 = .ok (.aload_n 0, 1) := by decide +kernel
theorem dX0_spread_66 : decode cX0_spread 66 = .ok (.iload_n 2, 1) := by decide +kernel
theorem dX0_spread_67 : decode cX0_spread 67 = .ok (.iload_n 3, 1) := by decide +kernel
theorem dX0_spread_68 : decode cX0_spread 68 = .ok (.invokevirtual 81, 3) := by decide +kernel
theorem dX0_spread_71 : decode cX0_spread 71 = .ok (.iinc 3 1, 3) := by decide +kernel
theorem dX0_spread_74 : decode cX0_spread 74 = .ok (.goto (-36), 3) := by decide +kernel
theorem dX0_spread_77 : decode cX0_spread 77 = .ok (.iinc 2 1, 3) := by decide +kernel
theorem dX0_spread_80 : decode cX0_spread 80 = .ok (.goto (-54), 3) := by decide +kernel
theorem dX0_spread_83 : decode cX0_spread 83 = .ok (.return_, 1) := by decide +kernel
def f_Chn_spread (n : Nat)  (a1 : Int) (σ : JSg) : Option (JSg) :=
  bd1 (f_JArr_fill_bad5a n 103 32768 0 (sl32 1 (σ 104 4)) 0 σ) fun s1 => lt_ (sp s1 103 0 (sl64 1 a1)) fun s2 => lt_ 0 fun v3 => wh2 n (fun rc4 (x5 : Int) (s6 : JSg) => if x5 < (sl32 1 (s6 104 4)) then (lt_ 0 fun v7 => wh2 n (fun rc8 (x9 : Int) (s10 : JSg) => jn0 (lt_ (w32 (x5 + 1)) fun v12 => rc4 v12 s10) fun j11 => if x9 < (s10 104 4) then (chk (0 ≤ x5 ∧ x5 < 32768) <| if (cmpL (s10 103 x5.toNat) 0) = 0 then (j11) else (jn1 (fun  (s14 : JSg) => lt_ (w32 (x9 + 1)) fun v15 => rc8 v15 s14) fun j13 => if (an32 (sr32 x5 x9) 1) = 0 then (bd1 (f_Chn_spreadOver x5 x9 s10) fun s16 => j13 s16) else (j13 s10))) else (j11)) v7 s6) else (some s6)) v3 s2
set_option maxRecDepth 20000 in
set_option maxHeartbeats 4000000 in
theorem k_Chn_spread  (n : Nat)   (a1 : Int) (σ : JSg) : Call yX0_spread cX0_spread 4 none 2 SH RHO [vR 104, vI a1] σ dVm (f_Chn_spread n a1 σ) := by
  refine call_of_sim (by decide +kernel) (Nat.le_of_ble_eq_true rfl) ?_
  show Sim RX0 cX0_spread 4 none 2 SH RHO 0 [(0, vR 104), (1, vI a1)] [] σ dVm (f_Chn_spread n a1 σ)
  unfold f_Chn_spread
  refine sim_aload_n 0 rfl dX0_spread_0 ?_
  refine sim_getR g_RX0_36 sh_104 rh_104_2 dX0_spread_1 ?_
  refine sim_iconst dX0_spread_4 (by decide) ?_
  refine sim_iconst dX0_spread_5 (by decide) ?_
  refine sim_aload_n 0 rfl dX0_spread_6 ?_
  refine sim_getI g_RX0_15 sh_104 dX0_spread_7 ?_
  refine sim_ishl dX0_spread_10 ?_
  refine sim_lconst (v := 0) dX0_spread_11 (by decide +kernel) ?_
  refine sim_callSVm s_RX0_75 dX0_spread_12 (k_JArr_fill_bad5a SH RHO n 103 32768 sh_103 (okI_lit (by decide)) 0 (sl32 1 (σ 104 4)) 0 σ) rfl ⟨by decide, by decide⟩ (S := []) rfl (Nat.le_of_ble_eq_true rfl) (fun s1 => ?_)
  refine sim_aload_n 0 rfl dX0_spread_15 ?_
  refine sim_getR g_RX0_36 sh_104 rh_104_2 dX0_spread_16 ?_
  refine sim_iconst dX0_spread_19 (by decide) ?_
  refine sim_lconst (v := 1) dX0_spread_20 (by decide +kernel) ?_
  refine sim_iload_n 1 rfl dX0_spread_21 ?_
  refine sim_lshl dX0_spread_22 ?_
  refine sim_lastoreK (j := 0) sh_103 rfl (by decide) dX0_spread_23 (fun s2 => ?_)
  refine sim_iconst dX0_spread_24 (by decide) ?_
  refine sim_istore_n (fun v3 => [(2, vI v3), (0, vR 104), (1, vI a1)]) (fun _ => rfl) (by decide) dX0_spread_25 (fun v3 => ?_)
  refine sim_sub [1, 0] (L' := [(0, vR 104), (2, vI v3)]) rfl ?_
  refine sim_wh2 (fun (x5 : Int) (s6 : JSg) => [(0, vR 104), (2, vI x5)]) (fun (x5 : Int) (s6 : JSg) => s6) ?_ n v3 s2
  intro rc4 hrc4 x5 s6
  refine sim_iload_n 1 rfl dX0_spread_26 ?_
  refine sim_iconst dX0_spread_27 (by decide) ?_
  refine sim_aload_n 0 rfl dX0_spread_28 ?_
  refine sim_getI g_RX0_15 sh_104 dX0_spread_29 ?_
  refine sim_ishl dX0_spread_32 ?_
  refine sim_icmp_ge (tgt := 83) dX0_spread_33 (by decide) ?_ ?_
  · exact sim_vret rfl rfl dX0_spread_83
  · refine sim_iconst dX0_spread_36 (by decide) ?_
    refine sim_istore_n (fun v7 => [(3, vI v7), (0, vR 104), (2, vI x5)]) (fun _ => rfl) (by decide) dX0_spread_37 (fun v7 => ?_)
    refine sim_sub [1, 2, 0] (L' := [(0, vR 104), (2, vI x5), (3, vI v7)]) rfl ?_
    refine sim_wh2 (fun (x9 : Int) (s10 : JSg) => [(0, vR 104), (2, vI x5), (3, vI x9)]) (fun (x9 : Int) (s10 : JSg) => s10) ?_ n v7 s6
    intro rc8 hrc8 x9 s10
    refine sim_iload_n 2 rfl dX0_spread_38 ?_
    refine sim_aload_n 0 rfl dX0_spread_39 ?_
    refine sim_getI g_RX0_15 sh_104 dX0_spread_40 ?_
    refine sim_jn0 (pc' := 77) ([(0, vR 104), (2, vI x5)]) ([]) (s10) ?_ (fun j11 hj11 => ?_)
    · refine sim_iinc 1 rfl (fun v12 => [(2, vI v12), (0, vR 104)]) (fun _ => rfl) (by decide) dX0_spread_77 (fun v12 => ?_)
      refine sim_goto (tgt := 26) dX0_spread_80 (by decide) ?_
      exact sim_sub [1, 0] rfl (hrc4 v12 s10)
    refine sim_icmp_ge (tgt := 77) dX0_spread_43 (by decide) ?_ ?_
    · exact sim_sub [0, 1] rfl (hj11 )
    · refine sim_aload_n 0 rfl dX0_spread_46 ?_
      refine sim_getR g_RX0_36 sh_104 rh_104_2 dX0_spread_47 ?_
      refine sim_iload_n 1 rfl dX0_spread_50 ?_
      refine sim_laload sh_103 rfl dX0_spread_51 ?_
      refine sim_lconst (v := 0) dX0_spread_52 (by decide +kernel) ?_
      refine sim_lcmp dX0_spread_53 ?_
      refine sim_if_eq (tgt := 77) dX0_spread_54 (by decide) ?_ ?_
      · exact sim_sub [0, 1] rfl (hj11 )
      · refine sim_iload_n 1 rfl dX0_spread_57 ?_
        refine sim_iload_n 2 rfl dX0_spread_58 ?_
        refine sim_ishr dX0_spread_59 ?_
        refine sim_iconst dX0_spread_60 (by decide) ?_
        refine sim_iand dX0_spread_61 ?_
        refine sim_jn1 (pc' := 71) (fun  (s14 : JSg) => [(0, vR 104), (2, vI x5), (3, vI x9)]) (fun  (s14 : JSg) => []) (fun  (s14 : JSg) => s14) ?_ (fun j13 hj13 => ?_)
        · intro s14
          refine sim_iinc 2 rfl (fun v15 => [(3, vI v15), (0, vR 104), (2, vI x5)]) (fun _ => rfl) (by decide) dX0_spread_71 (fun v15 => ?_)
          refine sim_goto (tgt := 38) dX0_spread_74 (by decide) ?_
          exact sim_sub [1, 2, 0] rfl (hrc8 v15 s14)
        refine sim_if_ne (tgt := 71) dX0_spread_62 (by decide) ?_ ?_
        · exact sim_sub [0, 1, 2] rfl (hj13 s10)
        · refine sim_aload_n 0 rfl dX0_spread_65 ?_
          refine sim_iload_n 1 rfl dX0_spread_66 ?_
          refine sim_iload_n 2 rfl dX0_spread_67 ?_
          refine sim_callVVm v_RX0_81 sh_104 dX0_spread_68 (k_Chn_spreadOver x5 x9 s10) rfl ⟨by decide, by decide⟩ (S := []) rfl (Nat.le_of_ble_eq_true rfl) (fun s16 => ?_)
          exact sim_sub [0, 1, 2] rfl (hj13 s16)
theorem dJ6_bitCount_0f7a4_0 : decode cJ6_bitCount_0f7a4 0 = .ok (.iload_n 0, 1) := by decide +kernel
theorem dJ6_bitCount_0f7a4_1 : decode cJ6_bitCount_0f7a4 1 = .ok (.iload_n 0, 1) := by decide +kernel
theorem dJ6_bitCount_0f7a4_2 : decode cJ6_bitCount_0f7a4 2 = .ok (.iconst 1, 1) := by decide +kernel
theorem dJ6_bitCount_0f7a4_3 : decode cJ6_bitCount_0f7a4 3 = .ok (.iushr, 1) := by decide +kernel
theorem dJ6_bitCount_0f7a4_4 : decode cJ6_bitCount_0f7a4 4 = .ok (.ldc_w 265, 3) := by decide +kernel
theorem dJ6_bitCount_0f7a4_7 : decode cJ6_bitCount_0f7a4 7 = .ok (.iand, 1) := by decide +kernel
theorem dJ6_bitCount_0f7a4_8 : decode cJ6_bitCount_0f7a4 8 = .ok (.isub, 1) := by decide +kernel
theorem dJ6_bitCount_0f7a4_9 : decode cJ6_bitCount_0f7a4 9 = .ok (.istore_n 0, 1) := by decide +kernel
theorem dJ6_bitCount_0f7a4_10 : decode cJ6_bitCount_0f7a4 10 = .ok (.iload_n 0, 1) := by decide +kernel
theorem dJ6_bitCount_0f7a4_11 : decode cJ6_bitCount_0f7a4 11 = .ok (.ldc_w 266, 3) := by decide +kernel
theorem dJ6_bitCount_0f7a4_14 : decode cJ6_bitCount_0f7a4 14 = .ok (.iand, 1) := by decide +kernel
theorem dJ6_bitCount_0f7a4_15 : decode cJ6_bitCount_0f7a4 15 = .ok (.iload_n 0, 1) := by decide +kernel
theorem dJ6_bitCount_0f7a4_16 : decode cJ6_bitCount_0f7a4 16 = .ok (.iconst 2, 1) := by decide +kernel
theorem dJ6_bitCount_0f7a4_17 : decode cJ6_bitCount_0f7a4 17 = .ok (.iushr, 1) := by decide +kernel
theorem dJ6_bitCount_0f7a4_18 : decode cJ6_bitCount_0f7a4 18 = .ok (.ldc_w 266, 3) := by decide +kernel
theorem dJ6_bitCount_0f7a4_21 : decode cJ6_bitCount_0f7a4 21 = .ok (.iand, 1) := by decide +kernel
theorem dJ6_bitCount_0f7a4_22 : decode cJ6_bitCount_0f7a4 22 = .ok (.iadd, 1) := by decide +kernel
theorem dJ6_bitCount_0f7a4_23 : decode cJ6_bitCount_0f7a4 23 = .ok (.istore_n 0, 1) := by decide +kernel
theorem dJ6_bitCount_0f7a4_24 : decode cJ6_bitCount_0f7a4 24 = .ok (.iload_n 0, 1) := by decide +kernel
theorem dJ6_bitCount_0f7a4_25 : decode cJ6_bitCount_0f7a4 25 = .ok (.iload_n 0, 1) := by decide +kernel
theorem dJ6_bitCount_0f7a4_26 : decode cJ6_bitCount_0f7a4 26 = .ok (.iconst 4, 1) := by decide +kernel
theorem dJ6_bitCount_0f7a4_27 : decode cJ6_bitCount_0f7a4 27 = .ok (.iushr, 1) := by decide +kernel
theorem dJ6_bitCount_0f7a4_28 : decode cJ6_bitCount_0f7a4 28 = .ok (.iadd, 1) := by decide +kernel
theorem dJ6_bitCount_0f7a4_29 : decode cJ6_bitCount_0f7a4 29 = .ok (.ldc_w 267, 3) := by decide +kernel
theorem dJ6_bitCount_0f7a4_32 : decode cJ6_bitCount_0f7a4 32 = .ok (.iand, 1) := by decide +kernel
theorem dJ6_bitCount_0f7a4_33 : decode cJ6_bitCount_0f7a4 33 = .ok (.istore_n 0, 1) := by decide +kernel
theorem dJ6_bitCount_0f7a4_34 : decode cJ6_bitCount_0f7a4 34 = .ok (.iload_n 0, 1) := by decide +kernel
theorem dJ6_bitCount_0f7a4_35 : decode cJ6_bitCount_0f7a4 35 = .ok (.iload_n 0, 1) := by decide +kernel
theorem dJ6_bitCount_0f7a4_36 : decode cJ6_bitCount_0f7a4 36 = .ok (.bipush 8, 2) := by decide +kernel
theorem dJ6_bitCount_0f7a4_38 : decode cJ6_bitCount_0f7a4 38 = .ok (.iushr, 1) := by decide +kernel
theorem dJ6_bitCount_0f7a4_39 : decode cJ6_bitCount_0f7a4 39 = .ok (.iadd, 1) := by decide +kernel
theorem dJ6_bitCount_0f7a4_40 : decode cJ6_bitCount_0f7a4 40 = .ok (.istore_n 0, 1) := by decide +kernel
theorem dJ6_bitCount_0f7a4_41 : decode cJ6_bitCount_0f7a4 41 = .ok (.iload_n 0, 1) := by decide +kernel
theorem dJ6_bitCount_0f7a4_42 : decode cJ6_bitCount_0f7a4 42 = .ok (.iload_n 0, 1) := by decide +kernel
theorem dJ6_bitCount_0f7a4_43 : decode cJ6_bitCount_0f7a4 43 = .ok (.bipush 16, 2) := by decide +kernel
theorem dJ6_bitCount_0f7a4_45 : decode cJ6_bitCount_0f7a4 45 = .ok (.iushr, 1) := by decide +kernel
theorem dJ6_bitCount_0f7a4_46 : decode cJ6_bitCount_0f7a4 46 = .ok (.iadd, 1) := by decide +kernel
theorem dJ6_bitCount_0f7a4_47 : decode cJ6_bitCount_0f7a4 47 = .ok (.istore_n 0, 1) := by decide +kernel
theorem dJ6_bitCount_0f7a4_48 : decode cJ6_bitCount_0f7a4 48 = .ok (.iload_n 0, 1) := by decide +kernel
theorem dJ6_bitCount_0f7a4_49 : decode cJ6_bitCount_0f7a4 49 = .ok (.bipush 63, 2) := by decide +kernel
theorem dJ6_bitCount_0f7a4_51 : decode cJ6_bitCount_0f7a4 51 = .ok (.iand, 1) := by decide +kernel
theorem dJ6_bitCount_0f7a4_52 : decode cJ6_bitCount_0f7a4 52 = .ok (.ireturn, 1) := by decide +kernel
def f_JInt_bitCount_0f7a4   (a1 : Int) (σ : JSg) : Option (Int) :=
  lt_ (w32 (a1 - (an32 (ur32 a1 1) 1431655765))) fun v1 => lt_ (w32 ((an32 v1 858993459) + (an32 (ur32 v1 2) 858993459))) fun v2 => lt_ (an32 (w32 (v2 + (ur32 v2 4))) 252645135) fun v3 => lt_ (w32 (v3 + (ur32 v3 8))) fun v4 => lt_ (w32 (v4 + (ur32 v4 16))) fun v5 => some (an32 v5 63)
set_option maxRecDepth 20000 in
set_option maxHeartbeats 4000000 in
theorem k_JInt_bitCount_0f7a4 (Sh : JSh) (ρ : JRo)    (a1 : Int) (σ : JSg) : Call yJ6_bitCount_0f7a4 cJ6_bitCount_0f7a4 1 (some .int) 0 Sh ρ [vI a1] σ (dIp σ) (f_JInt_bitCount_0f7a4 a1 σ) := by
  refine call_of_sim (by decide +kernel) (Nat.le_of_ble_eq_true rfl) ?_
  show Sim RJ6 cJ6_bitCount_0f7a4 1 (some .int) 0 Sh ρ 0 [(0, vI a1)] [] σ (dIp σ) (f_JInt_bitCount_0f7a4 a1 σ)
  unfold f_JInt_bitCount_0f7a4
  refine sim_iload_n 0 rfl dJ6_bitCount_0f7a4_0 ?_
  refine sim_iload_n 0 rfl dJ6_bitCount_0f7a4_1 ?_
  refine sim_iconst dJ6_bitCount_0f7a4_2 (by decide) ?_
  refine sim_iushr dJ6_bitCount_0f7a4_3 ?_
  refine sim_ldcw (v := 1431655765) w_996 (by decide +kernel) dJ6_bitCount_0f7a4_4 ?_
  refine sim_iand dJ6_bitCount_0f7a4_7 ?_
  refine sim_isub dJ6_bitCount_0f7a4_8 ?_
  refine sim_istore_n (fun v1 => [(0, vI v1)]) (fun _ => rfl) (by decide) dJ6_bitCount_0f7a4_9 (fun v1 => ?_)
  refine sim_iload_n 0 rfl dJ6_bitCount_0f7a4_10 ?_
  refine sim_ldcw (v := 858993459) w_997 (by decide +kernel) dJ6_bitCount_0f7a4_11 ?_
  refine sim_iand dJ6_bitCount_0f7a4_14 ?_
  refine sim_iload_n 0 rfl dJ6_bitCount_0f7a4_15 ?_
  refine sim_iconst dJ6_bitCount_0f7a4_16 (by decide) ?_
  refine sim_iushr dJ6_bitCount_0f7a4_17 ?_
  refine sim_ldcw (v := 858993459) w_997 (by decide +kernel) dJ6_bitCount_0f7a4_18 ?_
  refine sim_iand dJ6_bitCount_0f7a4_21 ?_
  refine sim_iadd dJ6_bitCount_0f7a4_22 ?_
  refine sim_istore_n (fun v2 => [(0, vI v2)]) (fun _ => rfl) (by decide) dJ6_bitCount_0f7a4_23 (fun v2 => ?_)
  refine sim_iload_n 0 rfl dJ6_bitCount_0f7a4_24 ?_
  refine sim_iload_n 0 rfl dJ6_bitCount_0f7a4_25 ?_
  refine sim_iconst dJ6_bitCount_0f7a4_26 (by decide) ?_
  refine sim_iushr dJ6_bitCount_0f7a4_27 ?_
  refine sim_iadd dJ6_bitCount_0f7a4_28 ?_
  refine sim_ldcw (v := 252645135) w_998 (by decide +kernel) dJ6_bitCount_0f7a4_29 ?_
  refine sim_iand dJ6_bitCount_0f7a4_32 ?_
  refine sim_istore_n (fun v3 => [(0, vI v3)]) (fun _ => rfl) (by decide) dJ6_bitCount_0f7a4_33 (fun v3 => ?_)
  refine sim_iload_n 0 rfl dJ6_bitCount_0f7a4_34 ?_
  refine sim_iload_n 0 rfl dJ6_bitCount_0f7a4_35 ?_
  refine sim_bipush dJ6_bitCount_0f7a4_36 (by decide +kernel) ?_
  refine sim_iushr dJ6_bitCount_0f7a4_38 ?_
  refine sim_iadd dJ6_bitCount_0f7a4_39 ?_
  refine sim_istore_n (fun v4 => [(0, vI v4)]) (fun _ => rfl) (by decide) dJ6_bitCount_0f7a4_40 (fun v4 => ?_)
  refine sim_iload_n 0 rfl dJ6_bitCount_0f7a4_41 ?_
  refine sim_iload_n 0 rfl dJ6_bitCount_0f7a4_42 ?_
  refine sim_bipush dJ6_bitCount_0f7a4_43 (by decide +kernel) ?_
  refine sim_iushr dJ6_bitCount_0f7a4_45 ?_
  refine sim_iadd dJ6_bitCount_0f7a4_46 ?_
  refine sim_istore_n (fun v5 => [(0, vI v5)]) (fun _ => rfl) (by decide) dJ6_bitCount_0f7a4_47 (fun v5 => ?_)
  refine sim_iload_n 0 rfl dJ6_bitCount_0f7a4_48 ?_
  refine sim_bipush dJ6_bitCount_0f7a4_49 (by decide +kernel) ?_
  refine sim_iand dJ6_bitCount_0f7a4_51 ?_
  exact sim_iret rfl rfl dJ6_bitCount_0f7a4_52
theorem dX0_fewestBetween_0 : decode cX0_fewestBetween 0 = .ok (.aload_n 0, 1) := by decide +kernel
theorem dX0_fewestBetween_1 : decode cX0_fewestBetween 1 = .ok (.aload_n 0, 1) := by decide +kernel
theorem dX0_fewestBetween_2 : decode cX0_fewestBetween 2 = .ok (.getfield 25, 3) := by decide +kernel
theorem dX0_fewestBetween_5 : decode cX0_fewestBetween 5 = .ok (.aload_n 0, 1) := by decide +kernel
theorem dX0_fewestBetween_6 : decode cX0_fewestBetween 6 = .ok (.getfield 11, 3) := by decide +kernel
theorem dX0_fewestBetween_9 : decode cX0_fewestBetween 9 = .ok (.invokevirtual 40, 3) := by decide +kernel
theorem dX0_fewestBetween_12 : decode cX0_fewestBetween 12 = .ok (.putfield 15, 3) := by decide +kernel
theorem dX0_fewestBetween_15 : decode cX0_fewestBetween 15 = .ok (.aload_n 0, 1) := by decide +kernel
theorem dX0_fewestBetween_16 : decode cX0_fewestBetween 16 = .ok (.getfield 15, 3) := by decide +kernel
theorem dX0_fewestBetween_19 : decode cX0_fewestBetween 19 = .ok (.iconst (-1), 1) := by decide +kernel
theorem dX0_fewestBetween_20 : decode cX0_fewestBetween 20 = .ok (.if_icmp .ne 5, 3) := by decide +kernel
theorem dX0_fewestBetween_23 : decode cX0_fewestBetween 23 = .ok (.iconst (-1), 1) := by decide +kernel
theorem dX0_fewestBetween_24 : decode cX0_fewestBetween 24 = .ok (.ireturn, 1) := by decide +kernel
theorem dX0_fewestBetween_25 : decode cX0_fewestBetween 25 = .ok (.aload_n 0, 1) := by decide +kernel
theorem dX0_fewestBetween_26 : decode cX0_fewestBetween 26 = .ok (.iload_n 1, 1) := by decide +kernel
theorem dX0_fewestBetween_27 : decode cX0_fewestBetween 27 = .ok (.invokevirtual 49, 3) := by decide +kernel
theorem dX0_fewestBetween_30 : decode cX0_fewestBetween 30 = .ok (.iconst (-1), 1) := by decide +kernel
theorem dX0_fewestBetween_31 : decode cX0_fewestBetween 31 = .ok (.istore_n 3, 1) := by decide +kernel
theorem dX0_fewestBetween_32 : decode cX0_fewestBetween 32 = .ok (.iconst 0, 1) := by decide +kernel
theorem dX0_fewestBetween_33 : decode cX0_fewestBetween 33 = .ok (.istore 4, 2) := by decide +kernel
theorem dX0_fewestBetween_35 : decode cX0_fewestBetween 35 = .ok (.iload 4, 2) := by decide +kernel
theorem dX0_fewestBetween_37 : decode cX0_fewestBetween 37 = .ok (.iconst 1, 1) := by decide +kernel
theorem dX0_fewestBetween_38 : decode cX0_fewestBetween 38 = .ok (.aload_n 0, 1) := by decide +kernel
theorem dX0_fewestBetween_39 : decode cX0_fewestBetween 39 = .ok (.getfield 15, 3) := by decide +kernel
theorem dX0_fewestBetween_42 : decode cX0_fewestBetween 42 = .ok (.ishl, 1) := by decide +kernel
theorem dX0_fewestBetween_43 : decode cX0_fewestBetween 43 = .ok (.if_icmp .ge 53, 3) := by decide +kernel
theorem dX0_fewestBetween_46 : decode cX0_fewestBetween 46 = .ok (.iload 4, 2) := by decide +kernel
theorem dX0_fewestBetween_48 : decode cX0_fewestBetween 48 = .ok (.invokestatic 53, 3) := by decide +kernel
theorem dX0_fewestBetween_51 : decode cX0_fewestBetween 51 = .ok (.istore 5, 2) := by decide +kernel
theorem dX0_fewestBetween_53 : decode cX0_fewestBetween 53 = .ok (.aload_n 0, 1) := by decide +kernel
theorem dX0_fewestBetween_54 : decode cX0_fewestBetween 54 = .ok (.getfield 36, 3) := by decide +kernel
theorem dX0_fewestBetween_57 : decode cX0_fewestBetween 57 = .ok (.iload 4, 2) := by decide +kernel
theorem dX0_fewestBetween_59 : decode cX0_fewestBetween 59 = .ok (.laload, 1) := by decide +kernel
theorem dX0_fewestBetween_60 : decode cX0_fewestBetween 60 = .ok (.aload_n 0, 1) := by decide +kernel
theorem dX0_fewestBetween_61 : decode cX0_fewestBetween 61 = .ok (.getfield 35, 3) := by decide +kernel
theorem dX0_fewestBetween_64 : decode cX0_fewestBetween 64 = .ok (.getfield 70, 3) := by decide +kernel
theorem dX0_fewestBetween_67 : decode cX0_fewestBetween 67 = .ok (.iload_n 2, 1) := by decide +kernel
theorem dX0_fewestBetween_68 : decode cX0_fewestBetween 68 = .ok (.iaload, 1) := by decide +kernel
theorem dX0_fewestBetween_69 : decode cX0_fewestBetween 69 = .ok (.i2l, 1) := by decide +kernel
theorem dX0_fewestBetween_70 : decode cX0_fewestBetween 70 = .ok (.land, 1) := by decide +kernel
theorem dX0_fewestBetween_71 : decode cX0_fewestBetween 71 = .ok (.lconst 0, 1) := by decide +kernel
theorem dX0_fewestBetween_72 : decode cX0_fewestBetween 72 = .ok (.lcmp, 1) := by decide +kernel
theorem dX0_fewestBetween_73 : decode cX0_fewestBetween 73 = .ok (.ifCond .eq 17, 3) := by decide +kernel
theorem dX0_fewestBetween_76 : decode cX0_fewestBetween 76 = .ok (.iload_n 3, 1) := by decide +kernel
theorem dX0_fewestBetween_77 : decode cX0_fewestBetween 77 = .ok (.iconst (-1), 1) := by decide +kernel
theorem dX0_fewestBetween_78 : decode cX0_fewestBetween 78 = .ok (.if_icmp .eq 9, 3) := by decide +kernel
theorem dX0_fewestBetween_81 : decode cX0_fewestBetween 81 = .ok (.iload 5, 2) := by decide +kernel
theorem dX0_fewestBetween_83 : decode cX0_fewestBetween 83 = .ok (.iload_n 3, 1) := by decide +kernel
theorem dX0_fewestBetween_84 : decode cX0_fewestBetween 84 = .ok (.if_icmp .ge 6, 3) := by decide +kernel
theorem dX0_fewestBetween_87 : decode cX0_fewestBetween 87 = .ok (.iload 5, 2) := by decide +kernel
theorem dX0_fewestBetween_89 : decode cX0_fewestBetween 89 = .ok (.istore_n 3, 1) := by decide +kernel
theorem dX0_fewestBetween_90 : decode cX0_fewestBetween 90 = .ok (.iinc 4 1, 3) := by decide +kernel
theorem dX0_fewestBetween_93 : decode cX0_fewestBetween 93 = .ok (.goto (-58), 3) := by decide +kernel
theorem dX0_fewestBetween_96 : decode cX0_fewestBetween 96 = .ok (.iload_n 3, 1) := by decide +kernel
theorem dX0_fewestBetween_97 : decode cX0_fewestBetween 97 = .ok (.ireturn, 1) := by decide +kernel
def f_Chn_fewestBetween (n : Nat)  (a1 : Int) (a2 : Int) (σ : JSg) : Option (Int × JSg) :=
  bd2 (f_Row_gather n 11 4 105 12 σ) fun r1 s2 => lt_ (sp s2 104 4 r1) fun s3 => if (s3 104 4) = (-1) then (some ((-1), s3)) else (bd1 (f_Chn_spread n a1 s3) fun s4 => lt_ (-1) fun v5 => lt_ 0 fun v6 => wh2 n (fun rc7 (x8 : Int) (x9 : Int) => if x9 < (sl32 1 (s4 104 4)) then (bd1 (f_JInt_bitCount_0f7a4 x9 s4) fun r10 => lt_ r10 fun v11 => chk (0 ≤ x9 ∧ x9 < 32768) <| chk (0 ≤ a2 ∧ a2 < 7) <| jn1 (fun (y13 : Int) => lt_ (w32 (x9 + 1)) fun v14 => rc7 y13 v14) fun j12 => if (cmpL (an64 (s4 103 x9.toNat) (s4 10 a2.toNat)) 0) = 0 then (j12 x8) else (jn0 (lt_ v11 fun v16 => j12 v16) fun j15 => if x8 = (-1) then (j15) else (if v11 < x8 then (j15) else (j12 x8)))) else (some (x8, s4))) v5 v6)
set_option maxRecDepth 20000 in
set_option maxHeartbeats 4000000 in
theorem k_Chn_fewestBetween  (n : Nat)   (a1 : Int) (a2 : Int) (σ : JSg) : Call yX0_fewestBetween cX0_fewestBetween 6 (some .int) 3 SH RHO [vR 104, vI a1, vI a2] σ dIm (f_Chn_fewestBetween n a1 a2 σ) := by
  refine call_of_sim (by decide +kernel) (Nat.le_of_ble_eq_true rfl) ?_
  show Sim RX0 cX0_fewestBetween 6 (some .int) 3 SH RHO 0 [(0, vR 104), (1, vI a1), (2, vI a2)] [] σ dIm (f_Chn_fewestBetween n a1 a2 σ)
  unfold f_Chn_fewestBetween
  refine sim_aload_n 0 rfl dX0_fewestBetween_0 ?_
  refine sim_aload_n 0 rfl dX0_fewestBetween_1 ?_
  refine sim_getR g_RX0_25 sh_104 rh_104_0 dX0_fewestBetween_2 ?_
  refine sim_aload_n 0 rfl dX0_fewestBetween_5 ?_
  refine sim_getR g_RX0_11 sh_104 rh_104_3 dX0_fewestBetween_6 ?_
  refine sim_callVIm v_RX0_40 (LRow_o lay_11) dX0_fewestBetween_9 (k_Row_gather SH RHO n 11 4 105 12 lay_11 lay_4 sh_105 (okI_lit (by decide)) σ) rfl ⟨by decide, by decide⟩ (S := [vR 104]) rfl (Nat.le_of_ble_eq_true rfl) (fun r1 s2 => ?_)
  refine sim_putI g_RX0_15 sh_104 dX0_fewestBetween_12 (fun s3 => ?_)
  refine sim_aload_n 0 rfl dX0_fewestBetween_15 ?_
  refine sim_getI g_RX0_15 sh_104 dX0_fewestBetween_16 ?_
  refine sim_iconst dX0_fewestBetween_19 (by decide) ?_
  refine sim_icmp_ne (tgt := 25) dX0_fewestBetween_20 (by decide) ?_ ?_
  · refine sim_aload_n 0 rfl dX0_fewestBetween_25 ?_
    refine sim_iload_n 1 rfl dX0_fewestBetween_26 ?_
    refine sim_callVVm v_RX0_49 sh_104 dX0_fewestBetween_27 (k_Chn_spread n a1 s3) rfl ⟨by decide, by decide⟩ (S := []) rfl (Nat.le_of_ble_eq_true rfl) (fun s4 => ?_)
    refine sim_iconst dX0_fewestBetween_30 (by decide) ?_
    refine sim_istore_n (fun v5 => [(3, vI v5), (0, vR 104), (1, vI a1), (2, vI a2)]) (fun _ => rfl) (by decide) dX0_fewestBetween_31 (fun v5 => ?_)
    refine sim_iconst dX0_fewestBetween_32 (by decide) ?_
    refine sim_istore (fun v6 => [(4, vI v6), (3, vI v5), (0, vR 104), (1, vI a1), (2, vI a2)]) (fun _ => rfl) (by decide) dX0_fewestBetween_33 (fun v6 => ?_)
    refine sim_sub [2, 4, 1, 0] (L' := [(0, vR 104), (2, vI a2), (3, vI v5), (4, vI v6)]) rfl ?_
    refine sim_wh2 (fun (x8 : Int) (x9 : Int) => [(0, vR 104), (2, vI a2), (3, vI x8), (4, vI x9)]) (fun (x8 : Int) (x9 : Int) => s4) ?_ n v5 v6
    intro rc7 hrc7 x8 x9
    refine sim_iload 3 rfl dX0_fewestBetween_35 ?_
    refine sim_iconst dX0_fewestBetween_37 (by decide) ?_
    refine sim_aload_n 0 rfl dX0_fewestBetween_38 ?_
    refine sim_getI g_RX0_15 sh_104 dX0_fewestBetween_39 ?_
    refine sim_ishl dX0_fewestBetween_42 ?_
    refine sim_icmp_ge (tgt := 96) dX0_fewestBetween_43 (by decide) ?_ ?_
    · refine sim_iload_n 2 rfl dX0_fewestBetween_96 ?_
      exact sim_iret rfl rfl dX0_fewestBetween_97
    · refine sim_iload 3 rfl dX0_fewestBetween_46 ?_
      refine sim_callSIp s_RX0_53 dX0_fewestBetween_48 (k_JInt_bitCount_0f7a4 SH RHO x9 s4) rfl ⟨by decide, by decide⟩ (S := []) rfl (Nat.le_of_ble_eq_true rfl) (fun r10 => ?_)
      refine sim_istore (fun v11 => [(5, vI v11), (0, vR 104), (2, vI a2), (3, vI x8), (4, vI x9)]) (fun _ => rfl) (by decide) dX0_fewestBetween_51 (fun v11 => ?_)
      refine sim_aload_n 1 rfl dX0_fewestBetween_53 ?_
      refine sim_getR g_RX0_36 sh_104 rh_104_2 dX0_fewestBetween_54 ?_
      refine sim_iload 4 rfl dX0_fewestBetween_57 ?_
      refine sim_laload sh_103 rfl dX0_fewestBetween_59 ?_
      refine sim_aload_n 1 rfl dX0_fewestBetween_60 ?_
      refine sim_getR g_RX0_35 sh_104 rh_104_1 dX0_fewestBetween_61 ?_
      refine sim_getR g_RX0_70 (LIsl_o lay_4) rh_4_12 dX0_fewestBetween_64 ?_
      refine sim_iload_n 2 rfl dX0_fewestBetween_67 ?_
      refine sim_iaload sh_10 rfl dX0_fewestBetween_68 ?_
      refine sim_i2l dX0_fewestBetween_69 ?_
      refine sim_land dX0_fewestBetween_70 ?_
      refine sim_lconst (v := 0) dX0_fewestBetween_71 (by decide +kernel) ?_
      refine sim_lcmp dX0_fewestBetween_72 ?_
      refine sim_jn1 (pc' := 90) (fun (y13 : Int) => [(0, vR 104), (2, vI a2), (3, vI y13), (4, vI x9)]) (fun (y13 : Int) => []) (fun (y13 : Int) => s4) ?_ (fun j12 hj12 => ?_)
      · intro y13
        refine sim_iinc 3 rfl (fun v14 => [(4, vI v14), (0, vR 104), (2, vI a2), (3, vI y13)]) (fun _ => rfl) (by decide) dX0_fewestBetween_90 (fun v14 => ?_)
        refine sim_goto (tgt := 35) dX0_fewestBetween_93 (by decide) ?_
        exact sim_sub [1, 2, 3, 0] rfl (hrc7 y13 v14)
      refine sim_if_eq (tgt := 90) dX0_fewestBetween_73 (by decide) ?_ ?_
      · exact sim_sub [1, 2, 3, 4] rfl (hj12 x8)
      · refine sim_iload_n 3 rfl dX0_fewestBetween_76 ?_
        refine sim_iconst dX0_fewestBetween_77 (by decide) ?_
        refine sim_jn0 (pc' := 87) ([(0, vR 104), (2, vI a2), (4, vI x9), (5, vI v11)]) ([]) (s4) ?_ (fun j15 hj15 => ?_)
        · refine sim_iload 3 rfl dX0_fewestBetween_87 ?_
          refine sim_istore_n (fun v16 => [(3, vI v16), (0, vR 104), (2, vI a2), (4, vI x9), (5, vI v11)]) (fun _ => rfl) (by decide) dX0_fewestBetween_89 (fun v16 => ?_)
          exact sim_sub [1, 2, 0, 3] rfl (hj12 v16)
        refine sim_icmp_eq (tgt := 87) dX0_fewestBetween_78 (by decide) ?_ ?_
        · exact sim_sub [1, 2, 4, 0] rfl (hj15 )
        · refine sim_iload 0 rfl dX0_fewestBetween_81 ?_
          refine sim_iload_n 3 rfl dX0_fewestBetween_83 ?_
          refine sim_icmp_ge (tgt := 90) dX0_fewestBetween_84 (by decide) ?_ ?_
          · exact sim_sub [1, 2, 3, 4] rfl (hj12 x8)
          · exact sim_sub [1, 2, 4, 0] rfl (hj15 )
  · refine sim_iconst dX0_fewestBetween_23 (by decide) ?_
    exact sim_iret rfl rfl dX0_fewestBetween_24
theorem dX11_leads_0 : decode cX11_leads 0 = .ok (.iload_n 1, 1) := by decide +kernel
theorem dX11_leads_1 : decode cX11_leads 1 = .ok (.invokestatic 198, 3) := by decide +kernel
theorem dX11_leads_4 : decode cX11_leads 4 = .ok (.ifCond .eq 22, 3) := by decide +kernel
theorem dX11_leads_7 : decode cX11_leads 7 = .ok (.iload_n 2, 1) := by decide +kernel
theorem dX11_leads_8 : decode cX11_leads 8 = .ok (.invokestatic 198, 3) := by decide +kernel
theorem dX11_leads_11 : decode cX11_leads 11 = .ok (.ifCond .eq 15, 3) := by decide +kernel
theorem dX11_leads_14 : decode cX11_leads 14 = .ok (.aload_n 0, 1) := by decide +kernel
theorem dX11_leads_15 : decode cX11_leads 15 = .ok (.getfield 78, 3) := by decide +kernel
theorem dX11_leads_18 : decode cX11_leads 18 = .ok (.iload_n 1, 1) := by decide +kernel
theorem dX11_leads_19 : decode cX11_leads 19 = .ok (.iload_n 2, 1) := by decide +kernel
theorem dX11_leads_20 : decode cX11_leads 20 = .ok (.invokevirtual 291, 3) := by decide +kernel
theorem dX11_leads_23 : decode cX11_leads 23 = .ok (.goto 4, 3) := by decide +kernel
theorem dX11_leads_26 : decode cX11_leads 26 = .ok (.iconst (-1), 1) := by decide +kernel
theorem dX11_leads_27 : decode cX11_leads 27 = .ok (.ireturn, 1) := by decide +kernel
def f_W_leads (n : Nat)  (a1 : Int) (a2 : Int) (σ : JSg) : Option (Int × JSg) :=
  bd1 (f_W_isPips a1 σ) fun r1 => if r1 = 0 then (some ((-1), σ)) else (bd1 (f_W_isPips a2 σ) fun r2 => if r2 = 0 then (some ((-1), σ)) else (bd2 (f_Chn_fewestBetween n a1 a2 σ) fun r3 s4 => some (r3, s4)))
set_option maxRecDepth 20000 in
set_option maxHeartbeats 4000000 in
theorem k_W_leads  (n : Nat)   (a1 : Int) (a2 : Int) (σ : JSg) : Call yX11_leads cX11_leads 3 (some .int) 4 SH RHO [vR 0, vI a1, vI a2] σ dIm (f_W_leads n a1 a2 σ) := by
  refine call_of_sim (by decide +kernel) (Nat.le_of_ble_eq_true rfl) ?_
  show Sim RX11 cX11_leads 3 (some .int) 4 SH RHO 0 [(0, vR 0), (1, vI a1), (2, vI a2)] [] σ dIm (f_W_leads n a1 a2 σ)
  unfold f_W_leads
  refine sim_iload_n 1 rfl dX11_leads_0 ?_
  refine sim_callSIp s_RX11_198 dX11_leads_1 (k_W_isPips SH RHO a1 σ) rfl ⟨by decide, by decide⟩ (S := []) rfl (Nat.le_of_ble_eq_true rfl) (fun r1 => ?_)
  refine sim_if_eq (tgt := 26) dX11_leads_4 (by decide) ?_ ?_
  · refine sim_iconst dX11_leads_26 (by decide) ?_
    exact sim_iret rfl rfl dX11_leads_27
  · refine sim_iload_n 2 rfl dX11_leads_7 ?_
    refine sim_callSIp s_RX11_198 dX11_leads_8 (k_W_isPips SH RHO a2 σ) rfl ⟨by decide, by decide⟩ (S := []) rfl (Nat.le_of_ble_eq_true rfl) (fun r2 => ?_)
    refine sim_if_eq (tgt := 26) dX11_leads_11 (by decide) ?_ ?_
    · refine sim_iconst dX11_leads_26 (by decide) ?_
      exact sim_iret rfl rfl dX11_leads_27
    · refine sim_aload_n 0 rfl dX11_leads_14 ?_
      refine sim_getR g_RX11_78 sh_0 rh_0_12 dX11_leads_15 ?_
      refine sim_iload_n 1 rfl dX11_leads_18 ?_
      refine sim_iload_n 2 rfl dX11_leads_19 ?_
      refine sim_callVIm v_RX11_291 sh_104 dX11_leads_20 (k_Chn_fewestBetween n a1 a2 σ) rfl ⟨by decide, by decide⟩ (S := []) rfl (Nat.le_of_ble_eq_true rfl) (fun r3 s4 => ?_)
      refine sim_goto (tgt := 27) dX11_leads_23 (by decide) ?_
      exact sim_iret rfl rfl dX11_leads_27
theorem dX11_stretch_0 : decode cX11_stretch 0 = .ok (.iconst 0, 1) := by decide +kernel
theorem dX11_stretch_1 : decode cX11_stretch 1 = .ok (.istore_n 1, 1) := by decide +kernel
theorem dX11_stretch_2 : decode cX11_stretch 2 = .ok (.iconst 0, 1) := by decide +kernel
theorem dX11_stretch_3 : decode cX11_stretch 3 = .ok (.istore_n 2, 1) := by decide +kernel
theorem dX11_stretch_4 : decode cX11_stretch 4 = .ok (.iconst 0, 1) := by decide +kernel
theorem dX11_stretch_5 : decode cX11_stretch 5 = .ok (.istore_n 3, 1) := by decide +kernel
theorem dX11_stretch_6 : decode cX11_stretch 6 = .ok (.iload_n 3, 1) := by decide +kernel
theorem dX11_stretch_7 : decode cX11_stretch 7 = .ok (.aload_n 0, 1) := by decide +kernel
theorem dX11_stretch_8 : decode cX11_stretch 8 = .ok (.getfield 29, 3) := by decide +kernel
theorem dX11_stretch_11 : decode cX11_stretch 11 = .ok (.getfield 72, 3) := by decide +kernel
theorem dX11_stretch_14 : decode cX11_stretch 14 = .ok (.getfield 205, 3) := by decide +kernel
theorem dX11_stretch_17 : decode cX11_stretch 17 = .ok (.if_icmp .ge 41, 3) := by decide +kernel
theorem dX11_stretch_20 : decode cX11_stretch 20 = .ok (.iload_n 3, 1) := by decide +kernel
theorem dX11_stretch_21 : decode cX11_stretch 21 = .ok (.ifCond .le 23, 3) := by decide +kernel
theorem dX11_stretch_24 : decode cX11_stretch 24 = .ok (.aload_n 0, 1) := by decide +kernel
theorem dX11_stretch_25 : decode cX11_stretch 25 = .ok (.getfield 29, 3) := by decide +kernel
theorem dX11_stretch_28 : decode cX11_stretch 28 = .ok (.getfield 72, 3) := by decide +kernel
theorem dX11_stretch_31 : decode cX11_stretch 31 = .ok (.iload_n 3, 1) := by decide +kernel
theorem dX11_stretch_32 : decode cX11_stretch 32 = .ok (.invokevirtual 285, 3) := by decide +kernel
theorem dX11_stretch_35 : decode cX11_stretch 35 = .ok (.ifCond .eq 9, 3) := by decide +kernel
theorem dX11_stretch_38 : decode cX11_stretch 38 = .ok (.iload_n 2, 1) := by decide +kernel
theorem dX11_stretch_39 : decode cX11_stretch 39 = .ok (.iconst 1, 1) := by decide +kernel
theorem dX11_stretch_40 : decode cX11_stretch 40 = .ok (.iadd, 1) := by decide +kernel
theorem dX11_stretch_41 : decode cX11_stretch 41 = .ok (.goto 4, 3) := by decide +kernel
theorem dX11_stretch_44 : decode cX11_stretch 44 = .ok (.iconst 1, 1) := by decide +kernel
theorem dX11_stretch_45 : decode cX11_stretch 45 = .ok (.istore_n 2, 1) := by decide +kernel
theorem dX11_stretch_46 : decode cX11_stretch 46 = .ok (.iload_n 1, 1) := by decide +kernel
theorem dX11_stretch_47 : decode cX11_stretch 47 = .ok (.iload_n 2, 1) := by decide +kernel
theorem dX11_stretch_48 : decode cX11_stretch 48 = .ok (.invokestatic 288, 3) := by decide +kernel
theorem dX11_stretch_51 : decode cX11_stretch 51 = .ok (.istore_n 1, 1) := by decide +kernel
theorem dX11_stretch_52 : decode cX11_stretch 52 = .ok (.iinc 3 1, 3) := by decide +kernel
theorem dX11_stretch_55 : decode cX11_stretch 55 = .ok (.goto (-49), 3) := by decide +kernel
theorem dX11_stretch_58 : decode cX11_stretch 58 = .ok (.iload_n 1, 1) := by decide +kernel
theorem dX11_stretch_59 : decode cX11_stretch 59 = .ok (.ireturn, 1) := by decide +kernel
def f_W_stretch (n : Nat)   (σ : JSg) : Option (Int) :=
  lt_ 0 fun v1 => lt_ 0 fun v2 => lt_ 0 fun v3 => wh3 n (fun rc4 (x5 : Int) (x6 : Int) (x7 : Int) => if x7 < (σ 11 4) then (jn1 (fun (u9 : Int) => lt_ u9 fun v10 => lt_ (max x5 v10) fun v11 => lt_ (w32 (x7 + 1)) fun v12 => rc4 v11 v10 v12) fun j8 => jn0 (j8 1) fun j13 => if 0 < x7 then (bd1 (f_Row_joined 11 4 x7 σ) fun r14 => if r14 = 0 then (j13) else (j8 (w32 (x6 + 1)))) else (j13)) else (some x5)) v1 v2 v3
set_option maxRecDepth 20000 in
set_option maxHeartbeats 4000000 in
theorem k_W_stretch  (n : Nat)    (σ : JSg) : Call yX11_stretch cX11_stretch 4 (some .int) 2 SH RHO [vR 0] σ (dIp σ) (f_W_stretch n σ) := by
  refine call_of_sim (by decide +kernel) (Nat.le_of_ble_eq_true rfl) ?_
  show Sim RX11 cX11_stretch 4 (some .int) 2 SH RHO 0 [(0, vR 0)] [] σ (dIp σ) (f_W_stretch n σ)
  unfold f_W_stretch
  refine sim_iconst dX11_stretch_0 (by decide) ?_
  refine sim_istore_n (fun v1 => [(1, vI v1), (0, vR 0)]) (fun _ => rfl) (by decide) dX11_stretch_1 (fun v1 => ?_)
  refine sim_iconst dX11_stretch_2 (by decide) ?_
  refine sim_istore_n (fun v2 => [(2, vI v2), (1, vI v1), (0, vR 0)]) (fun _ => rfl) (by decide) dX11_stretch_3 (fun v2 => ?_)
  refine sim_iconst dX11_stretch_4 (by decide) ?_
  refine sim_istore_n (fun v3 => [(3, vI v3), (2, vI v2), (1, vI v1), (0, vR 0)]) (fun _ => rfl) (by decide) dX11_stretch_5 (fun v3 => ?_)
  refine sim_sub [3, 2, 1, 0] (L' := [(0, vR 0), (1, vI v1), (2, vI v2), (3, vI v3)]) rfl ?_
  refine sim_wh3 (fun (x5 : Int) (x6 : Int) (x7 : Int) => [(0, vR 0), (1, vI x5), (2, vI x6), (3, vI x7)]) (fun (x5 : Int) (x6 : Int) (x7 : Int) => σ) ?_ n v1 v2 v3
  intro rc4 hrc4 x5 x6 x7
  refine sim_iload_n 3 rfl dX11_stretch_6 ?_
  refine sim_aload_n 0 rfl dX11_stretch_7 ?_
  refine sim_getR g_RX11_29 sh_0 rh_0_3 dX11_stretch_8 ?_
  refine sim_getR g_RX11_72 (LWld_o lay_3) rh_3_1 dX11_stretch_11 ?_
  refine sim_getI g_RX11_205 (LRow_o lay_11) dX11_stretch_14 ?_
  refine sim_icmp_ge (tgt := 58) dX11_stretch_17 (by decide) ?_ ?_
  · refine sim_iload_n 1 rfl dX11_stretch_58 ?_
    exact sim_iret rfl rfl dX11_stretch_59
  · refine sim_iload_n 3 rfl dX11_stretch_20 ?_
    refine sim_jn1 (pc' := 45) (fun (u9 : Int) => [(0, vR 0), (1, vI x5), (3, vI x7)]) (fun (u9 : Int) => [vI u9]) (fun (u9 : Int) => σ) ?_ (fun j8 hj8 => ?_)
    · intro u9
      refine sim_istore_n (fun v10 => [(2, vI v10), (0, vR 0), (1, vI x5), (3, vI x7)]) (fun _ => rfl) (by decide) dX11_stretch_45 (fun v10 => ?_)
      refine sim_iload_n 2 rfl dX11_stretch_46 ?_
      refine sim_iload_n 0 rfl dX11_stretch_47 ?_
      refine sim_mmax w_1129 w_618 w_14 w_619 (by decide) (Nat.le_of_ble_eq_true rfl) dX11_stretch_48 ?_
      refine sim_istore_n (fun v11 => [(1, vI v11), (2, vI v10), (0, vR 0), (3, vI x7)]) (fun _ => rfl) (by decide) dX11_stretch_51 (fun v11 => ?_)
      refine sim_iinc 3 rfl (fun v12 => [(3, vI v12), (1, vI v11), (2, vI v10), (0, vR 0)]) (fun _ => rfl) (by decide) dX11_stretch_52 (fun v12 => ?_)
      refine sim_goto (tgt := 6) dX11_stretch_55 (by decide) ?_
      exact sim_sub [3, 1, 2, 0] rfl (hrc4 v11 v10 v12)
    refine sim_jn0 (pc' := 44) ([(0, vR 0), (1, vI x5), (3, vI x7)]) ([]) (σ) ?_ (fun j13 hj13 => ?_)
    · refine sim_iconst dX11_stretch_44 (by decide) ?_
      exact sim_sub [0, 1, 2] rfl (hj8 1)
    refine sim_if_le (tgt := 44) dX11_stretch_21 (by decide) ?_ ?_
    · exact sim_sub [0, 1, 3] rfl (hj13 )
    · refine sim_aload_n 0 rfl dX11_stretch_24 ?_
      refine sim_getR g_RX11_29 sh_0 rh_0_3 dX11_stretch_25 ?_
      refine sim_getR g_RX11_72 (LWld_o lay_3) rh_3_1 dX11_stretch_28 ?_
      refine sim_iload_n 3 rfl dX11_stretch_31 ?_
      refine sim_callVIp v_RX11_285 (LRow_o lay_11) dX11_stretch_32 (k_Row_joined SH RHO 11 4 lay_11 lay_4 x7 σ) rfl ⟨by decide, by decide⟩ (S := []) rfl (Nat.le_of_ble_eq_true rfl) (fun r14 => ?_)
      refine sim_if_eq (tgt := 44) dX11_stretch_35 (by decide) ?_ ?_
      · exact sim_sub [0, 1, 3] rfl (hj13 )
      · refine sim_iload_n 2 rfl dX11_stretch_38 ?_
        refine sim_iconst dX11_stretch_39 (by decide) ?_
        refine sim_iadd dX11_stretch_40 ?_
        refine sim_goto (tgt := 45) dX11_stretch_41 (by decide) ?_
        exact sim_sub [0, 1, 3] rfl (hj8 (w32 (x6 + 1)))
theorem dX11_open_0 : decode cX11_open 0 = .ok (.iload_n 1, 1) := by decide +kernel
theorem dX11_open_1 : decode cX11_open 1 = .ok (.invokestatic 211, 3) := by decide +kernel
theorem dX11_open_4 : decode cX11_open 4 = .ok (.ifCond .ne 5, 3) := by decide +kernel
theorem dX11_open_7 : decode cX11_open 7 = .ok (.iconst (-1), 1) := by decide +kernel
theorem dX11_open_8 : decode cX11_open 8 = .ok (.ireturn, 1) := by decide +kernel
theorem dX11_open_9 : decode cX11_open 9 = .ok (.iconst 0, 1) := by decide +kernel
theorem dX11_open_10 : decode cX11_open 10 = .ok (.istore_n 2, 1) := by decide +kernel
theorem dX11_open_11 : decode cX11_open 11 = .ok (.iconst 0, 1) := by decide +kernel
theorem dX11_open_12 : decode cX11_open 12 = .ok (.istore_n 3, 1) := by decide +kernel
theorem dX11_open_13 : decode cX11_open 13 = .ok (.iload_n 3, 1) := by decide +kernel
theorem dX11_open_14 : decode cX11_open 14 = .ok (.aload_n 0, 1) := by decide +kernel
theorem dX11_open_15 : decode cX11_open 15 = .ok (.getfield 29, 3) := by decide +kernel
theorem dX11_open_18 : decode cX11_open 18 = .ok (.getfield 54, 3) := by decide +kernel
theorem dX11_open_21 : decode cX11_open 21 = .ok (.getfield 279, 3) := by decide +kernel
theorem dX11_open_24 : decode cX11_open 24 = .ok (.if_icmp .ge 45, 3) := by decide +kernel
theorem dX11_open_27 : decode cX11_open 27 = .ok (.aload_n 0, 1) := by decide +kernel
theorem dX11_open_28 : decode cX11_open 28 = .ok (.getfield 29, 3) := by decide +kernel
theorem dX11_open_31 : decode cX11_open 31 = .ok (.getfield 72, 3) := by decide +kernel
theorem dX11_open_34 : decode cX11_open 34 = .ok (.getfield 170, 3) := by decide +kernel
theorem dX11_open_37 : decode cX11_open 37 = .ok (.iload_n 3, 1) := by decide +kernel
theorem dX11_open_38 : decode cX11_open 38 = .ok (.iaload, 1) := by decide +kernel
theorem dX11_open_39 : decode cX11_open 39 = .ok (.ifCond .ne 24, 3) := by decide +kernel
theorem dX11_open_42 : decode cX11_open 42 = .ok (.aload_n 0, 1) := by decide +kernel
theorem dX11_open_43 : decode cX11_open 43 = .ok (.getfield 29, 3) := by decide +kernel
theorem dX11_open_46 : decode cX11_open 46 = .ok (.getfield 72, 3) := by decide +kernel
theorem dX11_open_49 : decode cX11_open 49 = .ok (.iload_n 3, 1) := by decide +kernel
theorem dX11_open_50 : decode cX11_open 50 = .ok (.iload_n 1, 1) := by decide +kernel
theorem dX11_open_51 : decode cX11_open 51 = .ok (.invokevirtual 282, 3) := by decide +kernel
theorem dX11_open_54 : decode cX11_open 54 = .ok (.ifCond .eq 9, 3) := by decide +kernel
theorem dX11_open_57 : decode cX11_open 57 = .ok (.iload_n 2, 1) := by decide +kernel
theorem dX11_open_58 : decode cX11_open 58 = .ok (.iconst 1, 1) := by decide +kernel
theorem dX11_open_59 : decode cX11_open 59 = .ok (.iload_n 3, 1) := by decide +kernel
theorem dX11_open_60 : decode cX11_open 60 = .ok (.ishl, 1) := by decide +kernel
theorem dX11_open_61 : decode cX11_open 61 = .ok (.ior, 1) := by decide +kernel
theorem dX11_open_62 : decode cX11_open 62 = .ok (.istore_n 2, 1) := by decide +kernel
theorem dX11_open_63 : decode cX11_open 63 = .ok (.iinc 3 1, 3) := by decide +kernel
theorem dX11_open_66 : decode cX11_open 66 = .ok (.goto (-53), 3) := by decide +kernel
theorem dX11_open_69 : decode cX11_open 69 = .ok (.iload_n 2, 1) := by decide +kernel
theorem dX11_open_70 : decode cX11_open 70 = .ok (.ireturn, 1) := by decide +kernel
def f_W_open (n : Nat)  (a1 : Int) (σ : JSg) : Option (Int) :=
  bd1 (f_W_isEnd a1 σ) fun r1 => if r1 = 0 then (some (-1)) else (lt_ 0 fun v2 => lt_ 0 fun v3 => wh2 n (fun rc4 (x5 : Int) (x6 : Int) => if x6 < (σ 4 2) then (chk (0 ≤ x6 ∧ x6 < 28) <| jn1 (fun (y8 : Int) => lt_ (w32 (x6 + 1)) fun v9 => rc4 y8 v9) fun j7 => if (σ 13 x6.toNat) = 0 then (bd1 (f_Row_goesTo 11 4 x6 a1 σ) fun r10 => if r10 = 0 then (j7 x5) else (lt_ (or32 x5 (sl32 1 x6)) fun v11 => j7 v11)) else (j7 x5)) else (some x5)) v2 v3)
set_option maxRecDepth 20000 in
set_option maxHeartbeats 4000000 in
theorem k_W_open  (n : Nat)   (a1 : Int) (σ : JSg) : Call yX11_open cX11_open 4 (some .int) 3 SH RHO [vR 0, vI a1] σ (dIp σ) (f_W_open n a1 σ) := by
  refine call_of_sim (by decide +kernel) (Nat.le_of_ble_eq_true rfl) ?_
  show Sim RX11 cX11_open 4 (some .int) 3 SH RHO 0 [(0, vR 0), (1, vI a1)] [] σ (dIp σ) (f_W_open n a1 σ)
  unfold f_W_open
  refine sim_iload_n 1 rfl dX11_open_0 ?_
  refine sim_callSIp s_RX11_211 dX11_open_1 (k_W_isEnd SH RHO a1 σ) rfl ⟨by decide, by decide⟩ (S := []) rfl (Nat.le_of_ble_eq_true rfl) (fun r1 => ?_)
  refine sim_if_ne (tgt := 9) dX11_open_4 (by decide) ?_ ?_
  · refine sim_iconst dX11_open_9 (by decide) ?_
    refine sim_istore_n (fun v2 => [(2, vI v2), (0, vR 0), (1, vI a1)]) (fun _ => rfl) (by decide) dX11_open_10 (fun v2 => ?_)
    refine sim_iconst dX11_open_11 (by decide) ?_
    refine sim_istore_n (fun v3 => [(3, vI v3), (2, vI v2), (0, vR 0), (1, vI a1)]) (fun _ => rfl) (by decide) dX11_open_12 (fun v3 => ?_)
    refine sim_sub [2, 3, 1, 0] (L' := [(0, vR 0), (1, vI a1), (2, vI v2), (3, vI v3)]) rfl ?_
    refine sim_wh2 (fun (x5 : Int) (x6 : Int) => [(0, vR 0), (1, vI a1), (2, vI x5), (3, vI x6)]) (fun (x5 : Int) (x6 : Int) => σ) ?_ n v2 v3
    intro rc4 hrc4 x5 x6
    refine sim_iload_n 3 rfl dX11_open_13 ?_
    refine sim_aload_n 0 rfl dX11_open_14 ?_
    refine sim_getR g_RX11_29 sh_0 rh_0_3 dX11_open_15 ?_
    refine sim_getR g_RX11_54 (LWld_o lay_3) rh_3_0 dX11_open_18 ?_
    refine sim_getI g_RX11_279 (LIsl_o lay_4) dX11_open_21 ?_
    refine sim_icmp_ge (tgt := 69) dX11_open_24 (by decide) ?_ ?_
    · refine sim_iload_n 2 rfl dX11_open_69 ?_
      exact sim_iret rfl rfl dX11_open_70
    · refine sim_aload_n 0 rfl dX11_open_27 ?_
      refine sim_getR g_RX11_29 sh_0 rh_0_3 dX11_open_28 ?_
      refine sim_getR g_RX11_72 (LWld_o lay_3) rh_3_1 dX11_open_31 ?_
      refine sim_getR g_RX11_170 (LRow_o lay_11) rh_11_2 dX11_open_34 ?_
      refine sim_iload_n 3 rfl dX11_open_37 ?_
      refine sim_iaload sh_13 rfl dX11_open_38 ?_
      refine sim_jn1 (pc' := 63) (fun (y8 : Int) => [(0, vR 0), (1, vI a1), (2, vI y8), (3, vI x6)]) (fun (y8 : Int) => []) (fun (y8 : Int) => σ) ?_ (fun j7 hj7 => ?_)
      · intro y8
        refine sim_iinc 3 rfl (fun v9 => [(3, vI v9), (0, vR 0), (1, vI a1), (2, vI y8)]) (fun _ => rfl) (by decide) dX11_open_63 (fun v9 => ?_)
        refine sim_goto (tgt := 13) dX11_open_66 (by decide) ?_
        exact sim_sub [1, 2, 3, 0] rfl (hrc4 y8 v9)
      refine sim_if_ne (tgt := 63) dX11_open_39 (by decide) ?_ ?_
      · exact sim_sub [0, 1, 2, 3] rfl (hj7 x5)
      · refine sim_aload_n 0 rfl dX11_open_42 ?_
        refine sim_getR g_RX11_29 sh_0 rh_0_3 dX11_open_43 ?_
        refine sim_getR g_RX11_72 (LWld_o lay_3) rh_3_1 dX11_open_46 ?_
        refine sim_iload_n 3 rfl dX11_open_49 ?_
        refine sim_iload_n 1 rfl dX11_open_50 ?_
        refine sim_callVIp v_RX11_282 (LRow_o lay_11) dX11_open_51 (k_Row_goesTo SH RHO 11 4 lay_11 lay_4 x6 a1 σ) rfl ⟨by decide, by decide⟩ (S := []) rfl (Nat.le_of_ble_eq_true rfl) (fun r10 => ?_)
        refine sim_if_eq (tgt := 63) dX11_open_54 (by decide) ?_ ?_
        · exact sim_sub [0, 1, 2, 3] rfl (hj7 x5)
        · refine sim_iload_n 2 rfl dX11_open_57 ?_
          refine sim_iconst dX11_open_58 (by decide) ?_
          refine sim_iload_n 3 rfl dX11_open_59 ?_
          refine sim_ishl dX11_open_60 ?_
          refine sim_ior dX11_open_61 ?_
          refine sim_istore_n (fun v11 => [(2, vI v11), (0, vR 0), (1, vI a1), (3, vI x6)]) (fun _ => rfl) (by decide) dX11_open_62 (fun v11 => ?_)
          exact sim_sub [1, 2, 0, 3] rfl (hj7 v11)
  · refine sim_iconst dX11_open_7 (by decide) ?_
    exact sim_iret rfl rfl dX11_open_8
theorem dX11_first_0 : decode cX11_first 0 = .ok (.aload_n 0, 1) := by decide +kernel
theorem dX11_first_1 : decode cX11_first 1 = .ok (.getfield 92, 3) := by decide +kernel
theorem dX11_first_4 : decode cX11_first 4 = .ok (.getfield 276, 3) := by decide +kernel
theorem dX11_first_7 : decode cX11_first 7 = .ok (.ireturn, 1) := by decide +kernel
def f_W_first    (σ : JSg) : Option (Int) :=
  some (σ 114 7)
set_option maxRecDepth 20000 in
set_option maxHeartbeats 4000000 in
theorem k_W_first      (σ : JSg) : Call yX11_first cX11_first 1 (some .int) 0 SH RHO [vR 0] σ (dIp σ) (f_W_first  σ) := by
  refine call_of_sim (by decide +kernel) (Nat.le_of_ble_eq_true rfl) ?_
  show Sim RX11 cX11_first 1 (some .int) 0 SH RHO 0 [(0, vR 0)] [] σ (dIp σ) (f_W_first  σ)
  unfold f_W_first
  refine sim_aload_n 0 rfl dX11_first_0 ?_
  refine sim_getR g_RX11_92 sh_0 rh_0_14 dX11_first_1 ?_
  refine sim_getI g_RX11_276 sh_114 dX11_first_4 ?_
  exact sim_iret rfl rfl dX11_first_7
theorem dX4_gather_0 : decode cX4_gather 0 = .ok (.aload_n 0, 1) := by decide +kernel
theorem dX4_gather_1 : decode cX4_gather 1 = .ok (.iconst 0, 1) := by decide +kernel
theorem dX4_gather_2 : decode cX4_gather 2 = .ok (.putfield 15, 3) := by decide +kernel
theorem dX4_gather_5 : decode cX4_gather 5 = .ok (.aload_n 0, 1) := by decide +kernel
theorem dX4_gather_6 : decode cX4_gather 6 = .ok (.iconst 0, 1) := by decide +kernel
theorem dX4_gather_7 : decode cX4_gather 7 = .ok (.putfield 19, 3) := by decide +kernel
theorem dX4_gather_10 : decode cX4_gather 10 = .ok (.aload_n 0, 1) := by decide +kernel
theorem dX4_gather_11 : decode cX4_gather 11 = .ok (.iconst 0, 1) := by decide +kernel
theorem dX4_gather_12 : decode cX4_gather 12 = .ok (.putfield 22, 3) := by decide +kernel
theorem dX4_gather_15 : decode cX4_gather 15 = .ok (.iconst 0, 1) := by decide +kernel
theorem dX4_gather_16 : decode cX4_gather 16 = .ok (.istore_n 3, 1) := by decide +kernel
theorem dX4_gather_17 : decode cX4_gather 17 = .ok (.iload_n 3, 1) := by decide +kernel
theorem dX4_gather_18 : decode cX4_gather 18 = .ok (.aload_n 0, 1) := by decide +kernel
theorem dX4_gather_19 : decode cX4_gather 19 = .ok (.getfield 38, 3) := by decide +kernel
theorem dX4_gather_22 : decode cX4_gather 22 = .ok (.getfield 69, 3) := by decide +kernel
theorem dX4_gather_25 : decode cX4_gather 25 = .ok (.if_icmp .ge 126, 3) := by decide +kernel
theorem dX4_gather_28 : decode cX4_gather 28 = .ok (.aload_n 0, 1) := by decide +kernel
theorem dX4_gather_29 : decode cX4_gather 29 = .ok (.getfield 28, 3) := by decide +kernel
theorem dX4_gather_32 : decode cX4_gather 32 = .ok (.iload_n 1, 1) := by decide +kernel
theorem dX4_gather_33 : decode cX4_gather 33 = .ok (.iload_n 3, 1) := by decide +kernel
theorem dX4_gather_34 : decode cX4_gather 34 = .ok (.invokevirtual 74, 3) := by decide +kernel
theorem dX4_gather_37 : decode cX4_gather 37 = .ok (.ifCond .ne 15, 3) := by decide +kernel
theorem dX4_gather_40 : decode cX4_gather 40 = .ok (.aload_n 0, 1) := by decide +kernel
theorem dX4_gather_41 : decode cX4_gather 41 = .ok (.getfield 28, 3) := by decide +kernel
theorem dX4_gather_44 : decode cX4_gather 44 = .ok (.iload_n 2, 1) := by decide +kernel
theorem dX4_gather_45 : decode cX4_gather 45 = .ok (.iload_n 3, 1) := by decide +kernel
theorem dX4_gather_46 : decode cX4_gather 46 = .ok (.invokevirtual 74, 3) := by decide +kernel
theorem dX4_gather_49 : decode cX4_gather 49 = .ok (.ifCond .eq 96, 3) := by decide +kernel
theorem dX4_gather_52 : decode cX4_gather 52 = .ok (.aload_n 0, 1) := by decide +kernel
theorem dX4_gather_53 : decode cX4_gather 53 = .ok (.getfield 15, 3) := by decide +kernel
theorem dX4_gather_56 : decode cX4_gather 56 = .ok (.bipush 10, 2) := by decide +kernel
theorem dX4_gather_58 : decode cX4_gather 58 = .ok (.if_icmp .lt 5, 3) := by decide +kernel
theorem dX4_gather_61 : decode cX4_gather 61 = .ok (.iconst 0, 1) := by decide +kernel
theorem dX4_gather_62 : decode cX4_gather 62 = .ok (.ireturn, 1) := by decide +kernel
theorem dX4_gather_63 : decode cX4_gather 63 = .ok (.aload_n 0, 1) := by decide +kernel
theorem dX4_gather_64 : decode cX4_gather 64 = .ok (.getfield 11, 3) := by decide +kernel
theorem dX4_gather_67 : decode cX4_gather 67 = .ok (.aload_n 0, 1) := by decide +kernel
theorem dX4_gather_68 : decode cX4_gather 68 = .ok (.getfield 15, 3) := by decide +kernel
theorem dX4_gather_71 : decode cX4_gather 71 = .ok (.iload_n 3, 1) := by decide +kernel
theorem dX4_gather_72 : decode cX4_gather 72 = .ok (.iastore, 1) := by decide +kernel
theorem dX4_gather_73 : decode cX4_gather 73 = .ok (.aload_n 0, 1) := by decide +kernel
theorem dX4_gather_74 : decode cX4_gather 74 = .ok (.dup, 1) := by decide +kernel
theorem dX4_gather_75 : decode cX4_gather 75 = .ok (.getfield 19, 3) := by decide +kernel
theorem dX4_gather_78 : decode cX4_gather 78 = .ok (.aload_n 0, 1) := by decide +kernel
theorem dX4_gather_79 : decode cX4_gather 79 = .ok (.getfield 28, 3) := by decide +kernel
theorem dX4_gather_82 : decode cX4_gather 82 = .ok (.iload_n 1, 1) := by decide +kernel
theorem dX4_gather_83 : decode cX4_gather 83 = .ok (.iload_n 3, 1) := by decide +kernel
theorem dX4_gather_84 : decode cX4_gather 84 = .ok (.invokevirtual 74, 3) := by decide +kernel
theorem dX4_gather_87 : decode cX4_gather 87 = .ok (.ifCond .eq 12, 3) := by decide +kernel
theorem dX4_gather_90 : decode cX4_gather 90 = .ok (.iconst 1, 1) := by decide +kernel
theorem dX4_gather_91 : decode cX4_gather 91 = .ok (.aload_n 0, 1) := by decide +kernel
theorem dX4_gather_92 : decode cX4_gather 92 = .ok (.getfield 15, 3) := by decide +kernel
theorem dX4_gather_95 : decode cX4_gather 95 = .ok (.ishl, 1) := by decide +kernel
theorem dX4_gather_96 : decode cX4_gather 96 = .ok (.goto 4, 3) := by decide +kernel
theorem dX4_gather_99 : decode cX4_gather 99 = .ok (.iconst 0, 1) := by decide +kernel
theorem dX4_gather_100 : decode cX4_gather 100 = .ok (.ior, 1) := by decide +kernel
theorem dX4_gather_101 : decode cX4_gather 101 = .ok (.putfield 19, 3) := by decide +kernel
theorem dX4_gather_104 : decode cX4_gather 104 = .ok (.aload_n 0, 1) := by decide +kernel
theorem dX4_gather_105 : decode cX4_gather 105 = .ok (.dup, 1) := by decide +kernel
theorem dX4_gather_106 : decode cX4_gather 106 = .ok (.getfield 22, 3) := by decide +kernel
theorem dX4_gather_109 : decode cX4_gather 109 = .ok (.aload_n 0, 1) := by decide +kernel
theorem dX4_gather_110 : decode cX4_gather 110 = .ok (.getfield 28, 3) := by decide +kernel
theorem dX4_gather_113 : decode cX4_gather 113 = .ok (.iload_n 2, 1) := by decide +kernel
theorem dX4_gather_114 : decode cX4_gather 114 = .ok (.iload_n 3, 1) := by decide +kernel
theorem dX4_gather_115 : decode cX4_gather 115 = .ok (.invokevirtual 74, 3) := by decide +kernel
theorem dX4_gather_118 : decode cX4_gather 118 = .ok (.ifCond .eq 12, 3) := by decide +kernel
theorem dX4_gather_121 : decode cX4_gather 121 = .ok (.iconst 1, 1) := by decide +kernel
theorem dX4_gather_122 : decode cX4_gather 122 = .ok (.aload_n 0, 1) := by decide +kernel
theorem dX4_gather_123 : decode cX4_gather 123 = .ok (.getfield 15, 3) := by decide +kernel
theorem dX4_gather_126 : decode cX4_gather 126 = .ok (.ishl, 1) := by decide +kernel
theorem dX4_gather_127 : decode cX4_gather 127 = .ok (.goto 4, 3) := by decide +kernel
theorem dX4_gather_130 : decode cX4_gather 130 = .ok (.iconst 0, 1) := by decide +kernel
theorem dX4_gather_131 : decode cX4_gather 131 = .ok (.ior, 1) := by decide +kernel
theorem dX4_gather_132 : decode cX4_gather 132 = .ok (.putfield 22, 3) := by decide +kernel
theorem dX4_gather_135 : decode cX4_gather 135 = .ok (.aload_n 0, 1) := by decide +kernel
theorem dX4_gather_136 : decode cX4_gather 136 = .ok (.dup, 1) := by decide +kernel
theorem dX4_gather_137 : decode cX4_gather 137 = .ok (.getfield 15, 3) := by decide +kernel
theorem dX4_gather_140 : decode cX4_gather 140 = .ok (.iconst 1, 1) := by decide +kernel
theorem dX4_gather_141 : decode cX4_gather 141 = .ok (.iadd, 1) := by decide +kernel
theorem dX4_gather_142 : decode cX4_gather 142 = .ok (.putfield 15, 3) := by decide +kernel
theorem dX4_gather_145 : decode cX4_gather 145 = .ok (.iinc 3 1, 3) := by decide +kernel
theorem dX4_gather_148 : decode cX4_gather 148 = .ok (.goto (-131), 3) := by decide +kernel
theorem dX4_gather_151 : decode cX4_gather 151 = .ok (.iconst 1, 1) := by decide +kernel
theorem dX4_gather_152 : decode cX4_gather 152 = .ok (.ireturn, 1) := by decide +kernel
def f_Mat_gather (n : Nat)  (a1 : Int) (a2 : Int) (σ : JSg) : Option (Int × JSg) :=
  lt_ (sp σ 114 4 0) fun s1 => lt_ (sp s1 114 5 0) fun s2 => lt_ (sp s2 114 6 0) fun s3 => lt_ 0 fun v4 => wh2 n (fun rc5 (x6 : Int) (s7 : JSg) => if x6 < (s7 4 2) then (bd1 (f_Row_isHeldBy 11 4 a1 x6 s7) fun r8 => jn1 (fun  (s10 : JSg) => lt_ (w32 (x6 + 1)) fun v11 => rc5 v11 s10) fun j9 => jn0 (if (s7 114 4) < 10 then (chk (0 ≤ (s7 114 4) ∧ (s7 114 4) < 10) <| lt_ (sp s7 115 (s7 114 4).toNat x6) fun s13 => bd1 (f_Row_isHeldBy 11 4 a1 x6 s13) fun r14 => jn1 (fun (u16 : Int) => lt_ (sp s13 114 5 (or32 (s13 114 5) u16)) fun s17 => bd1 (f_Row_isHeldBy 11 4 a2 x6 s17) fun r18 => jn1 (fun (u20 : Int) => lt_ (sp s17 114 6 (or32 (s17 114 6) u20)) fun s21 => lt_ (sp s21 114 4 (w32 ((s21 114 4) + 1))) fun s22 => j9 s22) fun j19 => if r18 = 0 then (j19 0) else (j19 (sl32 1 (s17 114 4)))) fun j15 => if r14 = 0 then (j15 0) else (j15 (sl32 1 (s13 114 4)))) else (some (0, s7))) fun j12 => if r8 = 0 then (bd1 (f_Row_isHeldBy 11 4 a2 x6 s7) fun r23 => if r23 = 0 then (j9 s7) else (j12)) else (j12)) else (some (1, s7))) v4 s3
set_option maxRecDepth 20000 in
set_option maxHeartbeats 4000000 in
theorem k_Mat_gather  (n : Nat)   (a1 : Int) (a2 : Int) (σ : JSg) : Call yX4_gather cX4_gather 4 (some .boolean) 1 SH RHO [vR 114, vI a1, vI a2] σ dIm (f_Mat_gather n a1 a2 σ) := by
  refine call_of_sim (by decide +kernel) (Nat.le_of_ble_eq_true rfl) ?_
  show Sim RX4 cX4_gather 4 (some .boolean) 1 SH RHO 0 [(0, vR 114), (1, vI a1), (2, vI a2)] [] σ dIm (f_Mat_gather n a1 a2 σ)
  unfold f_Mat_gather
  refine sim_aload_n 0 rfl dX4_gather_0 ?_
  refine sim_iconst dX4_gather_1 (by decide) ?_
  refine sim_putI g_RX4_15 sh_114 dX4_gather_2 (fun s1 => ?_)
  refine sim_aload_n 0 rfl dX4_gather_5 ?_
  refine sim_iconst dX4_gather_6 (by decide) ?_
  refine sim_putI g_RX4_19 sh_114 dX4_gather_7 (fun s2 => ?_)
  refine sim_aload_n 0 rfl dX4_gather_10 ?_
  refine sim_iconst dX4_gather_11 (by decide) ?_
  refine sim_putI g_RX4_22 sh_114 dX4_gather_12 (fun s3 => ?_)
  refine sim_iconst dX4_gather_15 (by decide) ?_
  refine sim_istore_n (fun v4 => [(3, vI v4), (0, vR 114), (1, vI a1), (2, vI a2)]) (fun _ => rfl) (by decide) dX4_gather_16 (fun v4 => ?_)
  refine sim_sub [1, 2, 3, 0] (L' := [(0, vR 114), (1, vI a1), (2, vI a2), (3, vI v4)]) rfl ?_
  refine sim_wh2 (fun (x6 : Int) (s7 : JSg) => [(0, vR 114), (1, vI a1), (2, vI a2), (3, vI x6)]) (fun (x6 : Int) (s7 : JSg) => s7) ?_ n v4 s3
  intro rc5 hrc5 x6 s7
  refine sim_iload_n 3 rfl dX4_gather_17 ?_
  refine sim_aload_n 0 rfl dX4_gather_18 ?_
  refine sim_getR g_RX4_38 sh_114 rh_114_1 dX4_gather_19 ?_
  refine sim_getI g_RX4_69 (LIsl_o lay_4) dX4_gather_22 ?_
  refine sim_icmp_ge (tgt := 151) dX4_gather_25 (by decide) ?_ ?_
  · refine sim_iconst dX4_gather_151 (by decide) ?_
    exact sim_zret (Or.inr rfl) rfl rfl dX4_gather_152
  · refine sim_aload_n 0 rfl dX4_gather_28 ?_
    refine sim_getR g_RX4_28 sh_114 rh_114_0 dX4_gather_29 ?_
    refine sim_iload_n 1 rfl dX4_gather_32 ?_
    refine sim_iload_n 3 rfl dX4_gather_33 ?_
    refine sim_callVIp v_RX4_74 (LRow_o lay_11) dX4_gather_34 (k_Row_isHeldBy SH RHO 11 4 lay_11 lay_4 a1 x6 s7) rfl ⟨by decide, by decide⟩ (S := []) rfl (Nat.le_of_ble_eq_true rfl) (fun r8 => ?_)
    refine sim_jn1 (pc' := 145) (fun  (s10 : JSg) => [(0, vR 114), (1, vI a1), (2, vI a2), (3, vI x6)]) (fun  (s10 : JSg) => []) (fun  (s10 : JSg) => s10) ?_ (fun j9 hj9 => ?_)
    · intro s10
      refine sim_iinc 3 rfl (fun v11 => [(3, vI v11), (0, vR 114), (1, vI a1), (2, vI a2)]) (fun _ => rfl) (by decide) dX4_gather_145 (fun v11 => ?_)
      refine sim_goto (tgt := 17) dX4_gather_148 (by decide) ?_
      exact sim_sub [1, 2, 3, 0] rfl (hrc5 v11 s10)
    refine sim_jn0 (pc' := 52) ([(0, vR 114), (1, vI a1), (2, vI a2), (3, vI x6)]) ([]) (s7) ?_ (fun j12 hj12 => ?_)
    · refine sim_aload_n 0 rfl dX4_gather_52 ?_
      refine sim_getI g_RX4_15 sh_114 dX4_gather_53 ?_
      refine sim_bipush dX4_gather_56 (by decide +kernel) ?_
      refine sim_icmp_lt (tgt := 63) dX4_gather_58 (by decide) ?_ ?_
      · refine sim_aload_n 0 rfl dX4_gather_63 ?_
        refine sim_getR g_RX4_11 sh_114 rh_114_3 dX4_gather_64 ?_
        refine sim_aload_n 0 rfl dX4_gather_67 ?_
        refine sim_getI g_RX4_15 sh_114 dX4_gather_68 ?_
        refine sim_iload_n 3 rfl dX4_gather_71 ?_
        refine sim_iastore sh_115 rfl dX4_gather_72 (fun s13 => ?_)
        refine sim_aload_n 0 rfl dX4_gather_73 ?_
        refine sim_dup rfl dX4_gather_74 ?_
        refine sim_getI g_RX4_19 sh_114 dX4_gather_75 ?_
        refine sim_aload_n 0 rfl dX4_gather_78 ?_
        refine sim_getR g_RX4_28 sh_114 rh_114_0 dX4_gather_79 ?_
        refine sim_iload_n 1 rfl dX4_gather_82 ?_
        refine sim_iload_n 3 rfl dX4_gather_83 ?_
        refine sim_callVIp v_RX4_74 (LRow_o lay_11) dX4_gather_84 (k_Row_isHeldBy SH RHO 11 4 lay_11 lay_4 a1 x6 s13) rfl ⟨by decide, by decide⟩ (S := [vI (s13 114 5), vR 114]) rfl (Nat.le_of_ble_eq_true rfl) (fun r14 => ?_)
        refine sim_jn1 (pc' := 100) (fun (u16 : Int) => [(0, vR 114), (1, vI a1), (2, vI a2), (3, vI x6)]) (fun (u16 : Int) => [vI u16, vI (s13 114 5), vR 114]) (fun (u16 : Int) => s13) ?_ (fun j15 hj15 => ?_)
        · intro u16
          refine sim_ior dX4_gather_100 ?_
          refine sim_putI g_RX4_19 sh_114 dX4_gather_101 (fun s17 => ?_)
          refine sim_aload_n 0 rfl dX4_gather_104 ?_
          refine sim_dup rfl dX4_gather_105 ?_
          refine sim_getI g_RX4_22 sh_114 dX4_gather_106 ?_
          refine sim_aload_n 0 rfl dX4_gather_109 ?_
          refine sim_getR g_RX4_28 sh_114 rh_114_0 dX4_gather_110 ?_
          refine sim_iload_n 2 rfl dX4_gather_113 ?_
          refine sim_iload_n 3 rfl dX4_gather_114 ?_
          refine sim_callVIp v_RX4_74 (LRow_o lay_11) dX4_gather_115 (k_Row_isHeldBy SH RHO 11 4 lay_11 lay_4 a2 x6 s17) rfl ⟨by decide, by decide⟩ (S := [vI (s17 114 6), vR 114]) rfl (Nat.le_of_ble_eq_true rfl) (fun r18 => ?_)
          refine sim_jn1 (pc' := 131) (fun (u20 : Int) => [(0, vR 114), (1, vI a1), (2, vI a2), (3, vI x6)]) (fun (u20 : Int) => [vI u20, vI (s17 114 6), vR 114]) (fun (u20 : Int) => s17) ?_ (fun j19 hj19 => ?_)
          · intro u20
            refine sim_ior dX4_gather_131 ?_
            refine sim_putI g_RX4_22 sh_114 dX4_gather_132 (fun s21 => ?_)
            refine sim_aload_n 0 rfl dX4_gather_135 ?_
            refine sim_dup rfl dX4_gather_136 ?_
            refine sim_getI g_RX4_15 sh_114 dX4_gather_137 ?_
            refine sim_iconst dX4_gather_140 (by decide) ?_
            refine sim_iadd dX4_gather_141 ?_
            refine sim_putI g_RX4_15 sh_114 dX4_gather_142 (fun s22 => ?_)
            exact sim_sub [0, 1, 2, 3] rfl (hj9 s22)
          refine sim_if_eq (tgt := 130) dX4_gather_118 (by decide) ?_ ?_
          · refine sim_iconst dX4_gather_130 (by decide) ?_
            exact sim_sub [0, 1, 2, 3] rfl (hj19 0)
          · refine sim_iconst dX4_gather_121 (by decide) ?_
            refine sim_aload_n 0 rfl dX4_gather_122 ?_
            refine sim_getI g_RX4_15 sh_114 dX4_gather_123 ?_
            refine sim_ishl dX4_gather_126 ?_
            refine sim_goto (tgt := 131) dX4_gather_127 (by decide) ?_
            exact sim_sub [0, 1, 2, 3] rfl (hj19 (sl32 1 (s17 114 4)))
        refine sim_if_eq (tgt := 99) dX4_gather_87 (by decide) ?_ ?_
        · refine sim_iconst dX4_gather_99 (by decide) ?_
          exact sim_sub [0, 1, 2, 3] rfl (hj15 0)
        · refine sim_iconst dX4_gather_90 (by decide) ?_
          refine sim_aload_n 0 rfl dX4_gather_91 ?_
          refine sim_getI g_RX4_15 sh_114 dX4_gather_92 ?_
          refine sim_ishl dX4_gather_95 ?_
          refine sim_goto (tgt := 100) dX4_gather_96 (by decide) ?_
          exact sim_sub [0, 1, 2, 3] rfl (hj15 (sl32 1 (s13 114 4)))
      · refine sim_iconst dX4_gather_61 (by decide) ?_
        exact sim_zret (Or.inl rfl) rfl rfl dX4_gather_62
    refine sim_if_ne (tgt := 52) dX4_gather_37 (by decide) ?_ ?_
    · exact sim_sub [0, 1, 2, 3] rfl (hj12 )
    · refine sim_aload_n 0 rfl dX4_gather_40 ?_
      refine sim_getR g_RX4_28 sh_114 rh_114_0 dX4_gather_41 ?_
      refine sim_iload_n 2 rfl dX4_gather_44 ?_
      refine sim_iload_n 3 rfl dX4_gather_45 ?_
      refine sim_callVIp v_RX4_74 (LRow_o lay_11) dX4_gather_46 (k_Row_isHeldBy SH RHO 11 4 lay_11 lay_4 a2 x6 s7) rfl ⟨by decide, by decide⟩ (S := []) rfl (Nat.le_of_ble_eq_true rfl) (fun r23 => ?_)
      refine sim_if_eq (tgt := 145) dX4_gather_49 (by decide) ?_ ?_
      · exact sim_sub [0, 1, 2, 3] rfl (hj9 s7)
      · exact sim_sub [0, 1, 2, 3] rfl (hj12 )
theorem dX4_outerOf_0 : decode cX4_outerOf 0 = .ok (.aload_n 0, 1) := by decide +kernel
theorem dX4_outerOf_1 : decode cX4_outerOf 1 = .ok (.getfield 38, 3) := by decide +kernel
theorem dX4_outerOf_4 : decode cX4_outerOf 4 = .ok (.aload_n 0, 1) := by decide +kernel
theorem dX4_outerOf_5 : decode cX4_outerOf 5 = .ok (.getfield 38, 3) := by decide +kernel
theorem dX4_outerOf_8 : decode cX4_outerOf 8 = .ok (.getfield 97, 3) := by decide +kernel
theorem dX4_outerOf_11 : decode cX4_outerOf 11 = .ok (.aload_n 0, 1) := by decide +kernel
theorem dX4_outerOf_12 : decode cX4_outerOf 12 = .ok (.getfield 11, 3) := by decide +kernel
theorem dX4_outerOf_15 : decode cX4_outerOf 15 = .ok (.iload_n 1, 1) := by decide +kernel
theorem dX4_outerOf_16 : decode cX4_outerOf 16 = .ok (.iaload, 1) := by decide +kernel
theorem dX4_outerOf_17 : decode cX4_outerOf 17 = .ok (.iaload, 1) := by decide +kernel
theorem dX4_outerOf_18 : decode cX4_outerOf 18 = .ok (.iload_n 2, 1) := by decide +kernel
theorem dX4_outerOf_19 : decode cX4_outerOf 19 = .ok (.invokevirtual 100, 3) := by decide +kernel
theorem dX4_outerOf_22 : decode cX4_outerOf 22 = .ok (.ifCond .eq 18, 3) := by decide +kernel
theorem dX4_outerOf_25 : decode cX4_outerOf 25 = .ok (.aload_n 0, 1) := by decide +kernel
theorem dX4_outerOf_26 : decode cX4_outerOf 26 = .ok (.getfield 38, 3) := by decide +kernel
theorem dX4_outerOf_29 : decode cX4_outerOf 29 = .ok (.getfield 103, 3) := by decide +kernel
theorem dX4_outerOf_32 : decode cX4_outerOf 32 = .ok (.aload_n 0, 1) := by decide +kernel
theorem dX4_outerOf_33 : decode cX4_outerOf 33 = .ok (.getfield 11, 3) := by decide +kernel
theorem dX4_outerOf_36 : decode cX4_outerOf 36 = .ok (.iload_n 1, 1) := by decide +kernel
theorem dX4_outerOf_37 : decode cX4_outerOf 37 = .ok (.iaload, 1) := by decide +kernel
theorem dX4_outerOf_38 : decode cX4_outerOf 38 = .ok (.iaload, 1) := by decide +kernel
theorem dX4_outerOf_39 : decode cX4_outerOf 39 = .ok (.ireturn, 1) := by decide +kernel
theorem dX4_outerOf_40 : decode cX4_outerOf 40 = .ok (.aload_n 0, 1) := by decide +kernel
theorem dX4_outerOf_41 : decode cX4_outerOf 41 = .ok (.getfield 38, 3) := by decide +kernel
theorem dX4_outerOf_44 : decode cX4_outerOf 44 = .ok (.aload_n 0, 1) := by decide +kernel
theorem dX4_outerOf_45 : decode cX4_outerOf 45 = .ok (.getfield 38, 3) := by decide +kernel
theorem dX4_outerOf_48 : decode cX4_outerOf 48 = .ok (.getfield 103, 3) := by decide +kernel
theorem dX4_outerOf_51 : decode cX4_outerOf 51 = .ok (.aload_n 0, 1) := by decide +kernel
theorem dX4_outerOf_52 : decode cX4_outerOf 52 = .ok (.getfield 11, 3) := by decide +kernel
theorem dX4_outerOf_55 : decode cX4_outerOf 55 = .ok (.iload_n 1, 1) := by decide +kernel
theorem dX4_outerOf_56 : decode cX4_outerOf 56 = .ok (.iaload, 1) := by decide +kernel
theorem dX4_outerOf_57 : decode cX4_outerOf 57 = .ok (.iaload, 1) := by decide +kernel
theorem dX4_outerOf_58 : decode cX4_outerOf 58 = .ok (.iload_n 2, 1) := by decide +kernel
theorem dX4_outerOf_59 : decode cX4_outerOf 59 = .ok (.invokevirtual 100, 3) := by decide +kernel
theorem dX4_outerOf_62 : decode cX4_outerOf 62 = .ok (.ifCond .eq 20, 3) := by decide +kernel
theorem dX4_outerOf_65 : decode cX4_outerOf 65 = .ok (.aload_n 0, 1) := by decide +kernel
theorem dX4_outerOf_66 : decode cX4_outerOf 66 = .ok (.getfield 38, 3) := by decide +kernel
theorem dX4_outerOf_69 : decode cX4_outerOf 69 = .ok (.getfield 97, 3) := by decide +kernel
theorem dX4_outerOf_72 : decode cX4_outerOf 72 = .ok (.aload_n 0, 1) := by decide +kernel
theorem dX4_outerOf_73 : decode cX4_outerOf 73 = .ok (.getfield 11, 3) := by decide +kernel
theorem dX4_outerOf_76 : decode cX4_outerOf 76 = .ok (.iload_n 1, 1) := by decide +kernel
theorem dX4_outerOf_77 : decode cX4_outerOf 77 = .ok (.iaload, 1) := by decide +kernel
theorem dX4_outerOf_78 : decode cX4_outerOf 78 = .ok (.iaload, 1) := by decide +kernel
theorem dX4_outerOf_79 : decode cX4_outerOf 79 = .ok (.goto 4, 3) := by decide +kernel
theorem dX4_outerOf_82 : decode cX4_outerOf 82 = .ok (.iconst (-1), 1) := by decide +kernel
theorem dX4_outerOf_83 : decode cX4_outerOf 83 = .ok (.ireturn, 1) := by decide +kernel
def f_Mat_outerOf   (a1 : Int) (a2 : Int) (σ : JSg) : Option (Int) :=
  chk (0 ≤ a1 ∧ a1 < 10) <| chk (0 ≤ (σ 115 a1.toNat) ∧ (σ 115 a1.toNat) < 28) <| bd1 (f_Isl_fit 4 (σ 6 (σ 115 a1.toNat).toNat) a2 σ) fun r1 => if r1 = 0 then (chk (0 ≤ a1 ∧ a1 < 10) <| chk (0 ≤ (σ 115 a1.toNat) ∧ (σ 115 a1.toNat) < 28) <| bd1 (f_Isl_fit 4 (σ 7 (σ 115 a1.toNat).toNat) a2 σ) fun r2 => if r2 = 0 then (some (-1)) else (chk (0 ≤ a1 ∧ a1 < 10) <| chk (0 ≤ (σ 115 a1.toNat) ∧ (σ 115 a1.toNat) < 28) <| some (σ 6 (σ 115 a1.toNat).toNat))) else (chk (0 ≤ a1 ∧ a1 < 10) <| chk (0 ≤ (σ 115 a1.toNat) ∧ (σ 115 a1.toNat) < 28) <| some (σ 7 (σ 115 a1.toNat).toNat))
set_option maxRecDepth 20000 in
set_option maxHeartbeats 4000000 in
theorem k_Mat_outerOf     (a1 : Int) (a2 : Int) (σ : JSg) : Call yX4_outerOf cX4_outerOf 3 (some .int) 1 SH RHO [vR 114, vI a1, vI a2] σ (dIp σ) (f_Mat_outerOf a1 a2 σ) := by
  refine call_of_sim (by decide +kernel) (Nat.le_of_ble_eq_true rfl) ?_
  show Sim RX4 cX4_outerOf 3 (some .int) 1 SH RHO 0 [(0, vR 114), (1, vI a1), (2, vI a2)] [] σ (dIp σ) (f_Mat_outerOf a1 a2 σ)
  unfold f_Mat_outerOf
  refine sim_aload_n 0 rfl dX4_outerOf_0 ?_
  refine sim_getR g_RX4_38 sh_114 rh_114_1 dX4_outerOf_1 ?_
  refine sim_aload_n 0 rfl dX4_outerOf_4 ?_
  refine sim_getR g_RX4_38 sh_114 rh_114_1 dX4_outerOf_5 ?_
  refine sim_getR g_RX4_97 (LIsl_o lay_4) rh_4_8 dX4_outerOf_8 ?_
  refine sim_aload_n 0 rfl dX4_outerOf_11 ?_
  refine sim_getR g_RX4_11 sh_114 rh_114_3 dX4_outerOf_12 ?_
  refine sim_iload_n 1 rfl dX4_outerOf_15 ?_
  refine sim_iaload sh_115 rfl dX4_outerOf_16 ?_
  refine sim_iaload sh_6 rfl dX4_outerOf_17 ?_
  refine sim_iload_n 2 rfl dX4_outerOf_18 ?_
  refine sim_callVIp v_RX4_100 (LIsl_o lay_4) dX4_outerOf_19 (k_Isl_fit SH RHO 4 lay_4 (σ 6 (σ 115 a1.toNat).toNat) a2 σ) rfl ⟨by decide, by decide⟩ (S := []) rfl (Nat.le_of_ble_eq_true rfl) (fun r1 => ?_)
  refine sim_if_eq (tgt := 40) dX4_outerOf_22 (by decide) ?_ ?_
  · refine sim_aload_n 0 rfl dX4_outerOf_40 ?_
    refine sim_getR g_RX4_38 sh_114 rh_114_1 dX4_outerOf_41 ?_
    refine sim_aload_n 0 rfl dX4_outerOf_44 ?_
    refine sim_getR g_RX4_38 sh_114 rh_114_1 dX4_outerOf_45 ?_
    refine sim_getR g_RX4_103 (LIsl_o lay_4) rh_4_9 dX4_outerOf_48 ?_
    refine sim_aload_n 0 rfl dX4_outerOf_51 ?_
    refine sim_getR g_RX4_11 sh_114 rh_114_3 dX4_outerOf_52 ?_
    refine sim_iload_n 1 rfl dX4_outerOf_55 ?_
    refine sim_iaload sh_115 rfl dX4_outerOf_56 ?_
    refine sim_iaload sh_7 rfl dX4_outerOf_57 ?_
    refine sim_iload_n 2 rfl dX4_outerOf_58 ?_
    refine sim_callVIp v_RX4_100 (LIsl_o lay_4) dX4_outerOf_59 (k_Isl_fit SH RHO 4 lay_4 (σ 7 (σ 115 a1.toNat).toNat) a2 σ) rfl ⟨by decide, by decide⟩ (S := []) rfl (Nat.le_of_ble_eq_true rfl) (fun r2 => ?_)
    refine sim_if_eq (tgt := 82) dX4_outerOf_62 (by decide) ?_ ?_
    · refine sim_iconst dX4_outerOf_82 (by decide) ?_
      exact sim_iret rfl rfl dX4_outerOf_83
    · refine sim_aload_n 0 rfl dX4_outerOf_65 ?_
      refine sim_getR g_RX4_38 sh_114 rh_114_1 dX4_outerOf_66 ?_
      refine sim_getR g_RX4_97 (LIsl_o lay_4) rh_4_8 dX4_outerOf_69 ?_
      refine sim_aload_n 0 rfl dX4_outerOf_72 ?_
      refine sim_getR g_RX4_11 sh_114 rh_114_3 dX4_outerOf_73 ?_
      refine sim_iload_n 1 rfl dX4_outerOf_76 ?_
      refine sim_iaload sh_115 rfl dX4_outerOf_77 ?_
      refine sim_iaload sh_6 rfl dX4_outerOf_78 ?_
      refine sim_goto (tgt := 83) dX4_outerOf_79 (by decide) ?_
      exact sim_iret rfl rfl dX4_outerOf_83
  · refine sim_aload_n 0 rfl dX4_outerOf_25 ?_
    refine sim_getR g_RX4_38 sh_114 rh_114_1 dX4_outerOf_26 ?_
    refine sim_getR g_RX4_103 (LIsl_o lay_4) rh_4_9 dX4_outerOf_29 ?_
    refine sim_aload_n 0 rfl dX4_outerOf_32 ?_
    refine sim_getR g_RX4_11 sh_114 rh_114_3 dX4_outerOf_33 ?_
    refine sim_iload_n 1 rfl dX4_outerOf_36 ?_
    refine sim_iaload sh_115 rfl dX4_outerOf_37 ?_
    refine sim_iaload sh_7 rfl dX4_outerOf_38 ?_
    exact sim_iret rfl rfl dX4_outerOf_39
theorem dX4_canLay_0 : decode cX4_canLay 0 = .ok (.iconst 0, 1) := by decide +kernel
theorem dX4_canLay_1 : decode cX4_canLay 1 = .ok (.istore 4, 2) := by decide +kernel
theorem dX4_canLay_3 : decode cX4_canLay 3 = .ok (.iload 4, 2) := by decide +kernel
theorem dX4_canLay_5 : decode cX4_canLay 5 = .ok (.aload_n 0, 1) := by decide +kernel
theorem dX4_canLay_6 : decode cX4_canLay 6 = .ok (.getfield 15, 3) := by decide +kernel
theorem dX4_canLay_9 : decode cX4_canLay 9 = .ok (.if_icmp .ge 42, 3) := by decide +kernel
theorem dX4_canLay_12 : decode cX4_canLay 12 = .ok (.iload_n 1, 1) := by decide +kernel
theorem dX4_canLay_13 : decode cX4_canLay 13 = .ok (.iload 4, 2) := by decide +kernel
theorem dX4_canLay_15 : decode cX4_canLay 15 = .ok (.ishr, 1) := by decide +kernel
theorem dX4_canLay_16 : decode cX4_canLay 16 = .ok (.iconst 1, 1) := by decide +kernel
theorem dX4_canLay_17 : decode cX4_canLay 17 = .ok (.iand, 1) := by decide +kernel
theorem dX4_canLay_18 : decode cX4_canLay 18 = .ok (.ifCond .eq 27, 3) := by decide +kernel
theorem dX4_canLay_21 : decode cX4_canLay 21 = .ok (.aload_n 0, 1) := by decide +kernel
theorem dX4_canLay_22 : decode cX4_canLay 22 = .ok (.iload 4, 2) := by decide +kernel
theorem dX4_canLay_24 : decode cX4_canLay 24 = .ok (.iload_n 2, 1) := by decide +kernel
theorem dX4_canLay_25 : decode cX4_canLay 25 = .ok (.invokevirtual 94, 3) := by decide +kernel
theorem dX4_canLay_28 : decode cX4_canLay 28 = .ok (.iconst (-1), 1) := by decide +kernel
theorem dX4_canLay_29 : decode cX4_canLay 29 = .ok (.if_icmp .ne 14, 3) := by decide +kernel
theorem dX4_canLay_32 : decode cX4_canLay 32 = .ok (.aload_n 0, 1) := by decide +kernel
theorem dX4_canLay_33 : decode cX4_canLay 33 = .ok (.iload 4, 2) := by decide +kernel
theorem dX4_canLay_35 : decode cX4_canLay 35 = .ok (.iload_n 3, 1) := by decide +kernel
theorem dX4_canLay_36 : decode cX4_canLay 36 = .ok (.invokevirtual 94, 3) := by decide +kernel
theorem dX4_canLay_39 : decode cX4_canLay 39 = .ok (.iconst (-1), 1) := by decide +kernel
theorem dX4_canLay_40 : decode cX4_canLay 40 = .ok (.if_icmp .eq 5, 3) := by decide +kernel
theorem dX4_canLay_43 : decode cX4_canLay 43 = .ok (.iconst 1, 1) := by decide +kernel
theorem dX4_canLay_44 : decode cX4_canLay 44 = .ok (.ireturn, 1) := by decide +kernel
theorem dX4_canLay_45 : decode cX4_canLay 45 = .ok (.iinc 4 1, 3) := by decide +kernel
theorem dX4_canLay_48 : decode cX4_canLay 48 = .ok (.goto (-45), 3) := by decide +kernel
theorem dX4_canLay_51 : decode cX4_canLay 51 = .ok (.iconst 0, 1) := by decide +kernel
theorem dX4_canLay_52 : decode cX4_canLay 52 = .ok (.ireturn, 1) := by decide +kernel
def f_Mat_canLay (n : Nat)  (a1 : Int) (a2 : Int) (a3 : Int) (σ : JSg) : Option (Int) :=
  lt_ 0 fun v1 => wh1 n (fun rc2 (x3 : Int) => if x3 < (σ 114 4) then (jn0 (lt_ (w32 (x3 + 1)) fun v5 => rc2 v5) fun j4 => if (an32 (sr32 a1 x3) 1) = 0 then (j4) else (bd1 (f_Mat_outerOf x3 a2 σ) fun r6 => if r6 = (-1) then (bd1 (f_Mat_outerOf x3 a3 σ) fun r7 => if r7 = (-1) then (j4) else (some 1)) else (some 1))) else (some 0)) v1
set_option maxRecDepth 20000 in
set_option maxHeartbeats 4000000 in
theorem k_Mat_canLay  (n : Nat)   (a1 : Int) (a2 : Int) (a3 : Int) (σ : JSg) : Call yX4_canLay cX4_canLay 5 (some .boolean) 2 SH RHO [vR 114, vI a1, vI a2, vI a3] σ (dIp σ) (f_Mat_canLay n a1 a2 a3 σ) := by
  refine call_of_sim (by decide +kernel) (Nat.le_of_ble_eq_true rfl) ?_
  show Sim RX4 cX4_canLay 5 (some .boolean) 2 SH RHO 0 [(0, vR 114), (1, vI a1), (2, vI a2), (3, vI a3)] [] σ (dIp σ) (f_Mat_canLay n a1 a2 a3 σ)
  unfold f_Mat_canLay
  refine sim_iconst dX4_canLay_0 (by decide) ?_
  refine sim_istore (fun v1 => [(4, vI v1), (0, vR 114), (1, vI a1), (2, vI a2), (3, vI a3)]) (fun _ => rfl) (by decide) dX4_canLay_1 (fun v1 => ?_)
  refine sim_sub [1, 2, 3, 4, 0] (L' := [(0, vR 114), (1, vI a1), (2, vI a2), (3, vI a3), (4, vI v1)]) rfl ?_
  refine sim_wh1 (fun (x3 : Int) => [(0, vR 114), (1, vI a1), (2, vI a2), (3, vI a3), (4, vI x3)]) (fun (x3 : Int) => σ) ?_ n v1
  intro rc2 hrc2 x3
  refine sim_iload 4 rfl dX4_canLay_3 ?_
  refine sim_aload_n 0 rfl dX4_canLay_5 ?_
  refine sim_getI g_RX4_15 sh_114 dX4_canLay_6 ?_
  refine sim_icmp_ge (tgt := 51) dX4_canLay_9 (by decide) ?_ ?_
  · refine sim_iconst dX4_canLay_51 (by decide) ?_
    exact sim_zret (Or.inl rfl) rfl rfl dX4_canLay_52
  · refine sim_iload_n 1 rfl dX4_canLay_12 ?_
    refine sim_iload 4 rfl dX4_canLay_13 ?_
    refine sim_ishr dX4_canLay_15 ?_
    refine sim_iconst dX4_canLay_16 (by decide) ?_
    refine sim_iand dX4_canLay_17 ?_
    refine sim_jn0 (pc' := 45) ([(0, vR 114), (1, vI a1), (2, vI a2), (3, vI a3), (4, vI x3)]) ([]) (σ) ?_ (fun j4 hj4 => ?_)
    · refine sim_iinc 4 rfl (fun v5 => [(4, vI v5), (0, vR 114), (1, vI a1), (2, vI a2), (3, vI a3)]) (fun _ => rfl) (by decide) dX4_canLay_45 (fun v5 => ?_)
      refine sim_goto (tgt := 3) dX4_canLay_48 (by decide) ?_
      exact sim_sub [1, 2, 3, 4, 0] rfl (hrc2 v5)
    refine sim_if_eq (tgt := 45) dX4_canLay_18 (by decide) ?_ ?_
    · exact sim_sub [0, 1, 2, 3, 4] rfl (hj4 )
    · refine sim_aload_n 0 rfl dX4_canLay_21 ?_
      refine sim_iload 4 rfl dX4_canLay_22 ?_
      refine sim_iload_n 2 rfl dX4_canLay_24 ?_
      refine sim_callVIp v_RX4_94 sh_114 dX4_canLay_25 (k_Mat_outerOf x3 a2 σ) rfl ⟨by decide, by decide⟩ (S := []) rfl (Nat.le_of_ble_eq_true rfl) (fun r6 => ?_)
      refine sim_iconst dX4_canLay_28 (by decide) ?_
      refine sim_icmp_ne (tgt := 43) dX4_canLay_29 (by decide) ?_ ?_
      · refine sim_iconst dX4_canLay_43 (by decide) ?_
        exact sim_zret (Or.inr rfl) rfl rfl dX4_canLay_44
      · refine sim_aload_n 0 rfl dX4_canLay_32 ?_
        refine sim_iload 4 rfl dX4_canLay_33 ?_
        refine sim_iload_n 3 rfl dX4_canLay_35 ?_
        refine sim_callVIp v_RX4_94 sh_114 dX4_canLay_36 (k_Mat_outerOf x3 a3 σ) rfl ⟨by decide, by decide⟩ (S := []) rfl (Nat.le_of_ble_eq_true rfl) (fun r7 => ?_)
        refine sim_iconst dX4_canLay_39 (by decide) ?_
        refine sim_icmp_eq (tgt := 45) dX4_canLay_40 (by decide) ?_ ?_
        · exact sim_sub [0, 1, 2, 3, 4] rfl (hj4 )
        · refine sim_iconst dX4_canLay_43 (by decide) ?_
          exact sim_zret (Or.inr rfl) rfl rfl dX4_canLay_44
theorem dX3_together_0 : decode cX3_together 0 = .ok (.aload_n 0, 1) := by decide +kernel
theorem dX3_together_1 : decode cX3_together 1 = .ok (.getfield 38, 3) := by decide +kernel
theorem dX3_together_4 : decode cX3_together 4 = .ok (.iload_n 1, 1) := by decide +kernel
theorem dX3_together_5 : decode cX3_together 5 = .ok (.iaload, 1) := by decide +kernel
theorem dX3_together_6 : decode cX3_together 6 = .ok (.aload_n 0, 1) := by decide +kernel
theorem dX3_together_7 : decode cX3_together 7 = .ok (.getfield 42, 3) := by decide +kernel
theorem dX3_together_10 : decode cX3_together 10 = .ok (.iload_n 1, 1) := by decide +kernel
theorem dX3_together_11 : decode cX3_together 11 = .ok (.iaload, 1) := by decide +kernel
theorem dX3_together_12 : decode cX3_together 12 = .ok (.iadd, 1) := by decide +kernel
theorem dX3_together_13 : decode cX3_together 13 = .ok (.ireturn, 1) := by decide +kernel
def f_Isl_together  (p : Nat) (a1 : Int) (σ : JSg) : Option (Int) :=
  chk (0 ≤ a1 ∧ a1 < 28) <| chk (0 ≤ a1 ∧ a1 < 28) <| some (w32 ((σ (p + 2) a1.toNat) + (σ (p + 3) a1.toNat)))
set_option maxRecDepth 20000 in
set_option maxHeartbeats 4000000 in
theorem k_Isl_together (Sh : JSh) (ρ : JRo)  (p : Nat) (hp : LIsl Sh ρ p) (a1 : Int) (σ : JSg) : Call yX3_together cX3_together 2 (some .int) 0 Sh ρ [vR p, vI a1] σ (dIp σ) (f_Isl_together p a1 σ) := by
  refine call_of_sim (by decide +kernel) (Nat.le_of_ble_eq_true rfl) ?_
  show Sim RX3 cX3_together 2 (some .int) 0 Sh ρ 0 [(0, vR p), (1, vI a1)] [] σ (dIp σ) (f_Isl_together p a1 σ)
  unfold f_Isl_together
  refine sim_aload_n 0 rfl dX3_together_0 ?_
  refine sim_getR g_RX3_38 (LIsl_o hp) (LIsl_r8 hp) dX3_together_1 ?_
  refine sim_iload_n 1 rfl dX3_together_4 ?_
  refine sim_iaload (LIsl_a8 hp) rfl dX3_together_5 ?_
  refine sim_aload_n 0 rfl dX3_together_6 ?_
  refine sim_getR g_RX3_42 (LIsl_o hp) (LIsl_r9 hp) dX3_together_7 ?_
  refine sim_iload_n 1 rfl dX3_together_10 ?_
  refine sim_iaload (LIsl_a9 hp) rfl dX3_together_11 ?_
  refine sim_iadd dX3_together_12 ?_
  exact sim_iret rfl rfl dX3_together_13
theorem dX4_pipsOf_0 : decode cX4_pipsOf 0 = .ok (.iconst 0, 1) := by decide +kernel
theorem dX4_pipsOf_1 : decode cX4_pipsOf 1 = .ok (.istore_n 2, 1) := by decide +kernel
theorem dX4_pipsOf_2 : decode cX4_pipsOf 2 = .ok (.iconst 0, 1) := by decide +kernel
theorem dX4_pipsOf_3 : decode cX4_pipsOf 3 = .ok (.istore_n 3, 1) := by decide +kernel
theorem dX4_pipsOf_4 : decode cX4_pipsOf 4 = .ok (.iload_n 3, 1) := by decide +kernel
theorem dX4_pipsOf_5 : decode cX4_pipsOf 5 = .ok (.aload_n 0, 1) := by decide +kernel
theorem dX4_pipsOf_6 : decode cX4_pipsOf 6 = .ok (.getfield 15, 3) := by decide +kernel
theorem dX4_pipsOf_9 : decode cX4_pipsOf 9 = .ok (.if_icmp .ge 37, 3) := by decide +kernel
theorem dX4_pipsOf_12 : decode cX4_pipsOf 12 = .ok (.iload_n 2, 1) := by decide +kernel
theorem dX4_pipsOf_13 : decode cX4_pipsOf 13 = .ok (.iload_n 1, 1) := by decide +kernel
theorem dX4_pipsOf_14 : decode cX4_pipsOf 14 = .ok (.iload_n 3, 1) := by decide +kernel
theorem dX4_pipsOf_15 : decode cX4_pipsOf 15 = .ok (.ishr, 1) := by decide +kernel
theorem dX4_pipsOf_16 : decode cX4_pipsOf 16 = .ok (.iconst 1, 1) := by decide +kernel
theorem dX4_pipsOf_17 : decode cX4_pipsOf 17 = .ok (.iand, 1) := by decide +kernel
theorem dX4_pipsOf_18 : decode cX4_pipsOf 18 = .ok (.ifCond .eq 19, 3) := by decide +kernel
theorem dX4_pipsOf_21 : decode cX4_pipsOf 21 = .ok (.aload_n 0, 1) := by decide +kernel
theorem dX4_pipsOf_22 : decode cX4_pipsOf 22 = .ok (.getfield 38, 3) := by decide +kernel
theorem dX4_pipsOf_25 : decode cX4_pipsOf 25 = .ok (.aload_n 0, 1) := by decide +kernel
theorem dX4_pipsOf_26 : decode cX4_pipsOf 26 = .ok (.getfield 11, 3) := by decide +kernel
theorem dX4_pipsOf_29 : decode cX4_pipsOf 29 = .ok (.iload_n 3, 1) := by decide +kernel
theorem dX4_pipsOf_30 : decode cX4_pipsOf 30 = .ok (.iaload, 1) := by decide +kernel
theorem dX4_pipsOf_31 : decode cX4_pipsOf 31 = .ok (.invokevirtual 106, 3) := by decide +kernel
theorem dX4_pipsOf_34 : decode cX4_pipsOf 34 = .ok (.goto 4, 3) := by decide +kernel
theorem dX4_pipsOf_37 : decode cX4_pipsOf 37 = .ok (.iconst 0, 1) := by decide +kernel
theorem dX4_pipsOf_38 : decode cX4_pipsOf 38 = .ok (.iadd, 1) := by decide +kernel
theorem dX4_pipsOf_39 : decode cX4_pipsOf 39 = .ok (.istore_n 2, 1) := by decide +kernel
theorem dX4_pipsOf_40 : decode cX4_pipsOf 40 = .ok (.iinc 3 1, 3) := by decide +kernel
theorem dX4_pipsOf_43 : decode cX4_pipsOf 43 = .ok (.goto (-39), 3) := by decide +kernel
theorem dX4_pipsOf_46 : decode cX4_pipsOf 46 = .ok (.iload_n 2, 1) := by decide +kernel
theorem dX4_pipsOf_47 : decode cX4_pipsOf 47 = .ok (.ireturn, 1) := by decide +kernel
def f_Mat_pipsOf (n : Nat)  (a1 : Int) (σ : JSg) : Option (Int) :=
  lt_ 0 fun v1 => lt_ 0 fun v2 => wh2 n (fun rc3 (x4 : Int) (x5 : Int) => if x5 < (σ 114 4) then (jn1 (fun (u7 : Int) => lt_ (w32 (x4 + u7)) fun v8 => lt_ (w32 (x5 + 1)) fun v9 => rc3 v8 v9) fun j6 => if (an32 (sr32 a1 x5) 1) = 0 then (j6 0) else (chk (0 ≤ x5 ∧ x5 < 10) <| bd1 (f_Isl_together 4 (σ 115 x5.toNat) σ) fun r10 => j6 r10)) else (some x4)) v1 v2
set_option maxRecDepth 20000 in
set_option maxHeartbeats 4000000 in
theorem k_Mat_pipsOf  (n : Nat)   (a1 : Int) (σ : JSg) : Call yX4_pipsOf cX4_pipsOf 4 (some .int) 1 SH RHO [vR 114, vI a1] σ (dIp σ) (f_Mat_pipsOf n a1 σ) := by
  refine call_of_sim (by decide +kernel) (Nat.le_of_ble_eq_true rfl) ?_
  show Sim RX4 cX4_pipsOf 4 (some .int) 1 SH RHO 0 [(0, vR 114), (1, vI a1)] [] σ (dIp σ) (f_Mat_pipsOf n a1 σ)
  unfold f_Mat_pipsOf
  refine sim_iconst dX4_pipsOf_0 (by decide) ?_
  refine sim_istore_n (fun v1 => [(2, vI v1), (0, vR 114), (1, vI a1)]) (fun _ => rfl) (by decide) dX4_pipsOf_1 (fun v1 => ?_)
  refine sim_iconst dX4_pipsOf_2 (by decide) ?_
  refine sim_istore_n (fun v2 => [(3, vI v2), (2, vI v1), (0, vR 114), (1, vI a1)]) (fun _ => rfl) (by decide) dX4_pipsOf_3 (fun v2 => ?_)
  refine sim_sub [2, 3, 1, 0] (L' := [(0, vR 114), (1, vI a1), (2, vI v1), (3, vI v2)]) rfl ?_
  refine sim_wh2 (fun (x4 : Int) (x5 : Int) => [(0, vR 114), (1, vI a1), (2, vI x4), (3, vI x5)]) (fun (x4 : Int) (x5 : Int) => σ) ?_ n v1 v2
  intro rc3 hrc3 x4 x5
  refine sim_iload_n 3 rfl dX4_pipsOf_4 ?_
  refine sim_aload_n 0 rfl dX4_pipsOf_5 ?_
  refine sim_getI g_RX4_15 sh_114 dX4_pipsOf_6 ?_
  refine sim_icmp_ge (tgt := 46) dX4_pipsOf_9 (by decide) ?_ ?_
  · refine sim_iload_n 2 rfl dX4_pipsOf_46 ?_
    exact sim_iret rfl rfl dX4_pipsOf_47
  · refine sim_iload_n 2 rfl dX4_pipsOf_12 ?_
    refine sim_iload_n 1 rfl dX4_pipsOf_13 ?_
    refine sim_iload_n 3 rfl dX4_pipsOf_14 ?_
    refine sim_ishr dX4_pipsOf_15 ?_
    refine sim_iconst dX4_pipsOf_16 (by decide) ?_
    refine sim_iand dX4_pipsOf_17 ?_
    refine sim_jn1 (pc' := 38) (fun (u7 : Int) => [(0, vR 114), (1, vI a1), (3, vI x5)]) (fun (u7 : Int) => [vI u7, vI x4]) (fun (u7 : Int) => σ) ?_ (fun j6 hj6 => ?_)
    · intro u7
      refine sim_iadd dX4_pipsOf_38 ?_
      refine sim_istore_n (fun v8 => [(2, vI v8), (0, vR 114), (1, vI a1), (3, vI x5)]) (fun _ => rfl) (by decide) dX4_pipsOf_39 (fun v8 => ?_)
      refine sim_iinc 3 rfl (fun v9 => [(3, vI v9), (2, vI v8), (0, vR 114), (1, vI a1)]) (fun _ => rfl) (by decide) dX4_pipsOf_40 (fun v9 => ?_)
      refine sim_goto (tgt := 4) dX4_pipsOf_43 (by decide) ?_
      exact sim_sub [2, 3, 1, 0] rfl (hrc3 v8 v9)
    refine sim_if_eq (tgt := 37) dX4_pipsOf_18 (by decide) ?_ ?_
    · refine sim_iconst dX4_pipsOf_37 (by decide) ?_
      exact sim_sub [0, 1, 3] rfl (hj6 0)
    · refine sim_aload_n 0 rfl dX4_pipsOf_21 ?_
      refine sim_getR g_RX4_38 sh_114 rh_114_1 dX4_pipsOf_22 ?_
      refine sim_aload_n 0 rfl dX4_pipsOf_25 ?_
      refine sim_getR g_RX4_11 sh_114 rh_114_3 dX4_pipsOf_26 ?_
      refine sim_iload_n 3 rfl dX4_pipsOf_29 ?_
      refine sim_iaload sh_115 rfl dX4_pipsOf_30 ?_
      refine sim_callVIp v_RX4_106 (LIsl_o lay_4) dX4_pipsOf_31 (k_Isl_together SH RHO 4 lay_4 (σ 115 x5.toNat) σ) rfl ⟨by decide, by decide⟩ (S := [vI x4]) rfl (Nat.le_of_ble_eq_true rfl) (fun r10 => ?_)
      refine sim_goto (tgt := 38) dX4_pipsOf_34 (by decide) ?_
      exact sim_sub [0, 1, 3] rfl (hj6 r10)
theorem dJ6_compare_7cf53_0 : decode cJ6_compare_7cf53 0 = .ok (.iload_n 0, 1) := by decide +kernel
theorem dJ6_compare_7cf53_1 : decode cJ6_compare_7cf53 1 = .ok (.iload_n 1, 1) := by decide +kernel
theorem dJ6_compare_7cf53_2 : decode cJ6_compare_7cf53 2 = .ok (.if_icmp .ge 7, 3) := by decide +kernel
theorem dJ6_compare_7cf53_5 : decode cJ6_compare_7cf53 5 = .ok (.iconst (-1), 1) := by decide +kernel
theorem dJ6_compare_7cf53_6 : decode cJ6_compare_7cf53 6 = .ok (.goto 13, 3) := by decide +kernel
theorem dJ6_compare_7cf53_9 : decode cJ6_compare_7cf53 9 = .ok (.iload_n 0, 1) := by decide +kernel
theorem dJ6_compare_7cf53_10 : decode cJ6_compare_7cf53 10 = .ok (.iload_n 1, 1) := by decide +kernel
theorem dJ6_compare_7cf53_11 : decode cJ6_compare_7cf53 11 = .ok (.if_icmp .ne 7, 3) := by decide +kernel
theorem dJ6_compare_7cf53_14 : decode cJ6_compare_7cf53 14 = .ok (.iconst 0, 1) := by decide +kernel
theorem dJ6_compare_7cf53_15 : decode cJ6_compare_7cf53 15 = .ok (.goto 4, 3) := by decide +kernel
theorem dJ6_compare_7cf53_18 : decode cJ6_compare_7cf53 18 = .ok (.iconst 1, 1) := by decide +kernel
theorem dJ6_compare_7cf53_19 : decode cJ6_compare_7cf53 19 = .ok (.ireturn, 1) := by decide +kernel
def f_JInt_compare_7cf53   (a1 : Int) (a2 : Int) (σ : JSg) : Option (Int) :=
  if a1 < a2 then (some (-1)) else (if a1 = a2 then (some 0) else (some 1))
set_option maxRecDepth 20000 in
set_option maxHeartbeats 4000000 in
theorem k_JInt_compare_7cf53 (Sh : JSh) (ρ : JRo)    (a1 : Int) (a2 : Int) (σ : JSg) : Call yJ6_compare_7cf53 cJ6_compare_7cf53 2 (some .int) 0 Sh ρ [vI a1, vI a2] σ (dIp σ) (f_JInt_compare_7cf53 a1 a2 σ) := by
  refine call_of_sim (by decide +kernel) (Nat.le_of_ble_eq_true rfl) ?_
  show Sim RJ6 cJ6_compare_7cf53 2 (some .int) 0 Sh ρ 0 [(0, vI a1), (1, vI a2)] [] σ (dIp σ) (f_JInt_compare_7cf53 a1 a2 σ)
  unfold f_JInt_compare_7cf53
  refine sim_iload_n 0 rfl dJ6_compare_7cf53_0 ?_
  refine sim_iload_n 1 rfl dJ6_compare_7cf53_1 ?_
  refine sim_icmp_ge (tgt := 9) dJ6_compare_7cf53_2 (by decide) ?_ ?_
  · refine sim_iload_n 0 rfl dJ6_compare_7cf53_9 ?_
    refine sim_iload_n 1 rfl dJ6_compare_7cf53_10 ?_
    refine sim_icmp_ne (tgt := 18) dJ6_compare_7cf53_11 (by decide) ?_ ?_
    · refine sim_iconst dJ6_compare_7cf53_18 (by decide) ?_
      exact sim_iret rfl rfl dJ6_compare_7cf53_19
    · refine sim_iconst dJ6_compare_7cf53_14 (by decide) ?_
      refine sim_goto (tgt := 19) dJ6_compare_7cf53_15 (by decide) ?_
      exact sim_iret rfl rfl dJ6_compare_7cf53_19
  · refine sim_iconst dJ6_compare_7cf53_5 (by decide) ?_
    refine sim_goto (tgt := 19) dJ6_compare_7cf53_6 (by decide) ?_
    exact sim_iret rfl rfl dJ6_compare_7cf53_19
theorem dX4_valueBehind_0 : decode cX4_valueBehind 0 = .ok (.iload 4, 2) := by decide +kernel
theorem dX4_valueBehind_2 : decode cX4_valueBehind 2 = .ok (.iconst 1, 1) := by decide +kernel
theorem dX4_valueBehind_3 : decode cX4_valueBehind 3 = .ok (.ishr, 1) := by decide +kernel
theorem dX4_valueBehind_4 : decode cX4_valueBehind 4 = .ok (.istore 7, 2) := by decide +kernel
theorem dX4_valueBehind_6 : decode cX4_valueBehind 6 = .ok (.iload 4, 2) := by decide +kernel
theorem dX4_valueBehind_8 : decode cX4_valueBehind 8 = .ok (.iconst 1, 1) := by decide +kernel
theorem dX4_valueBehind_9 : decode cX4_valueBehind 9 = .ok (.iand, 1) := by decide +kernel
theorem dX4_valueBehind_10 : decode cX4_valueBehind 10 = .ok (.ifCond .ne 7, 3) := by decide +kernel
theorem dX4_valueBehind_13 : decode cX4_valueBehind 13 = .ok (.iconst 1, 1) := by decide +kernel
theorem dX4_valueBehind_14 : decode cX4_valueBehind 14 = .ok (.goto 4, 3) := by decide +kernel
theorem dX4_valueBehind_17 : decode cX4_valueBehind 17 = .ok (.iconst 0, 1) := by decide +kernel
theorem dX4_valueBehind_18 : decode cX4_valueBehind 18 = .ok (.istore 8, 2) := by decide +kernel
theorem dX4_valueBehind_20 : decode cX4_valueBehind 20 = .ok (.aload_n 0, 1) := by decide +kernel
theorem dX4_valueBehind_21 : decode cX4_valueBehind 21 = .ok (.iload 7, 2) := by decide +kernel
theorem dX4_valueBehind_23 : decode cX4_valueBehind 23 = .ok (.iload 8, 2) := by decide +kernel
theorem dX4_valueBehind_25 : decode cX4_valueBehind 25 = .ok (.ifCond .eq 7, 3) := by decide +kernel
theorem dX4_valueBehind_28 : decode cX4_valueBehind 28 = .ok (.iload_n 2, 1) := by decide +kernel
theorem dX4_valueBehind_29 : decode cX4_valueBehind 29 = .ok (.goto 4, 3) := by decide +kernel
theorem dX4_valueBehind_32 : decode cX4_valueBehind 32 = .ok (.iload_n 3, 1) := by decide +kernel
theorem dX4_valueBehind_33 : decode cX4_valueBehind 33 = .ok (.invokevirtual 94, 3) := by decide +kernel
theorem dX4_valueBehind_36 : decode cX4_valueBehind 36 = .ok (.istore 9, 2) := by decide +kernel
theorem dX4_valueBehind_38 : decode cX4_valueBehind 38 = .ok (.iload 9, 2) := by decide +kernel
theorem dX4_valueBehind_40 : decode cX4_valueBehind 40 = .ok (.iconst (-1), 1) := by decide +kernel
theorem dX4_valueBehind_41 : decode cX4_valueBehind 41 = .ok (.if_icmp .ne 6, 3) := by decide +kernel
theorem dX4_valueBehind_44 : decode cX4_valueBehind 44 = .ok (.bipush (-2), 2) := by decide +kernel
theorem dX4_valueBehind_46 : decode cX4_valueBehind 46 = .ok (.ireturn, 1) := by decide +kernel
theorem dX4_valueBehind_47 : decode cX4_valueBehind 47 = .ok (.aload_n 0, 1) := by decide +kernel
theorem dX4_valueBehind_48 : decode cX4_valueBehind 48 = .ok (.iload_n 1, 1) := by decide +kernel
theorem dX4_valueBehind_49 : decode cX4_valueBehind 49 = .ok (.iconst 1, 1) := by decide +kernel
theorem dX4_valueBehind_50 : decode cX4_valueBehind 50 = .ok (.iload 7, 2) := by decide +kernel
theorem dX4_valueBehind_52 : decode cX4_valueBehind 52 = .ok (.ishl, 1) := by decide +kernel
theorem dX4_valueBehind_53 : decode cX4_valueBehind 53 = .ok (.iconst (-1), 1) := by decide +kernel
theorem dX4_valueBehind_54 : decode cX4_valueBehind 54 = .ok (.ixor, 1) := by decide +kernel
theorem dX4_valueBehind_55 : decode cX4_valueBehind 55 = .ok (.iand, 1) := by decide +kernel
theorem dX4_valueBehind_56 : decode cX4_valueBehind 56 = .ok (.iload 8, 2) := by decide +kernel
theorem dX4_valueBehind_58 : decode cX4_valueBehind 58 = .ok (.ifCond .eq 8, 3) := by decide +kernel
theorem dX4_valueBehind_61 : decode cX4_valueBehind 61 = .ok (.iload 9, 2) := by decide +kernel
theorem dX4_valueBehind_63 : decode cX4_valueBehind 63 = .ok (.goto 4, 3) := by decide +kernel
theorem dX4_valueBehind_66 : decode cX4_valueBehind 66 = .ok (.iload_n 2, 1) := by decide +kernel
theorem dX4_valueBehind_67 : decode cX4_valueBehind 67 = .ok (.iload 8, 2) := by decide +kernel
theorem dX4_valueBehind_69 : decode cX4_valueBehind 69 = .ok (.ifCond .eq 7, 3) := by decide +kernel
theorem dX4_valueBehind_72 : decode cX4_valueBehind 72 = .ok (.iload_n 3, 1) := by decide +kernel
theorem dX4_valueBehind_73 : decode cX4_valueBehind 73 = .ok (.goto 5, 3) := by decide +kernel
theorem dX4_valueBehind_76 : decode cX4_valueBehind 76 = .ok (.iload 9, 2) := by decide +kernel
theorem dX4_valueBehind_78 : decode cX4_valueBehind 78 = .ok (.iconst 1, 1) := by decide +kernel
theorem dX4_valueBehind_79 : decode cX4_valueBehind 79 = .ok (.iload 5, 2) := by decide +kernel
theorem dX4_valueBehind_81 : decode cX4_valueBehind 81 = .ok (.isub, 1) := by decide +kernel
theorem dX4_valueBehind_82 : decode cX4_valueBehind 82 = .ok (.iload 6, 2) := by decide +kernel
theorem dX4_valueBehind_84 : decode cX4_valueBehind 84 = .ok (.iconst 1, 1) := by decide +kernel
theorem dX4_valueBehind_85 : decode cX4_valueBehind 85 = .ok (.iadd, 1) := by decide +kernel
theorem dX4_valueBehind_86 : decode cX4_valueBehind 86 = .ok (.invokevirtual 61, 3) := by decide +kernel
theorem dX4_valueBehind_89 : decode cX4_valueBehind 89 = .ok (.ireturn, 1) := by decide +kernel
theorem dX4_value_0 : decode cX4_value 0 = .ok (.iload_n 1, 1) := by decide +kernel
theorem dX4_value_1 : decode cX4_value 1 = .ok (.aload_n 0, 1) := by decide +kernel
theorem dX4_value_2 : decode cX4_value 2 = .ok (.getfield 19, 3) := by decide +kernel
theorem dX4_value_5 : decode cX4_value 5 = .ok (.iand, 1) := by decide +kernel
theorem dX4_value_6 : decode cX4_value 6 = .ok (.ifCond .ne 5, 3) := by decide +kernel
theorem dX4_value_9 : decode cX4_value 9 = .ok (.iconst 1, 1) := by decide +kernel
theorem dX4_value_10 : decode cX4_value 10 = .ok (.ireturn, 1) := by decide +kernel
theorem dX4_value_11 : decode cX4_value 11 = .ok (.iload_n 1, 1) := by decide +kernel
theorem dX4_value_12 : decode cX4_value 12 = .ok (.aload_n 0, 1) := by decide +kernel
theorem dX4_value_13 : decode cX4_value 13 = .ok (.getfield 22, 3) := by decide +kernel
theorem dX4_value_16 : decode cX4_value 16 = .ok (.iand, 1) := by decide +kernel
theorem dX4_value_17 : decode cX4_value 17 = .ok (.ifCond .ne 5, 3) := by decide +kernel
theorem dX4_value_20 : decode cX4_value 20 = .ok (.iconst (-1), 1) := by decide +kernel
theorem dX4_value_21 : decode cX4_value 21 = .ok (.ireturn, 1) := by decide +kernel
theorem dX4_value_22 : decode cX4_value 22 = .ok (.iload 5, 2) := by decide +kernel
theorem dX4_value_24 : decode cX4_value 24 = .ok (.bipush 22, 2) := by decide +kernel
theorem dX4_value_26 : decode cX4_value 26 = .ok (.if_icmp .le 5, 3) := by decide +kernel
theorem dX4_value_29 : decode cX4_value 29 = .ok (.iconst 0, 1) := by decide +kernel
theorem dX4_value_30 : decode cX4_value 30 = .ok (.ireturn, 1) := by decide +kernel
theorem dX4_value_31 : decode cX4_value 31 = .ok (.iload_n 1, 1) := by decide +kernel
theorem dX4_value_32 : decode cX4_value 32 = .ok (.iconst 3, 1) := by decide +kernel
theorem dX4_value_33 : decode cX4_value 33 = .ok (.ishl, 1) := by decide +kernel
theorem dX4_value_34 : decode cX4_value 34 = .ok (.iload_n 2, 1) := by decide +kernel
theorem dX4_value_35 : decode cX4_value 35 = .ok (.ior, 1) := by decide +kernel
theorem dX4_value_36 : decode cX4_value 36 = .ok (.iconst 3, 1) := by decide +kernel
theorem dX4_value_37 : decode cX4_value 37 = .ok (.ishl, 1) := by decide +kernel
theorem dX4_value_38 : decode cX4_value 38 = .ok (.iload_n 3, 1) := by decide +kernel
theorem dX4_value_39 : decode cX4_value 39 = .ok (.ior, 1) := by decide +kernel
theorem dX4_value_40 : decode cX4_value 40 = .ok (.iconst 1, 1) := by decide +kernel
theorem dX4_value_41 : decode cX4_value 41 = .ok (.ishl, 1) := by decide +kernel
theorem dX4_value_42 : decode cX4_value 42 = .ok (.iload 4, 2) := by decide +kernel
theorem dX4_value_44 : decode cX4_value 44 = .ok (.ior, 1) := by decide +kernel
theorem dX4_value_45 : decode cX4_value 45 = .ok (.istore 6, 2) := by decide +kernel
theorem dX4_value_47 : decode cX4_value 47 = .ok (.iload 6, 2) := by decide +kernel
theorem dX4_value_49 : decode cX4_value 49 = .ok (.iconst 5, 1) := by decide +kernel
theorem dX4_value_50 : decode cX4_value 50 = .ok (.ishr, 1) := by decide +kernel
theorem dX4_value_51 : decode cX4_value 51 = .ok (.istore 7, 2) := by decide +kernel
theorem dX4_value_53 : decode cX4_value 53 = .ok (.iload 6, 2) := by decide +kernel
theorem dX4_value_55 : decode cX4_value 55 = .ok (.bipush 31, 2) := by decide +kernel
theorem dX4_value_57 : decode cX4_value 57 = .ok (.iand, 1) := by decide +kernel
theorem dX4_value_58 : decode cX4_value 58 = .ok (.iconst 1, 1) := by decide +kernel
theorem dX4_value_59 : decode cX4_value 59 = .ok (.ishl, 1) := by decide +kernel
theorem dX4_value_60 : decode cX4_value 60 = .ok (.istore 8, 2) := by decide +kernel
theorem dX4_value_62 : decode cX4_value 62 = .ok (.iload 7, 2) := by decide +kernel
theorem dX4_value_64 : decode cX4_value 64 = .ok (.ifCond .lt 13, 3) := by decide +kernel
theorem dX4_value_67 : decode cX4_value 67 = .ok (.iload 7, 2) := by decide +kernel
theorem dX4_value_69 : decode cX4_value 69 = .ok (.aload_n 0, 1) := by decide +kernel
theorem dX4_value_70 : decode cX4_value 70 = .ok (.getfield 39, 3) := by decide +kernel
theorem dX4_value_73 : decode cX4_value 73 = .ok (.arraylength, 1) := by decide +kernel
theorem dX4_value_74 : decode cX4_value 74 = .ok (.if_icmp .lt 15, 3) := by decide +kernel
theorem dX4_value_77 : decode cX4_value 77 = .ok (.aload_n 0, 1) := by decide +kernel
theorem dX4_value_78 : decode cX4_value 78 = .ok (.iload_n 1, 1) := by decide +kernel
theorem dX4_value_79 : decode cX4_value 79 = .ok (.iload_n 2, 1) := by decide +kernel
theorem dX4_value_80 : decode cX4_value 80 = .ok (.iload_n 3, 1) := by decide +kernel
theorem dX4_value_81 : decode cX4_value 81 = .ok (.iload 4, 2) := by decide +kernel
theorem dX4_value_83 : decode cX4_value 83 = .ok (.iload 5, 2) := by decide +kernel
theorem dX4_value_85 : decode cX4_value 85 = .ok (.invokevirtual 77, 3) := by decide +kernel
theorem dX4_value_88 : decode cX4_value 88 = .ok (.ireturn, 1) := by decide +kernel
theorem dX4_value_89 : decode cX4_value 89 = .ok (.aload_n 0, 1) := by decide +kernel
theorem dX4_value_90 : decode cX4_value 90 = .ok (.getfield 39, 3) := by decide +kernel
theorem dX4_value_93 : decode cX4_value 93 = .ok (.iload 7, 2) := by decide +kernel
theorem dX4_value_95 : decode cX4_value 95 = .ok (.laload, 1) := by decide +kernel
theorem dX4_value_96 : decode cX4_value 96 = .ok (.iload 8, 2) := by decide +kernel
theorem dX4_value_98 : decode cX4_value 98 = .ok (.lshr, 1) := by decide +kernel
theorem dX4_value_99 : decode cX4_value 99 = .ok (.l2i, 1) := by decide +kernel
theorem dX4_value_100 : decode cX4_value 100 = .ok (.iconst 3, 1) := by decide +kernel
theorem dX4_value_101 : decode cX4_value 101 = .ok (.iand, 1) := by decide +kernel
theorem dX4_value_102 : decode cX4_value 102 = .ok (.istore 9, 2) := by decide +kernel
theorem dX4_value_104 : decode cX4_value 104 = .ok (.iload 9, 2) := by decide +kernel
theorem dX4_value_106 : decode cX4_value 106 = .ok (.ifCond .ne 34, 3) := by decide +kernel
theorem dX4_value_109 : decode cX4_value 109 = .ok (.iconst 2, 1) := by decide +kernel
theorem dX4_value_110 : decode cX4_value 110 = .ok (.aload_n 0, 1) := by decide +kernel
theorem dX4_value_111 : decode cX4_value 111 = .ok (.iload_n 1, 1) := by decide +kernel
theorem dX4_value_112 : decode cX4_value 112 = .ok (.iload_n 2, 1) := by decide +kernel
theorem dX4_value_113 : decode cX4_value 113 = .ok (.iload_n 3, 1) := by decide +kernel
theorem dX4_value_114 : decode cX4_value 114 = .ok (.iload 4, 2) := by decide +kernel
theorem dX4_value_116 : decode cX4_value 116 = .ok (.iload 5, 2) := by decide +kernel
theorem dX4_value_118 : decode cX4_value 118 = .ok (.invokevirtual 77, 3) := by decide +kernel
theorem dX4_value_121 : decode cX4_value 121 = .ok (.iadd, 1) := by decide +kernel
theorem dX4_value_122 : decode cX4_value 122 = .ok (.istore 9, 2) := by decide +kernel
theorem dX4_value_124 : decode cX4_value 124 = .ok (.aload_n 0, 1) := by decide +kernel
theorem dX4_value_125 : decode cX4_value 125 = .ok (.getfield 39, 3) := by decide +kernel
theorem dX4_value_128 : decode cX4_value 128 = .ok (.iload 7, 2) := by decide +kernel
theorem dX4_value_130 : decode cX4_value 130 = .ok (.dup2, 1) := by decide +kernel
theorem dX4_value_131 : decode cX4_value 131 = .ok (.laload, 1) := by decide +kernel
theorem dX4_value_132 : decode cX4_value 132 = .ok (.iload 9, 2) := by decide +kernel
theorem dX4_value_134 : decode cX4_value 134 = .ok (.i2l, 1) := by decide +kernel
theorem dX4_value_135 : decode cX4_value 135 = .ok (.iload 8, 2) := by decide +kernel
theorem dX4_value_137 : decode cX4_value 137 = .ok (.lshl, 1) := by decide +kernel
theorem dX4_value_138 : decode cX4_value 138 = .ok (.lor, 1) := by decide +kernel
theorem dX4_value_139 : decode cX4_value 139 = .ok (.lastore, 1) := by decide +kernel
theorem dX4_value_140 : decode cX4_value 140 = .ok (.iload 9, 2) := by decide +kernel
theorem dX4_value_142 : decode cX4_value 142 = .ok (.iconst 2, 1) := by decide +kernel
theorem dX4_value_143 : decode cX4_value 143 = .ok (.isub, 1) := by decide +kernel
theorem dX4_value_144 : decode cX4_value 144 = .ok (.ireturn, 1) := by decide +kernel
theorem dX4_reckon_0 : decode cX4_reckon 0 = .ok (.iload_n 1, 1) := by decide +kernel
theorem dX4_reckon_1 : decode cX4_reckon 1 = .ok (.iload 4, 2) := by decide +kernel
theorem dX4_reckon_3 : decode cX4_reckon 3 = .ok (.ifCond .ne 10, 3) := by decide +kernel
theorem dX4_reckon_6 : decode cX4_reckon 6 = .ok (.aload_n 0, 1) := by decide +kernel
theorem dX4_reckon_7 : decode cX4_reckon 7 = .ok (.getfield 19, 3) := by decide +kernel
theorem dX4_reckon_10 : decode cX4_reckon 10 = .ok (.goto 7, 3) := by decide +kernel
theorem dX4_reckon_13 : decode cX4_reckon 13 = .ok (.aload_n 0, 1) := by decide +kernel
theorem dX4_reckon_14 : decode cX4_reckon 14 = .ok (.getfield 22, 3) := by decide +kernel
theorem dX4_reckon_17 : decode cX4_reckon 17 = .ok (.iand, 1) := by decide +kernel
theorem dX4_reckon_18 : decode cX4_reckon 18 = .ok (.istore 6, 2) := by decide +kernel
theorem dX4_reckon_20 : decode cX4_reckon 20 = .ok (.aload_n 0, 1) := by decide +kernel
theorem dX4_reckon_21 : decode cX4_reckon 21 = .ok (.iload 6, 2) := by decide +kernel
theorem dX4_reckon_23 : decode cX4_reckon 23 = .ok (.iload_n 2, 1) := by decide +kernel
theorem dX4_reckon_24 : decode cX4_reckon 24 = .ok (.iload_n 3, 1) := by decide +kernel
theorem dX4_reckon_25 : decode cX4_reckon 25 = .ok (.invokevirtual 57, 3) := by decide +kernel
theorem dX4_reckon_28 : decode cX4_reckon 28 = .ok (.ifCond .ne 58, 3) := by decide +kernel
theorem dX4_reckon_31 : decode cX4_reckon 31 = .ok (.aload_n 0, 1) := by decide +kernel
theorem dX4_reckon_32 : decode cX4_reckon 32 = .ok (.iload_n 1, 1) := by decide +kernel
theorem dX4_reckon_33 : decode cX4_reckon 33 = .ok (.iload 6, 2) := by decide +kernel
theorem dX4_reckon_35 : decode cX4_reckon 35 = .ok (.ixor, 1) := by decide +kernel
theorem dX4_reckon_36 : decode cX4_reckon 36 = .ok (.iload_n 2, 1) := by decide +kernel
theorem dX4_reckon_37 : decode cX4_reckon 37 = .ok (.iload_n 3, 1) := by decide +kernel
theorem dX4_reckon_38 : decode cX4_reckon 38 = .ok (.invokevirtual 57, 3) := by decide +kernel
theorem dX4_reckon_41 : decode cX4_reckon 41 = .ok (.ifCond .eq 21, 3) := by decide +kernel
theorem dX4_reckon_44 : decode cX4_reckon 44 = .ok (.aload_n 0, 1) := by decide +kernel
theorem dX4_reckon_45 : decode cX4_reckon 45 = .ok (.iload_n 1, 1) := by decide +kernel
theorem dX4_reckon_46 : decode cX4_reckon 46 = .ok (.iload_n 2, 1) := by decide +kernel
theorem dX4_reckon_47 : decode cX4_reckon 47 = .ok (.iload_n 3, 1) := by decide +kernel
theorem dX4_reckon_48 : decode cX4_reckon 48 = .ok (.iconst 1, 1) := by decide +kernel
theorem dX4_reckon_49 : decode cX4_reckon 49 = .ok (.iload 4, 2) := by decide +kernel
theorem dX4_reckon_51 : decode cX4_reckon 51 = .ok (.isub, 1) := by decide +kernel
theorem dX4_reckon_52 : decode cX4_reckon 52 = .ok (.iload 5, 2) := by decide +kernel
theorem dX4_reckon_54 : decode cX4_reckon 54 = .ok (.iconst 1, 1) := by decide +kernel
theorem dX4_reckon_55 : decode cX4_reckon 55 = .ok (.iadd, 1) := by decide +kernel
theorem dX4_reckon_56 : decode cX4_reckon 56 = .ok (.invokevirtual 61, 3) := by decide +kernel
theorem dX4_reckon_59 : decode cX4_reckon 59 = .ok (.goto 26, 3) := by decide +kernel
theorem dX4_reckon_62 : decode cX4_reckon 62 = .ok (.aload_n 0, 1) := by decide +kernel
theorem dX4_reckon_63 : decode cX4_reckon 63 = .ok (.iload_n 1, 1) := by decide +kernel
theorem dX4_reckon_64 : decode cX4_reckon 64 = .ok (.aload_n 0, 1) := by decide +kernel
theorem dX4_reckon_65 : decode cX4_reckon 65 = .ok (.getfield 22, 3) := by decide +kernel
theorem dX4_reckon_68 : decode cX4_reckon 68 = .ok (.iand, 1) := by decide +kernel
theorem dX4_reckon_69 : decode cX4_reckon 69 = .ok (.invokevirtual 80, 3) := by decide +kernel
theorem dX4_reckon_72 : decode cX4_reckon 72 = .ok (.aload_n 0, 1) := by decide +kernel
theorem dX4_reckon_73 : decode cX4_reckon 73 = .ok (.iload_n 1, 1) := by decide +kernel
theorem dX4_reckon_74 : decode cX4_reckon 74 = .ok (.aload_n 0, 1) := by decide +kernel
theorem dX4_reckon_75 : decode cX4_reckon 75 = .ok (.getfield 19, 3) := by decide +kernel
theorem dX4_reckon_78 : decode cX4_reckon 78 = .ok (.iand, 1) := by decide +kernel
theorem dX4_reckon_79 : decode cX4_reckon 79 = .ok (.invokevirtual 80, 3) := by decide +kernel
theorem dX4_reckon_82 : decode cX4_reckon 82 = .ok (.invokestatic 83, 3) := by decide +kernel
theorem dX4_reckon_85 : decode cX4_reckon 85 = .ok (.ireturn, 1) := by decide +kernel
theorem dX4_reckon_86 : decode cX4_reckon 86 = .ok (.iload 4, 2) := by decide +kernel
theorem dX4_reckon_88 : decode cX4_reckon 88 = .ok (.ifCond .ne 7, 3) := by decide +kernel
theorem dX4_reckon_91 : decode cX4_reckon 91 = .ok (.iconst 1, 1) := by decide +kernel
theorem dX4_reckon_92 : decode cX4_reckon 92 = .ok (.goto 4, 3) := by decide +kernel
theorem dX4_reckon_95 : decode cX4_reckon 95 = .ok (.iconst (-1), 1) := by decide +kernel
theorem dX4_reckon_96 : decode cX4_reckon 96 = .ok (.istore 7, 2) := by decide +kernel
theorem dX4_reckon_98 : decode cX4_reckon 98 = .ok (.bipush (-2), 2) := by decide +kernel
theorem dX4_reckon_100 : decode cX4_reckon 100 = .ok (.istore 8, 2) := by decide +kernel
theorem dX4_reckon_102 : decode cX4_reckon 102 = .ok (.iconst 0, 1) := by decide +kernel
theorem dX4_reckon_103 : decode cX4_reckon 103 = .ok (.istore 9, 2) := by decide +kernel
theorem dX4_reckon_105 : decode cX4_reckon 105 = .ok (.iload 9, 2) := by decide +kernel
theorem dX4_reckon_107 : decode cX4_reckon 107 = .ok (.iconst 2, 1) := by decide +kernel
theorem dX4_reckon_108 : decode cX4_reckon 108 = .ok (.aload_n 0, 1) := by decide +kernel
theorem dX4_reckon_109 : decode cX4_reckon 109 = .ok (.getfield 15, 3) := by decide +kernel
theorem dX4_reckon_112 : decode cX4_reckon 112 = .ok (.imul, 1) := by decide +kernel
theorem dX4_reckon_113 : decode cX4_reckon 113 = .ok (.if_icmp .ge 66, 3) := by decide +kernel
theorem dX4_reckon_116 : decode cX4_reckon 116 = .ok (.iload 8, 2) := by decide +kernel
theorem dX4_reckon_118 : decode cX4_reckon 118 = .ok (.iconst 1, 1) := by decide +kernel
theorem dX4_reckon_119 : decode cX4_reckon 119 = .ok (.if_icmp .ge 60, 3) := by decide +kernel
theorem dX4_reckon_122 : decode cX4_reckon 122 = .ok (.iload 6, 2) := by decide +kernel
theorem dX4_reckon_124 : decode cX4_reckon 124 = .ok (.iload 9, 2) := by decide +kernel
theorem dX4_reckon_126 : decode cX4_reckon 126 = .ok (.iconst 1, 1) := by decide +kernel
theorem dX4_reckon_127 : decode cX4_reckon 127 = .ok (.ishr, 1) := by decide +kernel
theorem dX4_reckon_128 : decode cX4_reckon 128 = .ok (.ishr, 1) := by decide +kernel
theorem dX4_reckon_129 : decode cX4_reckon 129 = .ok (.iconst 1, 1) := by decide +kernel
theorem dX4_reckon_130 : decode cX4_reckon 130 = .ok (.iand, 1) := by decide +kernel
theorem dX4_reckon_131 : decode cX4_reckon 131 = .ok (.ifCond .eq 42, 3) := by decide +kernel
theorem dX4_reckon_134 : decode cX4_reckon 134 = .ok (.aload_n 0, 1) := by decide +kernel
theorem dX4_reckon_135 : decode cX4_reckon 135 = .ok (.iload_n 1, 1) := by decide +kernel
theorem dX4_reckon_136 : decode cX4_reckon 136 = .ok (.iload_n 2, 1) := by decide +kernel
theorem dX4_reckon_137 : decode cX4_reckon 137 = .ok (.iload_n 3, 1) := by decide +kernel
theorem dX4_reckon_138 : decode cX4_reckon 138 = .ok (.iload 9, 2) := by decide +kernel
theorem dX4_reckon_140 : decode cX4_reckon 140 = .ok (.iload 4, 2) := by decide +kernel
theorem dX4_reckon_142 : decode cX4_reckon 142 = .ok (.iload 5, 2) := by decide +kernel
theorem dX4_reckon_144 : decode cX4_reckon 144 = .ok (.invokevirtual 65, 3) := by decide +kernel
theorem dX4_reckon_147 : decode cX4_reckon 147 = .ok (.istore 10, 2) := by decide +kernel
theorem dX4_reckon_149 : decode cX4_reckon 149 = .ok (.iload 10, 2) := by decide +kernel
theorem dX4_reckon_151 : decode cX4_reckon 151 = .ok (.bipush (-2), 2) := by decide +kernel
theorem dX4_reckon_153 : decode cX4_reckon 153 = .ok (.if_icmp .ne 8, 3) := by decide +kernel
theorem dX4_reckon_156 : decode cX4_reckon 156 = .ok (.iload 8, 2) := by decide +kernel
theorem dX4_reckon_158 : decode cX4_reckon 158 = .ok (.goto 13, 3) := by decide +kernel
theorem dX4_reckon_161 : decode cX4_reckon 161 = .ok (.iload 8, 2) := by decide +kernel
theorem dX4_reckon_163 : decode cX4_reckon 163 = .ok (.iload 7, 2) := by decide +kernel
theorem dX4_reckon_165 : decode cX4_reckon 165 = .ok (.iload 10, 2) := by decide +kernel
theorem dX4_reckon_167 : decode cX4_reckon 167 = .ok (.imul, 1) := by decide +kernel
theorem dX4_reckon_168 : decode cX4_reckon 168 = .ok (.invokestatic 89, 3) := by decide +kernel
theorem dX4_reckon_171 : decode cX4_reckon 171 = .ok (.istore 8, 2) := by decide +kernel
theorem dX4_reckon_173 : decode cX4_reckon 173 = .ok (.iinc 9 1, 3) := by decide +kernel
theorem dX4_reckon_176 : decode cX4_reckon 176 = .ok (.goto (-71), 3) := by decide +kernel
theorem dX4_reckon_179 : decode cX4_reckon 179 = .ok (.iload 7, 2) := by decide +kernel
theorem dX4_reckon_181 : decode cX4_reckon 181 = .ok (.iload 8, 2) := by decide +kernel
theorem dX4_reckon_183 : decode cX4_reckon 183 = .ok (.imul, 1) := by decide +kernel
theorem dX4_reckon_184 : decode cX4_reckon 184 = .ok (.ireturn, 1) := by decide +kernel
def f_Mat_valueBehind_s (n : Nat)  (gvalueBehind : Int → Int → Int → Int → Int → Int → JSg → Option (Int × JSg)) (gvalue : Int → Int → Int → Int → Int → JSg → Option (Int × JSg)) (greckon : Int → Int → Int → Int → Int → JSg → Option (Int × JSg)) (a1 : Int) (a2 : Int) (a3 : Int) (a4 : Int) (a5 : Int) (a6 : Int) (σ : JSg) : Option (Int × JSg) :=
  lt_ (sr32 a4 1) fun v1 => jn1 (fun (u3 : Int) => lt_ u3 fun v4 => jn1 (fun (u6 : Int) => bd1 (f_Mat_outerOf v1 u6 σ) fun r7 => lt_ r7 fun v8 => if v8 = (-1) then (some ((-2), σ)) else (jn1 (fun (u10 : Int) => jn1 (fun (u12 : Int) => bd2 (gvalue (an32 a1 (xr32 (sl32 1 v1) (-1))) u10 u12 (w32 (1 - a5)) (w32 (a6 + 1)) σ) fun r13 s14 => some (r13, s14)) fun j11 => if v4 = 0 then (j11 v8) else (j11 a3)) fun j9 => if v4 = 0 then (j9 a2) else (j9 v8))) fun j5 => if v4 = 0 then (j5 a3) else (j5 a2)) fun j2 => if (an32 a4 1) = 0 then (j2 1) else (j2 0)
set_option maxRecDepth 20000 in
set_option maxHeartbeats 4000000 in
theorem k_Mat_valueBehind_s  (n : Nat)   (gvalueBehind : Int → Int → Int → Int → Int → Int → JSg → Option (Int × JSg)) (gvalue : Int → Int → Int → Int → Int → JSg → Option (Int × JSg)) (greckon : Int → Int → Int → Int → Int → JSg → Option (Int × JSg)) (d : Nat) (hd9 : 3 ≤ d) (hgvalueBehind : ∀ (a1 : Int) (a2 : Int) (a3 : Int) (a4 : Int) (a5 : Int) (a6 : Int) (σ : JSg), Call yX4_valueBehind cX4_valueBehind 10 (some .int) d SH RHO [vR 114, vI a1, vI a2, vI a3, vI a4, vI a5, vI a6] σ dIm (gvalueBehind a1 a2 a3 a4 a5 a6 σ)) (hgvalue : ∀ (a1 : Int) (a2 : Int) (a3 : Int) (a4 : Int) (a5 : Int) (σ : JSg), Call yX4_value cX4_value 10 (some .int) d SH RHO [vR 114, vI a1, vI a2, vI a3, vI a4, vI a5] σ dIm (gvalue a1 a2 a3 a4 a5 σ)) (hgreckon : ∀ (a1 : Int) (a2 : Int) (a3 : Int) (a4 : Int) (a5 : Int) (σ : JSg), Call yX4_reckon cX4_reckon 11 (some .int) d SH RHO [vR 114, vI a1, vI a2, vI a3, vI a4, vI a5] σ dIm (greckon a1 a2 a3 a4 a5 σ)) (a1 : Int) (a2 : Int) (a3 : Int) (a4 : Int) (a5 : Int) (a6 : Int) (σ : JSg) : Call yX4_valueBehind cX4_valueBehind 10 (some .int) (d + 1) SH RHO [vR 114, vI a1, vI a2, vI a3, vI a4, vI a5, vI a6] σ dIm (f_Mat_valueBehind_s n gvalueBehind gvalue greckon a1 a2 a3 a4 a5 a6 σ) := by
  refine call_of_sim (by decide +kernel) (Nat.le_of_ble_eq_true rfl) ?_
  show Sim RX4 cX4_valueBehind 10 (some .int) (d + 1) SH RHO 0 [(0, vR 114), (1, vI a1), (2, vI a2), (3, vI a3), (4, vI a4), (5, vI a5), (6, vI a6)] [] σ dIm (f_Mat_valueBehind_s n gvalueBehind gvalue greckon a1 a2 a3 a4 a5 a6 σ)
  unfold f_Mat_valueBehind_s
  refine sim_iload 4 rfl dX4_valueBehind_0 ?_
  refine sim_iconst dX4_valueBehind_2 (by decide) ?_
  refine sim_ishr dX4_valueBehind_3 ?_
  refine sim_istore (fun v1 => [(7, vI v1), (0, vR 114), (1, vI a1), (2, vI a2), (3, vI a3), (4, vI a4), (5, vI a5), (6, vI a6)]) (fun _ => rfl) (by decide) dX4_valueBehind_4 (fun v1 => ?_)
  refine sim_iload 5 rfl dX4_valueBehind_6 ?_
  refine sim_iconst dX4_valueBehind_8 (by decide) ?_
  refine sim_iand dX4_valueBehind_9 ?_
  refine sim_jn1 (pc' := 18) (fun (u3 : Int) => [(0, vR 114), (1, vI a1), (2, vI a2), (3, vI a3), (5, vI a5), (6, vI a6), (7, vI v1)]) (fun (u3 : Int) => [vI u3]) (fun (u3 : Int) => σ) ?_ (fun j2 hj2 => ?_)
  · intro u3
    refine sim_istore (fun v4 => [(8, vI v4), (0, vR 114), (1, vI a1), (2, vI a2), (3, vI a3), (5, vI a5), (6, vI a6), (7, vI v1)]) (fun _ => rfl) (by decide) dX4_valueBehind_18 (fun v4 => ?_)
    refine sim_aload_n 1 rfl dX4_valueBehind_20 ?_
    refine sim_iload 7 rfl dX4_valueBehind_21 ?_
    refine sim_iload 0 rfl dX4_valueBehind_23 ?_
    refine sim_jn1 (pc' := 33) (fun (u6 : Int) => [(0, vR 114), (1, vI a1), (2, vI a2), (3, vI a3), (5, vI a5), (6, vI a6), (7, vI v1), (8, vI v4)]) (fun (u6 : Int) => [vI u6, vI v1, vR 114]) (fun (u6 : Int) => σ) ?_ (fun j5 hj5 => ?_)
    · intro u6
      refine sim_callVIp v_RX4_94 sh_114 dX4_valueBehind_33 (k_Mat_outerOf v1 u6 σ) rfl ⟨by omega, by decide⟩ (S := []) rfl (Nat.le_of_ble_eq_true rfl) (fun r7 => ?_)
      refine sim_istore (fun v8 => [(9, vI v8), (0, vR 114), (1, vI a1), (2, vI a2), (3, vI a3), (5, vI a5), (6, vI a6), (7, vI v1), (8, vI v4)]) (fun _ => rfl) (by decide) dX4_valueBehind_36 (fun v8 => ?_)
      refine sim_iload 0 rfl dX4_valueBehind_38 ?_
      refine sim_iconst dX4_valueBehind_40 (by decide) ?_
      refine sim_icmp_ne (tgt := 47) dX4_valueBehind_41 (by decide) ?_ ?_
      · refine sim_aload_n 1 rfl dX4_valueBehind_47 ?_
        refine sim_iload_n 2 rfl dX4_valueBehind_48 ?_
        refine sim_iconst dX4_valueBehind_49 (by decide) ?_
        refine sim_iload 7 rfl dX4_valueBehind_50 ?_
        refine sim_ishl dX4_valueBehind_52 ?_
        refine sim_iconst dX4_valueBehind_53 (by decide) ?_
        refine sim_ixor dX4_valueBehind_54 ?_
        refine sim_iand dX4_valueBehind_55 ?_
        refine sim_iload 8 rfl dX4_valueBehind_56 ?_
        refine sim_jn1 (pc' := 67) (fun (u10 : Int) => [(3, vI a3), (5, vI a5), (6, vI a6), (8, vI v4), (9, vI v8)]) (fun (u10 : Int) => [vI u10, vI (an32 a1 (xr32 (sl32 1 v1) (-1))), vR 114]) (fun (u10 : Int) => σ) ?_ (fun j9 hj9 => ?_)
        · intro u10
          refine sim_iload 3 rfl dX4_valueBehind_67 ?_
          refine sim_jn1 (pc' := 78) (fun (u12 : Int) => [(5, vI a5), (6, vI a6)]) (fun (u12 : Int) => [vI u12, vI u10, vI (an32 a1 (xr32 (sl32 1 v1) (-1))), vR 114]) (fun (u12 : Int) => σ) ?_ (fun j11 hj11 => ?_)
          · intro u12
            refine sim_iconst dX4_valueBehind_78 (by decide) ?_
            refine sim_iload 0 rfl dX4_valueBehind_79 ?_
            refine sim_isub dX4_valueBehind_81 ?_
            refine sim_iload 1 rfl dX4_valueBehind_82 ?_
            refine sim_iconst dX4_valueBehind_84 (by decide) ?_
            refine sim_iadd dX4_valueBehind_85 ?_
            refine sim_callVIm v_RX4_61 sh_114 dX4_valueBehind_86 (hgvalue (an32 a1 (xr32 (sl32 1 v1) (-1))) u10 u12 (w32 (1 - a5)) (w32 (a6 + 1)) σ) rfl ⟨by omega, by decide⟩ (S := []) rfl (Nat.le_of_ble_eq_true rfl) (fun r13 s14 => ?_)
            exact sim_iret rfl rfl dX4_valueBehind_89
          refine sim_if_eq (tgt := 76) dX4_valueBehind_69 (by decide) ?_ ?_
          · refine sim_iload 4 rfl dX4_valueBehind_76 ?_
            exact sim_sub [1, 2] rfl (hj11 v8)
          · refine sim_iload_n 0 rfl dX4_valueBehind_72 ?_
            refine sim_goto (tgt := 78) dX4_valueBehind_73 (by decide) ?_
            exact sim_sub [1, 2] rfl (hj11 a3)
        refine sim_if_eq (tgt := 66) dX4_valueBehind_58 (by decide) ?_ ?_
        · refine sim_iload_n 3 rfl dX4_valueBehind_66 ?_
          exact sim_sub [4, 5, 6, 8, 0] rfl (hj9 a2)
        · refine sim_iload 0 rfl dX4_valueBehind_61 ?_
          refine sim_goto (tgt := 67) dX4_valueBehind_63 (by decide) ?_
          exact sim_sub [4, 5, 6, 8, 0] rfl (hj9 v8)
      · refine sim_bipush dX4_valueBehind_44 (by decide +kernel) ?_
        exact sim_iret rfl rfl dX4_valueBehind_46
    refine sim_if_eq (tgt := 32) dX4_valueBehind_25 (by decide) ?_ ?_
    · refine sim_iload_n 4 rfl dX4_valueBehind_32 ?_
      exact sim_sub [1, 2, 3, 4, 5, 6, 7, 0] rfl (hj5 a3)
    · refine sim_iload_n 3 rfl dX4_valueBehind_28 ?_
      refine sim_goto (tgt := 33) dX4_valueBehind_29 (by decide) ?_
      exact sim_sub [1, 2, 3, 4, 5, 6, 7, 0] rfl (hj5 a2)
  refine sim_if_ne (tgt := 17) dX4_valueBehind_10 (by decide) ?_ ?_
  · refine sim_iconst dX4_valueBehind_17 (by decide) ?_
    exact sim_sub [1, 2, 3, 4, 6, 7, 0] rfl (hj2 0)
  · refine sim_iconst dX4_valueBehind_13 (by decide) ?_
    refine sim_goto (tgt := 18) dX4_valueBehind_14 (by decide) ?_
    exact sim_sub [1, 2, 3, 4, 6, 7, 0] rfl (hj2 1)
def f_Mat_value_s (n : Nat)  (gvalueBehind : Int → Int → Int → Int → Int → Int → JSg → Option (Int × JSg)) (gvalue : Int → Int → Int → Int → Int → JSg → Option (Int × JSg)) (greckon : Int → Int → Int → Int → Int → JSg → Option (Int × JSg)) (a1 : Int) (a2 : Int) (a3 : Int) (a4 : Int) (a5 : Int) (σ : JSg) : Option (Int × JSg) :=
  if (an32 a1 (σ 114 5)) = 0 then (some (1, σ)) else (if (an32 a1 (σ 114 6)) = 0 then (some ((-1), σ)) else (if 22 < a5 then (some (0, σ)) else (lt_ (or32 (sl32 (or32 (sl32 (or32 (sl32 a1 3) a2) 3) a3) 1) a4) fun v1 => lt_ (sr32 v1 5) fun v2 => lt_ (sl32 (an32 v1 31) 1) fun v3 => jn0 (bd2 (greckon a1 a2 a3 a4 a5 σ) fun r5 s6 => some (r5, s6)) fun j4 => if v2 < 0 then (j4) else (if v2 < 32768 then (chk (0 ≤ v2 ∧ v2 < 32768) <| lt_ (an32 (w32 (sr64 (σ 103 v2.toNat) v3)) 3) fun v7 => jn2 (fun (y9 : Int) (s10 : JSg) => some (w32 (y9 - 2), s10)) fun j8 => if v7 = 0 then (bd2 (greckon a1 a2 a3 a4 a5 σ) fun r11 s12 => lt_ (w32 (2 + r11)) fun v13 => chk (0 ≤ v2 ∧ v2 < 32768) <| chk (0 ≤ v2 ∧ v2 < 32768) <| lt_ (sp s12 103 v2.toNat (or64 (s12 103 v2.toNat) (sl64 v13 v3))) fun s14 => j8 v13 s14) else (j8 v7 (σ))) else (j4)))))
set_option maxRecDepth 20000 in
set_option maxHeartbeats 4000000 in
theorem k_Mat_value_s  (n : Nat)   (gvalueBehind : Int → Int → Int → Int → Int → Int → JSg → Option (Int × JSg)) (gvalue : Int → Int → Int → Int → Int → JSg → Option (Int × JSg)) (greckon : Int → Int → Int → Int → Int → JSg → Option (Int × JSg)) (d : Nat) (hd9 : 3 ≤ d) (hgvalueBehind : ∀ (a1 : Int) (a2 : Int) (a3 : Int) (a4 : Int) (a5 : Int) (a6 : Int) (σ : JSg), Call yX4_valueBehind cX4_valueBehind 10 (some .int) d SH RHO [vR 114, vI a1, vI a2, vI a3, vI a4, vI a5, vI a6] σ dIm (gvalueBehind a1 a2 a3 a4 a5 a6 σ)) (hgvalue : ∀ (a1 : Int) (a2 : Int) (a3 : Int) (a4 : Int) (a5 : Int) (σ : JSg), Call yX4_value cX4_value 10 (some .int) d SH RHO [vR 114, vI a1, vI a2, vI a3, vI a4, vI a5] σ dIm (gvalue a1 a2 a3 a4 a5 σ)) (hgreckon : ∀ (a1 : Int) (a2 : Int) (a3 : Int) (a4 : Int) (a5 : Int) (σ : JSg), Call yX4_reckon cX4_reckon 11 (some .int) d SH RHO [vR 114, vI a1, vI a2, vI a3, vI a4, vI a5] σ dIm (greckon a1 a2 a3 a4 a5 σ)) (a1 : Int) (a2 : Int) (a3 : Int) (a4 : Int) (a5 : Int) (σ : JSg) : Call yX4_value cX4_value 10 (some .int) (d + 1) SH RHO [vR 114, vI a1, vI a2, vI a3, vI a4, vI a5] σ dIm (f_Mat_value_s n gvalueBehind gvalue greckon a1 a2 a3 a4 a5 σ) := by
  refine call_of_sim (by decide +kernel) (Nat.le_of_ble_eq_true rfl) ?_
  show Sim RX4 cX4_value 10 (some .int) (d + 1) SH RHO 0 [(0, vR 114), (1, vI a1), (2, vI a2), (3, vI a3), (4, vI a4), (5, vI a5)] [] σ dIm (f_Mat_value_s n gvalueBehind gvalue greckon a1 a2 a3 a4 a5 σ)
  unfold f_Mat_value_s
  refine sim_iload_n 1 rfl dX4_value_0 ?_
  refine sim_aload_n 0 rfl dX4_value_1 ?_
  refine sim_getI g_RX4_19 sh_114 dX4_value_2 ?_
  refine sim_iand dX4_value_5 ?_
  refine sim_if_ne (tgt := 11) dX4_value_6 (by decide) ?_ ?_
  · refine sim_iload_n 1 rfl dX4_value_11 ?_
    refine sim_aload_n 0 rfl dX4_value_12 ?_
    refine sim_getI g_RX4_22 sh_114 dX4_value_13 ?_
    refine sim_iand dX4_value_16 ?_
    refine sim_if_ne (tgt := 22) dX4_value_17 (by decide) ?_ ?_
    · refine sim_iload 5 rfl dX4_value_22 ?_
      refine sim_bipush dX4_value_24 (by decide +kernel) ?_
      refine sim_icmp_le (tgt := 31) dX4_value_26 (by decide) ?_ ?_
      · refine sim_iload_n 1 rfl dX4_value_31 ?_
        refine sim_iconst dX4_value_32 (by decide) ?_
        refine sim_ishl dX4_value_33 ?_
        refine sim_iload_n 2 rfl dX4_value_34 ?_
        refine sim_ior dX4_value_35 ?_
        refine sim_iconst dX4_value_36 (by decide) ?_
        refine sim_ishl dX4_value_37 ?_
        refine sim_iload_n 3 rfl dX4_value_38 ?_
        refine sim_ior dX4_value_39 ?_
        refine sim_iconst dX4_value_40 (by decide) ?_
        refine sim_ishl dX4_value_41 ?_
        refine sim_iload 4 rfl dX4_value_42 ?_
        refine sim_ior dX4_value_44 ?_
        refine sim_istore (fun v1 => [(6, vI v1), (0, vR 114), (1, vI a1), (2, vI a2), (3, vI a3), (4, vI a4), (5, vI a5)]) (fun _ => rfl) (by decide) dX4_value_45 (fun v1 => ?_)
        refine sim_iload 0 rfl dX4_value_47 ?_
        refine sim_iconst dX4_value_49 (by decide) ?_
        refine sim_ishr dX4_value_50 ?_
        refine sim_istore (fun v2 => [(7, vI v2), (6, vI v1), (0, vR 114), (1, vI a1), (2, vI a2), (3, vI a3), (4, vI a4), (5, vI a5)]) (fun _ => rfl) (by decide) dX4_value_51 (fun v2 => ?_)
        refine sim_iload 1 rfl dX4_value_53 ?_
        refine sim_bipush dX4_value_55 (by decide +kernel) ?_
        refine sim_iand dX4_value_57 ?_
        refine sim_iconst dX4_value_58 (by decide) ?_
        refine sim_ishl dX4_value_59 ?_
        refine sim_istore (fun v3 => [(8, vI v3), (7, vI v2), (6, vI v1), (0, vR 114), (1, vI a1), (2, vI a2), (3, vI a3), (4, vI a4), (5, vI a5)]) (fun _ => rfl) (by decide) dX4_value_60 (fun v3 => ?_)
        refine sim_iload 1 rfl dX4_value_62 ?_
        refine sim_jn0 (pc' := 77) ([(0, vR 114), (1, vI a1), (2, vI a2), (3, vI a3), (4, vI a4), (5, vI a5)]) ([]) (σ) ?_ (fun j4 hj4 => ?_)
        · refine sim_aload_n 0 rfl dX4_value_77 ?_
          refine sim_iload_n 1 rfl dX4_value_78 ?_
          refine sim_iload_n 2 rfl dX4_value_79 ?_
          refine sim_iload_n 3 rfl dX4_value_80 ?_
          refine sim_iload 4 rfl dX4_value_81 ?_
          refine sim_iload 5 rfl dX4_value_83 ?_
          refine sim_callVIm v_RX4_77 sh_114 dX4_value_85 (hgreckon a1 a2 a3 a4 a5 σ) rfl ⟨by omega, by decide⟩ (S := []) rfl (Nat.le_of_ble_eq_true rfl) (fun r5 s6 => ?_)
          exact sim_iret rfl rfl dX4_value_88
        refine sim_if_lt (tgt := 77) dX4_value_64 (by decide) ?_ ?_
        · exact sim_sub [3, 4, 5, 6, 7, 8] rfl (hj4 )
        · refine sim_iload 1 rfl dX4_value_67 ?_
          refine sim_aload_n 3 rfl dX4_value_69 ?_
          refine sim_getR g_RX4_39 sh_114 rh_114_2 dX4_value_70 ?_
          refine sim_alen sh_103 (by decide) ⟨rfl, okI_lit (by decide)⟩ dX4_value_73 ?_
          refine sim_icmp_lt (tgt := 89) dX4_value_74 (by decide) ?_ ?_
          · refine sim_aload_n 3 rfl dX4_value_89 ?_
            refine sim_getR g_RX4_39 sh_114 rh_114_2 dX4_value_90 ?_
            refine sim_iload 1 rfl dX4_value_93 ?_
            refine sim_laload sh_103 rfl dX4_value_95 ?_
            refine sim_iload 0 rfl dX4_value_96 ?_
            refine sim_lshr dX4_value_98 ?_
            refine sim_l2i dX4_value_99 ?_
            refine sim_iconst dX4_value_100 (by decide) ?_
            refine sim_iand dX4_value_101 ?_
            refine sim_istore (fun v7 => [(9, vI v7), (8, vI v3), (7, vI v2), (6, vI v1), (0, vR 114), (1, vI a1), (2, vI a2), (3, vI a3), (4, vI a4), (5, vI a5)]) (fun _ => rfl) (by decide) dX4_value_102 (fun v7 => ?_)
            refine sim_iload 0 rfl dX4_value_104 ?_
            refine sim_jn2 (pc' := 140) (fun (y9 : Int) (s10 : JSg) => [(9, vI y9)]) (fun (y9 : Int) (s10 : JSg) => []) (fun (y9 : Int) (s10 : JSg) => s10) ?_ (fun j8 hj8 => ?_)
            · intro y9 s10
              refine sim_iload 0 rfl dX4_value_140 ?_
              refine sim_iconst dX4_value_142 (by decide) ?_
              refine sim_isub dX4_value_143 ?_
              exact sim_iret rfl rfl dX4_value_144
            refine sim_if_ne (tgt := 140) dX4_value_106 (by decide) ?_ ?_
            · exact sim_sub [0] rfl (hj8 v7 (σ))
            · refine sim_iconst dX4_value_109 (by decide) ?_
              refine sim_aload_n 4 rfl dX4_value_110 ?_
              refine sim_iload_n 5 rfl dX4_value_111 ?_
              refine sim_iload_n 6 rfl dX4_value_112 ?_
              refine sim_iload_n 7 rfl dX4_value_113 ?_
              refine sim_iload 8 rfl dX4_value_114 ?_
              refine sim_iload 9 rfl dX4_value_116 ?_
              refine sim_callVIm v_RX4_77 sh_114 dX4_value_118 (hgreckon a1 a2 a3 a4 a5 σ) rfl ⟨by omega, by decide⟩ (S := [vI 2]) rfl (Nat.le_of_ble_eq_true rfl) (fun r11 s12 => ?_)
              refine sim_iadd dX4_value_121 ?_
              refine sim_istore (fun v13 => [(9, vI v13), (8, vI v3), (7, vI v2), (6, vI v1), (0, vR 114), (1, vI a1), (2, vI a2), (3, vI a3), (4, vI a4), (5, vI a5)]) (fun _ => rfl) (by decide) dX4_value_122 (fun v13 => ?_)
              refine sim_aload_n 4 rfl dX4_value_124 ?_
              refine sim_getR g_RX4_39 sh_114 rh_114_2 dX4_value_125 ?_
              refine sim_iload 2 rfl dX4_value_128 ?_
              refine sim_dup2 rfl rfl dX4_value_130 ?_
              refine sim_laload sh_103 rfl dX4_value_131 ?_
              refine sim_iload 0 rfl dX4_value_132 ?_
              refine sim_i2l dX4_value_134 ?_
              refine sim_iload 1 rfl dX4_value_135 ?_
              refine sim_lshl dX4_value_137 ?_
              refine sim_lor dX4_value_138 ?_
              refine sim_lastore sh_103 rfl dX4_value_139 (fun s14 => ?_)
              exact sim_sub [0] rfl (hj8 v13 s14)
          · exact sim_sub [3, 4, 5, 6, 7, 8] rfl (hj4 )
      · refine sim_iconst dX4_value_29 (by decide) ?_
        exact sim_iret rfl rfl dX4_value_30
    · refine sim_iconst dX4_value_20 (by decide) ?_
      exact sim_iret rfl rfl dX4_value_21
  · refine sim_iconst dX4_value_9 (by decide) ?_
    exact sim_iret rfl rfl dX4_value_10
def f_Mat_reckon_s (n : Nat)  (gvalueBehind : Int → Int → Int → Int → Int → Int → JSg → Option (Int × JSg)) (gvalue : Int → Int → Int → Int → Int → JSg → Option (Int × JSg)) (greckon : Int → Int → Int → Int → Int → JSg → Option (Int × JSg)) (a1 : Int) (a2 : Int) (a3 : Int) (a4 : Int) (a5 : Int) (σ : JSg) : Option (Int × JSg) :=
  jn1 (fun (u2 : Int) => lt_ (an32 a1 u2) fun v3 => bd1 (f_Mat_canLay n v3 a2 a3 σ) fun r4 => if r4 = 0 then (bd1 (f_Mat_canLay n (xr32 a1 v3) a2 a3 σ) fun r25 => if r25 = 0 then (bd1 (f_Mat_pipsOf n (an32 a1 (σ 114 6)) σ) fun r26 => bd1 (f_Mat_pipsOf n (an32 a1 (σ 114 5)) σ) fun r27 => bd1 (f_JInt_compare_7cf53 r26 r27 σ) fun r28 => some (r28, σ)) else (bd2 (gvalue a1 a2 a3 (w32 (1 - a4)) (w32 (a5 + 1)) σ) fun r29 s30 => some (r29, s30))) else (jn1 (fun (u6 : Int) => lt_ u6 fun v7 => lt_ (-2) fun v8 => lt_ 0 fun v9 => wh3 n (fun rc10 (x11 : Int) (x12 : Int) (s13 : JSg) => jn0 (some (w32 (v7 * x11), s13)) fun j14 => if x12 < (w32 (2 * (s13 114 4))) then (if x11 < 1 then (jn2 (fun (y16 : Int) (s17 : JSg) => lt_ (w32 (x12 + 1)) fun v18 => rc10 y16 v18 s17) fun j15 => if (an32 (sr32 v3 (sr32 x12 1)) 1) = 0 then (j15 x11 s13) else (bd2 (gvalueBehind a1 a2 a3 x12 a4 a5 s13) fun r19 s20 => lt_ r19 fun v21 => jn1 (fun (u23 : Int) => lt_ u23 fun v24 => j15 v24 s20) fun j22 => if v21 = (-2) then (j22 x11) else (j22 (max x11 (w32 (v7 * v21)))))) else (j14)) else (j14)) v8 v9 (σ)) fun j5 => if a4 = 0 then (j5 1) else (j5 (-1)))) fun j1 => if a4 = 0 then (j1 (σ 114 5)) else (j1 (σ 114 6))
set_option maxRecDepth 20000 in
set_option maxHeartbeats 4000000 in
theorem k_Mat_reckon_s  (n : Nat)   (gvalueBehind : Int → Int → Int → Int → Int → Int → JSg → Option (Int × JSg)) (gvalue : Int → Int → Int → Int → Int → JSg → Option (Int × JSg)) (greckon : Int → Int → Int → Int → Int → JSg → Option (Int × JSg)) (d : Nat) (hd9 : 3 ≤ d) (hgvalueBehind : ∀ (a1 : Int) (a2 : Int) (a3 : Int) (a4 : Int) (a5 : Int) (a6 : Int) (σ : JSg), Call yX4_valueBehind cX4_valueBehind 10 (some .int) d SH RHO [vR 114, vI a1, vI a2, vI a3, vI a4, vI a5, vI a6] σ dIm (gvalueBehind a1 a2 a3 a4 a5 a6 σ)) (hgvalue : ∀ (a1 : Int) (a2 : Int) (a3 : Int) (a4 : Int) (a5 : Int) (σ : JSg), Call yX4_value cX4_value 10 (some .int) d SH RHO [vR 114, vI a1, vI a2, vI a3, vI a4, vI a5] σ dIm (gvalue a1 a2 a3 a4 a5 σ)) (hgreckon : ∀ (a1 : Int) (a2 : Int) (a3 : Int) (a4 : Int) (a5 : Int) (σ : JSg), Call yX4_reckon cX4_reckon 11 (some .int) d SH RHO [vR 114, vI a1, vI a2, vI a3, vI a4, vI a5] σ dIm (greckon a1 a2 a3 a4 a5 σ)) (a1 : Int) (a2 : Int) (a3 : Int) (a4 : Int) (a5 : Int) (σ : JSg) : Call yX4_reckon cX4_reckon 11 (some .int) (d + 1) SH RHO [vR 114, vI a1, vI a2, vI a3, vI a4, vI a5] σ dIm (f_Mat_reckon_s n gvalueBehind gvalue greckon a1 a2 a3 a4 a5 σ) := by
  refine call_of_sim (by decide +kernel) (Nat.le_of_ble_eq_true rfl) ?_
  show Sim RX4 cX4_reckon 11 (some .int) (d + 1) SH RHO 0 [(0, vR 114), (1, vI a1), (2, vI a2), (3, vI a3), (4, vI a4), (5, vI a5)] [] σ dIm (f_Mat_reckon_s n gvalueBehind gvalue greckon a1 a2 a3 a4 a5 σ)
  unfold f_Mat_reckon_s
  refine sim_iload_n 1 rfl dX4_reckon_0 ?_
  refine sim_iload 4 rfl dX4_reckon_1 ?_
  refine sim_jn1 (pc' := 17) (fun (u2 : Int) => [(0, vR 114), (1, vI a1), (2, vI a2), (3, vI a3), (4, vI a4), (5, vI a5)]) (fun (u2 : Int) => [vI u2, vI a1]) (fun (u2 : Int) => σ) ?_ (fun j1 hj1 => ?_)
  · intro u2
    refine sim_iand dX4_reckon_17 ?_
    refine sim_istore (fun v3 => [(6, vI v3), (0, vR 114), (1, vI a1), (2, vI a2), (3, vI a3), (4, vI a4), (5, vI a5)]) (fun _ => rfl) (by decide) dX4_reckon_18 (fun v3 => ?_)
    refine sim_aload_n 1 rfl dX4_reckon_20 ?_
    refine sim_iload 0 rfl dX4_reckon_21 ?_
    refine sim_iload_n 3 rfl dX4_reckon_23 ?_
    refine sim_iload_n 4 rfl dX4_reckon_24 ?_
    refine sim_callVIp v_RX4_57 sh_114 dX4_reckon_25 (k_Mat_canLay n v3 a2 a3 σ) rfl ⟨by omega, by decide⟩ (S := []) rfl (Nat.le_of_ble_eq_true rfl) (fun r4 => ?_)
    refine sim_if_ne (tgt := 86) dX4_reckon_28 (by decide) ?_ ?_
    · refine sim_iload 5 rfl dX4_reckon_86 ?_
      refine sim_jn1 (pc' := 96) (fun (u6 : Int) => [(0, vR 114), (1, vI a1), (2, vI a2), (3, vI a3), (4, vI a4), (5, vI a5), (6, vI v3)]) (fun (u6 : Int) => [vI u6]) (fun (u6 : Int) => σ) ?_ (fun j5 hj5 => ?_)
      · intro u6
        refine sim_istore (fun v7 => [(7, vI v7), (0, vR 114), (1, vI a1), (2, vI a2), (3, vI a3), (4, vI a4), (5, vI a5), (6, vI v3)]) (fun _ => rfl) (by decide) dX4_reckon_96 (fun v7 => ?_)
        refine sim_bipush dX4_reckon_98 (by decide +kernel) ?_
        refine sim_istore (fun v8 => [(8, vI v8), (7, vI v7), (0, vR 114), (1, vI a1), (2, vI a2), (3, vI a3), (4, vI a4), (5, vI a5), (6, vI v3)]) (fun _ => rfl) (by decide) dX4_reckon_100 (fun v8 => ?_)
        refine sim_iconst dX4_reckon_102 (by decide) ?_
        refine sim_istore (fun v9 => [(9, vI v9), (8, vI v8), (7, vI v7), (0, vR 114), (1, vI a1), (2, vI a2), (3, vI a3), (4, vI a4), (5, vI a5), (6, vI v3)]) (fun _ => rfl) (by decide) dX4_reckon_103 (fun v9 => ?_)
        refine sim_sub [3, 4, 5, 6, 7, 8, 9, 2, 1, 0] (L' := [(0, vR 114), (1, vI a1), (2, vI a2), (3, vI a3), (4, vI a4), (5, vI a5), (6, vI v3), (7, vI v7), (8, vI v8), (9, vI v9)]) rfl ?_
        refine sim_wh3 (fun (x11 : Int) (x12 : Int) (s13 : JSg) => [(0, vR 114), (1, vI a1), (2, vI a2), (3, vI a3), (4, vI a4), (5, vI a5), (6, vI v3), (7, vI v7), (8, vI x11), (9, vI x12)]) (fun (x11 : Int) (x12 : Int) (s13 : JSg) => s13) ?_ n v8 v9 (σ)
        intro rc10 hrc10 x11 x12 s13
        refine sim_iload 9 rfl dX4_reckon_105 ?_
        refine sim_iconst dX4_reckon_107 (by decide) ?_
        refine sim_aload_n 0 rfl dX4_reckon_108 ?_
        refine sim_getI g_RX4_15 sh_114 dX4_reckon_109 ?_
        refine sim_imul dX4_reckon_112 ?_
        refine sim_jn0 (pc' := 179) ([(7, vI v7), (8, vI x11)]) ([]) (s13) ?_ (fun j14 hj14 => ?_)
        · refine sim_iload 0 rfl dX4_reckon_179 ?_
          refine sim_iload 1 rfl dX4_reckon_181 ?_
          refine sim_imul dX4_reckon_183 ?_
          exact sim_iret rfl rfl dX4_reckon_184
        refine sim_icmp_ge (tgt := 179) dX4_reckon_113 (by decide) ?_ ?_
        · exact sim_sub [7, 8] rfl (hj14 )
        · refine sim_iload 8 rfl dX4_reckon_116 ?_
          refine sim_iconst dX4_reckon_118 (by decide) ?_
          refine sim_icmp_ge (tgt := 179) dX4_reckon_119 (by decide) ?_ ?_
          · exact sim_sub [7, 8] rfl (hj14 )
          · refine sim_iload 6 rfl dX4_reckon_122 ?_
            refine sim_iload 9 rfl dX4_reckon_124 ?_
            refine sim_iconst dX4_reckon_126 (by decide) ?_
            refine sim_ishr dX4_reckon_127 ?_
            refine sim_ishr dX4_reckon_128 ?_
            refine sim_iconst dX4_reckon_129 (by decide) ?_
            refine sim_iand dX4_reckon_130 ?_
            refine sim_jn2 (pc' := 173) (fun (y16 : Int) (s17 : JSg) => [(0, vR 114), (1, vI a1), (2, vI a2), (3, vI a3), (4, vI a4), (5, vI a5), (6, vI v3), (7, vI v7), (8, vI y16), (9, vI x12)]) (fun (y16 : Int) (s17 : JSg) => []) (fun (y16 : Int) (s17 : JSg) => s17) ?_ (fun j15 hj15 => ?_)
            · intro y16 s17
              refine sim_iinc 9 rfl (fun v18 => [(9, vI v18), (0, vR 114), (1, vI a1), (2, vI a2), (3, vI a3), (4, vI a4), (5, vI a5), (6, vI v3), (7, vI v7), (8, vI y16)]) (fun _ => rfl) (by decide) dX4_reckon_173 (fun v18 => ?_)
              refine sim_goto (tgt := 105) dX4_reckon_176 (by decide) ?_
              exact sim_sub [1, 2, 3, 4, 5, 6, 7, 8, 9, 0] rfl (hrc10 y16 v18 s17)
            refine sim_if_eq (tgt := 173) dX4_reckon_131 (by decide) ?_ ?_
            · exact sim_sub [0, 1, 2, 3, 4, 5, 6, 7, 8, 9] rfl (hj15 x11 s13)
            · refine sim_aload_n 0 rfl dX4_reckon_134 ?_
              refine sim_iload_n 1 rfl dX4_reckon_135 ?_
              refine sim_iload_n 2 rfl dX4_reckon_136 ?_
              refine sim_iload_n 3 rfl dX4_reckon_137 ?_
              refine sim_iload 9 rfl dX4_reckon_138 ?_
              refine sim_iload 4 rfl dX4_reckon_140 ?_
              refine sim_iload 5 rfl dX4_reckon_142 ?_
              refine sim_callVIm v_RX4_65 sh_114 dX4_reckon_144 (hgvalueBehind a1 a2 a3 x12 a4 a5 s13) rfl ⟨by omega, by decide⟩ (S := []) rfl (Nat.le_of_ble_eq_true rfl) (fun r19 s20 => ?_)
              refine sim_istore (fun v21 => [(10, vI v21), (0, vR 114), (1, vI a1), (2, vI a2), (3, vI a3), (4, vI a4), (5, vI a5), (6, vI v3), (7, vI v7), (8, vI x11), (9, vI x12)]) (fun _ => rfl) (by decide) dX4_reckon_147 (fun v21 => ?_)
              refine sim_iload 0 rfl dX4_reckon_149 ?_
              refine sim_bipush dX4_reckon_151 (by decide +kernel) ?_
              refine sim_jn1 (pc' := 171) (fun (u23 : Int) => [(0, vR 114), (1, vI a1), (2, vI a2), (3, vI a3), (4, vI a4), (5, vI a5), (6, vI v3), (7, vI v7), (9, vI x12)]) (fun (u23 : Int) => [vI u23]) (fun (u23 : Int) => s20) ?_ (fun j22 hj22 => ?_)
              · intro u23
                refine sim_istore (fun v24 => [(8, vI v24), (0, vR 114), (1, vI a1), (2, vI a2), (3, vI a3), (4, vI a4), (5, vI a5), (6, vI v3), (7, vI v7), (9, vI x12)]) (fun _ => rfl) (by decide) dX4_reckon_171 (fun v24 => ?_)
                exact sim_sub [1, 2, 3, 4, 5, 6, 7, 8, 0, 9] rfl (hj15 v24 s20)
              refine sim_icmp_ne (tgt := 161) dX4_reckon_153 (by decide) ?_ ?_
              · refine sim_iload 9 rfl dX4_reckon_161 ?_
                refine sim_iload 8 rfl dX4_reckon_163 ?_
                refine sim_iload 0 rfl dX4_reckon_165 ?_
                refine sim_imul dX4_reckon_167 ?_
                refine sim_mmax w_1111 w_618 w_14 w_619 (by omega) (Nat.le_of_ble_eq_true rfl) dX4_reckon_168 ?_
                exact sim_sub [1, 2, 3, 4, 5, 6, 7, 8, 10] rfl (hj22 (max x11 (w32 (v7 * v21))))
              · refine sim_iload 9 rfl dX4_reckon_156 ?_
                refine sim_goto (tgt := 171) dX4_reckon_158 (by decide) ?_
                exact sim_sub [1, 2, 3, 4, 5, 6, 7, 8, 10] rfl (hj22 x11)
      refine sim_if_ne (tgt := 95) dX4_reckon_88 (by decide) ?_ ?_
      · refine sim_iconst dX4_reckon_95 (by decide) ?_
        exact sim_sub [1, 2, 3, 4, 5, 6, 0] rfl (hj5 (-1))
      · refine sim_iconst dX4_reckon_91 (by decide) ?_
        refine sim_goto (tgt := 96) dX4_reckon_92 (by decide) ?_
        exact sim_sub [1, 2, 3, 4, 5, 6, 0] rfl (hj5 1)
    · refine sim_aload_n 1 rfl dX4_reckon_31 ?_
      refine sim_iload_n 2 rfl dX4_reckon_32 ?_
      refine sim_iload 0 rfl dX4_reckon_33 ?_
      refine sim_ixor dX4_reckon_35 ?_
      refine sim_iload_n 3 rfl dX4_reckon_36 ?_
      refine sim_iload_n 4 rfl dX4_reckon_37 ?_
      refine sim_callVIp v_RX4_57 sh_114 dX4_reckon_38 (k_Mat_canLay n (xr32 a1 v3) a2 a3 σ) rfl ⟨by omega, by decide⟩ (S := []) rfl (Nat.le_of_ble_eq_true rfl) (fun r25 => ?_)
      refine sim_if_eq (tgt := 62) dX4_reckon_41 (by decide) ?_ ?_
      · refine sim_aload_n 1 rfl dX4_reckon_62 ?_
        refine sim_iload_n 2 rfl dX4_reckon_63 ?_
        refine sim_aload_n 1 rfl dX4_reckon_64 ?_
        refine sim_getI g_RX4_22 sh_114 dX4_reckon_65 ?_
        refine sim_iand dX4_reckon_68 ?_
        refine sim_callVIp v_RX4_80 sh_114 dX4_reckon_69 (k_Mat_pipsOf n (an32 a1 (σ 114 6)) σ) rfl ⟨by omega, by decide⟩ (S := []) rfl (Nat.le_of_ble_eq_true rfl) (fun r26 => ?_)
        refine sim_aload_n 1 rfl dX4_reckon_72 ?_
        refine sim_iload_n 2 rfl dX4_reckon_73 ?_
        refine sim_aload_n 1 rfl dX4_reckon_74 ?_
        refine sim_getI g_RX4_19 sh_114 dX4_reckon_75 ?_
        refine sim_iand dX4_reckon_78 ?_
        refine sim_callVIp v_RX4_80 sh_114 dX4_reckon_79 (k_Mat_pipsOf n (an32 a1 (σ 114 5)) σ) rfl ⟨by omega, by decide⟩ (S := [vI r26]) rfl (Nat.le_of_ble_eq_true rfl) (fun r27 => ?_)
        refine sim_callSIp s_RX4_83 dX4_reckon_82 (k_JInt_compare_7cf53 SH RHO r26 r27 σ) rfl ⟨by omega, by decide⟩ (S := []) rfl (Nat.le_of_ble_eq_true rfl) (fun r28 => ?_)
        exact sim_iret rfl rfl dX4_reckon_85
      · refine sim_aload_n 1 rfl dX4_reckon_44 ?_
        refine sim_iload_n 2 rfl dX4_reckon_45 ?_
        refine sim_iload_n 3 rfl dX4_reckon_46 ?_
        refine sim_iload_n 4 rfl dX4_reckon_47 ?_
        refine sim_iconst dX4_reckon_48 (by decide) ?_
        refine sim_iload 5 rfl dX4_reckon_49 ?_
        refine sim_isub dX4_reckon_51 ?_
        refine sim_iload 6 rfl dX4_reckon_52 ?_
        refine sim_iconst dX4_reckon_54 (by decide) ?_
        refine sim_iadd dX4_reckon_55 ?_
        refine sim_callVIm v_RX4_61 sh_114 dX4_reckon_56 (hgvalue a1 a2 a3 (w32 (1 - a4)) (w32 (a5 + 1)) σ) rfl ⟨by omega, by decide⟩ (S := []) rfl (Nat.le_of_ble_eq_true rfl) (fun r29 s30 => ?_)
        refine sim_goto (tgt := 85) dX4_reckon_59 (by decide) ?_
        exact sim_iret rfl rfl dX4_reckon_85
  refine sim_if_ne (tgt := 13) dX4_reckon_3 (by decide) ?_ ?_
  · refine sim_aload_n 0 rfl dX4_reckon_13 ?_
    refine sim_getI g_RX4_22 sh_114 dX4_reckon_14 ?_
    exact sim_sub [0, 1, 2, 3, 4, 5] rfl (hj1 (σ 114 6))
  · refine sim_aload_n 0 rfl dX4_reckon_6 ?_
    refine sim_getI g_RX4_19 sh_114 dX4_reckon_7 ?_
    refine sim_goto (tgt := 17) dX4_reckon_10 (by decide) ?_
    exact sim_sub [0, 1, 2, 3, 4, 5] rfl (hj1 (σ 114 5))
def fg_Mat_valueBehind (n : Nat)  : Nat → (Int → Int → Int → Int → Int → Int → JSg → Option (Int × JSg)) × (Int → Int → Int → Int → Int → JSg → Option (Int × JSg)) × (Int → Int → Int → Int → Int → JSg → Option (Int × JSg))
  | 0 => (fun _ _ _ _ _ _ _ => none, fun _ _ _ _ _ _ => none, fun _ _ _ _ _ _ => none)
  | r + 1 => (f_Mat_valueBehind_s n (fg_Mat_valueBehind n r).1 (fg_Mat_valueBehind n r).2.1 (fg_Mat_valueBehind n r).2.2, f_Mat_value_s n (fg_Mat_valueBehind n r).1 (fg_Mat_valueBehind n r).2.1 (fg_Mat_valueBehind n r).2.2, f_Mat_reckon_s n (fg_Mat_valueBehind n r).1 (fg_Mat_valueBehind n r).2.1 (fg_Mat_valueBehind n r).2.2)
def f_Mat_valueBehind (n : Nat)  (a1 : Int) (a2 : Int) (a3 : Int) (a4 : Int) (a5 : Int) (a6 : Int) (σ : JSg) : Option (Int × JSg) := (fg_Mat_valueBehind n 64).1 a1 a2 a3 a4 a5 a6 σ
def f_Mat_value (n : Nat)  (a1 : Int) (a2 : Int) (a3 : Int) (a4 : Int) (a5 : Int) (σ : JSg) : Option (Int × JSg) := (fg_Mat_valueBehind n 64).2.1 a1 a2 a3 a4 a5 σ
def f_Mat_reckon (n : Nat)  (a1 : Int) (a2 : Int) (a3 : Int) (a4 : Int) (a5 : Int) (σ : JSg) : Option (Int × JSg) := (fg_Mat_valueBehind n 64).2.2 a1 a2 a3 a4 a5 σ
theorem kg_Mat_valueBehind  (n : Nat)   : ∀ r : Nat, (∀ (a1 : Int) (a2 : Int) (a3 : Int) (a4 : Int) (a5 : Int) (a6 : Int) (σ : JSg), Call yX4_valueBehind cX4_valueBehind 10 (some .int) (3 + r) SH RHO [vR 114, vI a1, vI a2, vI a3, vI a4, vI a5, vI a6] σ dIm ((fg_Mat_valueBehind n r).1 a1 a2 a3 a4 a5 a6 σ)) ∧ (∀ (a1 : Int) (a2 : Int) (a3 : Int) (a4 : Int) (a5 : Int) (σ : JSg), Call yX4_value cX4_value 10 (some .int) (3 + r) SH RHO [vR 114, vI a1, vI a2, vI a3, vI a4, vI a5] σ dIm ((fg_Mat_valueBehind n r).2.1 a1 a2 a3 a4 a5 σ)) ∧ (∀ (a1 : Int) (a2 : Int) (a3 : Int) (a4 : Int) (a5 : Int) (σ : JSg), Call yX4_reckon cX4_reckon 11 (some .int) (3 + r) SH RHO [vR 114, vI a1, vI a2, vI a3, vI a4, vI a5] σ dIm ((fg_Mat_valueBehind n r).2.2 a1 a2 a3 a4 a5 σ)) := by
  intro r
  induction r with
  | zero => exact ⟨fun _ _ _ _ _ _ _ _ _ _ h => (by cases h), fun _ _ _ _ _ _ _ _ _ h => (by cases h), fun _ _ _ _ _ _ _ _ _ h => (by cases h)⟩
  | succ r ih =>
    obtain ⟨h0, h1, h2⟩ := ih
    exact ⟨fun a1 a2 a3 a4 a5 a6 σ => k_Mat_valueBehind_s n _ _ _ (3 + r) (by omega) h0 h1 h2 a1 a2 a3 a4 a5 a6 σ, fun a1 a2 a3 a4 a5 σ => k_Mat_value_s n _ _ _ (3 + r) (by omega) h0 h1 h2 a1 a2 a3 a4 a5 σ, fun a1 a2 a3 a4 a5 σ => k_Mat_reckon_s n _ _ _ (3 + r) (by omega) h0 h1 h2 a1 a2 a3 a4 a5 σ⟩
theorem k_Mat_valueBehind  (n : Nat)   (a1 : Int) (a2 : Int) (a3 : Int) (a4 : Int) (a5 : Int) (a6 : Int) (σ : JSg) : Call yX4_valueBehind cX4_valueBehind 10 (some .int) 67 SH RHO [vR 114, vI a1, vI a2, vI a3, vI a4, vI a5, vI a6] σ dIm (f_Mat_valueBehind n a1 a2 a3 a4 a5 a6 σ) := (kg_Mat_valueBehind n 64).1 a1 a2 a3 a4 a5 a6 σ
theorem k_Mat_value  (n : Nat)   (a1 : Int) (a2 : Int) (a3 : Int) (a4 : Int) (a5 : Int) (σ : JSg) : Call yX4_value cX4_value 10 (some .int) 67 SH RHO [vR 114, vI a1, vI a2, vI a3, vI a4, vI a5] σ dIm (f_Mat_value n a1 a2 a3 a4 a5 σ) := (kg_Mat_valueBehind n 64).2.1 a1 a2 a3 a4 a5 σ
theorem k_Mat_reckon  (n : Nat)   (a1 : Int) (a2 : Int) (a3 : Int) (a4 : Int) (a5 : Int) (σ : JSg) : Call yX4_reckon cX4_reckon 11 (some .int) 67 SH RHO [vR 114, vI a1, vI a2, vI a3, vI a4, vI a5] σ dIm (f_Mat_reckon n a1 a2 a3 a4 a5 σ) := (kg_Mat_valueBehind n 64).2.2 a1 a2 a3 a4 a5 σ
