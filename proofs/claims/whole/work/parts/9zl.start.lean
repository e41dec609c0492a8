/-! LAYER 4: what holds between the calls holds at the start -/
theorem z_none {k : Nat} (h : SLt.all (fun t => !(t.1 == k)) = true) : sst 37 k = fun _ => 0 := by
  funext j
  refine sstL_none (SLt.take 37) (fun _ _ => 0) k j fun t ht => ?_
  have h1 := List.all_eq_true.mp h t (List.mem_of_mem_take ht)
  intro e
  rw [e] at h1
  simp at h1
theorem z_abs {s : Int} {P : Prop} (h0 : 0 ≤ s) (h1 : s < 0) : P := absurd h0 (by omega)
theorem z_0 : (0 : Int) ≤ 0 := Int.le_refl 0
theorem z_w (n : Int) (h : 0 < n) : (0 : Int) ≤ 0 ∧ (0 : Int) < n := ⟨z_0, h⟩
theorem z_wfI : WfI (fun _ => 0) := ⟨⟨z_0, show (0 : Int) ≤ 6 by decide⟩, ⟨z_0, show (0 : Int) ≤ 28 by decide⟩, z_w 128 (by decide), fun _ _ _ => z_w 128 (by decide), fun s i h0 h1 _ _ => z_abs h0 h1⟩
theorem z_wfR : WfR (fun _ => 0) := ⟨fun s h0 h1 => z_abs h0 h1, ⟨z_0, z_0⟩, fun i h0 h1 => z_abs h0 h1, fun i j h0 hij h1 => z_abs (show 0 ≤ j by omega) h1⟩
theorem z_wfM : WfM (fun _ => 0) := ⟨z_w 268435456 (by decide), fun s _ => bt_0 _, fun w _ _ => ⟨⟨z_0, show (0 : Int) ≤ 7 by decide⟩, z_w 128 (by decide)⟩, fun n m _ _ _ _ => (bt_0 _).trans (bt_0 _).symm⟩
theorem z_fit (n m : Int) : fitB (fun _ => 0) n m = decide (n = m) := by
  unfold fitB
  simp [bt_0]
theorem z_10 : ∀ n, n < 7 → (0 ≤ sst 37 10 n ∧ sst 37 10 n < 128) ∧ ∀ m, m < 7 → bt (sst 37 10 n) m = decide (n = m) := by decide +kernel
theorem z_isl : IslR (sst 37) 4 (fun _ => 0) := by
  refine ⟨by decide +kernel, by decide +kernel, by decide +kernel, fun s h0 h1 => z_abs h0 h1, fun n n0 n1 => ⟨(z_10 n.toNat (by omega)).1, fun m m0 m1 => ?_⟩⟩
  rw [z_fit]
  refine ((z_10 n.toNat (by omega)).2 m.toNat (by omega)).trans ?_
  by_cases h : n = m
  · rw [decide_eq_true h, decide_eq_true (by omega)]
  · rw [decide_eq_false h, decide_eq_false (by omega)]
theorem z_cnt : cntQ (fun _ => 0) = 0 := by decide +kernel
theorem z_islx {N : JA} : IslX (sst 37) 4 (fun _ => 0) N 5 := by
  have e9 : sst 37 9 = fun _ => 0 := z_none (by decide +kernel)
  refine ⟨?_, by decide +kernel, Or.inl (by decide +kernel), fun q _ _ => congrFun e9 q.toNat, fun w h0 h1 => z_abs h0 h1⟩
  rw [z_cnt]
  decide +kernel
theorem z_row : RowR (sst 37) 11 (fun _ => 0) := ⟨by decide +kernel, fun s h0 h1 => z_abs h0 h1, fun i h0 h1 => z_abs h0 h1, fun w h0 h1 => z_abs h0 h1, by decide +kernel⟩
theorem z_mem : MemR (sst 37) 18 (fun _ => 0) := by
  have e19 : sst 37 19 = fun _ => 0 := z_none (by decide +kernel)
  have e20 : sst 37 20 = fun _ => 0 := z_none (by decide +kernel)
  exact ⟨by decide +kernel, by decide +kernel, fun w _ _ => ⟨congrFun e19 w.toNat, congrFun e20 w.toNat⟩⟩
theorem inv_start : Inv (sst 37) := by
  have e181 : sst 37 181 = fun _ => 0 := z_none (by decide +kernel)
  have ep : pwA (sst 37) = 5 := by
    unfold pwA
    rw [if_pos (by decide +kernel)]
  unfold Inv
  rw [ep, e181]
  refine ⟨⟨z_wfI, z_wfR, z_wfM⟩, ⟨z_isl, z_islx, z_row, z_mem, Or.inl ⟨rfl, by decide +kernel⟩⟩, ?_, Or.inl (by decide +kernel), ⟨⟨by decide +kernel, Or.inl (by decide +kernel)⟩, ⟨by decide +kernel, Or.inl (by decide +kernel)⟩⟩, ?_, ?_⟩
  · have e2 : sst 37 179 2 = 0 := by decide +kernel
    refine ⟨by decide +kernel, by decide +kernel, fun i h0 h1 => ?_⟩
    rw [e2] at h1
    exact z_abs h0 h1
  · have e2 : sst 37 179 22 = 0 := by decide +kernel
    refine ⟨by decide +kernel, by decide +kernel, by decide +kernel, fun i h0 h1 => ?_⟩
    rw [e2] at h1
    exact z_abs h0 h1
  · have e1 : sst 37 179 28 = 0 := by decide +kernel
    have e2 : sst 37 179 32 = 0 := by decide +kernel
    have e3 : sst 37 179 39 = 0 := by decide +kernel
    refine ⟨by decide +kernel, ⟨by decide +kernel, by decide +kernel, fun i h0 h1 => ?_⟩, ⟨by decide +kernel, by decide +kernel, fun i h0 h1 => ?_⟩, by decide +kernel, Or.inl (by decide +kernel), ⟨by decide +kernel, by decide +kernel, fun i h0 h1 => ?_⟩⟩
    · rw [e1] at h1
      exact z_abs h0 h1
    · rw [e2] at h1
      exact z_abs h0 h1
    · rw [e3] at h1
      exact z_abs h0 h1
theorem all_ops : Ops Inv := ⟨op_feed, op_end, op_island, op_fault, op_stone, op_find, op_widow, op_fits, op_at, op_pips, op_why, op_lay, op_cat, op_tide, op_pawn, op_redeem, op_will, op_undo, op_visits, op_able, op_longest, op_longAt, op_all, op_allAt, op_game, op_first, op_open, op_stretch, op_leads, op_dearest, op_counts, op_greedy, op_memory, op_dealings, op_whose, op_sure, op_days, op_drawn, op_write, op_byteAt, op_gaps, op_sentence, op_said, op_image, op_restore, op_count⟩
/-! the law from its first instruction to its loop -/
theorem growL_of {k r c n Lx b : Nat} {L : List (Nat × JV)} {S : List JV} {xs : Nat → Int32} (h : growB k r c L S 0 n SH = true) : growOK (shp k) (rst r) (sst c) L S n (fun _ : Unit => rL b Lx xs 0) := by
  have g := grow_of (d := 0) (b := 0) (ρ' := RHO) (σ' := sst 0) (show _ = true from h)
  unfold growB at h
  simp only [Bool.and_eq_true, decide_eq_true_eq] at h
  obtain ⟨⟨h1, h7⟩, h8⟩ := h
  refine ⟨g.1, g.2.1, g.2.2.1, g.2.2.2.1, fun _ => ⟨rL_mono, ?_, ?_⟩⟩
  · show (shp k).length + 1 + 1000 - (1000 - 0) ≤ 601024
    have := sh_room.1
    omega
  · show wsum (shp k) + n + 10000 - (10000 - 6 * 0) ≤ 7293034
    have := sh_room.2
    omega
theorem ctorL_of {k k1 Lx b : Nat} {L : List (Nat × JV)} {S : List JV} {xs : Nat → Int32} (h : ctorB k k1 L S 0 SH = true) : ctorOK (shp k) (shp k1) L S (fun _ : Unit => rL b Lx xs 0) := by
  have g := ctor_of (d := 0) (b := 0) (ρ' := RHO) (σ' := sst 0) (show _ = true from h)
  unfold ctorB at h
  simp only [Bool.and_eq_true, decide_eq_true_eq] at h
  obtain ⟨⟨h1, h7⟩, h8⟩ := h
  refine ⟨g.1, g.2.1, g.2.2.1, g.2.2.2.1, fun _ => ⟨rL_mono, ?_, ?_⟩⟩
  · show (shp k1).length + 1000 - (1000 - 0) ≤ 601024
    have := sh_room.1
    omega
  · show wsum (shp k1) + 10000 - (10000 - 6 * 0) ≤ 7293034
    have := sh_room.2
    omega
theorem rL_nx {Lx b : Nat} {xs : Nat → Int32} : ∀ (z : Unit) (s : State) (args : Array Value) (A : Nat → Prop) (w : JW) (meth : Method) (c : Code) (l : Launch), ((fun _ : Unit => rL b Lx xs 0) z).2.2.2.2 s args A w meth c l → NX s := fun _ _ _ _ _ _ _ _ h => h.2.2.2.2.2.2.1
theorem w_27 : Cond.classLink RL 8 RX11 ∈ WS := ws_in (tk_1 (List.mem_of_getElem? (i := 27) rfl)) rfl
theorem w_28 : Cond.instantiable RX11 19 ∈ WS := ws_in (tk_1 (List.mem_of_getElem? (i := 28) rfl)) rfl
theorem w_29 : Cond.methodLink RL 15 yX11_init ∈ WS := ws_in (tk_1 (List.mem_of_getElem? (i := 29) rfl)) rfl
theorem w_30 : Cond.instanceMethod yX11_init ∈ WS := ws_in (tk_1 (List.mem_of_getElem? (i := 30) rfl)) rfl
theorem w_31 : Cond.code yX11_init cX11_init 2 none ∈ WS := ws_in (tk_1 (List.mem_of_getElem? (i := 31) rfl)) rfl
theorem w_1475 : Cond.classLink RL 16 RX12 ∈ WS := ws_in (tk_7 (List.mem_of_getElem? (i := 35) rfl)) rfl
theorem w_1476 : Cond.instantiable RX12 52 ∈ WS := ws_in (tk_7 (List.mem_of_getElem? (i := 36) rfl)) rfl
theorem w_1477 : Cond.methodLink RL 18 yX12_init ∈ WS := ws_in (tk_7 (List.mem_of_getElem? (i := 37) rfl)) rfl
theorem w_1478 : Cond.instanceMethod yX12_init ∈ WS := ws_in (tk_7 (List.mem_of_getElem? (i := 38) rfl)) rfl
theorem w_1479 : Cond.code yX12_init cX12_init 1 none ∈ WS := ws_in (tk_7 (List.mem_of_getElem? (i := 39) rfl)) rfl
theorem l_RL_15 : JLnk RL 15 yX11_init cX11_init 2 none 0 := ⟨w_29, w_31, w_1, by decide +kernel⟩
theorem l_RL_18 : JLnk RL 18 yX12_init cX12_init 1 none 0 := ⟨w_1477, w_1479, w_13, by decide +kernel⟩
theorem df_11 : ∀ j, j < 19 → defaultValue (tyX11 j) = dV 11 j := fun j hj => match j, hj with
  | 0, _ => rfl
  | 1, _ => rfl
  | 2, _ => rfl
  | 3, _ => rfl
  | 4, _ => rfl
  | 5, _ => rfl
  | 6, _ => rfl
  | 7, _ => rfl
  | 8, _ => rfl
  | 9, _ => rfl
  | 10, _ => rfl
  | 11, _ => rfl
  | 12, _ => rfl
  | 13, _ => rfl
  | 14, _ => rfl
  | 15, _ => rfl
  | 16, _ => rfl
  | 17, _ => rfl
  | 18, _ => rfl
  | (i + 19), h => absurd h (by omega)
theorem df_12 : ∀ j, j < 52 → defaultValue (tyX12 j) = dV 12 j := fun j hj => match j, hj with
  | 0, _ => rfl
  | 1, _ => rfl
  | 2, _ => rfl
  | 3, _ => rfl
  | 4, _ => rfl
  | 5, _ => rfl
  | 6, _ => rfl
  | 7, _ => rfl
  | 8, _ => rfl
  | 9, _ => rfl
  | 10, _ => rfl
  | 11, _ => rfl
  | 12, _ => rfl
  | 13, _ => rfl
  | 14, _ => rfl
  | 15, _ => rfl
  | 16, _ => rfl
  | 17, _ => rfl
  | 18, _ => rfl
  | 19, _ => rfl
  | 20, _ => rfl
  | 21, _ => rfl
  | 22, _ => rfl
  | 23, _ => rfl
  | 24, _ => rfl
  | 25, _ => rfl
  | 26, _ => rfl
  | 27, _ => rfl
  | 28, _ => rfl
  | 29, _ => rfl
  | 30, _ => rfl
  | 31, _ => rfl
  | 32, _ => rfl
  | 33, _ => rfl
  | 34, _ => rfl
  | 35, _ => rfl
  | 36, _ => rfl
  | 37, _ => rfl
  | 38, _ => rfl
  | 39, _ => rfl
  | 40, _ => rfl
  | 41, _ => rfl
  | 42, _ => rfl
  | 43, _ => rfl
  | 44, _ => rfl
  | 45, _ => rfl
  | 46, _ => rfl
  | 47, _ => rfl
  | 48, _ => rfl
  | 49, _ => rfl
  | 50, _ => rfl
  | 51, _ => rfl
  | (i + 52), h => absurd h (by omega)
set_option maxRecDepth 20000 in
theorem law_entry {b Lx : Nat} {xs : Nat → Int32} (hx : Lx ≤ 3072) : GSim RL cL_law 7 (some .boolean) 100 (shp 0) (rst 0) 0 [(0, vR 3000000)] [] (sst 0) (fun _ : Unit => rL b Lx xs 0) (some ()) := by
  refine sim_new jc_11 df_11 w_27 w_28 w_1 (growL_of (by decide +kernel)) dL_law_0 ?_
  rw [shp_push sh_0, shp_len sh_0]
  refine sim_dup rfl dL_law_3 ?_
  refine sim_ctor (Sh1 := shp 179) (ρ1 := rst 205) (σ1 := sst 33) l_RL_15 w_30 rfl rL_nx rfl ⟨by decide, by decide⟩ (Nat.le_of_ble_eq_true rfl) dL_law_4 kc_36 (ctorL_of (show ctorB 1 179 [(0, vR 3000000)] [vR 0] 0 SH = true by decide +kernel)) (as := []) (S := [vR 0]) rfl ?_
  refine sim_astore_n [(1, vR 0), (0, vR 3000000)] rfl (by decide) dL_law_7 ?_
  refine sim_new jc_12 df_12 w_1475 w_1476 w_13 (growL_of (by decide +kernel)) dL_law_8 ?_
  rw [shp_push sh_179, shp_len sh_179]
  refine sim_dup rfl dL_law_11 ?_
  refine sim_ctor (Sh1 := shp 203) (ρ1 := rst 228) (σ1 := sst 37) l_RL_18 w_1478 rfl rL_nx rfl ⟨by decide, by decide⟩ (Nat.le_of_ble_eq_true rfl) dL_law_12 kc_37 (ctorL_of (show ctorB 180 203 [(1, vR 0), (0, vR 3000000)] [vR 179] 0 SH = true by decide +kernel)) (as := []) (S := [vR 179]) rfl ?_
  refine sim_astore_n [(2, vR 179), (1, vR 0), (0, vR 3000000)] rfl (by decide) dL_law_15 ?_
  refine sim_iconst dL_law_16 (by decide) ?_
  refine sim_newarr2 (n := 1) rfl (by decide) w_191 (growL_of (by decide +kernel)) dL_law_17 ?_
  rw [shp_end, shp_len sh_203, rst_end]
  refine sim_astore_n [(3, vR 203), (2, vR 179), (1, vR 0), (0, vR 3000000)] rfl (by decide) dL_law_19 ?_
  refine sim_iconst dL_law_20 (by decide) ?_
  refine kn_istore [(4, vI 0), (3, vR 203), (2, vR 179), (1, vR 0), (0, vR 3000000)] rfl (by decide) dL_law_21 ?_
  refine sim_sub [4, 3, 2, 1, 0] (L' := [(0, vR 3000000), (1, vR 0), (2, vR 179), (3, vR 203), (4, vI 0)]) rfl ?_
  exact law_loop all_ops hx 512 0 0 (sst 37) inv_start (Int.le_refl 0) (by omega) (by decide) (by decide)
