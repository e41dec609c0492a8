/-! LAYER 1s: the law's case 4 (stone), its loop, its entry -/
section
variable {own : String} {cc : ByteArray} {nL : Nat} {ret : Option FieldType} {d : Nat} {Sh : JSh} {ρ : JRo} {pc : Nat} {L : List (Nat × JV)} {S : List JV} {σ : JSg} {Z : Type} {dec : Z → JD} {o : Option Z}
theorem kn_istore {i : Nat} {x : Int} (L' : List (Nat × JV)) (hL' : jst1 L i (vI x) = L') (hn : i < nL) (hd : decode cc pc = .ok (.istore i, 2)) (k : GSim own cc nL ret d Sh ρ (pc + 2) L' S σ dec o) : GSim own cc nL ret d Sh ρ pc L (vI x :: S) σ dec o :=
  cs_at x (fun _ => Classical.propDecidable _) (sim_istore (fun y => jst1 L i (vI y)) (fun _ => rfl) hn hd fun y => cs_eq _ fun e => by rw [e, hL']; exact k)
theorem kn_iinc {i : Nat} {n x z : Int} (hz : w32 (x + n) = z) (j : Nat) (hj : L[j]? = some (i, vI x)) (L' : List (Nat × JV)) (hL' : jst1 L i (vI z) = L') (hn : i < nL) (hd : decode cc pc = .ok (.iinc i n, 3)) (k : GSim own cc nL ret d Sh ρ (pc + 3) L' S σ dec o) : GSim own cc nL ret d Sh ρ pc L S σ dec o :=
  cs_at (w32 (x + n)) (fun _ => Classical.propDecidable _) (sim_iinc j hj (fun y => jst1 L i (vI y)) (fun _ => rfl) hn hd fun y => cs_eq _ fun e => by rw [e, hz, hL']; exact k)
theorem kn_if_ne_t {tgt : Nat} {off x : Int} (h : x ≠ 0) (hd : decode cc pc = .ok (.ifCond .ne off, 3)) (ht : (pc : Int) + off = (tgt : Int)) (k : GSim own cc nL ret d Sh ρ tgt L S σ dec o) : GSim own cc nL ret d Sh ρ pc L (vI x :: S) σ dec o := by
  have h9 := sim_if_ne (x := x) (of := none) hd ht k sim_none
  rwa [if_neg h] at h9
theorem kn_if_ne_f {tgt : Nat} {off x : Int} (h : x = 0) (hd : decode cc pc = .ok (.ifCond .ne off, 3)) (ht : (pc : Int) + off = (tgt : Int)) (k : GSim own cc nL ret d Sh ρ (pc + 3) L S σ dec o) : GSim own cc nL ret d Sh ρ pc L (vI x :: S) σ dec o := by
  have h9 := sim_if_ne (x := x) (ot := none) hd ht sim_none k
  rwa [if_pos h] at h9
theorem kn_gt_t {tgt : Nat} {off x y : Int} (h : y < x) (hd : decode cc pc = .ok (.if_icmp .gt off, 3)) (ht : (pc : Int) + off = (tgt : Int)) (k : GSim own cc nL ret d Sh ρ tgt L S σ dec o) : GSim own cc nL ret d Sh ρ pc L (vI y :: vI x :: S) σ dec o := by
  have h9 := sim_icmp_gt (x := x) (y := y) (of := none) hd ht k sim_none
  rwa [if_pos h] at h9
theorem kn_gt_f {tgt : Nat} {off x y : Int} (h : ¬ y < x) (hd : decode cc pc = .ok (.if_icmp .gt off, 3)) (ht : (pc : Int) + off = (tgt : Int)) (k : GSim own cc nL ret d Sh ρ (pc + 3) L S σ dec o) : GSim own cc nL ret d Sh ρ pc L (vI y :: vI x :: S) σ dec o := by
  have h9 := sim_icmp_gt (x := x) (y := y) (ot := none) hd ht sim_none k
  rwa [if_neg h] at h9
end
theorem kn_lstone {cc : ByteArray} {nL : Nat} {ret : Option FieldType} {d pc : Nat} {L : List (Nat × JV)} {S st : List JV} {σ σ0 : JSg} {b Lx g : Nat} {xs : Nat → Int32} {o : Option Unit} {a1 a2 x0 : Int} {o' : Option (Int × JSg)} (hf : o' = some (x0, σ0)) (hw1 : Cond.methodLink RL 38 yL_stone ∈ WS) (hw2 : Cond.static yL_stone ∈ WS) (hw3 : Cond.codeWith yL_stone cL_stone 5 (some .int) [(0, 10, 13, 13)] ∈ WS) (hw4 : Cond.initialized RL ∈ WS)
    (hg : SH.length + (g + 1) ≤ 601024 ∧ wsum SH + 6 * (g + 1) ≤ 7293034 ∧ g + 1 ≤ 1000) (hdd : 8 ≤ d) (hK : L1Call 7 a1 a2 σ o') (hst : st = [vR 203, vI a2, vI a1, vR 0] ++ S) (hS8 : jwid S ≤ 8) (hd : decode cc pc = .ok (.invokestatic 38, 3))
    (k : GSim RL cc nL ret d SH RHO (pc + 3) L (vI x0 :: S) σ0 (fun _ : Unit => rL b Lx xs (g + 1)) o) : GSim RL cc nL ret d SH RHO pc L st σ (fun _ : Unit => rL b Lx xs g) o := by
  have h := sim_lstone (gg := fun z => @ite _ (z = (x0, σ0)) (Classical.propDecidable _) o none) hw1 hw2 hw3 hw4 hg hdd hK hst hS8 hd (fun z => cs_eq _ fun e => by rw [e]; exact k)
  rw [hf, Option.bind_some, if_pos rfl] at h
  exact h
def tkS : Option Int → Int
  | none => 1
  | some _ => 0
def sgS (σ : JSg) : Option Int → JSg
  | none => σ
  | some x => sp σ 203 0 x
def Op_stone (Inv : JSg → Prop) : Prop := ∀ (σ : JSg), Inv σ → ∀ (a1 a2 : Int), okI a1 → okI a2 → ∃ (z : Option Int) (r : Int) (σ2 : JSg), f_W_stone NN a1 a2 σ = some z ∧ f_M_stone NN a1 a2 (sgS σ z) = some (r, σ2) ∧ f_M_thrown σ2 = some (tkS z) ∧ (∀ x, z = some x → σ2 203 0 = r) ∧ Inv σ2
theorem l_stone_val {n : Nat} {a1 a2 : Int} {σ : JSg} {z : Option Int} (h : f_W_stone n a1 a2 σ = some z) : f_L_stone n a1 a2 σ = some (tkS z, sgS σ z) := by
  unfold f_L_stone
  rw [h]
  cases z <;> rfl
theorem w_1400 : Cond.methodLink RL 38 yL_stone ∈ WS := ws_in (tk_6 (List.mem_of_getElem? (i := 200) rfl)) rfl
theorem w_1401 : Cond.static yL_stone ∈ WS := ws_in (tk_6 (List.mem_of_getElem? (i := 201) rfl)) rfl
theorem w_1402 : Cond.codeWith yL_stone cL_stone 5 (some .int) [(0, 10, 13, 13)] ∈ WS := ws_in (tk_6 (List.mem_of_getElem? (i := 202) rfl)) rfl
theorem w_0 : Cond.initialized RL ∈ WS := ws_in (tk_1 (List.mem_of_getElem? (i := 0) rfl)) rfl
theorem w_1766 : Cond.methodLink RL 43 yX12_stone ∈ WS := ws_in (tk_8 (List.mem_of_getElem? (i := 86) rfl)) rfl
theorem w_1769 : Cond.code yX12_stone cX12_stone 3 (some .int) ∈ WS := ws_in (tk_8 (List.mem_of_getElem? (i := 89) rfl)) rfl
theorem l_RL_43 : JLnk RL 43 yX12_stone cX12_stone 3 (some .int) 2 := ⟨w_1766, w_1769, w_13, by decide +kernel⟩
theorem w_1767 : Cond.instanceMethod yX12_stone ∈ WS := ws_in (tk_8 (List.mem_of_getElem? (i := 87) rfl)) rfl
theorem w_1768 : Cond.selects RX12 yX12_stone yX12_stone ∈ WS := ws_in (tk_8 (List.mem_of_getElem? (i := 88) rfl)) rfl
theorem v_RL_43 : JVir RL 43 yX12_stone cX12_stone 3 (some .int) 2 12 := ⟨l_RL_43, w_1767, w_1768, TX12, 52, rfl⟩
theorem w_1641 : Cond.methodLink RL 44 yX12_thrown ∈ WS := ws_in (tk_7 (List.mem_of_getElem? (i := 201) rfl)) rfl
theorem w_1644 : Cond.code yX12_thrown cX12_thrown 1 (some .int) ∈ WS := ws_in (tk_7 (List.mem_of_getElem? (i := 204) rfl)) rfl
theorem l_RL_44 : JLnk RL 44 yX12_thrown cX12_thrown 1 (some .int) 0 := ⟨w_1641, w_1644, w_13, by decide +kernel⟩
theorem w_1642 : Cond.instanceMethod yX12_thrown ∈ WS := ws_in (tk_7 (List.mem_of_getElem? (i := 202) rfl)) rfl
theorem w_1643 : Cond.selects RX12 yX12_thrown yX12_thrown ∈ WS := ws_in (tk_7 (List.mem_of_getElem? (i := 203) rfl)) rfl
theorem v_RL_44 : JVir RL 44 yX12_thrown cX12_thrown 1 (some .int) 0 12 := ⟨l_RL_44, w_1642, w_1643, TX12, 52, rfl⟩
set_option maxRecDepth 20000 in
set_option maxHeartbeats 2000000 in
theorem law_c_4 {Inv : JSg → Prop} {b Lx g : Nat} {xs : Nat → Int32} (hx : Lx ≤ 3072) {i : Int} (h0 : 0 ≤ i) (h1 : i + 5 < (Lx : Int)) {σ : JSg} (hI : Inv σ) (hg : SH.length + (g + 1) ≤ 601024 ∧ wsum SH + 6 * (g + 1) ≤ 7293034 ∧ g + 1 ≤ 1000) (hop : Op_stone Inv) (kend : ∀ s : JSg, Inv s → GSim RL cL_law 7 (some .boolean) 100 SH RHO 1471 [(0, vR 3000000), (1, vR 0), (2, vR 179), (3, vR 203), (4, vI i)] [] s (fun _ : Unit => rL b Lx xs (g + 1)) (some ())) : GSim RL cL_law 7 (some .boolean) 100 SH RHO 364 [(0, vR 3000000), (1, vR 0), (2, vR 179), (3, vR 203), (4, vI i)] [] σ (fun _ : Unit => rL b Lx xs g) (some ()) := by
  obtain ⟨z, r, σ2, hW, hM, hT, hz, hI2⟩ := hop σ hI ((xs (w32 (i + 1)).toNat).toInt) ((xs (w32 (i + 2)).toNat).toInt) (ok32 _) (ok32 _)
  refine sim_aload_n 1 rfl dL_law_364 ?_
  refine sim_aload_n 0 rfl dL_law_365 ?_
  refine sim_iload 4 rfl dL_law_366 ?_
  refine sim_iconst dL_law_368 (by decide) ?_
  refine sim_iadd dL_law_369 ?_
  refine sim_sld dL_law_370 ?_ (hidx h0 h1 hx (by decide))
  refine sim_aload_n 0 rfl dL_law_371 ?_
  refine sim_iload 4 rfl dL_law_372 ?_
  refine sim_iconst dL_law_374 (by decide) ?_
  refine sim_iadd dL_law_375 ?_
  refine sim_sld dL_law_376 ?_ (hidx h0 h1 hx (by decide))
  refine sim_aload_n 3 rfl dL_law_377 ?_
  refine kn_lstone (l_stone_val hW) w_1400 w_1401 w_1402 w_0 hg (by decide) (k_L_stone NN ((xs (w32 (i + 1)).toNat).toInt) ((xs (w32 (i + 2)).toNat).toInt) σ) (S := []) rfl (Nat.le_of_ble_eq_true rfl) dL_law_378 ?_
  refine kn_istore [(5, vI (tkS z)), (0, vR 3000000), (1, vR 0), (2, vR 179), (3, vR 203), (4, vI i)] rfl (by decide) dL_law_381 ?_
  refine sim_aload_n 3 rfl dL_law_383 ?_
  refine sim_aload_n 1 rfl dL_law_384 ?_
  refine sim_iload 5 rfl dL_law_385 ?_
  refine sim_iconst dL_law_387 (by decide) ?_
  refine sim_iadd dL_law_388 ?_
  refine sim_sld dL_law_389 ?_ (hidx h0 h1 hx (by decide))
  refine sim_aload_n 1 rfl dL_law_390 ?_
  refine sim_iload 5 rfl dL_law_391 ?_
  refine sim_iconst dL_law_393 (by decide) ?_
  refine sim_iadd dL_law_394 ?_
  refine sim_sld dL_law_395 ?_ (hidx h0 h1 hx (by decide))
  refine kn_VIm hM v_RL_43 sh_179 dL_law_396 (k_M_stone NN ((xs (w32 (i + 1)).toNat).toInt) ((xs (w32 (i + 2)).toNat).toInt) (sgS σ z)) rfl ⟨by decide, by decide⟩ (as := [vI ((xs (w32 (i + 1)).toNat).toInt), vI ((xs (w32 (i + 2)).toNat).toInt)]) (S := []) rfl (Nat.le_of_ble_eq_true rfl) ?_
  refine kn_istore [(6, vI r), (5, vI (tkS z)), (0, vR 3000000), (1, vR 0), (2, vR 179), (3, vR 203), (4, vI i)] rfl (by decide) dL_law_399 ?_
  refine sim_aload_n 4 rfl dL_law_401 ?_
  refine kn_VIp hT v_RL_44 sh_179 dL_law_402 (k_M_thrown σ2) rfl ⟨by decide, by decide⟩ (as := []) (S := []) rfl (Nat.le_of_ble_eq_true rfl) ?_
  refine sim_iload 1 rfl dL_law_405 ?_
  refine kn_icmp_eq (tgt := 412) rfl dL_law_407 (by decide) ?_
  refine sim_iload 1 rfl dL_law_412 ?_
  have hend : GSim RL cL_law 7 (some .boolean) 100 SH RHO 429 [(6, vI r), (5, vI (tkS z)), (0, vR 3000000), (1, vR 0), (2, vR 179), (3, vR 203), (4, vI i)] [] σ2 (fun _ : Unit => rL b Lx xs (g + 1)) (some ()) := by
    refine sim_goto (tgt := 1471) dL_law_429 (by decide) ?_
    refine sim_sub [2, 3, 4, 5, 6] (L' := [(0, vR 3000000), (1, vR 0), (2, vR 179), (3, vR 203), (4, vI i)]) rfl ?_
    exact kend σ2 hI2
  cases z with
  | none => exact kn_if_ne_t (tgt := 429) (show (1 : Int) ≠ 0 by decide) dL_law_414 (by decide) hend
  | some x =>
    refine kn_if_ne_f (tgt := 429) rfl dL_law_414 (by decide) ?_
    refine sim_aload_n 5 rfl dL_law_417 ?_
    refine sim_iconst dL_law_418 (by decide) ?_
    refine sim_laloadK (j := 0) sh_203 rfl (by decide) dL_law_419 ?_
    refine sim_iload 0 rfl dL_law_420 ?_
    refine sim_i2l dL_law_422 ?_
    refine sim_lcmp dL_law_423 ?_
    refine kn_if_eq (tgt := 429) (by rw [hz x rfl]; exact cmpL_self r) dL_law_424 (by decide) ?_
    exact hend
def Ops (Inv : JSg → Prop) : Prop := Op_feed Inv ∧ Op_end Inv ∧ Op_island Inv ∧ Op_fault Inv ∧ Op_stone Inv ∧ Op_find Inv ∧ Op_widow Inv ∧ Op_fits Inv ∧ Op_at Inv ∧ Op_pips Inv ∧ Op_why Inv ∧ Op_lay Inv ∧ Op_cat Inv ∧ Op_tide Inv ∧ Op_pawn Inv ∧ Op_redeem Inv ∧ Op_will Inv ∧ Op_undo Inv ∧ Op_visits Inv ∧ Op_able Inv ∧ Op_longest Inv ∧ Op_longAt Inv ∧ Op_all Inv ∧ Op_allAt Inv ∧ Op_game Inv ∧ Op_first Inv ∧ Op_open Inv ∧ Op_stretch Inv ∧ Op_leads Inv ∧ Op_dearest Inv ∧ Op_counts Inv ∧ Op_greedy Inv ∧ Op_memory Inv ∧ Op_dealings Inv ∧ Op_whose Inv ∧ Op_sure Inv ∧ Op_days Inv ∧ Op_drawn Inv ∧ Op_write Inv ∧ Op_byteAt Inv ∧ Op_gaps Inv ∧ Op_sentence Inv ∧ Op_said Inv ∧ Op_image Inv ∧ Op_restore Inv ∧ Op_count Inv
theorem sh_room : SH.length = 204 ∧ wsum SH ≤ 1000000 := by decide +kernel
set_option maxRecDepth 20000 in
set_option maxHeartbeats 4000000 in
theorem law_loop {Inv : JSg → Prop} (ops : Ops Inv) {b Lx : Nat} {xs : Nat → Int32} (hx : Lx ≤ 3072) : ∀ (n g : Nat) (i : Int) (σ : JSg), Inv σ → 0 ≤ i → (Lx : Int) < i + 6 * ((n : Int) + 1) → i ≤ 3072 → g + n ≤ 512 → GSim RL cL_law 7 (some .boolean) 100 SH RHO 23 [(0, vR 3000000), (1, vR 0), (2, vR 179), (3, vR 203), (4, vI i)] [] σ (fun _ : Unit => rL b Lx xs g) (some ()) := by
  intro n
  induction n with
  | zero =>
    intro g i σ hI h0 hn hi hgn
    refine sim_iload 4 rfl dL_law_23 ?_
    refine sim_aload_n 0 rfl dL_law_25 ?_
    refine sim_slen hx dL_law_26 ?_
    refine sim_bipush dL_law_27 (by decide +kernel) ?_
    refine sim_isub dL_law_29 ?_
    refine kn_gt_t (tgt := 1477) (by rw [w32_id ⟨by omega, by omega⟩]; omega) dL_law_30 (by decide) ?_
    refine sim_iconst dL_law_1477 (by decide) ?_
    exact sim_lend rfl rfl ⟨by rw [sh_room.1]; omega, by have := sh_room.2; omega, by omega⟩ dL_law_1478
  | succ n ih =>
    intro g i σ hI h0 hn hi hgn
    refine sim_iload 4 rfl dL_law_23 ?_
    refine sim_aload_n 0 rfl dL_law_25 ?_
    refine sim_slen hx dL_law_26 ?_
    refine sim_bipush dL_law_27 (by decide +kernel) ?_
    refine sim_isub dL_law_29 ?_
    by_cases hc : (Lx : Int) < i + 6
    · refine kn_gt_t (tgt := 1477) (by rw [w32_id ⟨by omega, by omega⟩]; omega) dL_law_30 (by decide) ?_
      refine sim_iconst dL_law_1477 (by decide) ?_
      exact sim_lend rfl rfl ⟨by rw [sh_room.1]; omega, by have := sh_room.2; omega, by omega⟩ dL_law_1478
    · refine kn_gt_f (tgt := 1477) (by rw [w32_id ⟨by omega, by omega⟩]; omega) dL_law_30 (by decide) ?_
      have h1 : i + 5 < (Lx : Int) := by omega
      have kend : ∀ g' : Nat, g' ≤ g + 1 → ∀ s : JSg, Inv s → GSim RL cL_law 7 (some .boolean) 100 SH RHO 1471 [(0, vR 3000000), (1, vR 0), (2, vR 179), (3, vR 203), (4, vI i)] [] s (fun _ : Unit => rL b Lx xs g') (some ()) := by
        intro g' hg' s hs
        refine kn_iinc (z := i + 6) (w32_id ⟨by omega, by omega⟩) 4 rfl [(4, vI (i + 6)), (0, vR 3000000), (1, vR 0), (2, vR 179), (3, vR 203)] rfl (by decide) dL_law_1471 ?_
        refine sim_goto (tgt := 23) dL_law_1474 (by decide) ?_
        refine sim_sub [1, 2, 3, 4, 0] (L' := [(0, vR 3000000), (1, vR 0), (2, vR 179), (3, vR 203), (4, vI (i + 6))]) rfl ?_
        exact ih g' (i + 6) s hs (by omega) (by omega) (by omega) (by omega)
      have kd : GSim RL cL_law 7 (some .boolean) 100 SH RHO 1471 [(0, vR 3000000), (1, vR 0), (2, vR 179), (3, vR 203), (4, vI i)] [] σ (fun _ : Unit => rL b Lx xs g) (some ()) := kend g (by omega) σ hI
      refine sim_aload_n 0 rfl dL_law_33 ?_
      refine sim_iload 4 rfl dL_law_34 ?_
      refine sim_sld dL_law_36 ?_ ⟨h0, by omega⟩
      refine sim_bipush dL_law_37 (by decide +kernel) ?_
      refine sim_iand dL_law_39 ?_
      rw [← sw_const (x := an32 (xs i.toNat).toInt 63) (lo := 0) (n := 46) (o := some ())]
      refine sim_tsw2 (td := 1471) [240, 313, 338, 351, 364, 432, 469, 506, 543, 568, 593, 642, 691, 716, 729, 754, 779, 816, 829, 854, 879, 892, 917, 930, 955, 992, 1005, 1030, 1043, 1080, 1093, 1130, 1143, 1156, 1170, 1208, 1233, 1270, 1295, 1308, 1333, 1358, 1371, 1396, 1421, 1446] dL_law_40 (by decide) (by decide) (tsw_of (by decide +kernel)) ⟨law_c_0 hx h0 h1 hI ops.1 (kend g (by omega)), law_c_1 hx h0 h1 hI ops.2.1 (kend g (by omega)), law_c_2 hx h0 h1 hI ops.2.2.1 (kend g (by omega)), law_c_3 hx h0 h1 hI ops.2.2.2.1 (kend g (by omega)), law_c_4 hx h0 h1 hI ⟨by rw [sh_room.1]; omega, by have := sh_room.2; omega, by omega⟩ ops.2.2.2.2.1 (kend (g + 1) (by omega)), law_c_5 hx h0 h1 hI ops.2.2.2.2.2.1 (kend g (by omega)), law_c_6 hx h0 h1 hI ops.2.2.2.2.2.2.1 (kend g (by omega)), law_c_7 hx h0 h1 hI ops.2.2.2.2.2.2.2.1 (kend g (by omega)), law_c_8 hx h0 h1 hI ops.2.2.2.2.2.2.2.2.1 (kend g (by omega)), law_c_9 hx h0 h1 hI ops.2.2.2.2.2.2.2.2.2.1 (kend g (by omega)), law_c_10 hx h0 h1 hI ops.2.2.2.2.2.2.2.2.2.2.1 (kend g (by omega)), law_c_11 hx h0 h1 hI ops.2.2.2.2.2.2.2.2.2.2.2.1 (kend g (by omega)), law_c_12 hx h0 h1 hI ops.2.2.2.2.2.2.2.2.2.2.2.2.1 (kend g (by omega)), law_c_13 hx h0 h1 hI ops.2.2.2.2.2.2.2.2.2.2.2.2.2.1 (kend g (by omega)), law_c_14 hx h0 h1 hI ops.2.2.2.2.2.2.2.2.2.2.2.2.2.2.1 (kend g (by omega)), law_c_15 hx h0 h1 hI ops.2.2.2.2.2.2.2.2.2.2.2.2.2.2.2.1 (kend g (by omega)), law_c_16 hx h0 h1 hI ops.2.2.2.2.2.2.2.2.2.2.2.2.2.2.2.2.1 (kend g (by omega)), law_c_17 hx h0 h1 hI ops.2.2.2.2.2.2.2.2.2.2.2.2.2.2.2.2.2.1 (kend g (by omega)), law_c_18 hx h0 h1 hI ops.2.2.2.2.2.2.2.2.2.2.2.2.2.2.2.2.2.2.1 (kend g (by omega)), law_c_19 hx h0 h1 hI ops.2.2.2.2.2.2.2.2.2.2.2.2.2.2.2.2.2.2.2.1 (kend g (by omega)), law_c_20 hx h0 h1 hI ops.2.2.2.2.2.2.2.2.2.2.2.2.2.2.2.2.2.2.2.2.1 (kend g (by omega)), law_c_21 hx h0 h1 hI ops.2.2.2.2.2.2.2.2.2.2.2.2.2.2.2.2.2.2.2.2.2.1 (kend g (by omega)), law_c_22 hx h0 h1 hI ops.2.2.2.2.2.2.2.2.2.2.2.2.2.2.2.2.2.2.2.2.2.2.1 (kend g (by omega)), law_c_23 hx h0 h1 hI ops.2.2.2.2.2.2.2.2.2.2.2.2.2.2.2.2.2.2.2.2.2.2.2.1 (kend g (by omega)), law_c_24 hx h0 h1 hI ops.2.2.2.2.2.2.2.2.2.2.2.2.2.2.2.2.2.2.2.2.2.2.2.2.1 (kend g (by omega)), law_c_25 hx h0 h1 hI ops.2.2.2.2.2.2.2.2.2.2.2.2.2.2.2.2.2.2.2.2.2.2.2.2.2.1 (kend g (by omega)), law_c_26 hx h0 h1 hI ops.2.2.2.2.2.2.2.2.2.2.2.2.2.2.2.2.2.2.2.2.2.2.2.2.2.2.1 (kend g (by omega)), law_c_27 hx h0 h1 hI ops.2.2.2.2.2.2.2.2.2.2.2.2.2.2.2.2.2.2.2.2.2.2.2.2.2.2.2.1 (kend g (by omega)), law_c_28 hx h0 h1 hI ops.2.2.2.2.2.2.2.2.2.2.2.2.2.2.2.2.2.2.2.2.2.2.2.2.2.2.2.2.1 (kend g (by omega)), law_c_29 hx h0 h1 hI ops.2.2.2.2.2.2.2.2.2.2.2.2.2.2.2.2.2.2.2.2.2.2.2.2.2.2.2.2.2.1 (kend g (by omega)), law_c_30 hx h0 h1 hI ops.2.2.2.2.2.2.2.2.2.2.2.2.2.2.2.2.2.2.2.2.2.2.2.2.2.2.2.2.2.2.1 (kend g (by omega)), law_c_31 hx h0 h1 hI ops.2.2.2.2.2.2.2.2.2.2.2.2.2.2.2.2.2.2.2.2.2.2.2.2.2.2.2.2.2.2.2.1 (kend g (by omega)), law_c_32 hx h0 h1 hI ops.2.2.2.2.2.2.2.2.2.2.2.2.2.2.2.2.2.2.2.2.2.2.2.2.2.2.2.2.2.2.2.2.1 (kend g (by omega)), law_c_33 hx h0 h1 hI ops.2.2.2.2.2.2.2.2.2.2.2.2.2.2.2.2.2.2.2.2.2.2.2.2.2.2.2.2.2.2.2.2.2.1 (kend g (by omega)), law_c_34 hx h0 h1 hI ops.2.2.2.2.2.2.2.2.2.2.2.2.2.2.2.2.2.2.2.2.2.2.2.2.2.2.2.2.2.2.2.2.2.2.1 (kend g (by omega)), law_c_35 hx h0 h1 hI ops.2.2.2.2.2.2.2.2.2.2.2.2.2.2.2.2.2.2.2.2.2.2.2.2.2.2.2.2.2.2.2.2.2.2.2.1 (kend g (by omega)), law_c_36 hx h0 h1 hI ops.2.2.2.2.2.2.2.2.2.2.2.2.2.2.2.2.2.2.2.2.2.2.2.2.2.2.2.2.2.2.2.2.2.2.2.2.1 (kend g (by omega)), law_c_37 hx h0 h1 hI ops.2.2.2.2.2.2.2.2.2.2.2.2.2.2.2.2.2.2.2.2.2.2.2.2.2.2.2.2.2.2.2.2.2.2.2.2.2.1 (kend g (by omega)), law_c_38 hx h0 h1 hI ops.2.2.2.2.2.2.2.2.2.2.2.2.2.2.2.2.2.2.2.2.2.2.2.2.2.2.2.2.2.2.2.2.2.2.2.2.2.2.1 (kend g (by omega)), law_c_39 hx h0 h1 hI ops.2.2.2.2.2.2.2.2.2.2.2.2.2.2.2.2.2.2.2.2.2.2.2.2.2.2.2.2.2.2.2.2.2.2.2.2.2.2.2.1 (kend g (by omega)), law_c_40 hx h0 h1 hI ops.2.2.2.2.2.2.2.2.2.2.2.2.2.2.2.2.2.2.2.2.2.2.2.2.2.2.2.2.2.2.2.2.2.2.2.2.2.2.2.2.1 (kend g (by omega)), law_c_41 hx h0 h1 hI ops.2.2.2.2.2.2.2.2.2.2.2.2.2.2.2.2.2.2.2.2.2.2.2.2.2.2.2.2.2.2.2.2.2.2.2.2.2.2.2.2.2.1 (kend g (by omega)), law_c_42 hx h0 h1 hI ops.2.2.2.2.2.2.2.2.2.2.2.2.2.2.2.2.2.2.2.2.2.2.2.2.2.2.2.2.2.2.2.2.2.2.2.2.2.2.2.2.2.2.1 (kend g (by omega)), law_c_43 hx h0 h1 hI ops.2.2.2.2.2.2.2.2.2.2.2.2.2.2.2.2.2.2.2.2.2.2.2.2.2.2.2.2.2.2.2.2.2.2.2.2.2.2.2.2.2.2.2.1 (kend g (by omega)), law_c_44 hx h0 h1 hI ops.2.2.2.2.2.2.2.2.2.2.2.2.2.2.2.2.2.2.2.2.2.2.2.2.2.2.2.2.2.2.2.2.2.2.2.2.2.2.2.2.2.2.2.2.1 (kend g (by omega)), law_c_45 hx h0 h1 hI ops.2.2.2.2.2.2.2.2.2.2.2.2.2.2.2.2.2.2.2.2.2.2.2.2.2.2.2.2.2.2.2.2.2.2.2.2.2.2.2.2.2.2.2.2.2 (kend g (by omega)), trivial⟩ kd
