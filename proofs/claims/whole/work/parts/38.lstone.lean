theorem w_1404 : Cond.methodLink RL 7 yX11_stone ∈ WS := ws_in (tk_6 (List.mem_of_getElem? (i := 204) rfl)) rfl
theorem w_1407 : Cond.code yX11_stone cX11_stone 3 (some .int) ∈ WS := ws_in (tk_6 (List.mem_of_getElem? (i := 207) rfl)) rfl
theorem l_RL_7 : JLnk RL 7 yX11_stone cX11_stone 3 (some .int) 2 := ⟨w_1404, w_1407, w_1, by decide +kernel⟩
theorem w_1405 : Cond.instanceMethod yX11_stone ∈ WS := ws_in (tk_6 (List.mem_of_getElem? (i := 205) rfl)) rfl
theorem w_1406 : Cond.selects RX11 yX11_stone yX11_stone ∈ WS := ws_in (tk_6 (List.mem_of_getElem? (i := 206) rfl)) rfl
theorem v_RL_7 : JVir RL 7 yX11_stone cX11_stone 3 (some .int) 2 11 := ⟨l_RL_7, w_1405, w_1406, TX11, 19, rfl⟩
theorem w_1403 : Cond.classLink RL 13 NSE ∈ WS := ws_in (tk_6 (List.mem_of_getElem? (i := 203) rfl)) rfl
theorem dL_stone_0 : decode cL_stone 0 = .ok (.aload_n 3, 1) := by decide +kernel
theorem dL_stone_1 : decode cL_stone 1 = .ok (.iconst 0, 1) := by decide +kernel
theorem dL_stone_2 : decode cL_stone 2 = .ok (.aload_n 0, 1) := by decide +kernel
theorem dL_stone_3 : decode cL_stone 3 = .ok (.iload_n 1, 1) := by decide +kernel
theorem dL_stone_4 : decode cL_stone 4 = .ok (.iload_n 2, 1) := by decide +kernel
theorem dL_stone_5 : decode cL_stone 5 = .ok (.invokevirtual 7, 3) := by decide +kernel
theorem dL_stone_8 : decode cL_stone 8 = .ok (.i2l, 1) := by decide +kernel
theorem dL_stone_9 : decode cL_stone 9 = .ok (.lastore, 1) := by decide +kernel
theorem dL_stone_10 : decode cL_stone 10 = .ok (.goto 7, 3) := by decide +kernel
theorem dL_stone_13 : decode cL_stone 13 = .ok (.astore 4, 2) := by decide +kernel
theorem dL_stone_15 : decode cL_stone 15 = .ok (.iconst 1, 1) := by decide +kernel
theorem dL_stone_16 : decode cL_stone 16 = .ok (.ireturn, 1) := by decide +kernel
theorem dL_stone_17 : decode cL_stone 17 = .ok (.iconst 0, 1) := by decide +kernel
theorem dL_stone_18 : decode cL_stone 18 = .ok (.ireturn, 1) := by decide +kernel
def f_L_stone (n : Nat) (a1 a2 : Int) (σ : JSg) : Option (Int × JSg) := (f_W_stone n a1 a2 σ).bind fun z => match z with
  | some x => lt_ (sp σ 203 0 x) fun s => some (0, s)
  | none => some (1, σ)
def L1Call (d : Nat) (a1 a2 : Int) (σ : JSg) (o : Option (Int × JSg)) : Prop :=
  okI a1 → okI a2 → okH SH σ → ∀ z, o = some z → okR SH (some (vI z.1), z.2) ∧ ∀ (l : Launch) (w : JW) (sz : Nat), l.stackTraces = false → Met l yL_stone (.codeWith yL_stone cL_stone 5 (some .int) [(0, 10, 13, 13)] :: WS) (rmX d) (va_Pc (([vR 0, vI a1, vI a2, vR 203] : List JV).map (cv w.1)) (XPre w SH RHO σ sz)) (Q9 w SH RHO (va_A (rd w SH RHO σ) sz) (some (vI z.1), z.2)) 1 6 (va_A (rd w SH RHO σ) sz)
set_option maxRecDepth 20000 in
theorem sim_L_stone (n : Nat) (a1 a2 : Int) (σ : JSg) : GSim RL cL_stone 5 (some .int) 7 SH RHO 0 [(0, vR 0), (1, vI a1), (2, vI a2), (3, vR 203)] [] σ (fun z : Int × JSg => r1 0 7 SH RHO (some (vI z.1), z.2)) (f_L_stone n a1 a2 σ) := by
  unfold f_L_stone
  refine sim_aload_n 3 rfl dL_stone_0 ?_
  refine sim_iconst dL_stone_1 (by decide) ?_
  refine sim_aload_n 0 rfl dL_stone_2 ?_
  refine sim_iload_n 1 rfl dL_stone_3 ?_
  refine sim_iload_n 2 rfl dL_stone_4 ?_
  refine sim_xcall v_RL_7 sh_0 w_1403 dL_stone_5 (k_W_stone n a1 a2 σ) (as := [vI a1, vI a2]) rfl ⟨by decide, by decide⟩ (S := [vI 0, vR 203]) rfl (Nat.le_of_ble_eq_true rfl) (by decide) (by decide) dL_stone_13 (fun x => ?_) ?_
  · show GSim RL cL_stone 5 (some .int) 7 SH RHO 8 [(0, vR 0), (1, vI a1), (2, vI a2), (3, vR 203)] [vI x, vI 0, vR 203] σ (fun z : Int × JSg => r1 1 7 SH RHO (some (vI z.1), z.2)) (lt_ (sp σ 203 0 x) fun s => some (0, s))
    refine sim_i2l dL_stone_8 ?_
    refine sim_lastoreK sh_203 rfl (by decide) dL_stone_9 (fun s => ?_)
    refine sim_goto (tgt := 17) dL_stone_10 (by decide) ?_
    refine sim_iconst dL_stone_17 (by decide) ?_
    exact sim_1ret rfl dL_stone_18
  · show GSim RL cL_stone 5 (some .int) 7 SH RHO 15 [] [] σ (fun z : Int × JSg => r1 1 7 SH RHO (some (vI z.1), z.2)) (some (1, σ))
    refine sim_iconst dL_stone_15 (by decide) ?_
    exact sim_1ret rfl dL_stone_16
theorem k_L_stone (n : Nat) (a1 a2 : Int) (σ : JSg) : L1Call 7 a1 a2 σ (f_L_stone n a1 a2 σ) := by
  intro h1 h2 hH z hz
  obtain ⟨g1, g2⟩ := sim_L_stone n a1 a2 σ (by
    intro q hq
    simp only [List.mem_cons, List.not_mem_nil, or_false] at hq
    rcases hq with rfl | rfl | rfl | rfl
    · trivial
    · exact h1
    · exact h2
    · trivial) (fun v hv => nomatch hv) hH z hz
  refine ⟨g1, fun l w sz hst => ?_⟩
  refine va_MetW (cc := cL_stone) (maxL := 5) (ret := some .int) (hh := [(0, 10, 13, 13)]) (by decide +kernel) rfl ?_
  intro p e s m args below meth c s₁ B hml hv
  obtain ⟨rfl, hsz, hP, hK, hD0, hRO, hN⟩ := hv
  subst hsz
  have hts := atoms_spec (ws := .codeWith yL_stone cL_stone 5 (some .int) [(0, 10, 13, 13)] :: WS) B.pre
  have hown : s.vm.findClass yL_stone.cls = some m.cls := findClass_of_methodNamed B.named
  have htab : c.exceptionTable.toList = tabL := (vx_table (x := yL_stone) B (hts _ List.mem_cons_self)).trans rfl
  rw [lg_entry_eq]
  have hl := lv_entry (([vR 0, vI a1, vI a2, vR 203] : List JV).map (cv w.1)) (n := 5) (by rw [jwid_sl]; exact Nat.le_of_ble_eq_true rfl)
  rw [jargs_map] at hl
  have h9 := g2 p l e s m _ below meth c w (va_A (rd w SH RHO σ) s.heap.size) s.heap [] _ ⟨Nat.le_refl _, Nat.le_refl _, by simp [r1, rmX], by simp [r1, rmX], Nat.sub_le _ _, Nat.sub_le _ _⟩ ⟨hN, hst, htab⟩ ⟨B.exec, B.bytes, hml, hown, fun x hx => hts x (List.mem_cons_of_mem _ hx), B.returns, B.notSynchronized⟩ ⟨hK, hP, hD0.self, va_S.rf, fun q hq => Or.inr hq, hRO⟩ hl
  have e0 : SH.length + 1000 - (SH.length + 1000 - 0) = 0 := by rw [Nat.sub_zero, Nat.sub_self]
  have e0' : wsum SH + 10000 - (wsum SH + 10000 - 6 * 0) = 0 := by rw [Nat.mul_zero, Nat.sub_zero, Nat.sub_self]
  simp only [r1, e0, e0'] at h9
  exact h9
