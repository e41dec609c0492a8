/-! LAYER 3u: days of the reference, and both -/
section
variable {σ u : JSg} {n : Nat} {A : JA} {x : Int}
/-- the reference in a day -/
def DM (σ : JSg) (A : JA) (x : Int) (u : JSg) : Prop := u 181 = A ∧ u 179 45 = x ∧ ∀ a j, ¬ (a = 181 ∨ (a = 179 ∧ j = 45)) → u a j = σ a j
theorem DM_sp {y : Int} (h : DM σ A x u) : DM σ A y (sp u 179 45 y) := by
  obtain ⟨h1, h2, h3⟩ := h
  refine ⟨by rw [sp_nq (by decide)]; exact h1, sp_eq, fun a j hj => ?_⟩
  rw [sp_at]
  by_cases c : a = 179
  · rw [if_pos c, if_neg (by omega)]; exact h3 a j hj
  · rw [if_neg c]; exact h3 a j hj
theorem DM_row {B : JA} {v : JSg} (h : DM σ A x u) (h1 : ∀ a j, a ≠ 181 → v a j = u a j) (h2 : v 181 = B) : DM σ B x v := ⟨h2, (h1 179 45 (by decide)).trans h.2.1, fun a j hj => (h1 a j (by omega)).trans (h.2.2 a j hj)⟩
theorem dv_rng (hI : WfI A) (hW : WfR A) : 0 ≤ dvH A x ∧ dvH A x ≤ 28 := by
  have b1 := hI.2.1
  have bd := cnt_bd (P := ownB A (dvW A x) 0) (N := A 1) _ 0 0 rfl
  unfold dvH
  omega
/-- a run of n days as a fold -/
def dyF (i : Int) (s : JA × Int × Int × Int × Int × Int) : JA × Int × Int × Int × Int × Int :=
  let A1 := dvA s.1 s.2.1
  let x1 := dvX s.1 s.2.1
  let A2 := dcA A1 x1
  let x2 := dcX x1
  (dtA A2 x2, dX x2, if dvL s.1 s.2.1 = true then s.2.2.1 + 1 else s.2.2.1, if dR x1 8 = 0 ∧ 0 < A1 151 then s.2.2.2.1 + 1 else s.2.2.2.1, if dR x2 4 = 0 ∧ 0 < A2 151 then s.2.2.2.2.1 + 1 else s.2.2.2.2.1, if dvH s.1 s.2.1 ≠ 0 ∧ dvL s.1 s.2.1 = false then s.2.2.2.2.2 + 1 else s.2.2.2.2.2)
theorem e_W_live {m seed : Int} (hn : 1000000 < n) (hI : WfI A) (hW : WfR A) (h0 : 0 < A 0) (hm : 1 ≤ m ∧ m ≤ 200) (hL : IslR σ 4 A) (hR : RowR σ 11 A) : Ret (f_Day_live n m seed σ) (fun z => ∃ B x l c t r, fo dyF m 0 (A, seed, 0, 0, 0, 0) = (B, x, l, c, t, r) ∧ dyK A B ∧ z.1 = l ∧ Agr dyC σ z.2 ∧ RowR z.2 11 B ∧ z.2 121 2 = 1 ∧ z.2 121 4 = c ∧ z.2 121 5 = t ∧ z.2 121 6 = r) := by
  unfold f_Day_live
  simp only [lt_u]
  generalize hs : sp (sp (sp (sp (sp (sp σ 121 1 seed) 121 2 1) 121 3 0) 121 4 0) 121 5 0) 121 6 0 = s
  have sg : ∀ a j, a ≠ 121 → s a j = σ a j := fun a j h => by rw [← hs, sp_nq h, sp_nq h, sp_nq h, sp_nq h, sp_nq h, sp_nq h]
  have s1 : s 121 1 = seed := by rw [← hs, sp_nj (by decide), sp_nj (by decide), sp_nj (by decide), sp_nj (by decide), sp_nj (by decide), sp_eq]
  have s2 : s 121 2 = 1 := by rw [← hs, sp_nj (by decide), sp_nj (by decide), sp_nj (by decide), sp_nj (by decide), sp_eq]
  have s3 : s 121 3 = 0 := by rw [← hs, sp_nj (by decide), sp_nj (by decide), sp_nj (by decide), sp_eq]
  have s4 : s 121 4 = 0 := by rw [← hs, sp_nj (by decide), sp_nj (by decide), sp_eq]
  have s5 : s 121 5 = 0 := by rw [← hs, sp_nj (by decide), sp_eq]
  have s6 : s 121 6 = 0 := by rw [← hs, sp_eq]
  refine rt_w2 (I := fun (i : Int) (u : JSg) => (0 ≤ i ∧ i ≤ m) ∧ ∃ B x l c t r, fo dyF m i (B, x, l, c, t, r) = fo dyF m 0 (A, seed, 0, 0, 0, 0) ∧ dyK A B ∧ ((0 ≤ l ∧ l ≤ i) ∧ (0 ≤ c ∧ c ≤ i) ∧ (0 ≤ t ∧ t ≤ i) ∧ (0 ≤ r ∧ r ≤ i)) ∧ DW s B x l c t r u) (μ := fun (i : Int) (u : JSg) => (m - i).toNat) ?_ n _ _ ⟨by omega, A, seed, 0, 0, 0, 0, rfl, dyK_refl hI hW, by omega, RowR_ag (fun q j hq => sg q j (by omega)) hR, IslR_ag (fun q j hq => sg q j (by omega)) hL, ag_refl, s1, s3, s4, s5, s6, rfl⟩ (by omega)
  rintro i u ⟨⟨i0, i1⟩, B, x, l, c, t, r, e1, kB, bd, hu⟩ rc hrc
  have hB0 : B 0 = A 0 := kB.2.2 0 (by omega)
  refine rt_ite (fun h => ?_) (fun h => ?_)
  · rw [fo_s h] at e1
    refine rt_b1 (e_W_visit hn kB.1 kB.2.1 (by omega) (by omega) hu) (fun v hv => ?_)
    have k1 := dyK_tr kB (dvA_K (x := x) kB.1 kB.2.1 (by omega))
    refine rt_b1 (e_W_dcat hn k1.1 k1.2.1 (by omega) hv) (fun w hw => ?_)
    have k2 := dyK_tr k1 (dcA_K (x := dvX B x) k1.1 k1.2.1)
    refine rt_b1 (e_W_dtide k2.1 k2.2.1 (by omega) hw) (fun y hy => ?_)
    have k3 := dyK_tr k2 (dtA_K (x := dcX (dvX B x)) k2.1 k2.2.1)
    rw [wi (by omega) (by omega)]
    refine hrc _ _ ⟨by omega, _, _, _, _, _, _, e1, k3, ?_, hy⟩ (by omega)
    refine ⟨?_, ?_, ?_, ?_⟩
    all_goals (dsimp only; split <;> omega)
  · rw [fo_e (by omega)] at e1
    obtain ⟨u1, u2, u3, u4, u5, u6, u7, u8, u9⟩ := hu
    refine rt_some ⟨B, x, l, c, t, r, e1.symm, kB, u5, fun a j hj => ?_, u1, u9.trans s2, u6, u7, u8⟩
    show u a j = σ a j
    rw [u3 a j hj]
    exact sg a j (fun q => hj (Or.inr q))
theorem e_M_dys {m seed : Int} {P : Int × JSg → Prop} (hn : 1000000 < n) (hI : WfI A) (hW : WfR A) (h0 : 0 < A 0) (hm : 1 ≤ m ∧ m ≤ 200) (hu : DM σ A seed u) (hk : ∀ B x l c t r v, fo dyF m 0 (A, seed, 0, 0, 0, 0) = (B, x, l, c, t, r) → DM σ B x v → P (l, sp (sp (sp v 201 0 c) 201 1 t) 201 2 r)) :
    Ret (wh6 n (fun rc11 (x12 : Int) (x13 : Int) (x14 : Int) (x15 : Int) (x16 : Int) (s17 : JSg) => if x16 < m then (bd1 (f_M_widows s17) fun r21 => bd2 (f_M_draw r21 s17) fun r22 s23 => lt_ r22 fun v24 => bd1 (f_M_inHand n v24 (-1) s23) fun r25 => lt_ r25 fun v26 => jn3 (fun (y28 : Int) (y29 : Int) (s30 : JSg) => bd2 (f_M_draw 8 s30) fun r31 s32 => jn2 (fun (y34 : Int) (s35 : JSg) => bd2 (f_M_draw 4 s35) fun r36 s37 => jn2 (fun (y39 : Int) (s40 : JSg) => lt_ (w32 (x16 + 1)) fun v41 => rc11 y28 y34 y39 y29 v41 s40) fun j38 => if r36 = 0 then (bd1 (f_M_rowMany s37) fun r42 => if 0 < r42 then (bd1 (f_M_turnLast s37) fun s43 => lt_ (w32 (x14 + 1)) fun v44 => j38 v44 s43) else (j38 x14 s37)) else (j38 x14 s37)) fun j33 => if r31 = 0 then (bd2 (f_M_draw 2 s32) fun r45 s46 => lt_ r45 fun v47 => bd1 (f_M_rowMany s46) fun r48 => if 0 < r48 then (bd2 (f_M_catAt n v47 s46) fun r49 s50 => lt_ (w32 (x13 + 1)) fun v51 => j33 v51 s50) else (j33 x13 s46)) else (j33 x13 s32)) fun j27 => if 0 < v26 then (bd2 (f_M_draw v26 s23) fun r52 s53 => bd1 (f_M_inHand n v24 r52 s53) fun r54 => lt_ r54 fun v55 => bd2 (f_M_draw 2 s53) fun r56 s57 => lt_ r56 fun v58 => bd1 (f_M_whyNot v24 v55 v58 s57) fun r59 => if r59 = 0 then (bd1 (f_M_lays n v24 v55 v58 s57) fun s61 => lt_ (w32 (x12 + 1)) fun v62 => j27 v62 x15 s61) else (lt_ (w32 (x15 + 1)) fun v60 => j27 x12 v60 s57)) else (j27 x12 x15 s23)) else (lt_ (sp s17 201 0 x13) fun s18 => lt_ (sp s18 201 1 x14) fun s19 => lt_ (sp s19 201 2 x15) fun s20 => some (x12, s20))) 0 0 0 0 0 u) P := by
  refine rt_w6 (I := fun (l c t r i : Int) (u : JSg) => (0 ≤ i ∧ i ≤ m) ∧ ∃ B x, fo dyF m i (B, x, l, c, t, r) = fo dyF m 0 (A, seed, 0, 0, 0, 0) ∧ dyK A B ∧ ((0 ≤ l ∧ l ≤ i) ∧ (0 ≤ c ∧ c ≤ i) ∧ (0 ≤ t ∧ t ≤ i) ∧ (0 ≤ r ∧ r ≤ i)) ∧ DM σ B x u) (μ := fun (l c t r i : Int) (u : JSg) => (m - i).toNat) ?_ n _ _ _ _ _ _ ⟨by omega, A, seed, rfl, dyK_refl hI hW, by omega, hu⟩ (by omega)
  rintro l c t r i u ⟨⟨i0, i1⟩, B, x, e1, kB, bd, hu⟩ rc hrc
  have hB0 : B 0 = A 0 := kB.2.2 0 (by omega)
  have bb0 := kB.1.1
  have bb1 := kB.1.2.1
  have rng := dv_rng (x := x) kB.1 kB.2.1
  refine rt_ite (fun h => ?_) (fun h => ?_)
  · rw [fo_s h] at e1
    have k1 := dyK_tr kB (dvA_K (x := x) kB.1 kB.2.1 (by omega))
    have k2 := dyK_tr k1 (dcA_K (x := dvX B x) k1.1 k1.2.1)
    have k3 := dyK_tr k2 (dtA_K (x := dcX (dvX B x)) k2.1 k2.2.1)
    rw [wdM, b1_s, hu.1, e_M_draw (by omega), b2_s, hu.2.1, lt_u]
    have g1 := DM_sp (y := dX x) hu
    rw [e_M_inHand hn (by rw [g1.1]; exact kB.1), b1_s, lt_u, g1.1, show dR x (B 0) = dvW B x from rfl, kth_all _ _ _ rfl (by omega) (Or.inl (by omega)) (by omega)]
    show Ret (jn3 _ _) P
    refine rt_c3 (fun y r' s => y = (if dvL B x = true then l + 1 else l) ∧ r' = (if dvH B x ≠ 0 ∧ dvL B x = false then r + 1 else r) ∧ DM σ (dvA B x) (dvX B x) s) (fun y r' s hs => ?_) (fun j27 h27 => ?_)
    · obtain ⟨rfl, rfl, hs⟩ := hs
      rw [e_M_draw (by decide), b2_s, hs.2.1]
      have g2 := DM_sp (y := dX (dvX B x)) hs
      refine rt_c2 (fun y s => y = (if dR (dvX B x) 8 = 0 ∧ 0 < dvA B x 151 then c + 1 else c) ∧ DM σ (dcA (dvA B x) (dvX B x)) (dcX (dvX B x)) s) (fun y s hs => ?_) (fun j33 h33 => ?_)
      · obtain ⟨rfl, hs⟩ := hs
        rw [e_M_draw (by decide), b2_s, hs.2.1]
        have g3 := DM_sp (y := dX (dcX (dvX B x))) hs
        refine rt_c2 (fun y s => y = (if dR (dcX (dvX B x)) 4 = 0 ∧ 0 < dcA (dvA B x) (dvX B x) 151 then t + 1 else t) ∧ DM σ (dtA (dcA (dvA B x) (dvX B x)) (dcX (dvX B x))) (dX (dcX (dvX B x))) s) (fun y s hs => ?_) (fun j38 h38 => ?_)
        · obtain ⟨rfl, hs⟩ := hs
          rw [lt_u, wi (by omega) (by omega)]
          refine hrc _ _ _ _ _ _ ⟨by omega, _, _, e1, k3, ?_, hs⟩ (by omega)
          refine ⟨?_, ?_, ?_, ?_⟩
          all_goals (split <;> omega)
        · refine rt_ite (fun g => ?_) (fun g => ?_)
          · rw [rmM, b1_s, g3.1]
            refine rt_ite (fun g2 => ?_) (fun g2 => ?_)
            · refine rt_b1 (e_M_turn (by rw [g3.1]; exact k2.1) (by rw [g3.1]; exact k2.2.1) (by rw [g3.1]; omega)) (fun w hw => ?_)
              rw [lt_u, wi (by omega) (by omega)]
              refine h38 _ _ ⟨by rw [if_pos ⟨g, g2⟩], DM_row g3 hw.1 ?_⟩
              rw [hw.2, g3.1]
              unfold dtA
              rw [if_pos ⟨g, g2⟩]
            · refine h38 _ _ ⟨by rw [if_neg (fun q => g2 q.2)], ?_⟩
              unfold dtA
              rw [if_neg (fun q => g2 q.2)]
              exact g3
          · refine h38 _ _ ⟨by rw [if_neg (fun q => g q.1)], ?_⟩
            unfold dtA
            rw [if_neg (fun q => g q.1)]
            exact g3
      · refine rt_ite (fun g => ?_) (fun g => ?_)
        · have d := dR_in (x := dX (dvX B x)) (n := 2) (by omega)
          rw [e_M_draw (by decide), b2_s, g2.2.1, lt_u, rmM, b1_s]
          have g4 := DM_sp (y := dX (dX (dvX B x))) g2
          rw [g4.1]
          refine rt_ite (fun q => ?_) (fun q => ?_)
          · refine rt_b2 (e_M_cat hn (by rw [g4.1]; exact k1.1) (by rw [g4.1]; exact k1.2.1) (by rw [g4.1]; omega) (by omega)) (fun y w hw => ?_)
            rw [lt_u, wi (by omega) (by omega)]
            refine h33 _ _ ⟨by rw [if_pos ⟨g, q⟩], ?_⟩
            unfold dcX
            rw [if_pos g]
            refine DM_row g4 hw.2.1 ?_
            have e := hw.2.2
            rw [g4.1] at e
            unfold dcA
            rw [if_pos ⟨g, q⟩]
            exact e
          · refine h33 _ _ ⟨by rw [if_neg (fun z => q z.2)], ?_⟩
            unfold dcX dcA
            rw [if_pos g, if_neg (fun z => q z.2)]
            exact g4
        · refine h33 _ _ ⟨by rw [if_neg (fun q => g q.1)], ?_⟩
          unfold dcX dcA
          rw [if_neg g, if_neg (fun q => g q.1)]
          exact g2
    · show Ret (if 0 < dvH B x then _ else _) P
      refine rt_ite (fun g => ?_) (fun g => ?_)
      · have ok := dv_ok (x := x) kB.1 kB.2.1 (by omega) (by omega)
        show Ret (bd2 (f_M_draw (dvH B x) _) _) P
        rw [e_M_draw g, b2_s, g1.2.1]
        have g2 := DM_sp (y := dX (dX x)) g1
        rw [e_M_inHand hn (by rw [g2.1]; exact kB.1), b1_s, lt_u, g2.1, ok.2.2.2.2.2.2]
        show Ret (bd2 (f_M_draw 2 _) _) P
        rw [e_M_draw (by decide), b2_s, g2.2.1, lt_u, show dR (dX (dX x)) 2 = dvE x from rfl]
        have g3 := DM_sp (y := dX (dX (dX x))) g2
        show Ret (bd1 (f_M_whyNot (dvW B x) (dvS B x) (dvE x) _) _) P
        rw [e_M_whyNot (by rw [g3.1]; exact kB.1) (by rw [g3.1]; exact kB.2.1) ok.2.2.1.1 (by rw [g3.1]; exact ok.2.2.1.2) ok.2.2.2.2.2.1.1 ok.2.2.2.2.2.1.2, b1_s, g3.1]
        refine rt_ite (fun q => ?_) (fun q => ?_)
        · have e2 : dvL B x = true := by unfold dvL; rw [decide_eq_true (show dvH B x ≠ 0 by omega), decide_eq_true q]; rfl
          refine rt_b1 (e_M_lays hn (by rw [g3.1]; exact kB.1) (by rw [g3.1]; exact kB.2.1) (by rw [g3.1]; exact ok.2.2.1) (by rw [g3.1]; exact ok.2.2.2.2.1) (by rw [g3.1]; exact ok.2.2.2.1) ok.2.2.2.2.2.1) (fun w hw => ?_)
          rw [lt_u, wi (by omega) (by omega)]
          refine h27 _ _ _ ⟨by rw [if_pos e2], by rw [if_neg (fun z => by rw [e2] at z; cases z.2)], ?_⟩
          unfold dvX
          rw [if_neg (by omega)]
          refine DM_row g3 hw.1 ?_
          rw [hw.2, g3.1]
          unfold dvA
          rw [if_pos e2]
        · have e2 : dvL B x = false := by unfold dvL; rw [decide_eq_false q, Bool.and_false]
          rw [lt_u, wi (by omega) (by omega)]
          refine h27 _ _ _ ⟨by rw [e2]; rfl, by rw [if_pos ⟨by omega, e2⟩], ?_⟩
          unfold dvX dvA
          rw [e2, if_neg (by decide), if_neg (show ¬ dvH B x = 0 by omega)]
          exact g3
      · have z : dvH B x = 0 := by omega
        have e2 : dvL B x = false := by unfold dvL; rw [decide_eq_false (by omega)]; rfl
        refine h27 _ _ _ ⟨by rw [e2]; rfl, by rw [if_neg (by omega)], ?_⟩
        unfold dvX dvA
        rw [if_pos z, e2, if_neg (by decide)]
        exact g1
  · rw [fo_e (by omega)] at e1
    exact rt_lt (rt_lt (rt_lt (rt_some (hk B x l c t r u e1.symm hu))))
end
theorem op_days : Op_days Inv := by
  intro σ H m seed _ _
  have hI := in_I H
  have hW := in_W H
  have hL := in_L H
  have hR := in_R H
  have b0 := hI.1
  have b1 := hI.2.1
  have H1 := inv_thr (x := 0) H
  by_cases hm : 1 ≤ m ∧ m ≤ 200
  · by_cases h0 : σ 181 0 = 0
    · refine ⟨-1, σ, _, ?_, ?_, H1⟩
      · unfold f_W_days
        rw [if_neg (by omega), if_neg (by omega), hL.1, if_pos h0]
      · unfold f_M_days
        rw [lt_u, e_M_isIn, b1_s, decide_eq_true hm, if_neg bn0, wdM, b1_s, th_A, if_pos h0]
    · obtain ⟨υ, k1, k2, k3⟩ := e_W_keep H
      have ku : ∀ a j, ¬ kpC a j → υ a j = σ a j := k2
      obtain ⟨z, z1, B, x, l, c, t, r, z2, z3, z4, z5, z6, z7, z8, z9, z10⟩ := e_W_live (σ := υ) (seed := seed) hNN hI hW (by omega) hm (IslR_ag (fun q j hq => ku q j (by unfold kpC; omega)) hL) (RowR_ag (fun q j hq => ku q j (by unfold kpC; omega)) hR)
      have zg : ∀ a j, ¬ (kpC a j ∨ dyC a j) → z.2 a j = σ a j := fun a j h => (z5 a j (fun q => h (Or.inr q))).trans (ku a j (fun q => h (Or.inl q)))
      have xg : ∀ a j, ¬ (kpC a j ∨ dyC a j ∨ (a = 179 ∧ j = 0)) → sp z.2 179 0 0 a j = σ a j := by
        intro a j h
        rw [sp_at]
        by_cases c : a = 179
        · rw [if_pos c, if_neg (fun q => h (Or.inr (Or.inr ⟨c, q⟩)))]
          exact zg a j (fun q => h (by rcases q with q | q <;> simp [q]))
        · rw [if_neg c]
          exact zg a j (fun q => h (by rcases q with q | q <;> simp [q]))
      have xA : sp z.2 179 0 0 181 = σ 181 := funext fun j => xg 181 j (by unfold kpC dyC rowC; omega)
      obtain ⟨y, y1, y2, y3⟩ := e_M_snap (σ := sp z.2 179 0 0) hNN (by rw [xA]; exact hI) (PasK_ag (fun q j hq => by
        rw [sp_at]
        by_cases c : q = 179
        · rw [if_pos c, if_neg (by omega)]; exact z5 q j (by unfold dyC rowC; omega)
        · rw [if_neg c]; exact z5 q j (by unfold dyC rowC; omega)) k3)
      have yA : y 181 = σ 181 := (funext fun j => y2 181 j (by unfold snC; omega)).trans xA
      obtain ⟨w, w1, w2, w3⟩ := e_M_dys (u := sp y 179 45 seed) (σ := y) (A := σ 181) (seed := seed) (P := fun p => p.1 = l ∧ ∃ v, DM y B x v ∧ p.2 = sp (sp (sp v 201 0 c) 201 1 t) 201 2 r) hNN hI hW (by omega) hm (DM_sp (x := y 179 45) ⟨yA, rfl, fun _ _ _ => rfl⟩) (fun B' x' l' c' t' r' v e1 e2 => by
        rw [z2] at e1
        cases e1
        exact ⟨rfl, v, e2, rfl⟩)
      obtain ⟨v, v1, v2⟩ := w3
      obtain ⟨v3, v4, v5⟩ := v1
      have wg : ∀ a j, ¬ (kpC a j ∨ dyC a j ∨ scr a j ∨ snC a j ∨ a = 181 ∨ a = 201) → w.2 a j = σ a j := by
        intro a j h
        have n1 : ¬ (a = 179 ∧ j = 45) := fun q => h (Or.inr (Or.inr (Or.inl (by rw [q.1, q.2]; unfold scr; omega))))
        have n2 : ¬ (a = 179 ∧ j = 0) := fun q => h (Or.inr (Or.inr (Or.inl (by rw [q.1, q.2]; unfold scr; omega))))
        have n3 : a ≠ 201 := fun q => h (by simp [q])
        have n4 : a ≠ 181 := fun q => h (by simp [q])
        rw [v2, sp_nq n3, sp_nq n3, sp_nq n3, v5 a j (by omega), y2 a j (fun q => h (by simp [q]))]
        exact xg a j (fun q => q.elim (fun q => h (by simp [q])) (fun q => q.elim (fun q => h (by simp [q])) n2))
      have wv : ∀ a j, a ≠ 201 → w.2 a j = v a j := fun a j h => by rw [v2, sp_nq h, sp_nq h, sp_nq h]
      have wA : w.2 181 = B := by rw [← v3]; exact funext fun j => wv 181 j (by decide)
      have wz : ∀ a j, a ≠ 201 → a ≠ 179 → a ≠ 181 → a ≠ 184 → w.2 a j = z.2 a j := by
        intro a j h1 h2 h3 h4
        rw [wv a j h1, v5 a j (by omega), y2 a j (by unfold snC; omega), sp_nq h2]
      obtain ⟨q1, q2, q3, q4, q5, q6⟩ := in_Z H
      refine ⟨l, z.2, w.2, ?_, ?_, inv_row H (fun a j h => ?_) (by rw [wA]; exact z3.2.1) (by rw [wA]; exact RowR_ag (fun q j hq => wz q j (by omega) (by omega) (by omega) (by omega)) z6) (PasR_cg (σ := y) (by rw [yA]; exact hI) (fun k hk => by rw [wA, yA]; exact z3.2.2 k (by omega)) (fun q j hq => (wv q j (by omega)).trans (v5 q j (by omega))) y3) ?_⟩
      · unfold f_W_days
        rw [if_neg (by omega), if_neg (by omega), hL.1, if_neg h0, k1, b1_s]
        show (bd2 (f_Day_live NN m seed υ) _) = _
        rw [show f_Day_live NN m seed υ = some (z.1, z.2) from z1, b2_s, z4]
      · unfold f_M_days
        rw [lt_u, e_M_isIn, b1_s, decide_eq_true hm, if_neg bn0, wdM, b1_s, xA, if_neg h0, y1, b1_s]
        rw [← w2]
        exact w1
      · unfold rwC at h
        by_cases c : a = 181
        · subst c
          rw [wA]
          exact z3.2.2 j (by omega)
        · refine wg a j (fun q => h ?_)
          unfold kpC dyC rowC snC at q
          rcases q with q | q | q | q | q | q
          · omega
          · omega
          · simp [q]
          · omega
          · exact absurd q c
          · omega
      · have p106 : w.2 106 = σ 106 := funext fun j => wg _ _ (by unfold kpC dyC rowC scr snC; omega)
        have p113 : w.2 113 = σ 113 := funext fun j => wg _ _ (by unfold kpC dyC rowC scr snC; omega)
        have p122 : w.2 122 = σ 122 := funext fun j => wg _ _ (by unfold kpC dyC rowC scr snC; omega)
        have p191 : w.2 191 = σ 191 := funext fun j => wg _ _ (by unfold kpC dyC rowC scr snC; omega)
        have p194 : w.2 194 = σ 194 := funext fun j => wg _ _ (by unfold kpC dyC rowC scr snC; omega)
        have p196 : w.2 196 = σ 196 := funext fun j => wg _ _ (by unfold kpC dyC rowC scr snC; omega)
        have wn : ∀ a j, ¬ (kpC a j ∨ dyC a j ∨ scr a j ∨ snC a j ∨ a = 181 ∨ a = 201) → w.2 a j = σ a j := wg
        unfold LstR
        rw [p106, p113, p122, p191, p194, p196, wg 2 12 (by unfold kpC dyC rowC scr snC; omega), wg 179 10 (by unfold kpC dyC rowC scr snC; omega), wg 104 6 (by unfold kpC dyC rowC scr snC; omega), wg 179 28 (by unfold kpC dyC rowC scr snC; omega), wg 107 12 (by unfold kpC dyC rowC scr snC; omega), wg 179 32 (by unfold kpC dyC rowC scr snC; omega), wg 114 7 (by unfold kpC dyC rowC scr snC; omega), wg 179 36 (by unfold kpC dyC rowC scr snC; omega), wg 0 18 (by unfold kpC dyC rowC scr snC; omega), wg 179 39 (by unfold kpC dyC rowC scr snC; omega)]
        refine ⟨q1, q2, q3, q4, Or.inr ⟨?_, ?_, ?_, ?_⟩, q6⟩
        · rw [wz 121 2 (by decide) (by decide) (by decide) (by decide), z7]; decide
        · rw [wz 121 4 (by decide) (by decide) (by decide) (by decide), z8, v2, sp_nj (by decide), sp_nj (by decide), sp_eq]
        · rw [wz 121 5 (by decide) (by decide) (by decide) (by decide), z9, v2, sp_nj (by decide), sp_eq]
        · rw [wz 121 6 (by decide) (by decide) (by decide) (by decide), z10, v2, sp_eq]
  · refine ⟨-1, σ, _, ?_, ?_, H1⟩
    · unfold f_W_days
      by_cases h1 : m < 1
      · rw [if_pos h1]
      · rw [if_neg h1, if_pos (by omega)]
    · unfold f_M_days
      rw [lt_u, e_M_isIn, b1_s, decide_eq_false hm, if_pos by0]
