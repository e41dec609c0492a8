/-! LAYER 3g: dearest, counts, stone, count; the lazy start of the reference -/
def deaF (A : JA) (i : Int) (x : Int × Int) : Int × Int := if x.1 = -1 ∨ x.2 < w32 (A (180 + i).toNat - A (186 + i).toNat) then (i, w32 (A (180 + i).toNat - A (186 + i).toNat)) else x
def couF (A : JA) (n k s x : Int) : Int := if whrA A s = k then x + (bi (decide (pipA A s 0 = n)) + bi (decide (pipA A s 1 = n))) else x
def plcP (A : JA) (s i : Int) : Option Int := if rwA A i / 2 = s then some (i + 1) else none
def plcA (A : JA) (s : Int) : Int := (fi (plcP A s) (A 151) 0).getD 0
theorem wh2_u {A0 A1 Z : Type} {n : Nat} {F : (A0 → A1 → Option Z) → A0 → A1 → Option Z} {x : A0} {y : A1} (h : 0 < n) : wh2 n F x y = F (wh2 (n - 1) F) x y := by
  obtain ⟨m, rfl⟩ : ∃ m, n = m + 1 := ⟨n - 1, by omega⟩
  rfl
section
variable {σ : JSg} {n p ip : Nat} {A : JA}
theorem e_W_dearest (hn : 1000000 < n) (hI : WfI A) (hL : IslR σ 4 A) (hR : RowR σ 11 A) : f_W_dearest n σ = some (fo (deaF A) (A 0) 0 (-1, 0)).1 := by
  have b := hI.1
  apply rt_eq
  unfold f_W_dearest
  refine rt_lt (rt_lt (rt_lt ?_))
  refine rt_w3 (I := fun x m i => (0 ≤ i ∧ i ≤ A 0) ∧ fo (deaF A) (A 0) i (x, m) = fo (deaF A) (A 0) 0 (-1, 0)) (μ := fun x m i => (A 0 - i).toNat) ?_ n _ _ _ ⟨by omega, rfl⟩ (by omega)
  rintro x m i ⟨⟨i0, i1⟩, e1⟩ rc hrc
  rw [hL.1]
  refine rt_ite (fun h => ?_) (fun h => ?_)
  · have r := hR.2.2.2.1 i i0 h
    rw [fo_s h] at e1
    refine rt_chk (by omega) (rt_chk (by omega) (rt_lt ?_))
    rw [show σ 16 i.toNat = A (180 + i).toNat from r.1, show σ 17 i.toNat = A (186 + i).toNat from r.2]
    refine rt_c2 (fun u v => (u, v) = deaF A i (x, m)) (fun u v hu => ?_) (fun j9 h9 => ?_)
    · rw [← hu] at e1
      rw [lt_u, wi (by omega) (by omega)]
      exact hrc _ _ _ ⟨by omega, e1⟩ (by omega)
    · refine rt_c0 (x = -1 ∨ m < w32 (A (180 + i).toNat - A (186 + i).toNat)) (fun hc => ?_) (fun j13 h13 => ?_)
      · exact h9 _ _ (by unfold deaF; rw [if_pos hc])
      · refine rt_ite (fun g => h13 (Or.inl g)) (fun g => rt_ite (fun g2 => h13 (Or.inr g2)) (fun g2 => ?_))
        exact h9 _ _ (by unfold deaF; rw [if_neg (by omega)])
  · rw [fo_e (by omega)] at e1
    exact rt_some (by rw [← e1])
theorem e_M_dearest (hn : 1000000 < n) (hI : WfI (σ 181)) : f_M_dearest n σ = some ((fo (deaF (σ 181)) (σ 181 0) 0 (-1, 0)).1, sp σ 179 0 0) := by
  have b := hI.1
  have eA : sp σ 179 0 0 181 = σ 181 := th_A
  apply rt_eq
  unfold f_M_dearest
  refine rt_lt (rt_lt (rt_lt ?_))
  refine rt_w2 (I := fun x i => (0 ≤ i ∧ i ≤ σ 181 0) ∧ ∃ m, fo (deaF (σ 181)) (σ 181 0) i (x, m) = fo (deaF (σ 181)) (σ 181 0) 0 (-1, 0) ∧ (x = -1 ∨ (0 ≤ x ∧ x < σ 181 0) ∧ m = w32 (σ 181 (180 + x).toNat - σ 181 (186 + x).toNat))) (μ := fun x i => (σ 181 0 - i).toNat) ?_ n _ _ ⟨by omega, 0, rfl, Or.inl rfl⟩ (by omega)
  rintro x i ⟨⟨i0, i1⟩, m, e1, e2⟩ rc hrc
  rw [wdM, b1_s, eA]
  refine rt_ite (fun h => ?_) (fun h => ?_)
  · rw [fo_s h] at e1
    refine rt_c1 (fun u => (u = i ∧ (x = -1 ∨ m < w32 (σ 181 (180 + i).toNat - σ 181 (186 + i).toNat))) ∨ (u = x ∧ ¬ (x = -1 ∨ m < w32 (σ 181 (180 + i).toNat - σ 181 (186 + i).toNat)))) (fun u hu => ?_) (fun j8 h8 => ?_)
    · rw [wi (by omega) (by omega), lt_u]
      unfold deaF at e1
      rcases hu with ⟨rfl, hc⟩ | ⟨rfl, hc⟩
      · rw [if_pos hc] at e1
        exact hrc _ _ ⟨by omega, _, e1, Or.inr ⟨by omega, rfl⟩⟩ (by omega)
      · rw [if_neg hc] at e1
        exact hrc _ _ ⟨by omega, _, e1, e2⟩ (by omega)
    · refine rt_c0 (x = -1 ∨ m < w32 (σ 181 (180 + i).toNat - σ 181 (186 + i).toNat)) (fun hc => h8 _ (Or.inl ⟨rfl, hc⟩)) (fun j11 h11 => ?_)
      refine rt_ite (fun g => h11 (Or.inl g)) (fun g => ?_)
      obtain ⟨hx, hm⟩ := e2.resolve_left g
      rw [wi (x := 180 + i) (by omega) (by omega), wi (x := 186 + i) (by omega) (by omega), wi (x := 180 + x) (by omega) (by omega), wi (x := 186 + x) (by omega) (by omega)]
      refine rt_chk (by omega) (rt_chk (by omega) (rt_lt (rt_chk (by omega) (rt_chk (by omega) (rt_lt ?_)))))
      rw [← hm]
      exact rt_ite (fun g2 => h11 (Or.inr g2)) (fun g2 => h8 _ (Or.inr ⟨rfl, by omega⟩))
  · rw [fo_e (by omega)] at e1
    exact rt_some (by rw [← e1])
theorem e_W_counts {a k : Int} (hn : 1000000 < n) (hI : WfI A) (hL : IslR σ 4 A) (hR : RowR σ 11 A) (ha : 0 ≤ a ∧ a ≤ 6) (hk : 0 ≤ k ∧ k ≤ 2) : f_W_counts n a k σ = some (fo (couF A a k) (A 1) 0 0) := by
  have b := hI.2.1
  unfold f_W_counts
  rw [e_W_isPips, b1_s, decide_eq_true ha, if_neg bn0, if_neg (by omega), if_neg (by omega)]
  apply rt_eq
  refine rt_lt (rt_lt ?_)
  refine rt_w2 (I := fun x i => (0 ≤ i ∧ i ≤ A 1) ∧ (0 ≤ x ∧ x ≤ 2 * i) ∧ fo (couF A a k) (A 1) i x = fo (couF A a k) (A 1) 0 0) (μ := fun x i => (A 1 - i).toNat) ?_ n _ _ ⟨by omega, by omega, rfl⟩ (by omega)
  rintro x i ⟨⟨i0, i1⟩, ⟨x0, x1⟩, e1⟩ rc hrc
  rw [hL.2.1]
  refine rt_ite (fun h => ?_) (fun h => ?_)
  · have r := hR.2.1 i i0 h
    have l := hL.2.2.2.1 i i0 h
    rw [fo_s h] at e1
    rw [show σ 13 i.toNat = whrA A i from r.2, show σ 6 i.toNat = pipA A i 0 from l.1, show σ 7 i.toNat = pipA A i 1 from l.2]
    refine rt_chk (by omega) ?_
    have q0 := bi_or (decide (pipA A i 0 = a))
    have q1 := bi_or (decide (pipA A i 1 = a))
    refine rt_c1 (fun y => y = couF A a k i x) (fun y hy => ?_) (fun j7 h7 => ?_)
    · subst hy
      rw [lt_u, wi (by omega) (by omega)]
      refine hrc _ _ ⟨by omega, ?_, e1⟩ (by omega)
      unfold couF
      split <;> omega
    · refine rt_ite (fun g => ?_) (fun g => ?_)
      · refine rt_chk (by omega) ?_
        refine rt_c1 (fun y => y = bi (decide (pipA A i 0 = a))) (fun y hy => ?_) (fun j10 h10 => ?_)
        · subst hy
          refine rt_chk (by omega) ?_
          refine rt_c1 (fun y => y = bi (decide (pipA A i 1 = a))) (fun y hy => ?_) (fun j12 h12 => ?_)
          · subst hy
            rw [lt_u, wi (x := bi _ + bi _) (by omega) (by omega), wi (by omega) (by omega)]
            exact h7 _ (by unfold couF; rw [if_pos g])
          · exact rt_ite (fun g2 => h12 _ (by rw [decide_eq_true g2]; rfl)) (fun g2 => h12 _ (by rw [decide_eq_false g2]; rfl))
        · exact rt_ite (fun g2 => h10 _ (by rw [decide_eq_true g2]; rfl)) (fun g2 => h10 _ (by rw [decide_eq_false g2]; rfl))
      · exact h7 _ (by unfold couF; rw [if_neg g])
  · rw [fo_e (by omega)] at e1
    exact rt_some (by rw [← e1])
theorem e_M_counts {a k : Int} (hn : 1000000 < n) (hI : WfI (σ 181)) (ha : 0 ≤ a ∧ a ≤ 6) (hk : 0 ≤ k ∧ k ≤ 2) : f_M_counts n a k σ = some (fo (couF (σ 181) a k) (σ 181 1) 0 0, sp σ 179 0 0) := by
  have b := hI.2.1
  have eA : sp σ 179 0 0 181 = σ 181 := th_A
  unfold f_M_counts
  rw [lt_u, e_M_isIn, b1_s, decide_eq_true ha, if_neg bn0, e_M_isIn, b1_s, decide_eq_true hk, if_neg bn0]
  apply rt_eq
  refine rt_lt (rt_lt ?_)
  refine rt_w2 (I := fun x i => (0 ≤ i ∧ i ≤ σ 181 1) ∧ (0 ≤ x ∧ x ≤ 2 * i) ∧ fo (couF (σ 181) a k) (σ 181 1) i x = fo (couF (σ 181) a k) (σ 181 1) 0 0) (μ := fun x i => (σ 181 1 - i).toNat) ?_ n _ _ ⟨by omega, by omega, rfl⟩ (by omega)
  rintro x i ⟨⟨i0, i1⟩, ⟨x0, x1⟩, e1⟩ rc hrc
  rw [stM, b1_s, eA]
  refine rt_ite (fun h => ?_) (fun h => ?_)
  · rw [fo_s h] at e1
    have e2 : σ 181 (95 + i).toNat = whrA (σ 181) i := rfl
    have q0 := bi_or (decide (pipA (σ 181) i 0 = a))
    have q1 := bi_or (decide (pipA (σ 181) i 1 = a))
    rw [wi (x := 95 + i) (by omega) (by omega), e2]
    refine rt_lt ?_
    refine rt_w2 (I := fun y d => (0 ≤ d ∧ d ≤ 2) ∧ (0 ≤ y ∧ y ≤ 2 * i + d) ∧ fo (fun d y => if whrA (σ 181) i = k then y + bi (decide (pipA (σ 181) i d = a)) else y) 2 d y = couF (σ 181) a k i x) (μ := fun y d => (2 - d).toNat) ?_ n _ _ ⟨by omega, by omega, ?_⟩ (by omega)
    · rintro y d ⟨⟨d0, d1⟩, ⟨y0, y1⟩, e3⟩ rc2 hrc2
      refine rt_ite (fun h2 => ?_) (fun h2 => ?_)
      · rw [fo_s h2] at e3
        refine rt_chk (by omega) ?_
        have q2 := bi_or (decide (pipA (σ 181) i d = a))
        refine rt_c1 (fun u => u = if whrA (σ 181) i = k then y + bi (decide (pipA (σ 181) i d = a)) else y) (fun u hu => ?_) (fun j15 h15 => ?_)
        · subst hu
          rw [lt_u, wi (by omega) (by omega)]
          refine hrc2 _ _ ⟨by omega, ?_, e3⟩ (by omega)
          split <;> omega
        · refine rt_ite (fun g => ?_) (fun g => h15 _ (by rw [if_neg g]))
          rw [e_M_pip i0 (by omega) d0 (by omega), b1_s, eA]
          refine rt_ite (fun g2 => ?_) (fun g2 => ?_)
          · rw [lt_u, wi (by omega) (by omega)]
            exact h15 _ (by rw [if_pos g, decide_eq_true g2]; rfl)
          · exact h15 _ (by rw [if_pos g, decide_eq_false g2]; exact (Int.add_zero _).symm)
      · rw [fo_e (by omega)] at e3
        subst e3
        rw [lt_u, wi (by omega) (by omega)]
        exact hrc _ _ ⟨by omega, by omega, e1⟩ (by omega)
    · rw [fo_s (by omega), fo_s (by omega), fo_e (by omega)]
      unfold couF
      split
      · show x + bi (decide (pipA (σ 181) i 0 = a)) + bi (decide (pipA (σ 181) i 1 = a)) = _
        omega
      · rfl
  · rw [fo_e (by omega)] at e1
    exact rt_some (by rw [← e1])
theorem e_Row_placeOf {s : Int} (hn : 1000000 < n) (hI : WfI A) (hW : WfR A) (hR : RowR σ p A) : f_Row_placeOf n p ip s σ = some (plcA A s) := by
  have b := hI.2.1
  have b2 := hW.2.1
  apply rt_eq
  unfold f_Row_placeOf plcA
  refine rt_lt ?_
  refine rt_w1 (I := fun i => (0 ≤ i ∧ i ≤ A 151) ∧ fi (plcP A s) (A 151) i = fi (plcP A s) (A 151) 0) (μ := fun i => (A 151 - i).toNat) ?_ n 0 ⟨by omega, rfl⟩ (by omega)
  rintro i ⟨⟨i0, i1⟩, e⟩ rc hrc
  rw [hR.1]
  refine rt_ite (fun h => ?_) (fun h => ?_)
  · rw [fi_s h] at e
    rw [(hR.2.2.1 i i0 h).1]
    refine rt_chk (by omega) ?_
    rw [wi (by omega) (by omega)]
    refine rt_ite (fun c => ?_) (fun c => ?_)
    · rw [show plcP A s i = some (i + 1) from if_pos c] at e
      exact rt_some (by rw [← e]; rfl)
    · rw [show plcP A s i = none from if_neg c] at e
      exact hrc _ ⟨by omega, e⟩ (by omega)
  · rw [fi_e (by omega)] at e
    exact rt_some (by rw [← e]; rfl)
theorem e_M_placeOf {s : Int} (hn : 1000000 < n) (hI : WfI (σ 181)) (hW : WfR (σ 181)) : f_M_placeOf n s σ = some (plcA (σ 181) s) := by
  have b := hI.2.1
  have b2 := hW.2.1
  apply rt_eq
  unfold f_M_placeOf plcA
  refine rt_lt ?_
  refine rt_w1 (I := fun i => (0 ≤ i ∧ i ≤ σ 181 151) ∧ fi (plcP (σ 181) s) (σ 181 151) i = fi (plcP (σ 181) s) (σ 181 151) 0) (μ := fun i => (σ 181 151 - i).toNat) ?_ n 0 ⟨by omega, rfl⟩ (by omega)
  rintro i ⟨⟨i0, i1⟩, e⟩ rc hrc
  rw [rmM, b1_s]
  refine rt_ite (fun h => ?_) (fun h => ?_)
  · rw [fi_s h] at e
    rw [e_M_rowStone hI hW i0 h, b1_s, wi (by omega) (by omega)]
    refine rt_ite (fun c => ?_) (fun c => ?_)
    · rw [show plcP (σ 181) s i = some (i + 1) from if_pos c] at e
      exact rt_some (by rw [← e]; rfl)
    · rw [show plcP (σ 181) s i = none from if_neg c] at e
      exact hrc _ ⟨by omega, e⟩ (by omega)
  · rw [fi_e (by omega)] at e
    exact rt_some (by rw [← e]; rfl)
end
theorem op_dearest : Op_dearest Inv := by
  intro σ H
  exact ⟨_, _, e_W_dearest hNN (in_I H) (in_L H) (in_R H), e_M_dearest hNN (in_I H), inv_thr H⟩
theorem op_counts : Op_counts Inv := by
  intro σ H a k _ _
  have H1 := inv_thr (x := 0) H
  by_cases ha : 0 ≤ a ∧ a ≤ 6
  · by_cases hk : 0 ≤ k ∧ k ≤ 2
    · exact ⟨_, _, e_W_counts hNN (in_I H) (in_L H) (in_R H) ha hk, e_M_counts hNN (in_I H) ha hk, H1⟩
    · refine ⟨-1, _, ?_, ?_, H1⟩
      · unfold f_W_counts
        rw [e_W_isPips, b1_s, decide_eq_true ha, if_neg bn0]
        by_cases h0 : k < 0
        · rw [if_pos h0]
        · rw [if_neg h0, if_pos (by omega)]
      · unfold f_M_counts
        rw [lt_u, e_M_isIn, b1_s, decide_eq_true ha, if_neg bn0, e_M_isIn, b1_s, decide_eq_false hk, if_pos by0]
  · refine ⟨-1, _, ?_, ?_, H1⟩
    · unfold f_W_counts
      rw [e_W_isPips, b1_s, decide_eq_false ha, if_pos by0]
    · unfold f_M_counts
      rw [lt_u, e_M_isIn, b1_s, decide_eq_false ha, if_pos by0]
def tellA (A : JA) (s what : Int) : Int := if what = 0 then pipA A s 0 else if what = 1 then pipA A s 1 else if what = 2 then ownA A s else if what = 3 then whrA A s else if what = 4 then plcA A s else if whrA A s = 2 then ownA A s else -1
theorem op_stone : Op_stone Inv := by
  intro σ H s what _ _
  have hI := in_I H
  have hW := in_W H
  have hL := in_L H
  have hR := in_R H
  have b := hI.2.1
  by_cases hs : 0 ≤ s ∧ s < σ 181 1
  · by_cases hw : 0 ≤ what ∧ what ≤ 5
    · have l := hL.2.2.2.1 s hs.1 hs.2
      have r := hR.2.1 s hs.1 hs.2
      have w := (hW.1 s hs.1 hs.2).2.2
      have e6 : σ 6 s.toNat = pipA (σ 181) s 0 := l.1
      have e7 : σ 7 s.toNat = pipA (σ 181) s 1 := l.2
      have e12 : σ 12 s.toNat = ownA (σ 181) s := r.1
      have e13 : σ 13 s.toNat = whrA (σ 181) s := r.2
      have d : what = 0 ∨ what = 1 ∨ what = 2 ∨ what = 3 ∨ what = 4 ∨ what = 5 := by omega
      have H2 : Inv (sp (sp σ 203 0 (tellA (σ 181) s what)) 179 0 0) := inv_thr (inv_ag (ag_sp ag_refl (by unfold scr; omega)) H)
      have eA : sp (sp σ 203 0 (tellA (σ 181) s what)) 179 0 0 181 = σ 181 := by rw [sp_nq (by decide), sp_nq (by decide)]
      have eB : sp σ 203 0 (tellA (σ 181) s what) 181 = σ 181 := by rw [sp_nq (by decide)]
      refine ⟨some (tellA (σ 181) s what), tellA (σ 181) s what, sp (sp σ 203 0 (tellA (σ 181) s what)) 179 0 0, ?_, ?_, ?_, ?_, H2⟩
      · unfold f_W_stone
        rw [e_W_isStone hL, b1_s, decide_eq_true hs, if_neg bn0, e6, e7, e12, e13, e_Row_placeOf hNN hI hW hR, b1_s]
        have hc : 0 ≤ s ∧ s < 28 := by omega
        simp only [ck_p hc]
        rcases d with rfl | rfl | rfl | rfl | rfl | rfl
        · rfl
        · rfl
        · rfl
        · rfl
        · rfl
        · show (if whrA (σ 181) s = 2 then _ else _) = some (some (if whrA (σ 181) s = 2 then _ else _))
          split <;> rfl
      · show f_M_stone NN s what (sp σ 203 0 (tellA (σ 181) s what)) = _
        unfold f_M_stone
        rw [e_M_isStone, b1_s, eB, decide_eq_true hs, j0_s, if_neg bn0, e_M_isIn, b1_s, decide_eq_true hw, if_neg bn0, lt_u]
        generalize hτ : sp (sp σ 203 0 (tellA (σ 181) s what)) 179 0 0 = τ at *
        have f1 : τ 181 (67 + s).toNat = ownA (σ 181) s := by rw [eA]; rfl
        have f2 : τ 181 (95 + s).toNat = whrA (σ 181) s := by rw [eA]; rfl
        have f3 : τ 181 (123 + s).toNat = lyrA (σ 181) s := by rw [eA]; rfl
        rw [wi (x := 67 + s) (by omega) (by omega), wi (x := 95 + s) (by omega) (by omega), wi (x := 123 + s) (by omega) (by omega), f1, f2, f3, ck_p (by omega), ck_p (by omega), ck_p (by omega), e_M_placeOf hNN (in_I H2) (in_W H2), b1_s, eA, e_M_pip hs.1 (by omega) (by omega) (by omega), e_M_pip hs.1 (by omega) (by omega) (by omega), b1_s, b1_s, eA]
        rcases d with rfl | rfl | rfl | rfl | rfl | rfl
        · rfl
        · rfl
        · rfl
        · rfl
        · rfl
        · show (if whrA (σ 181) s = 2 then _ else _) = some ((if whrA (σ 181) s = 2 then _ else _), τ)
          split
          · rename_i g
            rw [w g, ck_p (by omega)]
          · rfl
      · rfl
      · intro x hx
        cases hx
        show sp (sp σ 203 0 (tellA (σ 181) s what)) 179 0 0 203 0 = _
        rw [sp_nq (by decide), sp_eq]
    · have H2 : Inv (sp σ 179 0 1) := inv_thr H
      refine ⟨none, 0, sp σ 179 0 1, ?_, ?_, rfl, fun x hx => (by cases hx), H2⟩
      · unfold f_W_stone
        rw [e_W_isStone hL, b1_s, decide_eq_true hs, if_neg bn0, sw_n]
        show what < 0 ∨ (6 : Int) ≤ what
        omega
      · show f_M_stone NN s what σ = _
        unfold f_M_stone
        rw [e_M_isStone, b1_s, decide_eq_true hs, j0_s, if_neg bn0, e_M_isIn, b1_s, decide_eq_false hw, if_pos by0]
        rfl
  · have H2 : Inv (sp σ 179 0 1) := inv_thr H
    refine ⟨none, 0, sp σ 179 0 1, ?_, ?_, rfl, fun x hx => (by cases hx), H2⟩
    · unfold f_W_stone
      rw [e_W_isStone hL, b1_s, decide_eq_false hs, if_pos by0]
    · show f_M_stone NN s what σ = _
      unfold f_M_stone
      rw [e_M_isStone, b1_s, decide_eq_false hs, j0_s, if_pos by0]
      rfl
/-! the reference's lazy start -/
section
variable {σ τ : JSg}
theorem ovl_lo {A S : JA} {k : Nat} (h : ¬ (67 ≤ k ∧ k < 192)) : ovl A S k = A k := if_neg h
theorem ovl_in {A S : JA} {k : Nat} (h : 67 ≤ k ∧ k < 192) : ovl A S k = S (k - 67) := if_pos h
theorem WorR_cg {w : Nat} {A B N : JA} {pw : Int} (hA : WfA A) (h : ∀ k : Nat, k ≠ 3 → B k = A k) (H : WorR σ w A N pw) : WorR σ w B N pw := by
  obtain ⟨h1, h2, h3, h4, h5⟩ := H
  have b0 := hA.1.1
  have b1 := hA.1.2.1
  have b2 := hA.2.1.2.1
  exact ⟨IslR_cg (by omega) (fun k _ hk => h k hk) h1, IslX_cg (fun k _ hk => h k hk) h2, RowR_cg (by omega) (fun k hk => h k (by omega)) h3, MemR_cg (fun k _ _ => h k (by omega)) h4, senR_cg (fun k _ _ => h k (by omega)) h5⟩
theorem WfA_cg {A B : JA} (hA : WfA A) (h : ∀ k : Nat, k ≠ 3 → B k = A k) : WfA B :=
  ⟨WfI_cg (fun k _ hk => h k hk) hA.1, WfR_cg (by have := hA.1.2.1; omega) (fun k hk => h k (by omega)) hA.2.1, WfM_cg (h 1 (by omega)) (fun k _ _ => h k (by omega)) (fun k _ _ => h k (by omega)) hA.2.2⟩
theorem PasR_cg (hI : WfI (σ 181)) (hk : ∀ k : Nat, k ≤ 1 → τ 181 k = σ 181 k) (h : ∀ q j, (q = 0 ∧ (j = 8 ∨ j = 9)) ∨ (123 ≤ q ∧ q ≤ 178) ∨ (q = 179 ∧ j = 22) ∨ q = 184 → τ q j = σ q j) (H : PasR σ) : PasR τ := by
  have e2 : τ 184 = σ 184 := funext fun j => h _ _ (by omega)
  have ep : pasP τ = pasP σ := by
    funext j
    unfold pasP
    rw [h 0 8 (by omega), h 0 9 (by omega)]
  have b0 := hI.1
  have b1 := hI.2.1
  have ea : ∀ j : Int, ∀ k : Nat, k ≤ 1 ∨ (67 ≤ k ∧ k < 192) → pasA τ j k = pasA σ j k := by
    intro j k hk2
    unfold pasA
    by_cases c : 67 ≤ k ∧ k < 192
    · rw [ovl_in c, ovl_in c, e2]
    · rw [ovl_lo c, ovl_lo c]; exact hk k (by omega)
  have z0 : ∀ j, pasA σ j 0 = σ 181 0 := fun j => ovl_lo (by omega)
  have z1 : ∀ j, pasA σ j 1 = σ 181 1 := fun j => ovl_lo (by omega)
  unfold PasR at *
  rw [ep, h 0 8 (by omega), h 0 9 (by omega), h 179 22 (by omega)]
  refine ⟨H.1, H.2.1, H.2.2.1, fun j h0 h1 => ?_⟩
  have g := H.2.2.2 j h0 h1
  refine ⟨WfR_cg (by rw [z1]; omega) (ea j) g.1, RowR_cg (by rw [z0, z1]; have := g.1.2.1; rw [z1] at this; omega) (ea j) (RowR_ag (fun q i hq => h q i ?_) g.2)⟩
  unfold pasP at hq
  omega
theorem inv_layAll (H : Inv σ) : ∃ τ, f_M_layAll σ = some τ ∧ Inv τ ∧ τ 179 23 = 1 ∧ τ 181 3 = pwA σ ∧ pwA τ = pwA σ ∧ Agr (fun p j => (p = 179 ∧ j = 23) ∨ (p = 181 ∧ j = 3)) σ τ := by
  by_cases h : σ 179 23 = 0
  · have ha : Agr (fun p j => (p = 179 ∧ j = 23) ∨ (p = 181 ∧ j = 3)) σ (sp (sp σ 179 23 1) 181 3 5) := ag_sp (ag_sp ag_refl (by omega)) (by omega)
    have e23 : sp (sp σ 179 23 1) 181 3 5 179 23 = 1 := by rw [sp_nq (by decide), sp_eq]
    have e3 : sp (sp σ 179 23 1) 181 3 5 181 3 = 5 := sp_eq
    generalize hτ : sp (sp σ 179 23 1) 181 3 5 = τ at *
    have ek : ∀ k : Nat, k ≠ 3 → τ 181 k = σ 181 k := fun k hk => ha 181 k (by omega)
    have eN : τ 185 = σ 185 := funext fun j => ha 185 j (by omega)
    have pw : pwA σ = 5 := by unfold pwA; rw [if_pos h]
    have pt : pwA τ = 5 := by unfold pwA; rw [e23, e3]; rfl
    refine ⟨τ, ?_, ?_, e23, by rw [e3, pw], by rw [pw, pt], ha⟩
    · unfold f_M_layAll
      rw [if_pos h, ← hτ]
      rfl
    · obtain ⟨h1, h2, h3, h4, h5, h6, h7⟩ := H
      have im : ∀ k : Nat, k ≤ 1 → ImgR σ k → ImgR τ k := by
        intro k hk hi
        refine ⟨?_, ?_⟩
        · rw [ha (49 + 23 * k) 4 (by omega), ha 188 k (by omega)]; exact hi.1
        · rcases hi.2 with g | g
          · exact Or.inl (by rw [ha 188 k (by omega)]; exact g)
          · exact absurd g.2.1 (by omega)
      refine ⟨WfA_cg h1 ek, ?_, TapR_ag (fun q j hq => ha q j (by omega)) h3, Or.inr e23, ⟨im 0 (by omega) h5.1, im 1 (by omega) h5.2⟩, PasR_cg h1.1 (fun k hk => ek k (by omega)) (fun q j hq => ha q j (by omega)) h6, LstR_ag (fun q j hq => ha q j (by omega)) h7⟩
      rw [eN, pt, ← pw]
      exact WorR_ag (fun q j hq => ha q j (by unfold worC at hq; omega)) (WorR_cg h1 ek h2)
  · have h1 : σ 179 23 = 1 := (in_b H).resolve_left h
    refine ⟨σ, ?_, H, h1, ?_, rfl, ag_refl⟩
    · unfold f_M_layAll
      rw [if_neg h]
    · unfold pwA
      rw [if_neg h]
end
theorem e_M_cntQ {σ : JSg} {n : Nat} {Z : Type} {k : Int → Option Z} {P : Z → Prop} (hn : 1000000 < n) (hI : WfI (σ 181)) (hk : Ret (k (cntQ (σ 181))) P) : Ret (wh2 n (fun rc7 (x8 : Int) (x9 : Int) => if x9 < 7 then (lt_ 0 fun v10 => wh2 n (fun rc11 (x12 : Int) (x13 : Int) => if x9 < x13 then (lt_ (w32 (x9 + 1)) fun v14 => rc7 x12 v14) else (chk (0 ≤ (w32 (4 + x9)) ∧ (w32 (4 + x9)) < 448) <| bd1 (f_M_has (σ 181 (w32 (4 + x9)).toNat) x13 σ) fun r15 => jn1 (fun (y17 : Int) => lt_ (w32 (x13 + 1)) fun v18 => rc11 y17 v18) fun j16 => if r15 = 0 then (j16 x12) else (lt_ (w32 (x12 + 1)) fun v19 => j16 v19))) x8 v10) else (k x8)) 0 0) P := by
  refine rt_w2 (I := fun x p => (0 ≤ p ∧ p ≤ 7) ∧ (0 ≤ x ∧ x ≤ 7 * p) ∧ fo (fun p x => fo (fun q x => if bt (σ 181 (4 + p).toNat) q.toNat then x + 1 else x) (p + 1) 0 x) 7 p x = cntQ (σ 181)) (μ := fun x p => (7 - p).toNat) ?_ n _ _ ⟨by omega, by omega, rfl⟩ (by omega)
  rintro x p ⟨⟨p0, p1⟩, ⟨x0, x1⟩, e1⟩ rc hrc
  refine rt_ite (fun h => ?_) (fun h => ?_)
  · rw [fo_s h] at e1
    refine rt_lt ?_
    generalize hT : fo (fun q x => if bt (σ 181 (4 + p).toNat) q.toNat then x + 1 else x) (p + 1) 0 x = T at e1
    refine rt_w2 (I := fun y q => (0 ≤ q ∧ q ≤ p + 1) ∧ (0 ≤ y ∧ y ≤ 7 * p + q) ∧ fo (fun q x => if bt (σ 181 (4 + p).toNat) q.toNat then x + 1 else x) (p + 1) q y = T) (μ := fun y q => (p + 1 - q).toNat) ?_ n _ _ ⟨by omega, by omega, hT⟩ (by omega)
    rintro y q ⟨⟨q0, q1⟩, ⟨y0, y1⟩, e2⟩ rc2 hrc2
    refine rt_ite (fun h2 => ?_) (fun h2 => ?_)
    · rw [fo_e (by omega)] at e2
      subst e2
      rw [lt_u, wi (by omega) (by omega)]
      exact hrc _ _ ⟨by omega, by omega, e1⟩ (by omega)
    · rw [fo_s (by omega)] at e2
      rw [wi (x := 4 + p) (by omega) (by omega), ck_p (by omega), e_M_has q0 (by omega), b1_s, j1_s, wi (x := q + 1) (by omega) (by omega)]
      simp only [lt_u]
      cases c : bt (σ 181 (4 + p).toNat) q.toNat
      · rw [c] at e2
        rw [if_pos by0]
        exact hrc2 _ _ ⟨by omega, by omega, e2⟩ (by omega)
      · rw [c] at e2
        rw [if_neg bn0, wi (by omega) (by omega)]
        exact hrc2 _ _ ⟨by omega, by omega, e2⟩ (by omega)
  · rw [fo_e (by omega)] at e1
    rw [e1]
    exact hk
theorem op_count : Op_count Inv := by
  intro σ H a _
  have H1 := inv_thr (x := 0) H
  obtain ⟨τ, t1, t2, t3, t4, t5, t6⟩ := inv_layAll H1
  have ek : ∀ k : Nat, k ≠ 3 → τ 181 k = σ 181 k := fun k hk => (t6 181 k (by omega)).trans (by rw [th_A])
  have e3 : τ 181 3 = pwA σ := t4.trans (by unfold pwA; rw [th_A, th_j (by decide)])
  have eq : cntQ (τ 181) = cntQ (σ 181) := cntQ_cg (fun k _ hk => ek k hk)
  have et : τ 179 2 = σ 179 2 := (t6 179 2 (by omega)).trans (th_j (by decide))
  have X := in_X H
  have Y := in_Y H
  have L := in_L H
  have R := in_R H
  have T := in_T H
  have q1 : σ 4 1 = σ 181 0 := L.1
  have q2 : σ 4 2 = σ 181 1 := L.2.1
  have q3 : σ 4 3 = σ 181 2 := L.2.2.1
  have q4 : σ 4 4 = cntQ (σ 181) := X.1
  have q5 : σ 4 5 = pwA σ := X.2.1
  have q6 : σ 11 4 = σ 181 151 := R.1
  have q7 : σ 18 0 = σ 181 192 := Y.1
  have q8 : σ 0 1 = σ 179 2 := T.1
  have mq : ∀ P : Int × JSg → Prop, P (cntQ (σ 181), τ) → Ret (lt_ 0 fun v5 => lt_ 0 fun v6 => wh2 NN (fun rc7 (x8 : Int) (x9 : Int) => if x9 < 7 then (lt_ 0 fun v10 => wh2 NN (fun rc11 (x12 : Int) (x13 : Int) => if x9 < x13 then (lt_ (w32 (x9 + 1)) fun v14 => rc7 x12 v14) else (chk (0 ≤ (w32 (4 + x9)) ∧ (w32 (4 + x9)) < 448) <| bd1 (f_M_has (τ 181 (w32 (4 + x9)).toNat) x13 τ) fun r15 => jn1 (fun (y17 : Int) => lt_ (w32 (x13 + 1)) fun v18 => rc11 y17 v18) fun j16 => if r15 = 0 then (j16 x12) else (lt_ (w32 (x12 + 1)) fun v19 => j16 v19))) x8 v10) else (some (x8, τ))) v5 v6) P := by
    intro P hP
    refine rt_lt (rt_lt ?_)
    exact e_M_cntQ (k := fun x => some (x, τ)) hNN (in_I t2) (rt_some (by rw [eq]; exact hP))
  by_cases h : 0 ≤ a ∧ a < 8
  · refine ⟨if a = 0 then σ 181 0 else if a = 1 then σ 181 1 else if a = 2 then σ 181 2 else if a = 3 then cntQ (σ 181) else if a = 4 then pwA σ else if a = 5 then σ 181 151 else if a = 6 then σ 181 192 else σ 179 2, τ, ?_, ?_, t2⟩
    · unfold f_W_count
      rw [q1, q2, q3, q4, q5, q6, q7, q8]
      have c : a = 0 ∨ a = 1 ∨ a = 2 ∨ a = 3 ∨ a = 4 ∨ a = 5 ∨ a = 6 ∨ a = 7 := by omega
      rcases c with rfl | rfl | rfl | rfl | rfl | rfl | rfl | rfl <;> rfl
    · apply rt_eq
      unfold f_M_count
      rw [lt_u, t1, b1_s, wdM, stM, rmM, b1_s, b1_s, b1_s, ek 0 (by decide), ek 1 (by decide), ek 2 (by decide), ek 151 (by decide), ek 192 (by decide), e3, et]
      have c : a = 0 ∨ a = 1 ∨ a = 2 ∨ a = 3 ∨ a = 4 ∨ a = 5 ∨ a = 6 ∨ a = 7 := by omega
      rcases c with rfl | rfl | rfl | rfl | rfl | rfl | rfl | rfl
      · exact rt_some rfl
      · exact rt_some rfl
      · exact rt_some rfl
      · exact mq _ rfl
      · exact rt_some rfl
      · exact rt_some rfl
      · exact rt_some rfl
      · exact rt_some rfl
  · refine ⟨-1, τ, ?_, ?_, t2⟩
    · unfold f_W_count
      rw [sw_n]
      show a < 0 ∨ (8 : Int) ≤ a
      omega
    · unfold f_M_count
      rw [lt_u, t1, b1_s, sw_n]
      show a < 0 ∨ (8 : Int) ≤ a
      omega
