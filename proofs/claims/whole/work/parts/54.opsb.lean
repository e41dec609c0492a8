/-! LAYER 3e: the calls that read in a loop -/
def fndP (A : JA) (a b s : Int) : Option Int := if (pipA A s 0 = a ∧ pipA A s 1 = b) ∨ (pipA A s 0 = b ∧ pipA A s 1 = a) then some s else none
def findA (A : JA) (a b : Int) : Int := (fi (fndP A a b) (A 1) 0).getD (-1)
theorem pip_0 {A : JA} {s : Int} : A (11 + 2 * s).toNat = pipA A s 0 := by
  unfold pipA
  congr 2
  omega
section
variable {σ : JSg} {n p ip : Nat} {A : JA}
theorem e_M_findStone {Np : Nat} {a b : Int} (hn : 1000000 < n) (hNp : 67 ≤ Np) (h0 : 0 ≤ σ p 1) (h1 : σ p 1 ≤ 28) : f_M_findStone n p Np a b σ = some (findA (σ p) a b) := by
  apply rt_eq
  unfold f_M_findStone findA
  refine rt_lt ?_
  refine rt_w1 (I := fun i => (0 ≤ i ∧ i ≤ σ p 1) ∧ fi (fndP (σ p) a b) (σ p 1) i = fi (fndP (σ p) a b) (σ p 1) 0) (μ := fun i => (σ p 1 - i).toNat) ?_ n 0 ⟨⟨by omega, h0⟩, rfl⟩ (by omega)
  rintro i ⟨⟨i0, i1⟩, e⟩ rc hrc
  refine rt_chk (by omega) ?_
  refine rt_ite (fun h => ?_) (fun h => ?_)
  · replace h : i < σ p 1 := h
    simp (disch := omega) only [wi, ck_p, lt_u, j0_s]
    rw [fi_s h] at e
    have e1 : σ p (11 + 2 * i).toNat = pipA (σ p) i 0 := pip_0
    have e2 : σ p (11 + 2 * i + 1).toNat = pipA (σ p) i 1 := rfl
    rw [e1, e2]
    have hit : fndP (σ p) a b i = some i → Ret (some i) (fun z => z = (fi (fndP (σ p) a b) (σ p 1) 0).getD (-1)) := fun q => rt_some (by rw [← e, q]; rfl)
    have mis : fndP (σ p) a b i = none → Ret (rc (i + 1)) (fun z => z = (fi (fndP (σ p) a b) (σ p 1) 0).getD (-1)) := fun q => hrc (i + 1) ⟨⟨by omega, by omega⟩, by rw [← e, q]⟩ (by omega)
    unfold fndP at hit mis
    repeat' (refine rt_ite (fun _ => ?_) (fun _ => ?_))
    all_goals first
      | exact hit (if_pos (by omega))
      | exact mis (if_neg (by omega))
  · replace h : ¬ i < σ p 1 := h
    refine rt_some ?_
    rw [← e, fi_e (by omega)]
    rfl
theorem e_Isl_stoneWith {a b : Int} (hn : 1000000 < n) (hI : WfI A) (hL : IslR σ p A) : f_Isl_stoneWith n p a b σ = some (findA A a b) := by
  have b1 := hI.2.1
  apply rt_eq
  unfold f_Isl_stoneWith findA
  refine rt_lt ?_
  refine rt_w1 (I := fun i => (0 ≤ i ∧ i ≤ A 1) ∧ fi (fndP A a b) (A 1) i = fi (fndP A a b) (A 1) 0) (μ := fun i => (A 1 - i).toNat) ?_ n 0 ⟨⟨by omega, by omega⟩, rfl⟩ (by omega)
  rintro i ⟨⟨i0, i1⟩, e⟩ rc hrc
  rw [hL.2.1]
  refine rt_ite (fun h => ?_) (fun h => ?_)
  · have l := hL.2.2.2.1 i i0 h
    rw [l.1, l.2]
    simp (disch := omega) only [wi, ck_p, lt_u, j0_s]
    rw [fi_s h] at e
    have hit : fndP A a b i = some i → Ret (some i) (fun z => z = (fi (fndP A a b) (A 1) 0).getD (-1)) := fun q => rt_some (by rw [← e, q]; rfl)
    have mis : fndP A a b i = none → Ret (rc (i + 1)) (fun z => z = (fi (fndP A a b) (A 1) 0).getD (-1)) := fun q => hrc (i + 1) ⟨⟨by omega, by omega⟩, by rw [← e, q]⟩ (by omega)
    unfold fndP at hit mis
    repeat' (refine rt_ite (fun _ => ?_) (fun _ => ?_))
    all_goals first
      | exact hit (if_pos (by omega))
      | exact mis (if_neg (by omega))
  · refine rt_some ?_
    rw [← e, fi_e (by omega)]
    rfl
end
theorem op_find : Op_find Inv := by
  intro σ H a b _ _
  have H1 := inv_thr (x := 0) H
  have hI := in_I H
  refine ⟨findA (σ 181) a b, _, ?_, ?_, H1⟩
  · unfold f_W_find
    rw [e_Isl_stoneWith hNN hI (in_L H), b1_s]
  · unfold f_M_find
    rw [lt_u, e_M_findStone hNN (by decide) (by rw [th_A]; exact hI.2.1.1) (by rw [th_A]; exact hI.2.1.2), b1_s, th_A]
def ownB (A : JA) (w k s : Int) : Bool := decide (ownA A s = w ∧ whrA A s = k)
def sumA (A : JA) (w : Int) (N i x : Int) : Int := fo (fun s x => cond (ownB A w 0 s) (x + (pipA A s 0 + pipA A s 1)) x) N i x
section
variable {σ : JSg} {n p ip : Nat} {A : JA}
theorem e_Row_owned {w k : Int} (hn : 1000000 < n) (hI : WfI A) (hL : IslR σ ip A) (hR : RowR σ p A) : f_Row_owned n p ip w k σ = some (cntP (ownB A w k) (A 1) 0 0) := by
  have b1 := hI.2.1
  apply rt_eq
  unfold f_Row_owned
  refine rt_lt (rt_lt ?_)
  refine rt_w2 (I := fun x i => (0 ≤ i ∧ i ≤ A 1) ∧ (0 ≤ x ∧ x ≤ i) ∧ cntP (ownB A w k) (A 1) i x = cntP (ownB A w k) (A 1) 0 0) (μ := fun x i => (A 1 - i).toNat) ?_ n 0 0 ⟨⟨by omega, by omega⟩, ⟨by omega, by omega⟩, rfl⟩ (by omega)
  rintro x i ⟨⟨i0, i1⟩, ⟨x0, x1⟩, e⟩ rc hrc
  rw [hL.2.1]
  refine rt_ite (fun h => ?_) (fun h => ?_)
  · have l := hR.2.1 i i0 h
    rw [l.1, l.2]
    simp (disch := omega) only [wi, ck_p, lt_u, j1_s]
    rw [cnt_s h] at e
    have hit : ownB A w k i = true → Ret (rc (x + 1) (i + 1)) (fun z => z = cntP (ownB A w k) (A 1) 0 0) := fun q => hrc _ _ ⟨⟨by omega, by omega⟩, ⟨by omega, by omega⟩, by rw [← e, q]; rfl⟩ (by omega)
    have mis : ownB A w k i = false → Ret (rc x (i + 1)) (fun z => z = cntP (ownB A w k) (A 1) 0 0) := fun q => hrc _ _ ⟨⟨by omega, by omega⟩, ⟨by omega, by omega⟩, by rw [← e, q]; rfl⟩ (by omega)
    unfold ownB at hit mis
    repeat' (refine rt_ite (fun _ => ?_) (fun _ => ?_))
    all_goals first
      | exact hit (decide_eq_true (by omega))
      | exact mis (decide_eq_false (by omega))
  · exact rt_some (by rw [← e, cnt_e (by omega)])
theorem e_Row_pipsInHand {w : Int} (hn : 1000000 < n) (hI : WfI A) (hL : IslR σ ip A) (hR : RowR σ p A) : f_Row_pipsInHand n p ip w σ = some (sumA A w (A 1) 0 0) := by
  have b1 := hI.2.1
  apply rt_eq
  unfold f_Row_pipsInHand
  refine rt_lt (rt_lt ?_)
  refine rt_w2 (I := fun x i => (0 ≤ i ∧ i ≤ A 1) ∧ (0 ≤ x ∧ x ≤ 12 * i) ∧ sumA A w (A 1) i x = sumA A w (A 1) 0 0) (μ := fun x i => (A 1 - i).toNat) ?_ n 0 0 ⟨⟨by omega, by omega⟩, ⟨by omega, by omega⟩, rfl⟩ (by omega)
  rintro x i ⟨⟨i0, i1⟩, ⟨x0, x1⟩, e⟩ rc hrc
  rw [hL.2.1]
  refine rt_ite (fun h => ?_) (fun h => ?_)
  · have q0 := hI.2.2.2.2 i 0 i0 h (by omega) (by omega)
    have q1 := hI.2.2.2.2 i 1 i0 h (by omega) (by omega)
    rw [e_Row_isHeldBy hI hR i0 h, e_Isl_together hI hL i0 h]
    simp (disch := omega) only [wi, ck_p, lt_u, j1_s, b1_s]
    unfold sumA at e
    rw [fo_s h] at e
    by_cases c : ownA A i = w ∧ whrA A i = 0
    · rw [decide_eq_true c, if_neg bn0]
      rw [show ownB A w 0 i = true from decide_eq_true c, cond_true] at e
      exact hrc _ _ ⟨⟨by omega, by omega⟩, ⟨by omega, by omega⟩, e⟩ (by omega)
    · rw [decide_eq_false c, if_pos by0]
      rw [show ownB A w 0 i = false from decide_eq_false c, cond_false] at e
      exact hrc _ _ ⟨⟨by omega, by omega⟩, ⟨by omega, by omega⟩, e⟩ (by omega)
  · refine rt_some ?_
    rw [← e]
    exact (fo_e (by omega)).symm
theorem cnt_3 {P P0 P1 P2 : Int → Bool} {N : Int} (h : ∀ s, 0 ≤ s → s < N → (cond (P s) 1 0 : Int) = cond (P0 s) 1 0 + cond (P1 s) 1 0 + cond (P2 s) 1 0) : ∀ (k : Nat) (i x x0 x1 x2 : Int), (N - i).toNat = k → 0 ≤ i → x = x0 + x1 + x2 → cntP P N i x = cntP P0 N i x0 + cntP P1 N i x1 + cntP P2 N i x2 := by
  intro k
  induction k with
  | zero =>
    intro i x x0 x1 x2 hk _ hx
    rw [cnt_e (by omega), cnt_e (by omega), cnt_e (by omega), cnt_e (by omega)]
    exact hx
  | succ k ih =>
    intro i x x0 x1 x2 hk hi hx
    rw [cnt_s (P := P) (i := i) (by omega), cnt_s (P := P0) (i := i) (by omega), cnt_s (P := P1) (i := i) (by omega), cnt_s (P := P2) (i := i) (by omega)]
    refine ih _ _ _ _ _ (by omega) (by omega) ?_
    have := h i hi (by omega)
    revert this
    cases P i <;> cases P0 i <;> cases P1 i <;> cases P2 i <;> simp only [cond_true, cond_false] <;> omega
theorem cnt_own (hW : WfR A) (w : Int) : cntP (fun s => decide (ownA A s = w)) (A 1) 0 0 = cntP (ownB A w 0) (A 1) 0 0 + cntP (ownB A w 1) (A 1) 0 0 + cntP (ownB A w 2) (A 1) 0 0 := by
  refine cnt_3 (fun s s0 s1 => ?_) _ _ _ _ _ _ rfl (by omega) rfl
  have := (hW.1 s s0 s1).2.1
  unfold ownB
  by_cases h : ownA A s = w
  · have c : whrA A s = 0 ∨ whrA A s = 1 ∨ whrA A s = 2 := by omega
    rcases c with c | c | c <;> simp [h, c]
  · simp [h]
theorem cnt_cg {P Q : Int → Bool} {N x : Int} (h : ∀ s, 0 ≤ s → s < N → P s = Q s) : cntP P N 0 x = cntP Q N 0 x := fo_cg _ _ _ rfl (fun s y s0 s1 => by rw [h s s0 s1])
def stpW (A : JA) (w what s x : Int) : Int := if ownA A s = w then (if what = 0 ∨ (what = 1 ∧ whrA A s = 0) ∨ (what = 2 ∧ whrA A s = 1) then x + 1 else if what = 3 ∧ whrA A s = 0 then x + (pipA A s 0 + pipA A s 1) else x) else x
theorem e_M_widow0 {w what : Int} (hn : 1000000 < n) (hI : WfI (σ 181)) (h0 : 0 ≤ w ∧ w < σ 181 0) (h1 : 0 ≤ what ∧ what ≤ 3) : f_M_widow n w what σ = some (fo (stpW (σ 181) w what) (σ 181 1) 0 0, sp σ 179 0 0) := by
  have b0 := hI.1
  have b1 := hI.2.1
  have eA : sp σ 179 0 0 181 = σ 181 := th_A
  have stp : ∀ s : JSg, f_M_stones s = some (s 181 1) := fun _ => rfl
  have hin : 0 ≤ what ∧ what ≤ 5 := by omega
  unfold f_M_widow
  rw [lt_u, e_M_isWidow, b1_s, eA, decide_eq_true h0, if_neg bn0, e_M_isIn, b1_s, decide_eq_true hin, if_neg bn0, if_neg (show ¬ 3 < what by omega)]
  apply rt_eq
  refine rt_lt (rt_lt ?_)
  refine rt_w2 (I := fun x i => (0 ≤ i ∧ i ≤ σ 181 1) ∧ (0 ≤ x ∧ x ≤ 12 * i) ∧ fo (stpW (σ 181) w what) (σ 181 1) i x = fo (stpW (σ 181) w what) (σ 181 1) 0 0) (μ := fun x i => (σ 181 1 - i).toNat) ?_ n 0 0 ⟨⟨by omega, by omega⟩, ⟨by omega, by omega⟩, rfl⟩ (by omega)
  rintro x i ⟨⟨i0, i1⟩, ⟨x0, x1⟩, e⟩ rc hrc
  rw [stp, b1_s, eA]
  refine rt_ite (fun h => ?_) (fun h => ?_)
  · have q0 := hI.2.2.2.2 i 0 i0 h (by omega) (by omega)
    have q1 := hI.2.2.2.2 i 1 i0 h (by omega) (by omega)
    have e1 : σ 181 (67 + i).toNat = ownA (σ 181) i := rfl
    have e2 : σ 181 (95 + i).toNat = whrA (σ 181) i := rfl
    have eH : f_M_isHeld i (sp σ 179 0 0) = some (bi (decide (whrA (σ 181) i = 0))) := by rw [e_M_isHeld i0 (by omega), eA]
    have eS : f_M_sum i (sp σ 179 0 0) = some (pipA (σ 181) i 0 + pipA (σ 181) i 1) := by rw [e_M_sum (by rw [eA]; exact hI) i0 (by rw [eA]; exact h), eA]
    rw [fo_s h] at e
    rw [wi (x := 67 + i) (by omega) (by omega), wi (x := 95 + i) (by omega) (by omega), eH, eS, e1, e2]
    refine rt_chk (by omega) ?_
    refine rt_c1 (fun y => y = stpW (σ 181) w what i x) (fun y hy => ?_) (fun j10 h10 => ?_)
    · subst hy
      rw [wi (by omega) (by omega), lt_u]
      refine hrc _ _ ⟨⟨by omega, by omega⟩, ?_, e⟩ (by omega)
      unfold stpW
      repeat' split
      all_goals omega
    refine rt_ite (fun hw => ?_) (fun hw => ?_)
    · refine rt_c1 (fun y => y = if what = 0 ∨ (what = 1 ∧ whrA (σ 181) i = 0) ∨ (what = 2 ∧ whrA (σ 181) i = 1) then x + 1 else x) (fun y hy => ?_) (fun j13 h13 => ?_)
      · subst hy
        refine rt_ite (fun h3 => ?_) (fun h3 => ?_)
        · rw [if_neg (show ¬ (what = 0 ∨ (what = 1 ∧ whrA (σ 181) i = 0) ∨ (what = 2 ∧ whrA (σ 181) i = 1)) by omega), b1_s, b1_s]
          by_cases hh : whrA (σ 181) i = 0
          · rw [decide_eq_true hh, if_neg bn0, wi (by omega) (by omega), lt_u]
            refine h10 _ ?_
            unfold stpW
            rw [if_pos hw, if_neg (by omega), if_pos ⟨h3, hh⟩]
          · rw [decide_eq_false hh, if_pos by0]
            refine h10 _ ?_
            unfold stpW
            rw [if_pos hw, if_neg (by omega), if_neg (fun q => hh q.2)]
        · refine h10 _ ?_
          unfold stpW
          rw [if_pos hw]
          split
          · rfl
          · rw [if_neg (fun q => h3 q.1)]
      refine rt_c0 (what = 0 ∨ (what = 1 ∧ whrA (σ 181) i = 0) ∨ (what = 2 ∧ whrA (σ 181) i = 1)) (fun hc => ?_) (fun j18 h18 => ?_)
      · rw [wi (by omega) (by omega), lt_u]
        exact h13 _ (by rw [if_pos hc])
      refine rt_ite (fun g0 => h18 (Or.inl g0)) (fun g0 => ?_)
      refine rt_c0 (¬ (what = 1 ∧ whrA (σ 181) i = 0)) (fun hc => ?_) (fun j20 h20 => ?_)
      · refine rt_ite (fun g2 => ?_) (fun g2 => ?_)
        · refine rt_chk (by omega) (rt_ite (fun g3 => h18 (by omega)) (fun g3 => h13 _ ?_))
          rw [if_neg (by omega)]
        · refine h13 _ ?_
          rw [if_neg (by omega)]
      refine rt_ite (fun g1 => ?_) (fun g1 => h20 (by omega))
      rw [b1_s]
      by_cases hh : whrA (σ 181) i = 0
      · rw [decide_eq_true hh, if_neg bn0]
        exact h18 (by omega)
      · rw [decide_eq_false hh, if_pos by0]
        exact h20 (by omega)
    · refine h10 _ ?_
      unfold stpW
      rw [if_neg hw]
  · refine rt_some ?_
    rw [← e, fo_e (by omega)]
theorem e_M_widow {w what : Int} (hn : 1000000 < n) (hI : WfI (σ 181)) (h0 : 0 ≤ w ∧ w < σ 181 0) (h1 : 0 ≤ what ∧ what ≤ 5) : f_M_widow n w what σ = some (if what = 0 then cntP (fun s => decide (ownA (σ 181) s = w)) (σ 181 1) 0 0 else if what = 1 then cntP (ownB (σ 181) w 0) (σ 181 1) 0 0 else if what = 2 then cntP (ownB (σ 181) w 1) (σ 181 1) 0 0 else if what = 3 then sumA (σ 181) w (σ 181 1) 0 0 else if what = 4 then σ 181 (180 + w).toNat else σ 181 (186 + w).toNat, sp σ 179 0 0) := by
  have b0 := hI.1
  have b1 := hI.2.1
  have eA : sp σ 179 0 0 181 = σ 181 := th_A
  by_cases h3 : what ≤ 3
  · rw [e_M_widow0 hn hI h0 (by omega)]
    congr 2
    have hw : what = 0 ∨ what = 1 ∨ what = 2 ∨ what = 3 := by omega
    rcases hw with rfl | rfl | rfl | rfl
    · refine fo_cg _ _ _ rfl (fun s y s0 s1 => ?_)
      unfold stpW
      by_cases c : ownA (σ 181) s = w <;> simp [c]
    · refine fo_cg _ _ _ rfl (fun s y s0 s1 => ?_)
      unfold stpW ownB
      by_cases c : ownA (σ 181) s = w <;> by_cases d : whrA (σ 181) s = 0 <;> simp [c, d]
    · refine fo_cg _ _ _ rfl (fun s y s0 s1 => ?_)
      unfold stpW ownB
      by_cases c : ownA (σ 181) s = w <;> by_cases d : whrA (σ 181) s = 1 <;> simp [c, d]
    · refine fo_cg _ _ _ rfl (fun s y s0 s1 => ?_)
      unfold stpW ownB
      by_cases c : ownA (σ 181) s = w <;> by_cases d : whrA (σ 181) s = 0 <;> simp [c, d]
  · have hin : 0 ≤ what ∧ what ≤ 5 := h1
    unfold f_M_widow
    rw [lt_u, e_M_isWidow, b1_s, eA, decide_eq_true h0, if_neg bn0, e_M_isIn, b1_s, decide_eq_true hin, if_neg bn0, if_pos (show 3 < what by omega), j1_s]
    have hw : what = 4 ∨ what = 5 := by omega
    rcases hw with rfl | rfl
    · show chk (0 ≤ w32 (180 + w) ∧ w32 (180 + w) < 448) (some (σ 181 (w32 (180 + w)).toNat, sp σ 179 0 0)) = _
      rw [wi (by omega) (by omega), ck_p (by omega)]
      rfl
    · show chk (0 ≤ w32 (186 + w) ∧ w32 (186 + w) < 448) (some (σ 181 (w32 (186 + w)).toNat, sp σ 179 0 0)) = _
      rw [wi (by omega) (by omega), ck_p (by omega)]
      rfl
end
theorem sw_n {Z : Type} {x : Int} {os : List (Option Z)} {d : Option Z} (h : x < 0 ∨ (os.length : Int) ≤ x) : sw_ x 0 os d = d := by
  unfold sw_
  by_cases h1 : x < 0
  · rw [if_pos h1]
  · rw [if_neg h1, List.getElem?_eq_none (by omega)]
    rfl
theorem op_widow : Op_widow Inv := by
  intro σ H w what _ _
  have H1 := inv_thr (x := 0) H
  have hI := in_I H
  have hW := in_W H
  have hL := in_L H
  have hR := in_R H
  by_cases hw : 0 ≤ w ∧ w < σ 181 0
  · have b0 := hI.1
    by_cases hh : 0 ≤ what ∧ what ≤ 5
    · refine ⟨_, _, ?_, e_M_widow hNN hI hw hh, H1⟩
      unfold f_W_widow
      rw [e_W_isWidow hL, b1_s, decide_eq_true hw, if_neg bn0]
      have c : what = 0 ∨ what = 1 ∨ what = 2 ∨ what = 3 ∨ what = 4 ∨ what = 5 := by omega
      have d : ∀ k : Int, 0 ≤ cntP (ownB (σ 181) w k) (σ 181 1) 0 0 ∧ cntP (ownB (σ 181) w k) (σ 181 1) 0 0 ≤ 28 := fun k => by
        have := cnt_bd (P := ownB (σ 181) w k) (N := σ 181 1) _ 0 0 rfl
        have := hI.2.1
        omega
      have d0 := d 0
      have d1 := d 1
      have d2 := d 2
      rcases c with rfl | rfl | rfl | rfl | rfl | rfl
      · show (bd1 (f_Row_owned NN 11 4 w 0 σ) _) = _
        rw [e_Row_owned hNN hI hL hR, b1_s, e_Row_owned hNN hI hL hR, b1_s, e_Row_owned hNN hI hL hR, b1_s, if_pos rfl, cnt_own hW w]
        simp (disch := omega) only [wi]
      · show (bd1 (f_Row_owned NN 11 4 w 0 σ) _) = _
        rw [e_Row_owned hNN hI hL hR, b1_s]
        rfl
      · show (bd1 (f_Row_owned NN 11 4 w 1 σ) _) = _
        rw [e_Row_owned hNN hI hL hR, b1_s]
        rfl
      · show (bd1 (f_Row_pipsInHand NN 11 4 w σ) _) = _
        rw [e_Row_pipsInHand hNN hI hL hR, b1_s]
        rfl
      · show chk _ _ = _
        rw [ck_p (by omega), (hR.2.2.2.1 w hw.1 hw.2).1]
        rfl
      · show chk _ _ = _
        rw [ck_p (by omega), (hR.2.2.2.1 w hw.1 hw.2).2]
        rfl
    · refine ⟨-1, _, ?_, ?_, H1⟩
      · unfold f_W_widow
        rw [e_W_isWidow hL, b1_s, decide_eq_true hw, if_neg bn0, sw_n]
        show what < 0 ∨ (6 : Int) ≤ what
        omega
      · unfold f_M_widow
        rw [lt_u, e_M_isWidow, b1_s, th_A, decide_eq_true hw, if_neg bn0, e_M_isIn, b1_s, decide_eq_false hh, if_pos by0]
  · refine ⟨-1, _, ?_, ?_, H1⟩
    · unfold f_W_widow
      rw [e_W_isWidow hL, b1_s, decide_eq_false hw, if_pos by0]
    · unfold f_M_widow
      rw [lt_u, e_M_isWidow, b1_s, th_A, decide_eq_false hw, if_pos by0]
