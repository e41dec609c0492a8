/-! LAYER 3f: more calls that read in a loop -/
theorem stM {s : JSg} : f_M_stones s = some (s 181 1) := rfl
theorem rmM {s : JSg} : f_M_rowMany s = some (s 181 151) := rfl
theorem wdM {s : JSg} : f_M_widows s = some (s 181 0) := rfl
def hasP (A : JA) (w e s : Int) : Bool := decide (whyA A w s e = 0)
def openP (A : JA) (e s : Int) : Bool := decide (whrA A s = 0) && (decide (A 151 = 0) || goesB A s e)
def jnB (A : JA) (i : Int) : Bool := fitB A (sidA A (rwA A (i - 1)) 1) (sidA A (rwA A i) 0)
section
variable {σ : JSg} {n p ip : Nat} {A : JA}
theorem e_Row_hasFor {w e : Int} (hn : 1000000 < n) (hI : WfI A) (hW : WfR A) (hL : IslR σ ip A) (hR : RowR σ p A) (h0 : 0 ≤ e) (h1 : e ≤ 1) : f_Row_hasFor n p ip w e σ = some (bi (anyB (hasP A w e) (A 1) 0)) := by
  have b1 := hI.2.1
  apply rt_eq
  unfold f_Row_hasFor
  refine rt_lt ?_
  refine rt_w1 (I := fun i => (0 ≤ i ∧ i ≤ A 1) ∧ anyB (hasP A w e) (A 1) i = anyB (hasP A w e) (A 1) 0) (μ := fun i => (A 1 - i).toNat) ?_ n 0 ⟨⟨by omega, by omega⟩, rfl⟩ (by omega)
  rintro i ⟨⟨i0, i1⟩, e1⟩ rc hrc
  rw [hL.2.1]
  refine rt_ite (fun h => ?_) (fun h => ?_)
  · rw [any_s h] at e1
    rw [e_Row_refusal hI hW hL hR i0 h h0 h1, b1_s, wi (by omega) (by omega), lt_u]
    refine rt_ite (fun c => ?_) (fun c => ?_)
    · rw [show hasP A w e i = true from decide_eq_true c, Bool.true_or] at e1
      exact rt_some (by rw [← e1]; rfl)
    · rw [show hasP A w e i = false from decide_eq_false c, Bool.false_or] at e1
      exact hrc _ ⟨⟨by omega, by omega⟩, e1⟩ (by omega)
  · exact rt_some (by rw [← e1, any_e (by omega)]; rfl)
theorem layA_in (hI : WfI A) (hW : WfR A) {e : Int} (hn : A 151 ≠ 0) : 0 ≤ layA A e ∧ layA A e < A 0 := by
  have b := endA_in (e := e) hW hn
  have c := wf_rw hI hW b.1 b.2
  have d := hW.1 _ c.2.2.1 c.2.2.2.1
  have e := (hW.2.2.1 _ b.1 b.2).2.2
  unfold layA
  rw [d.2.2 e]
  exact d.1
theorem why_own {w e s : Int} (h : whyA A w s e = 0) : ownA A s = w ∧ whrA A s = 0 := by
  unfold whyA at h
  by_cases c : ownA A s = w ∧ whrA A s = 0
  · exact c
  · rw [if_neg c] at h; omega
theorem orF_any {P : Int → Bool} {c : Int} {N : Int} : ∀ (k : Nat) (i x : Int), (N - i).toNat = k → okI x → orF P (fun _ => c) N i x = cond (anyB P N i) (or32 x (sl32 1 c)) x := by
  intro k
  induction k with
  | zero => intro i x h _; rw [orF_e (by omega), any_e (by omega)]; rfl
  | succ k ih =>
    intro i x h hx
    rw [orF_s (by omega), any_s (P := P) (N := N) (i := i) (by omega)]
    cases h2 : P i
    · rw [cond_false, ih _ _ (by omega) hx]; rfl
    · rw [cond_true, ih _ _ (by omega) (ok_or _ _), Bool.true_or, cond_true]
      cases anyB P N (i + 1)
      · rfl
      · rw [cond_true]
        refine bt_ext (ok_or _ _) (ok_or _ _) (fun j _ => ?_)
        rw [bt_or, bt_or, Bool.or_assoc, Bool.or_self]
def visF (A : JA) (w e x : Int) : Int := if A 151 = 0 then x else cond (anyB (hasP A w e) (A 1) 0) (or32 x (sl32 1 (layA A e))) x
theorem e_W_visits {w : Int} (hn : 1000000 < n) (hI : WfI A) (hW : WfR A) (hL : IslR σ 4 A) (hR : RowR σ 11 A) (hw : 0 ≤ w ∧ w < A 0) : f_W_visits n w σ = some (visF A w 1 (visF A w 0 0)) := by
  have bR := hW.2.1
  obtain ⟨m, rfl⟩ : ∃ m, n = m + 3 := ⟨n - 3, by omega⟩
  unfold f_W_visits
  rw [e_W_isWidow hL, b1_s, decide_eq_true hw, if_neg bn0, lt_u, lt_u]
  have st : ∀ (x e : Int) (rc : Int → Int → Option Int), 0 ≤ e → e ≤ 1 → (if 1 < e then some x else jn1 (fun (y8 : Int) => lt_ (w32 (e + 1)) fun v9 => rc y8 v9) fun j7 => if 0 < σ 11 4 then (bd1 (f_Row_hasFor (m + 3) 11 4 w e σ) fun r10 => if r10 = 0 then (j7 x) else (bd1 (f_Row_layerAt 11 4 e σ) fun r11 => lt_ (or32 x (sl32 1 r11)) fun v12 => j7 v12)) else (j7 x)) = rc (visF A w e x) (e + 1) := by
    intro x e rc h0 h1
    unfold visF
    rw [if_neg (by omega), j1_s, hR.1, wi (by omega) (by omega)]
    simp only [lt_u]
    by_cases c : A 151 = 0
    · rw [if_neg (by omega), if_pos c]
    · rw [if_pos (by omega), if_neg c, e_Row_hasFor hn hI hW hL hR h0 h1, b1_s, e_Row_layerAt hI hW hR c, b1_s]
      cases anyB (hasP A w e) (A 1) 0 <;> rfl
  show (wh2 ((m + 2) + 1) _ 0 0) = _
  refine (st 0 0 _ (by omega) (by omega)).trans ?_
  refine (st _ 1 _ (by omega) (by omega)).trans ?_
  rfl
theorem e_M_visits {w : Int} (hn : 1000000 < n) (hI : WfI (σ 181)) (hW : WfR (σ 181)) (hw : 0 ≤ w ∧ w < σ 181 0) : f_M_visits n w σ = some (visF (σ 181) w 1 (visF (σ 181) w 0 0), sp σ 179 0 0) := by
  have b0 := hI.1
  have b1 := hI.2.1
  have bR := hW.2.1
  have eA : sp σ 179 0 0 181 = σ 181 := th_A
  unfold f_M_visits
  rw [lt_u, e_M_isWidow, b1_s, eA, decide_eq_true hw, if_neg bn0]
  apply rt_eq
  refine rt_lt (rt_lt ?_)
  refine rt_w2 (I := fun x e => okI x ∧ (0 ≤ e ∧ e ≤ 2) ∧ fo (visF (σ 181) w) 2 e x = visF (σ 181) w 1 (visF (σ 181) w 0 0)) (μ := fun x e => (2 - e).toNat) ?_ n 0 0 ⟨ok0, ⟨by omega, by omega⟩, ?_⟩ (by omega)
  · rintro x e ⟨hx, ⟨i0, i1⟩, e1⟩ rc hrc
    refine rt_ite (fun h => ?_) (fun h => ?_)
    · rw [rmM, b1_s, eA]
      rw [fo_s h] at e1
      refine rt_ite (fun g => ?_) (fun g => ?_)
      · refine rt_lt ?_
        refine rt_w2 (I := fun x' i => okI x' ∧ (0 ≤ i ∧ i ≤ σ 181 1) ∧ orF (hasP (σ 181) w e) (fun _ => layA (σ 181) e) (σ 181 1) i x' = visF (σ 181) w e x) (μ := fun x' i => (σ 181 1 - i).toNat) ?_ n x 0 ⟨hx, ⟨by omega, by omega⟩, ?_⟩ (by omega)
        · rintro x' i ⟨hx', ⟨i0, i1⟩, e2⟩ rc2 hrc2
          rw [stM, b1_s, eA]
          refine rt_ite (fun h2 => ?_) (fun h2 => ?_)
          · rw [orF_s h2] at e2
            rw [e_M_whyNot (by rw [eA]; exact hI) (by rw [eA]; exact hW) i0 (by rw [eA]; exact h2) (by omega) (by omega), b1_s, eA, j1_s, wi (by omega) (by omega)]
            simp only [lt_u]
            refine rt_ite (fun c => ?_) (fun c => ?_)
            · rw [show hasP (σ 181) w e i = true from decide_eq_true c, cond_true] at e2
              rw [e_M_layerAt (by rw [eA]; exact hI) (by rw [eA]; exact hW) (by rw [eA]; omega), b1_s, eA]
              exact hrc2 _ _ ⟨ok_or _ _, ⟨by omega, by omega⟩, e2⟩ (by omega)
            · rw [show hasP (σ 181) w e i = false from decide_eq_false c, cond_false] at e2
              exact hrc2 _ _ ⟨hx', ⟨by omega, by omega⟩, e2⟩ (by omega)
          · rw [orF_e (by omega)] at e2
            subst e2
            rw [wi (by omega) (by omega)]
            exact hrc _ _ ⟨hx', ⟨by omega, by omega⟩, e1⟩ (by omega)
        · rw [orF_any _ _ _ rfl hx]
          unfold visF
          rw [if_neg (by omega)]
      · have z : σ 181 151 = 0 := by omega
        have vz : ∀ e x, visF (σ 181) w e x = x := fun e x => by unfold visF; rw [if_pos z]
        simp only [vz] at e1 ⊢
        rw [show fo (visF (σ 181) w) 2 (e + 1) x = x from ?_] at e1
        · exact rt_some (by rw [e1])
        · unfold fo
          generalize (2 - (e + 1)).toNat = k
          generalize e + 1 = i
          induction k generalizing i with
          | zero => rfl
          | succ k ih => unfold fold_; rw [vz]; exact ih _
    · rw [fo_e (by omega)] at e1
      exact rt_some (by rw [e1])
  · rw [fo_s (by omega), fo_s (by omega), fo_e (by omega)]
    rfl
theorem e_W_able {e : Int} (hn : 1000000 < n) (hI : WfI A) (hW : WfR A) (hL : IslR σ 4 A) (hR : RowR σ 11 A) (h0 : 0 ≤ e) (h1 : e ≤ 1) : f_W_able n e σ = some (orF (fun w => anyB (hasP A w e) (A 1) 0) (fun w => w) (A 0) 0 0) := by
  have b0 := hI.1
  have hin : 0 ≤ e ∧ e ≤ 1 := ⟨h0, h1⟩
  unfold f_W_able
  rw [e_W_isEnd, b1_s, decide_eq_true hin, if_neg bn0]
  apply rt_eq
  refine rt_lt (rt_lt ?_)
  refine rt_w2 (I := fun x i => (0 ≤ i ∧ i ≤ A 0) ∧ orF (fun w => anyB (hasP A w e) (A 1) 0) (fun w => w) (A 0) i x = orF (fun w => anyB (hasP A w e) (A 1) 0) (fun w => w) (A 0) 0 0) (μ := fun x i => (A 0 - i).toNat) ?_ n 0 0 ⟨⟨by omega, by omega⟩, rfl⟩ (by omega)
  rintro x i ⟨⟨i0, i1⟩, e1⟩ rc hrc
  rw [hL.1]
  refine rt_ite (fun h => ?_) (fun h => ?_)
  · rw [orF_s h] at e1
    rw [e_Row_hasFor hn hI hW hL hR h0 h1, b1_s, j1_s, wi (by omega) (by omega)]
    simp only [lt_u]
    cases c : anyB (hasP A i e) (A 1) 0
    · rw [c] at e1
      rw [if_pos by0]
      exact hrc _ _ ⟨⟨by omega, by omega⟩, e1⟩ (by omega)
    · rw [c] at e1
      rw [if_neg bn0]
      exact hrc _ _ ⟨⟨by omega, by omega⟩, e1⟩ (by omega)
  · exact rt_some (by rw [← e1, orF_e (by omega)])
theorem e_M_able {e : Int} (hn : 1000000 < n) (hI : WfI (σ 181)) (hW : WfR (σ 181)) (h0 : 0 ≤ e) (h1 : e ≤ 1) : f_M_able n e σ = some (orF (fun s => hasP (σ 181) (ownA (σ 181) s) e s) (ownA (σ 181)) (σ 181 1) 0 0, sp σ 179 0 0) := by
  have b1 := hI.2.1
  have eA : sp σ 179 0 0 181 = σ 181 := th_A
  have hin : 0 ≤ e ∧ e ≤ 1 := ⟨h0, h1⟩
  unfold f_M_able
  rw [lt_u, e_M_isEnd, b1_s, decide_eq_true hin, if_neg bn0]
  apply rt_eq
  refine rt_lt (rt_lt ?_)
  refine rt_w2 (I := fun x i => (0 ≤ i ∧ i ≤ σ 181 1) ∧ orF (fun s => hasP (σ 181) (ownA (σ 181) s) e s) (ownA (σ 181)) (σ 181 1) i x = orF (fun s => hasP (σ 181) (ownA (σ 181) s) e s) (ownA (σ 181)) (σ 181 1) 0 0) (μ := fun x i => (σ 181 1 - i).toNat) ?_ n 0 0 ⟨⟨by omega, by omega⟩, rfl⟩ (by omega)
  rintro x i ⟨⟨i0, i1⟩, e1⟩ rc hrc
  rw [stM, b1_s, eA]
  refine rt_ite (fun h => ?_) (fun h => ?_)
  · rw [orF_s h] at e1
    have e2 : σ 181 (67 + i).toNat = ownA (σ 181) i := rfl
    rw [wi (x := 67 + i) (by omega) (by omega), ck_p (by omega), e2, e_M_whyNot (by rw [eA]; exact hI) (by rw [eA]; exact hW) i0 (by rw [eA]; exact h) h0 h1, b1_s, eA, j1_s, wi (by omega) (by omega)]
    simp only [lt_u]
    refine rt_ite (fun c => ?_) (fun c => ?_)
    · rw [show hasP (σ 181) (ownA (σ 181) i) e i = true from decide_eq_true c, cond_true] at e1
      rw [ck_p (by omega)]
      exact hrc _ _ ⟨⟨by omega, by omega⟩, e1⟩ (by omega)
    · rw [show hasP (σ 181) (ownA (σ 181) i) e i = false from decide_eq_false c, cond_false] at e1
      exact hrc _ _ ⟨⟨by omega, by omega⟩, e1⟩ (by omega)
  · exact rt_some (by rw [← e1, orF_e (by omega)])
theorem able_eq {e : Int} (hI : WfI A) (hW : WfR A) : orF (fun w => anyB (hasP A w e) (A 1) 0) (fun w => w) (A 0) 0 0 = orF (fun s => hasP A (ownA A s) e s) (ownA A) (A 1) 0 0 := by
  have b0 := hI.1
  refine bt_ext (orF_ok _ _ _ rfl ok0) (orF_ok _ _ _ rfl ok0) (fun j _ => ?_)
  rw [orF_bt _ _ _ rfl (fun s h1 h2 _ => by omega), orF_bt _ _ _ rfl (fun s h1 h2 _ => by have := (hW.1 s h1 h2).1; omega), bt_0, Bool.false_or, Bool.false_or]
  apply Bool.eq_iff_iff.mpr
  rw [any_iff _ _ rfl, any_iff _ _ rfl]
  constructor
  · rintro ⟨w, w0, w1, h⟩
    rw [Bool.and_eq_true, any_iff _ _ rfl, decide_eq_true_iff] at h
    obtain ⟨⟨s, s0, s1, h⟩, hj⟩ := h
    have g := why_own (of_decide_eq_true h)
    refine ⟨s, s0, s1, ?_⟩
    rw [g.1, h, hj]
    simp
  · rintro ⟨s, s0, s1, h⟩
    rw [Bool.and_eq_true, decide_eq_true_iff] at h
    have d := (hW.1 s s0 s1).1
    refine ⟨ownA A s, d.1, d.2, ?_⟩
    rw [Bool.and_eq_true, any_iff _ _ rfl, decide_eq_true_iff]
    exact ⟨⟨s, s0, s1, h.1⟩, h.2⟩
theorem e_W_open {e : Int} (hn : 1000000 < n) (hI : WfI A) (hW : WfR A) (hL : IslR σ 4 A) (hR : RowR σ 11 A) (h0 : 0 ≤ e) (h1 : e ≤ 1) : f_W_open n e σ = some (orF (openP A e) (fun s => s) (A 1) 0 0) := by
  have b1 := hI.2.1
  have hin : 0 ≤ e ∧ e ≤ 1 := ⟨h0, h1⟩
  unfold f_W_open
  rw [e_W_isEnd, b1_s, decide_eq_true hin, if_neg bn0]
  apply rt_eq
  refine rt_lt (rt_lt ?_)
  refine rt_w2 (I := fun x i => (0 ≤ i ∧ i ≤ A 1) ∧ orF (openP A e) (fun s => s) (A 1) i x = orF (openP A e) (fun s => s) (A 1) 0 0) (μ := fun x i => (A 1 - i).toNat) ?_ n 0 0 ⟨⟨by omega, by omega⟩, rfl⟩ (by omega)
  rintro x i ⟨⟨i0, i1⟩, e1⟩ rc hrc
  rw [hL.2.1]
  refine rt_ite (fun h => ?_) (fun h => ?_)
  · rw [orF_s h] at e1
    rw [ck_p (by omega), (show σ 13 i.toNat = whrA A i from (hR.2.1 i i0 h).2), e_Row_goesTo hI hW hL hR i0 h h0 h1, j1_s, b1_s, wi (by omega) (by omega)]
    simp only [lt_u]
    have hit : openP A e i = true → Ret (rc (or32 x (sl32 1 i)) (i + 1)) (fun z => z = orF (openP A e) (fun s => s) (A 1) 0 0) := fun q => hrc _ _ ⟨⟨by omega, by omega⟩, by rw [← e1, q]; rfl⟩ (by omega)
    have mis : openP A e i = false → Ret (rc x (i + 1)) (fun z => z = orF (openP A e) (fun s => s) (A 1) 0 0) := fun q => hrc _ _ ⟨⟨by omega, by omega⟩, by rw [← e1, q]; rfl⟩ (by omega)
    refine rt_ite (fun c => ?_) (fun c => mis (by unfold openP; rw [decide_eq_false c]; rfl))
    cases d : (decide (A 151 = 0) || goesB A i e)
    · rw [if_pos by0]
      exact mis (by unfold openP; rw [d, Bool.and_false])
    · rw [if_neg bn0]
      exact hit (by unfold openP; rw [d, decide_eq_true c]; rfl)
  · exact rt_some (by rw [← e1, orF_e (by omega)])
theorem e_M_open {e : Int} (hn : 1000000 < n) (hI : WfI (σ 181)) (hW : WfR (σ 181)) (h0 : 0 ≤ e) (h1 : e ≤ 1) : f_M_open n e σ = some (orF (openP (σ 181) e) (fun s => s) (σ 181 1) 0 0, sp σ 179 0 0) := by
  have b1 := hI.2.1
  have eA : sp σ 179 0 0 181 = σ 181 := th_A
  have hin : 0 ≤ e ∧ e ≤ 1 := ⟨h0, h1⟩
  unfold f_M_open
  rw [lt_u, e_M_isEnd, b1_s, decide_eq_true hin, if_neg bn0]
  apply rt_eq
  refine rt_lt (rt_lt ?_)
  refine rt_w2 (I := fun x i => (0 ≤ i ∧ i ≤ σ 181 1) ∧ orF (openP (σ 181) e) (fun s => s) (σ 181 1) i x = orF (openP (σ 181) e) (fun s => s) (σ 181 1) 0 0) (μ := fun x i => (σ 181 1 - i).toNat) ?_ n 0 0 ⟨⟨by omega, by omega⟩, rfl⟩ (by omega)
  rintro x i ⟨⟨i0, i1⟩, e1⟩ rc hrc
  rw [stM, b1_s, eA]
  refine rt_ite (fun h => ?_) (fun h => ?_)
  · rw [orF_s h] at e1
    have hit : openP (σ 181) e i = true → Ret (rc (or32 x (sl32 1 i)) (i + 1)) (fun z => z = (orF (openP (σ 181) e) (fun s => s) (σ 181 1) 0 0, sp σ 179 0 0)) := fun q => hrc _ _ ⟨⟨by omega, by omega⟩, by rw [← e1, q]; rfl⟩ (by omega)
    have mis : openP (σ 181) e i = false → Ret (rc x (i + 1)) (fun z => z = (orF (openP (σ 181) e) (fun s => s) (σ 181 1) 0 0, sp σ 179 0 0)) := fun q => hrc _ _ ⟨⟨by omega, by omega⟩, by rw [← e1, q]; rfl⟩ (by omega)
    rw [e_M_isHeld i0 (by omega), b1_s, eA, j1_s, wi (by omega) (by omega)]
    simp only [lt_u]
    by_cases c : whrA (σ 181) i = 0
    · rw [decide_eq_true c, if_neg bn0, rmM, b1_s, eA, j0_s]
      by_cases d : σ 181 151 = 0
      · rw [if_pos d]
        exact hit (by unfold openP; rw [decide_eq_true c, decide_eq_true d]; rfl)
      · rw [if_neg d, e_M_fitsEnd (by rw [eA]; exact hI) (by rw [eA]; exact hW) (by rw [eA]; exact d) i0 (by rw [eA]; exact h) h0 h1, b1_s, eA]
        cases g : goesB (σ 181) i e
        · rw [if_pos by0]
          exact mis (by unfold openP; rw [g, decide_eq_false d]; simp)
        · rw [if_neg bn0]
          exact hit (by unfold openP; rw [g, decide_eq_true c]; simp)
    · rw [decide_eq_false c, if_pos by0]
      exact mis (by unfold openP; rw [decide_eq_false c]; rfl)
  · exact rt_some (by rw [← e1, orF_e (by omega)])
end
theorem op_visits : Op_visits Inv := by
  intro σ H w _
  have H1 := inv_thr (x := 0) H
  by_cases hw : 0 ≤ w ∧ w < σ 181 0
  · exact ⟨_, _, e_W_visits hNN (in_I H) (in_W H) (in_L H) (in_R H) hw, e_M_visits hNN (in_I H) (in_W H) hw, H1⟩
  · refine ⟨-1, _, ?_, ?_, H1⟩
    · unfold f_W_visits
      rw [e_W_isWidow (in_L H), b1_s, decide_eq_false hw, if_pos by0]
    · unfold f_M_visits
      rw [lt_u, e_M_isWidow, b1_s, th_A, decide_eq_false hw, if_pos by0]
theorem op_able : Op_able Inv := by
  intro σ H e _
  have H1 := inv_thr (x := 0) H
  by_cases he : 0 ≤ e ∧ e ≤ 1
  · exact ⟨_, _, e_W_able hNN (in_I H) (in_W H) (in_L H) (in_R H) he.1 he.2, by rw [able_eq (in_I H) (in_W H)]; exact e_M_able hNN (in_I H) (in_W H) he.1 he.2, H1⟩
  · refine ⟨-1, _, ?_, ?_, H1⟩
    · unfold f_W_able
      rw [e_W_isEnd, b1_s, decide_eq_false he, if_pos by0]
    · unfold f_M_able
      rw [lt_u, e_M_isEnd, b1_s, decide_eq_false he, if_pos by0]
theorem op_open : Op_open Inv := by
  intro σ H e _
  have H1 := inv_thr (x := 0) H
  by_cases he : 0 ≤ e ∧ e ≤ 1
  · exact ⟨_, _, e_W_open hNN (in_I H) (in_W H) (in_L H) (in_R H) he.1 he.2, e_M_open hNN (in_I H) (in_W H) he.1 he.2, H1⟩
  · refine ⟨-1, _, ?_, ?_, H1⟩
    · unfold f_W_open
      rw [e_W_isEnd, b1_s, decide_eq_false he, if_pos by0]
    · unfold f_M_open
      rw [lt_u, e_M_isEnd, b1_s, decide_eq_false he, if_pos by0]
def strF (A : JA) (i : Int) (x : Int × Int) : Int × Int := (max x.1 (if 0 < i ∧ jnB A i = true then x.2 + 1 else 1), if 0 < i ∧ jnB A i = true then x.2 + 1 else 1)
section
variable {σ : JSg} {n p ip : Nat} {A : JA}
theorem e_Row_joined {i : Int} (hI : WfI A) (hW : WfR A) (hL : IslR σ ip A) (hR : RowR σ p A) (h0 : 0 < i) (h1 : i < A 151) : f_Row_joined p ip i σ = some (bi (jnB A i)) := by
  have c := wf_rw hI hW (i := i - 1) (by omega) (by omega)
  have d := wf_rw hI hW (i := i) (by omega) (by omega)
  have x := sid_in hI (c := rwA A (i - 1)) (d := 1) c.2.2.1 c.2.2.2.1 (by omega) (by omega)
  have y := sid_in hI (c := rwA A i) (d := 0) d.2.2.1 d.2.2.2.1 (by omega) (by omega)
  unfold f_Row_joined jnB
  rw [if_pos h0, hR.1, if_pos h1, wi (by omega) (by omega), ck_p (by omega), (hR.2.2.1 (i - 1) (by omega) (by omega)).1, e_Row_sideOf hI hW hL hR (by omega) (by omega) (by omega) (by omega), b1_s, ck_p (by omega), (hR.2.2.1 i (by omega) (by omega)).1, e_Row_sideOf hI hW hL hR (by omega) (by omega) (by omega) (by omega), b1_s, e_Isl_fit hL x.1 (by omega) y.1 (by omega), b1_s]
  cases fitB A (sidA A (rwA A (i - 1)) 1) (sidA A (rwA A i) 0) <;> rfl
theorem e_M_isGap {i : Int} (hI : WfI (σ 181)) (hW : WfR (σ 181)) (h0 : 0 ≤ i) (h1 : i + 1 < σ 181 151) : f_M_isGap i σ = some (bi (!jnB (σ 181) (i + 1))) := by
  have b := hI.2.1
  have b2 := hW.2.1
  have c := wf_rw hI hW (i := i) (by omega) (by omega)
  have d := wf_rw hI hW (i := i + 1) (by omega) (by omega)
  have x := sid_in hI (c := rwA (σ 181) i) (d := 1) c.2.2.1 c.2.2.2.1 (by omega) (by omega)
  have y := sid_in hI (c := rwA (σ 181) (i + 1)) (d := 0) d.2.2.1 d.2.2.2.1 (by omega) (by omega)
  unfold f_M_isGap jnB
  rw [e_M_rowPip hI hW h0 (by omega) (by omega) (by omega), b1_s, wi (by omega) (by omega), e_M_rowPip hI hW (by omega) h1 (by omega) (by omega), b1_s, e_M_fit x.1 (by omega) y.1 (by omega), b1_s, show i + 1 - 1 = i by omega]
  cases fitB (σ 181) (sidA (σ 181) (rwA (σ 181) i) 1) (sidA (σ 181) (rwA (σ 181) (i + 1)) 0) <;> rfl
theorem e_W_gaps {k : Int} (hn : 1000000 < n) (hI : WfI A) (hW : WfR A) (hL : IslR σ 4 A) (hR : RowR σ 11 A) : f_W_gaps n k σ = some (match kth (fun i => !jnB A i) k (A 151) 1 0 with | .inl i => i | .inr c => if k = -1 then c else -1) := by
  have b := hI.2.1
  have b2 := hW.2.1
  apply rt_eq
  unfold f_W_gaps
  refine rt_lt (rt_lt ?_)
  refine rt_w2 (I := fun x i => 1 ≤ i ∧ (i ≤ A 151 ∨ i = 1) ∧ (0 ≤ x ∧ x < i) ∧ kth (fun i => !jnB A i) k (A 151) i x = kth (fun i => !jnB A i) k (A 151) 1 0) (μ := fun x i => (A 151 - i).toNat) ?_ n 0 1 ⟨by omega, by omega, by omega, rfl⟩ (by omega)
  rintro x i ⟨i0, i1, ⟨x0, x1⟩, e1⟩ rc hrc
  rw [hR.1]
  refine rt_ite (fun h => ?_) (fun h => ?_)
  · rw [kth_s h] at e1
    rw [e_Row_joined hI hW hL hR (by omega) h, b1_s, j1_s, wi (x := i + 1) (by omega) (by omega)]
    simp only [lt_u]
    cases c : jnB A i
    · rw [c] at e1
      rw [if_pos by0]
      refine rt_ite (fun d => ?_) (fun d => ?_)
      · rw [if_pos d] at e1
        exact rt_some (by rw [← e1]; rfl)
      · rw [if_neg d] at e1
        rw [wi (by omega) (by omega)]
        exact hrc _ _ ⟨by omega, by omega, by omega, e1⟩ (by omega)
    · rw [c] at e1
      rw [if_neg bn0]
      exact hrc _ _ ⟨by omega, by omega, by omega, e1⟩ (by omega)
  · rw [kth_e (by omega)] at e1
    rw [← e1]
    refine rt_ite (fun d => rt_some ?_) (fun d => rt_some ?_)
    · show x = if k = -1 then x else -1
      rw [if_pos d]
    · show (-1 : Int) = if k = -1 then x else -1
      rw [if_neg d]
theorem e_M_gaps {k : Int} (hn : 1000000 < n) (hI : WfI (σ 181)) (hW : WfR (σ 181)) : f_M_gaps n k σ = some (match kth (fun i => !jnB (σ 181) i) k (σ 181 151) 1 0 with | .inl i => i | .inr c => if k = -1 then c else -1, sp σ 179 0 0) := by
  have b := hI.2.1
  have b2 := hW.2.1
  have eA : sp σ 179 0 0 181 = σ 181 := th_A
  apply rt_eq
  unfold f_M_gaps
  refine rt_lt (rt_lt (rt_lt ?_))
  refine rt_w2 (I := fun x i => 0 ≤ i ∧ (i + 1 ≤ σ 181 151 ∨ i = 0) ∧ (0 ≤ x ∧ x ≤ i) ∧ kth (fun i => !jnB (σ 181) i) k (σ 181 151) (i + 1) x = kth (fun i => !jnB (σ 181) i) k (σ 181 151) 1 0) (μ := fun x i => (σ 181 151 - i).toNat) ?_ n 0 0 ⟨by omega, by omega, by omega, rfl⟩ (by omega)
  rintro x i ⟨i0, i1, ⟨x0, x1⟩, e1⟩ rc hrc
  rw [rmM, b1_s, eA, wi (x := i + 1) (by omega) (by omega)]
  refine rt_ite (fun h => ?_) (fun h => ?_)
  · rw [kth_s h] at e1
    rw [e_M_isGap (by rw [eA]; exact hI) (by rw [eA]; exact hW) i0 (by rw [eA]; exact h), b1_s, j1_s, eA]
    simp only [lt_u]
    cases c : jnB (σ 181) (i + 1)
    · rw [c] at e1
      rw [if_neg (show ¬ bi (!false) = 0 by decide)]
      refine rt_ite (fun d => ?_) (fun d => ?_)
      · rw [if_pos d] at e1
        exact rt_some (by rw [← e1]; rfl)
      · rw [if_neg d] at e1
        rw [wi (by omega) (by omega)]
        exact hrc _ _ ⟨by omega, by omega, by omega, e1⟩ (by omega)
    · rw [c] at e1
      rw [if_pos (show bi (!true) = 0 by decide)]
      exact hrc _ _ ⟨by omega, by omega, by omega, e1⟩ (by omega)
  · rw [kth_e (by omega)] at e1
    rw [← e1]
    refine rt_ite (fun d => rt_some ?_) (fun d => rt_some ?_)
    · show (x, _) = (if k = -1 then x else -1, _)
      rw [if_pos d]
    · show (-1, _) = (if k = -1 then x else -1, _)
      rw [if_neg d]
theorem e_W_stretch (hn : 1000000 < n) (hI : WfI A) (hW : WfR A) (hL : IslR σ 4 A) (hR : RowR σ 11 A) : f_W_stretch n σ = some (fo (strF A) (A 151) 0 (0, 0)).1 := by
  have b := hI.2.1
  have b2 := hW.2.1
  apply rt_eq
  unfold f_W_stretch
  refine rt_lt (rt_lt (rt_lt ?_))
  refine rt_w3 (I := fun x c i => (0 ≤ i ∧ i ≤ A 151) ∧ (0 ≤ c ∧ c ≤ i) ∧ fo (strF A) (A 151) i (x, c) = fo (strF A) (A 151) 0 (0, 0)) (μ := fun x c i => (A 151 - i).toNat) ?_ n 0 0 0 ⟨by omega, by omega, rfl⟩ (by omega)
  rintro x c i ⟨⟨i0, i1⟩, ⟨x0, x1⟩, e1⟩ rc hrc
  rw [hR.1]
  refine rt_ite (fun h => ?_) (fun h => ?_)
  · rw [fo_s h] at e1
    refine rt_c1 (fun u => u = if 0 < i ∧ jnB A i = true then c + 1 else 1) (fun u hu => ?_) (fun j8 h8 => ?_)
    · subst hu
      simp only [lt_u]
      rw [wi (x := i + 1) (by omega) (by omega)]
      refine hrc _ _ _ ⟨by omega, ?_, e1⟩ (by omega)
      split <;> omega
    · rw [j0_s]
      refine rt_ite (fun g => ?_) (fun g => ?_)
      · rw [e_Row_joined hI hW hL hR g h, b1_s, wi (by omega) (by omega)]
        cases d : jnB A i
        · rw [if_pos by0]
          exact h8 _ (by rw [if_neg (by rw [d]; simp)])
        · rw [if_neg bn0]
          exact h8 _ (by rw [if_pos ⟨g, d⟩])
      · exact h8 _ (by rw [if_neg (fun q => g q.1)])
  · rw [fo_e (by omega)] at e1
    exact rt_some (by rw [← e1])
theorem e_M_stretch (hn : 1000000 < n) (hI : WfI (σ 181)) (hW : WfR (σ 181)) : f_M_stretch n σ = some ((fo (strF (σ 181)) (σ 181 151) 0 (0, 0)).1, sp σ 179 0 0) := by
  have b := hI.2.1
  have b2 := hW.2.1
  have eA : sp σ 179 0 0 181 = σ 181 := th_A
  apply rt_eq
  unfold f_M_stretch
  refine rt_lt (rt_lt (rt_lt (rt_lt ?_)))
  refine rt_w3 (I := fun x c i => (0 ≤ i ∧ i ≤ σ 181 151) ∧ (0 ≤ c ∧ c ≤ i) ∧ fo (strF (σ 181)) (σ 181 151) i (x, c) = fo (strF (σ 181)) (σ 181 151) 0 (0, 0)) (μ := fun x c i => (σ 181 151 - i).toNat) ?_ n 0 0 0 ⟨by omega, by omega, rfl⟩ (by omega)
  rintro x c i ⟨⟨i0, i1⟩, ⟨x0, x1⟩, e1⟩ rc hrc
  rw [rmM, b1_s, eA]
  refine rt_ite (fun h => ?_) (fun h => ?_)
  · rw [fo_s h] at e1
    refine rt_c1 (fun u => u = if 0 < i ∧ jnB (σ 181) i = true then c + 1 else 1) (fun u hu => ?_) (fun j8 h8 => ?_)
    · subst hu
      rw [lt_u, e_M_most, b1_s]
      simp only [lt_u]
      rw [wi (x := i + 1) (by omega) (by omega)]
      refine hrc _ _ _ ⟨by omega, ?_, e1⟩ (by omega)
      split <;> omega
    · rw [j0_s]
      refine rt_ite (fun g => ?_) (fun g => ?_)
      · rw [wi (x := i - 1) (by omega) (by omega), e_M_isGap (by rw [eA]; exact hI) (by rw [eA]; exact hW) (by omega) (by rw [eA]; omega), b1_s, wi (by omega) (by omega), eA, show i - 1 + 1 = i by omega]
        cases d : jnB (σ 181) i
        · rw [if_neg (show ¬ bi (!false) = 0 by decide)]
          exact h8 _ (by rw [if_neg (by rw [d]; simp)])
        · rw [if_pos (show bi (!true) = 0 by decide)]
          exact h8 _ (by rw [if_pos ⟨g, d⟩])
      · rw [wi (by omega) (by omega)]
        exact h8 _ (by rw [if_neg (fun q => g q.1)]; omega)
  · rw [fo_e (by omega)] at e1
    exact rt_some (by rw [← e1])
end
theorem op_gaps : Op_gaps Inv := by
  intro σ H k _
  exact ⟨_, _, e_W_gaps hNN (in_I H) (in_W H) (in_L H) (in_R H), e_M_gaps hNN (in_I H) (in_W H), inv_thr H⟩
theorem op_stretch : Op_stretch Inv := by
  intro σ H
  exact ⟨_, _, e_W_stretch hNN (in_I H) (in_W H) (in_L H) (in_R H), e_M_stretch hNN (in_I H) (in_W H), inv_thr H⟩
