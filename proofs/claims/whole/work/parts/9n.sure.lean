/-! LAYER 3za12: sure -/
section
variable {A : JA} {σ s t : JSg} {n : Nat}
theorem an_not {Y M : Nat} (hY : Y < 64) (hM : M < 64) : an32 (Y : Int) (xr32 (M : Int) (-1)) = 0 ↔ ∀ k, Y.testBit k = true → M.testBit k = true := by
  constructor
  · intro h k hk
    have k32 : k < 32 := by
      rcases Nat.lt_or_ge k 32 with g | g
      · exact g
      · have := Nat.testBit_lt_two_pow (i := k) (x := Y) (Nat.lt_of_lt_of_le (show Y < 2 ^ 32 by omega) (Nat.pow_le_pow_right (n := 2) (by decide) g))
        rw [this] at hk; cases hk
    have := congrArg (fun x => bt x k) h
    simp only [bt_and, bt_xor, bt_m1 k k32, bt_0, bt_n (show Y < 2147483648 by omega), bt_n (show M < 2147483648 by omega), hk] at this
    cases c : M.testBit k
    · rw [c] at this; cases this
    · rfl
  · intro h
    refine bt_ext (ok_an _ _) ⟨by decide, by decide⟩ (fun k hk => ?_)
    rw [bt_and, bt_xor, bt_m1 k hk, bt_0, bt_n (by omega), bt_n (by omega)]
    cases c : Y.testBit k
    · rfl
    · rw [h k c]; rfl
theorem an_del {Y w : Nat} (hY : Y < 64) (hw : w < 6) : ∃ Z : Nat, Z < 64 ∧ an32 (Y : Int) (xr32 (sl32 1 (w : Int)) (-1)) = (Z : Int) ∧ ∀ k, Z.testBit k = (Y.testBit k && !decide (k = w)) := by
  have hi : ∀ k, 6 ≤ k → Y.testBit k = false := fun k hk => Nat.testBit_lt_two_pow (Nat.lt_of_lt_of_le (show Y < 2 ^ 6 by omega) (Nat.pow_le_pow_right (n := 2) (by decide) hk))
  have b63 : ∀ k, k < 6 → (63 : Nat).testBit k = true := by decide
  have bits : ∀ k, (Y &&& (63 ^^^ 1 <<< w)).testBit k = (Y.testBit k && !decide (k = w)) := by
    intro k
    rw [Nat.testBit_and, Nat.testBit_xor, bit_one]
    by_cases g : k < 6
    · rw [b63 k g]
      by_cases e : k = w
      · rw [decide_eq_true e, decide_eq_true e.symm]; rfl
      · rw [decide_eq_false e, decide_eq_false (fun q => e q.symm)]; rfl
    · rw [hi k (by omega)]; rfl
  have lt : Y &&& (63 ^^^ 1 <<< w) < 64 := Nat.lt_of_le_of_lt Nat.and_le_left hY
  refine ⟨Y &&& (63 ^^^ 1 <<< w), lt, ?_, bits⟩
  refine bt_ext (ok_an _ _) (ok_nat (by omega)) (fun k hk => ?_)
  rw [bt_and, bt_xor, bt_m1 k hk, bt_n (by omega), bt_bit (by omega) (by omega), bt_n (by omega), bits]
  by_cases e : k = w
  · rw [decide_eq_true e, decide_eq_true (show (k : Int) = (w : Int) by omega)]; rfl
  · rw [decide_eq_false e, decide_eq_false (show ¬ (k : Int) = (w : Int) by omega)]; rfl
theorem e_canDeal {T : Nat} {al : Nat → Nat → Bool} (hn : 1000000 < n) (hI : WfI A) (hM : WfM A) (hB : DwB A s) (hT : T ≤ 28) (h5 : s 116 5 = (T : Nat)) (hA : AlP A T al s) : ∃ b : Bool, f_Dlr_canDeal n s = some (bi b) ∧ (b = true ↔ Hal (WN A) al T (dN A)) := by
  have W6 := w6 hI
  have pw : 2 ^ WN A ≤ 64 := Nat.pow_le_pow_right (n := 2) (by decide) W6.1
  have p0 := Nat.two_pow_pos (WN A)
  have key : Ret (f_Dlr_canDeal n s) (fun z => ∃ b : Bool, z = bi b ∧ (b = true ↔ Hal (WN A) al T (dN A))) := by
    unfold f_Dlr_canDeal
    refine rt_lt ?_
    refine rt_w1 (I := fun (x : Int) => ∃ M : Nat, x = M ∧ M ≤ 2 ^ WN A ∧ ∀ S, S < M → thr (WN A) al S T ≤ inS S (dN A) (WN A)) (μ := fun (x : Int) => (64 - x).toNat) ?_ n _ ⟨0, rfl, by omega, fun S hS => absurd hS (Nat.not_lt_zero _)⟩ (by omega)
    rintro x ⟨M, rfl, hM2, hS⟩ rc hrc
    have e41 : s 4 1 = ((WN A : Nat) : Int) := hB.1.1.trans W6.2
    rw [e41, full_e (by omega)]
    refine rt_ite (fun g => ?_) (fun g => ?_)
    · refine rt_lt (rt_lt ?_)
      refine rt_w2 (I := fun (x y : Int) => ∃ j : Nat, x = (thr (WN A) al M j : Nat) ∧ y = j ∧ j ≤ T ∧ x ≤ y) (μ := fun (x y : Int) => (28 - y).toNat) ?_ n _ _ ⟨0, rfl, rfl, by omega, Int.le_refl _⟩ (by omega)
      rintro x y ⟨j, rfl, rfl, hj, hle⟩ rc2 hrc2
      rw [h5]
      refine rt_ite (fun g2 => ?_) (fun g2 => ?_)
      · obtain ⟨Y, y1, y2, y3⟩ := hA j (by omega)
        rw [j1_s, Int.toNat_natCast, y2, wi (x := (j : Int) + 1) (by omega) (by omega)]
        simp only [lt_u]
        have iff : an32 (Y : Int) (xr32 (M : Int) (-1)) = 0 ↔ sub_ (WN A) al M j := by
          rw [an_not y1 (by omega)]
          constructor
          · intro h w hw a
            exact h w (by rw [y3, decide_eq_true hw, a]; rfl)
          · intro h k hk
            rw [y3, Bool.and_eq_true, decide_eq_true_eq] at hk
            exact h k hk.1 hk.2
        refine rt_chk (by omega) (rt_ite (fun z => ?_) (fun z => ?_))
        · have e := thr_p (iff.mp z)
          rw [wi (by omega) (by omega)]
          exact hrc2 _ _ ⟨j + 1, by rw [e]; push_cast; rfl, by push_cast; rfl, by omega, by omega⟩ (by omega)
        · have e := thr_n (fun q => z (iff.mpr q))
          rw [wi (by omega) (by omega)]
          exact hrc2 _ _ ⟨j + 1, by rw [e]; push_cast; rfl, by push_cast; rfl, by omega, by omega⟩ (by omega)
      · obtain rfl : j = T := by omega
        rw [e_dealtTo hn hI hM hB (by omega), b1_s]
        refine rt_ite (fun z => ?_) (fun z => ?_)
        · refine rt_some ⟨false, rfl, fun q => (by cases q), fun h => ?_⟩
          have := h M (by omega)
          omega
        · rw [lt_u, wi (by omega) (by omega)]
          refine hrc _ ⟨M + 1, by push_cast; rfl, by omega, fun S hS2 => ?_⟩ (by omega)
          by_cases e : S = M
          · rw [e]; omega
          · exact hS S (by omega)
    · refine rt_some ⟨true, rfl, fun _ S hS2 => hS S (by omega), fun _ => rfl⟩
  obtain ⟨z, e, b, e1, e2⟩ := key
  exact ⟨b, by rw [e, e1], e2⟩
def al2 (A : JA) (j0 w0 j w : Nat) : Bool := alB A j w && !(decide (j = j0) && decide (w = w0))
/-- stone j is surely w's -/
def surJ (A : JA) (w j : Nat) : Prop := ¬ 0 < CV (WN A) (al2 A j w) (unL A).length (dN A)
def surP (A : JA) (w : Nat) (x : Int) : Prop := okI x ∧ ∀ k, bt x k = true ↔ ∃ j, j < (unL A).length ∧ (unL A).getD j 0 = (k : Int) ∧ dealV A (-1) (-1) ≠ 0 ∧ surJ A w j
theorem sur_u {w : Nat} {x y : Int} (h1 : surP A w x) (h2 : surP A w y) : x = y := by
  refine bt_ext h1.1 h2.1 (fun k _ => ?_)
  have e := (h1.2 k).trans (h2.2 k).symm
  cases a : bt x k <;> cases b : bt y k
  · rfl
  · rw [a, b] at e; exact absurd (e.mpr rfl) (by decide)
  · rw [a, b] at e; exact absurd (e.mp rfl) (by decide)
  · rfl
theorem al_B {t w : Nat} (ht : t < (unL A).length) : alA A (-1) (-1) t w = alB A t w := by
  have := hdL_g (P := unP A) (k := (A 1).toNat) (i := t) ht
  unfold alA alS alB
  rw [decide_eq_true (show (unL A).getD t 0 ≠ -1 from fun q => by have h := this.1; have : (unL A).getD t 0 = (hdL (unP A) (A 1).toNat).getD t 0 := rfl; omega), Bool.true_or, Bool.and_true]
theorem deal_B : dealV A (-1) (-1) = if sumN (dN A) (WN A) = (unL A).length then CV (WN A) (alB A) (unL A).length (dN A) else 0 := by
  unfold dealV
  rw [cv_al _ _ (fun j w hj _ => al_B hj)]
theorem e_certain {w : Nat} (hn : 1000000 < n) (hI : WfI A) (hM : WfM A) (hB : DwB A s) (hw : w < WN A) : Ret (f_Dlr_certain n (w : Int) s) (fun z => Agr (fun a j => (a = 116 ∧ j = 5) ∨ a = 117 ∨ a = 118) s z.2 ∧ surP A w z.1) := by
  have W6 := w6 hI
  have u28 := un28 hI
  unfold f_Dlr_certain
  refine rt_b2 (e_gather hn hI hM hB) (fun r u hu => ?_)
  obtain ⟨u1, ⟨u2, u2'⟩, u3, u4⟩ := hu
  have u4 : r = bi (decide (sumN (dN A) (WN A) = (unL A).length)) := u4
  subst u4
  have u1 : Agr (fun a j => (a = 116 ∧ j = 5) ∨ a = 117 ∨ a = 118) s u := u1
  have u2 : u 116 5 = ((unL A).length : Nat) := u2
  have u2' : ∀ j, j < (unL A).length → u 117 j = (unL A).getD j 0 := u2'
  have u3 : AlP A (unL A).length (alB A) u := u3
  have none_ : dealV A (-1) (-1) = 0 → surP A w 0 := by
    intro h
    refine ⟨⟨by decide, by decide⟩, fun k => ?_⟩
    rw [bt_0]
    constructor
    · intro q; cases q
    · rintro ⟨j, -, -, q, -⟩
      exact absurd h q
  by_cases hs : sumN (dN A) (WN A) = (unL A).length
  · rw [decide_eq_true hs, if_neg bn0]
    have hBu : DwB A u := DwB_ag hB (fun a j hq => u1 a j (by omega))
    obtain ⟨b, b1, b2⟩ := e_canDeal (T := (unL A).length) (al := alB A) hn hI hM hBu u28 u2 u3
    have dl : dealV A (-1) (-1) ≠ 0 ↔ Hal (WN A) (alB A) (unL A).length (dN A) := by
      rw [deal_B, if_pos hs]
      have := hall (W := WN A) (al := alB A) (unL A).length (dN A)
      constructor
      · intro q; exact (this.mp (by omega)).2
      · intro q; have := this.mpr ⟨hs, q⟩; omega
    rw [b1, b1_s]
    cases b
    · rw [if_pos by0]
      refine rt_some ⟨u1, none_ ?_⟩
      exact Classical.byContradiction fun q => by have := b2.mpr (dl.mp q); cases this
    · have nz := dl.mpr (b2.mp rfl)
      rw [if_neg bn0]
      refine rt_lt (rt_lt ?_)
      refine rt_w3 (I := fun (x y : Int) (v : JSg) => ∃ j : Nat, y = j ∧ j ≤ (unL A).length ∧ okI x ∧ (∀ k, bt x k = true ↔ ∃ i, i < j ∧ (unL A).getD i 0 = (k : Int) ∧ surJ A w i) ∧ ∀ a j, v a j = u a j) (μ := fun (x y : Int) (v : JSg) => (28 - y).toNat) ?_ n _ _ _ ⟨0, rfl, by omega, ⟨by decide, by decide⟩, fun k => ⟨fun q => (by rw [bt_0] at q; cases q), fun ⟨i, q, _⟩ => absurd q (Nat.not_lt_zero _)⟩, fun _ _ => rfl⟩ (by omega)
      rintro x y v ⟨j, rfl, hj, xo, xb, va⟩ rc hrc
      obtain rfl : v = u := funext fun a => funext fun j => va a j
      rw [u2]
      refine rt_ite (fun g => ?_) (fun g => ?_)
      · obtain ⟨Y, y1, y2, y3⟩ := u3 j (by omega)
        obtain ⟨Z, z1, z2, z3⟩ := an_del (w := w) y1 (by omega)
        rw [Int.toNat_natCast, y2, lt_u, z2, lt_u]
        have hg := hdL_g (P := unP A) (k := (A 1).toNat) (i := j) (by unfold unL at g; omega)
        have hgA : 0 ≤ (unL A).getD j 0 ∧ (unL A).getD j 0 < 28 := by
          have b28 := hI.2.1
          have h1 := hg.1
          have h2 := hg.2.1
          have : (unL A).getD j 0 = (hdL (unP A) (A 1).toNat).getD j 0 := rfl
          omega
        have hAl : AlP A (unL A).length (al2 A j w) (sp v 118 j (Z : Int)) := by
          intro i hi
          by_cases c : i = j
          · subst c
            refine ⟨Z, z1, sp_eq, fun k => ?_⟩
            rw [z3, y3]
            unfold al2
            rw [decide_eq_true (show i = i from rfl), Bool.true_and, Bool.and_assoc]
          · obtain ⟨Y', a1, a2, a3⟩ := u3 i hi
            refine ⟨Y', a1, by rw [sp_nj c]; exact a2, fun k => ?_⟩
            rw [a3]
            unfold al2
            rw [decide_eq_false c, Bool.false_and, Bool.not_false, Bool.and_true]
        obtain ⟨b', c1, c2⟩ := e_canDeal (s := sp v 118 j (Z : Int)) (T := (unL A).length) (al := al2 A j w) hn hI hM (DwB_ag hBu (fun a i hq => by rw [sp_nq (by omega)])) u28 (by rw [sp_nq (by decide)]; exact u2) hAl
        have back : ∀ a i, sp (sp v 118 j (Z : Int)) 118 j (Y : Int) a i = v a i := by
          intro a i
          by_cases e1 : a = 118
          · subst e1
            by_cases e2 : i = j
            · subst e2
              rw [sp_eq, y2]
            · rw [sp_nj e2, sp_nj e2]
          · rw [sp_nq e1, sp_nq e1]
        have sj : surJ A w j ↔ b' = false := by
          unfold surJ
          rw [hall (W := WN A) (al := al2 A j w) (unL A).length (dN A)]
          cases b'
          · exact ⟨fun _ => rfl, fun _ q => by have := c2.mpr q.2; cases this⟩
          · exact ⟨fun q => absurd ⟨hs, c2.mp rfl⟩ q, fun q => by cases q⟩
        rw [c1, b1_s, j1_s, sp_nq (show (117 : Nat) ≠ 118 by decide), u2' j (by omega), wi (x := (j : Int) + 1) (by omega) (by omega)]
        simp only [lt_u]
        refine rt_chk (by omega) (rt_chk (by omega) ?_)
        cases b'
        · rw [if_pos by0]
          refine rt_chk (by omega) (rt_chk (by omega) (hrc _ _ _ ⟨j + 1, by push_cast; rfl, by omega, ok_or _ _, fun k => ?_, back⟩ (by omega)))
          rw [bt_or, bt_bit hgA.1 (by omega), Bool.or_eq_true, decide_eq_true_eq, xb]
          constructor
          · rintro (⟨i, i1, i2, i3⟩ | q)
            · exact ⟨i, by omega, i2, i3⟩
            · exact ⟨j, by omega, q.symm, sj.mpr rfl⟩
          · rintro ⟨i, i1, i2, i3⟩
            by_cases e : i = j
            · subst e; exact Or.inr i2.symm
            · exact Or.inl ⟨i, by omega, i2, i3⟩
        · rw [if_neg bn0]
          refine rt_chk (by omega) (hrc _ _ _ ⟨j + 1, by push_cast; rfl, by omega, xo, fun k => ?_, back⟩ (by omega))
          rw [xb]
          constructor
          · rintro ⟨i, i1, i2, i3⟩
            exact ⟨i, by omega, i2, i3⟩
          · rintro ⟨i, i1, i2, i3⟩
            by_cases e : i = j
            · subst e
              have := sj.mp i3
              cases this
            · exact ⟨i, by omega, i2, i3⟩
      · obtain rfl : j = (unL A).length := by omega
        refine rt_some ⟨u1, xo, fun k => ?_⟩
        rw [show bt (x, v).1 k = bt x k from rfl, xb]
        constructor
        · rintro ⟨i, i1, i2, i3⟩
          exact ⟨i, i1, i2, nz, i3⟩
        · rintro ⟨i, i1, i2, -, i3⟩
          exact ⟨i, i1, i2, i3⟩
  · rw [decide_eq_false hs, if_pos by0]
    exact rt_some ⟨u1, none_ (by rw [deal_B, if_neg hs])⟩
theorem hdL_st {P : Int → Bool} : ∀ (k i j : Nat), i < j → j < (hdL P k).length → (hdL P k).getD i 0 < (hdL P k).getD j 0 := by
  intro k
  induction k with
  | zero => intro i j _ h; exact absurd h (Nat.not_lt_zero _)
  | succ k ih =>
    intro i j hij hj
    rw [hdL_s] at hj ⊢
    by_cases g : P k = true
    · rw [if_pos g, List.length_append] at hj
      have hj : j < (hdL P k).length + 1 := hj
      rw [if_pos g]
      have e1 : (hdL P k ++ [(k : Int)]).getD i 0 = (hdL P k).getD i 0 := by rw [List.getD_eq_getElem?_getD, List.getElem?_append_left (by omega), ← List.getD_eq_getElem?_getD]
      rw [e1]
      by_cases c : j < (hdL P k).length
      · have e2 : (hdL P k ++ [(k : Int)]).getD j 0 = (hdL P k).getD j 0 := by rw [List.getD_eq_getElem?_getD, List.getElem?_append_left c, ← List.getD_eq_getElem?_getD]
        rw [e2]
        exact ih i j hij c
      · obtain rfl : j = (hdL P k).length := by omega
        have e2 : (hdL P k ++ [(k : Int)]).getD (hdL P k).length 0 = (k : Int) := by
          rw [List.getD_eq_getElem?_getD, List.getElem?_append_right (Nat.le_refl _), Nat.sub_self]
          rfl
        rw [e2]
        exact (hdL_g (P := P) (k := k) hij).2.1
    · rw [if_neg g] at hj ⊢
      exact ih i j hij hj
theorem un_inj {i j : Nat} (hi : i < (unL A).length) (hj : j < (unL A).length) (e : (unL A).getD i 0 = (unL A).getD j 0) : i = j := by
  rcases Nat.lt_trichotomy i j with g | g | g
  · have : (unL A).getD i 0 < (unL A).getD j 0 := hdL_st _ _ _ g hj
    omega
  · exact g
  · have : (unL A).getD j 0 < (unL A).getD i 0 := hdL_st _ _ _ g hi
    omega
/-- the reference's test is the same -/
theorem sur_m {w j : Nat} (hw : w < WN A) (hj : j < (unL A).length) (nz : dealV A (-1) (-1) ≠ 0) : (mayB A ((unL A).getD j 0) w = true ∧ dealV A ((unL A).getD j 0) w = dealV A (-1) (-1)) ↔ surJ A w j := by
  have hs : sumN (dN A) (WN A) = (unL A).length := Classical.byContradiction fun q => nz (by rw [deal_B, if_neg q])
  have eA : dealV A (-1) (-1) = CV (WN A) (alB A) (unL A).length (dN A) := by rw [deal_B, if_pos hs]
  have eD : dealV A ((unL A).getD j 0) w = CV (WN A) (alA A ((unL A).getD j 0) w) (unL A).length (dN A) := by unfold dealV; rw [if_pos hs]
  have a1j : ∀ u, alA A ((unL A).getD j 0) w j u = (alB A j u && decide (u = w)) := by
    intro u
    unfold alA alS alB
    rw [decide_eq_false (show ¬ (unL A).getD j 0 ≠ (unL A).getD j 0 from fun q => q rfl), Bool.false_or]
    congr 1
    by_cases e : u = w
    · rw [decide_eq_true e, decide_eq_true (show (u : Int) = (w : Int) by omega)]
    · rw [decide_eq_false e, decide_eq_false (show ¬ (u : Int) = (w : Int) by omega)]
  /- one that has no more than the first ones -/
  let al1 : Nat → Nat → Bool := fun i u => if i = j then alA A ((unL A).getD j 0) w j u else alB A i u
  have c1 : CV (WN A) (alA A ((unL A).getD j 0) w) (unL A).length (dN A) = CV (WN A) al1 (unL A).length (dN A) := by
    refine cv_al _ _ (fun i u hi _ => ?_)
    show _ = if i = j then alA A ((unL A).getD j 0) w j u else alB A i u
    by_cases e : i = j
    · rw [if_pos e, e]
    · rw [if_neg e]
      unfold alA alS alB
      rw [decide_eq_true (show (unL A).getD i 0 ≠ (unL A).getD j 0 from fun q => e (un_inj hi hj q)), Bool.true_or, Bool.and_true]
  have sp := cv_split (W := WN A) (al := alB A) (al1 := al1) (al2 := al2 A j w) (j := j) (fun u _ => by
    show alB A j u = true ↔ (if j = j then alA A ((unL A).getD j 0) w j u else alB A j u) = true ∨ al2 A j w j u = true
    rw [if_pos rfl, a1j]
    unfold al2
    rw [decide_eq_true (show j = j from rfl), Bool.true_and]
    cases alB A j u <;> cases decide (u = w) <;> decide) (fun u _ => by
    show ¬ ((if j = j then alA A ((unL A).getD j 0) w j u else alB A j u) = true ∧ al2 A j w j u = true)
    rw [if_pos rfl, a1j]
    unfold al2
    rw [decide_eq_true (show j = j from rfl), Bool.true_and]
    cases alB A j u <;> cases decide (u = w) <;> decide) (fun i u hi => if_neg hi) (fun i u hi => by
    unfold al2
    rw [decide_eq_false hi, Bool.false_and, Bool.not_false, Bool.and_true]) ((unL A).length - (j + 1)) (dN A)
  rw [show j + 1 + ((unL A).length - (j + 1)) = (unL A).length by omega, ← c1, ← eA, ← eD] at sp
  unfold surJ
  constructor
  · rintro ⟨-, q⟩
    omega
  · intro q
    refine ⟨?_, by omega⟩
    cases m : mayB A ((unL A).getD j 0) w
    · exfalso
      have : CV (WN A) (al2 A j w) (unL A).length (dN A) = CV (WN A) (alB A) (unL A).length (dN A) := by
        refine cv_al _ _ (fun i u hi _ => ?_)
        unfold al2
        by_cases e : i = j ∧ u = w
        · obtain ⟨rfl, rfl⟩ := e
          have : alB A i u = false := m
          rw [this]; rfl
        · have : (decide (i = j) && decide (u = w)) = false := by
            cases c : decide (i = j) && decide (u = w)
            · rfl
            · rw [Bool.and_eq_true, decide_eq_true_eq, decide_eq_true_eq] at c
              exact absurd c e
          rw [this, Bool.not_false, Bool.and_true]
      omega
    · rfl
end
