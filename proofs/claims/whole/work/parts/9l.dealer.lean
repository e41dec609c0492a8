/-! LAYER 3za10: the class deals -/
section
variable {A : JA} {σ s t : JSg} {n : Nat}
/-- what the class's dealer reads -/
def DwB (A : JA) (s : JSg) : Prop := IslR s 4 A ∧ MemR s 18 A
theorem DwB_ag (hB : DwB A s) (g : ∀ a j, a ≤ 20 → t a j = s a j) : DwB A t := ⟨IslR_ag (fun q j hq => g q j (by omega)) hB.1, MemR_ag (fun q j hq => g q j (by omega)) hB.2⟩
theorem dw_n (hI : WfI A) (hM : WfM A) (hB : DwB A s) {w : Nat} (hw : w < 6) : s 19 w = (dN A w : Nat) ∧ dN A w < 8 ∧ s 20 w = A (200 + w) ∧ (0 ≤ A (200 + w) ∧ A (200 + w) < 128) := by
  have m := hB.2.2.2 w (by omega) (by omega)
  have b := hM.2.2.1 w (by omega) (by omega)
  rw [Int.toNat_natCast, show ((194 : Int) + (w : Int)).toNat = 194 + w by omega, show ((200 : Int) + (w : Int)).toNat = 200 + w by omega] at m
  rw [show ((194 : Int) + (w : Int)).toNat = 194 + w by omega, show ((200 : Int) + (w : Int)).toNat = 200 + w by omega] at b
  have m1 : s 19 w = A (194 + w) := m.1
  have m2 : s 20 w = A (200 + w) := m.2
  unfold dN
  omega
theorem ins6 {Y i : Nat} (h : Y < 64) (hi : i < 6) : ins Y i < 64 := ins_lt (n := 6) h hi
theorem e_widowsFor {q : Nat} (hn : 1000000 < n) (hI : WfI A) (hM : WfM A) (hB : DwB A s) (hq : (q : Int) < A 1) : ∃ Y : Nat, f_Dlr_widowsFor n (q : Int) s = some (Y : Int) ∧ Y < 64 ∧ ∀ w, Y.testBit w = (decide (w < WN A) && mayB A q w) := by
  have W6 := w6 hI
  have b1 := hI.2.1
  have p0 := hI.2.2.2.2 q 0 (by omega) hq (by omega) (by omega)
  have p1 := hI.2.2.2.2 q 1 (by omega) hq (by omega) (by omega)
  have l := hB.1.2.2.2.1 q (by omega) hq
  rw [Int.toNat_natCast] at l
  have l6 : s 6 q = pipA A q 0 := l.1
  have l7 : s 7 q = pipA A q 1 := l.2
  obtain ⟨a, ha⟩ : ∃ a : Nat, pipA A q 0 = a := ⟨(pipA A q 0).toNat, by omega⟩
  obtain ⟨b, hb⟩ : ∃ b : Nat, pipA A q 1 = b := ⟨(pipA A q 1).toNat, by omega⟩
  have key : Ret (f_Dlr_widowsFor n (q : Int) s) (fun z => ∃ Y : Nat, z = (Y : Int) ∧ Y < 64 ∧ ∀ w, Y.testBit w = (decide (w < WN A) && mayB A q w)) := by
    unfold f_Dlr_widowsFor
    rw [Int.toNat_natCast, l6, l7, ha, hb]
    refine rt_chk (by omega) (rt_chk (by omega) (rt_lt (rt_lt (rt_lt ?_))))
    refine rt_w2 (I := fun (x y : Int) => ∃ Y m : Nat, x = Y ∧ y = m ∧ m ≤ WN A ∧ Y < 64 ∧ ∀ w, Y.testBit w = (decide (w < m) && mayB A q w)) (μ := fun (x y : Int) => (6 - y).toNat) ?_ n _ _ ⟨0, 0, rfl, rfl, by omega, by decide, fun w => by rw [Nat.zero_testBit]; rfl⟩ (by omega)
    rintro x y ⟨Y, m, rfl, rfl, hm, hY, hb2⟩ rc hrc
    have e41 : s 4 1 = ((WN A : Nat) : Int) := hB.1.1.trans W6.2
    rw [e41]
    refine rt_ite (fun g => ?_) (fun g => ?_)
    · obtain ⟨-, -, d3, d4⟩ := dw_n hI hM hB (show m < 6 by omega)
      obtain ⟨P, hP⟩ : ∃ P : Nat, A (200 + m) = P := ⟨(A (200 + m)).toNat, by omega⟩
      rw [j1_s, Int.toNat_natCast, d3, hP, wi (x := (m : Int) + 1) (by omega) (by omega)]
      simp only [lt_u]
      have one : ∀ c : Nat, c < 7 → sl32 1 (c : Int) = ((1 <<< c : Nat) : Int) ∧ 1 <<< c < 128 := by decide +kernel
      have o7 : (1 <<< a ||| 1 <<< b) < 128 := Nat.or_lt_two_pow (n := 7) (one a (by omega)).2 (one b (by omega)).2
      have eq : an32 (P : Int) (or32 (sl32 1 (a : Int)) (sl32 1 (b : Int))) = ((P &&& (1 <<< a ||| 1 <<< b) : Nat) : Int) := by
        rw [(one a (by omega)).1, (one b (by omega)).1, or_n (by have := (one a (by omega)).2; omega) (by have := (one b (by omega)).2; omega), an_n (by omega)]
      have mb : mayB A q m = true ↔ P &&& (1 <<< a ||| 1 <<< b) = 0 := by
        have z := and0_iff (a := P) (b := 1 <<< a ||| 1 <<< b) (by omega)
        rw [z]
        unfold mayB
        rw [ha, hb, hP, Int.toNat_natCast, Int.toNat_natCast, bt_n (by omega), bt_n (by omega)]
        constructor
        · intro h
          rintro ⟨c, c1, c2, c3⟩
          rw [Nat.testBit_or, bit_one, bit_one, Bool.or_eq_true, decide_eq_true_eq, decide_eq_true_eq] at c3
          rw [Bool.and_eq_true, Bool.not_eq_true', Bool.not_eq_true'] at h
          rcases c3 with rfl | rfl
          · rw [h.1] at c2; cases c2
          · rw [h.2] at c2; cases c2
        · intro h
          rw [Bool.and_eq_true, Bool.not_eq_true', Bool.not_eq_true']
          constructor
          · cases c : P.testBit a
            · rfl
            · exact absurd ⟨a, by omega, c, by rw [Nat.testBit_or, bit_one, decide_eq_true rfl, Bool.true_or]⟩ h
          · cases c : P.testBit b
            · rfl
            · exact absurd ⟨b, by omega, c, by rw [Nat.testBit_or, bit_one (k := b), decide_eq_true rfl, Bool.or_true]⟩ h
      rw [eq]
      refine rt_chk (by omega) (rt_ite (fun g2 => ?_) (fun g2 => ?_))
      · have my := mb.mpr (by omega)
        rw [ins_e (by omega) (by omega)]
        refine hrc _ _ ⟨ins Y m, m + 1, rfl, by push_cast; rfl, by omega, ins6 hY (by omega), fun w => ?_⟩ (by omega)
        rw [ins_b, hb2]
        by_cases c : m = w
        · subst c
          rw [my, decide_eq_true rfl, decide_eq_true (show m < m + 1 by omega), Bool.or_true]; rfl
        · rw [decide_eq_false c, Bool.or_false]
          by_cases c2 : w < m
          · rw [decide_eq_true c2, decide_eq_true (show w < m + 1 by omega)]
          · rw [decide_eq_false c2, decide_eq_false (show ¬ w < m + 1 by omega)]
      · refine hrc _ _ ⟨Y, m + 1, rfl, by push_cast; rfl, by omega, hY, fun w => ?_⟩ (by omega)
        rw [hb2]
        by_cases c : m = w
        · subst c
          have : mayB A q m = false := by
            cases c : mayB A q m
            · rfl
            · exact absurd (mb.mp c) (by omega)
          rw [this, Bool.and_false, Bool.and_false]
        · by_cases c2 : w < m
          · rw [decide_eq_true c2, decide_eq_true (show w < m + 1 by omega)]
          · rw [decide_eq_false c2, decide_eq_false (show ¬ w < m + 1 by omega)]
    · obtain rfl : m = WN A := by omega
      exact rt_some ⟨Y, rfl, hY, hb2⟩
  obtain ⟨z, e, Y, e1, e2, e3⟩ := key
  exact ⟨Y, by rw [e, e1], e2, e3⟩
theorem e_dealtTo {M : Nat} (hn : 1000000 < n) (hI : WfI A) (hM : WfM A) (hB : DwB A s) (hm : M < 64) : f_Dlr_dealtTo n (M : Int) s = some ((inS M (dN A) (WN A) : Nat) : Int) := by
  have W6 := w6 hI
  apply rt_eq
  unfold f_Dlr_dealtTo
  refine rt_lt (rt_lt ?_)
  refine rt_w2 (I := fun (x y : Int) => ∃ m : Nat, x = ((inS M (dN A) m : Nat) : Int) ∧ y = m ∧ m ≤ WN A) (μ := fun (x y : Int) => (6 - y).toNat) ?_ n _ _ ⟨0, rfl, rfl, by omega⟩ (by omega)
  rintro x y ⟨m, rfl, rfl, hm⟩ rc hrc
  have e41 : s 4 1 = ((WN A : Nat) : Int) := hB.1.1.trans W6.2
  rw [e41]
  refine rt_ite (fun g => ?_) (fun g => ?_)
  · obtain ⟨d1, d2, -, -⟩ := dw_n hI hM hB (show m < 6 by omega)
    have cap := sum_cap (f := fun w => if M.testBit w then dN A w else 0) (b := 7) m (fun w hw => by
      have := (dw_n hI hM hB (show w < 6 by omega)).2.1
      show (if M.testBit w then dN A w else 0) ≤ 7
      split <;> omega)
    have cap : inS M (dN A) m ≤ m * 7 := cap
    have m42 : m * 7 ≤ 42 := by omega
    rw [j1_s, has_n (by omega) (by omega), Int.toNat_natCast, d1, wi (x := (m : Int) + 1) (by omega) (by omega)]
    simp only [lt_u]
    have e : inS M (dN A) (m + 1) = inS M (dN A) m + (if M.testBit m then dN A m else 0) := rfl
    by_cases c : M.testBit m = true
    · rw [if_pos c, if_neg (by decide)]
      rw [if_pos c] at e
      refine rt_chk (by omega) ?_
      rw [wi (by omega) (by omega)]
      exact hrc _ _ ⟨m + 1, by rw [e]; push_cast; rfl, by push_cast; rfl, by omega⟩ (by omega)
    · rw [if_neg c, if_pos rfl]
      rw [if_neg c] at e
      rw [wi (by omega) (by omega)]
      exact hrc _ _ ⟨m + 1, by rw [e]; push_cast; rfl, by push_cast; rfl, by omega⟩ (by omega)
  · obtain rfl : m = WN A := by omega
    exact rt_some rfl
/-- what the dealer holds of the stones unseen -/
def AlP (A : JA) (T : Nat) (al : Nat → Nat → Bool) (s : JSg) : Prop := ∀ j, j < T → ∃ Y : Nat, Y < 64 ∧ s 118 j = Y ∧ ∀ w, Y.testBit w = (decide (w < WN A) && al j w)
def GaP (A : JA) (s : JSg) : Prop := s 116 5 = ((unL A).length : Nat) ∧ ∀ j, j < (unL A).length → s 117 j = (unL A).getD j 0
def alB (A : JA) (j w : Nat) : Bool := mayB A ((unL A).getD j 0) w
theorem full_bit {W w : Nat} : (2 ^ W - 1).testBit w = decide (w < W) := Nat.testBit_two_pow_sub_one W w
theorem e_gather (hn : 1000000 < n) (hI : WfI A) (hM : WfM A) (hB : DwB A s) : Ret (f_Dlr_gather n s) (fun z => Agr (fun a j => (a = 116 ∧ j = 5) ∨ a = 117 ∨ a = 118) s z.2 ∧ GaP A z.2 ∧ AlP A (unL A).length (alB A) z.2 ∧ z.1 = bi (decide (sumN (dN A) (WN A) = (unL A).length))) := by
  have W6 := w6 hI
  have b1 := hI.2.1
  have b193 := hM.1
  unfold f_Dlr_gather
  refine rt_lt (rt_lt ?_)
  refine rt_w2 (I := fun (x : Int) (u : JSg) => ∃ q : Nat, x = q ∧ x ≤ A 1 ∧ Agr (fun a j => (a = 116 ∧ j = 5) ∨ a = 117 ∨ a = 118) s u ∧ u 116 5 = ((hdL (unP A) q).length : Nat) ∧ (∀ j, j < (hdL (unP A) q).length → u 117 j = (hdL (unP A) q).getD j 0 ∧ ∃ Y : Nat, Y < 64 ∧ u 118 j = Y ∧ ∀ w, Y.testBit w = (decide (w < WN A) && mayB A ((hdL (unP A) q).getD j 0) w))) (μ := fun (x : Int) (u : JSg) => (A 1 - x).toNat) ?_ n _ _ ⟨0, rfl, by omega, ag_sp ag_refl (by omega), sp_eq, fun j hj => absurd hj (Nat.not_lt_zero _)⟩ (by omega)
  rintro x u ⟨q, rfl, hq, ua, u5, uj⟩ rc hrc
  have hBu : DwB A u := DwB_ag hB (fun a j hq => ua a j (by omega))
  have e42 : u 4 2 = A 1 := hBu.1.2.1
  have e183 : u 18 3 = A 193 := hBu.2.2.1
  have ql := hdL_len (P := unP A) q
  rw [e42]
  refine rt_ite (fun g => ?_) (fun g => ?_)
  · unfold f_Mem_hasSeen
    rw [e183, an_bi (b := bt (A 193) ((q : Int)).toNat) (by omega) (by omega) rfl, b1_s, j1_s, wi (x := (q : Int) + 1) (by omega) (by omega)]
    simp only [lt_u]
    cases hb : bt (A 193) ((q : Int)).toNat
    · have hP : unP A q = true := by unfold unP; rw [hb]; rfl
      have eL : hdL (unP A) (q + 1) = hdL (unP A) q ++ [(q : Int)] := by rw [hdL_s, if_pos hP]
      rw [if_pos by0, u5, Int.toNat_natCast]
      have hB2 : DwB A (sp u 117 (hdL (unP A) q).length (q : Int)) := DwB_ag hBu (fun a j hq => by rw [sp_nq (by omega)])
      obtain ⟨Y, y1, y2, y3⟩ := e_widowsFor hn hI hM hB2 g
      rw [y1, b1_s, sp_nq (show (116 : Nat) ≠ 117 by decide), u5, Int.toNat_natCast, sp_nq (show (116 : Nat) ≠ 118 by decide), sp_nq (show (116 : Nat) ≠ 117 by decide), u5, wi (by omega) (by omega)]
      refine rt_chk (by omega) (rt_chk (by omega) (hrc _ _ ⟨q + 1, by push_cast; rfl, by omega, ag_sp (ag_sp (ag_sp ua (by omega)) (by omega)) (by omega), by rw [sp_eq, eL, List.length_append]; push_cast; rfl, fun j hj => ?_⟩ (by omega)))
      rw [eL, List.length_append] at hj
      have hj : j < (hdL (unP A) q).length + 1 := hj
      rw [eL, sp_nq (show (117 : Nat) ≠ 116 by decide), sp_nq (show (117 : Nat) ≠ 118 by decide), sp_nq (show (118 : Nat) ≠ 116 by decide)]
      by_cases c : j < (hdL (unP A) q).length
      · have eg : (hdL (unP A) q ++ [(q : Int)]).getD j 0 = (hdL (unP A) q).getD j 0 := by rw [List.getD_eq_getElem?_getD, List.getElem?_append_left c, ← List.getD_eq_getElem?_getD]
        rw [eg, sp_nj (by omega), sp_nj (by omega), sp_nq (by decide)]
        exact uj j c
      · obtain rfl : j = (hdL (unP A) q).length := by omega
        have eg : (hdL (unP A) q ++ [(q : Int)]).getD (hdL (unP A) q).length 0 = (q : Int) := by
          rw [List.getD_eq_getElem?_getD, List.getElem?_append_right (Nat.le_refl _), Nat.sub_self]
          rfl
        rw [eg, sp_eq, sp_eq]
        exact ⟨rfl, Y, y2, rfl, y3⟩
    · have hP : ¬ unP A q = true := by unfold unP; rw [hb]; decide
      rw [if_neg bn0]
      have eL : hdL (unP A) (q + 1) = hdL (unP A) q := by rw [hdL_s, if_neg hP]
      exact hrc _ _ ⟨q + 1, by push_cast; rfl, by omega, ua, by rw [eL]; exact u5, by rw [eL]; exact uj⟩ (by omega)
  · have eq : q = (A 1).toNat := by omega
    subst eq
    have e41 : u 4 1 = ((WN A : Nat) : Int) := hBu.1.1.trans W6.2
    have pw : 2 ^ WN A ≤ 64 := Nat.pow_le_pow_right (n := 2) (by decide) W6.1
    have p0 := Nat.two_pow_pos (WN A)
    rw [e41, full_e (by omega), wi (by omega) (by omega), show ((2 ^ WN A : Nat) : Int) - 1 = ((2 ^ WN A - 1 : Nat) : Int) by omega, e_dealtTo hn hI hM hBu (by omega), b1_s, u5]
    have ei : inS (2 ^ WN A - 1) (dN A) (WN A) = sumN (dN A) (WN A) := sum_cg _ (fun w hw => by
      show (if (2 ^ WN A - 1).testBit w then dN A w else 0) = dN A w
      rw [full_bit, decide_eq_true hw]; rfl)
    rw [ei]
    refine rt_ite (fun g2 => ?_) (fun g2 => ?_)
    · exact rt_some ⟨ua, ⟨u5, fun j hj => (uj j hj).1⟩, fun j hj => (uj j hj).2, by rw [decide_eq_true (show sumN (dN A) (WN A) = (unL A).length by unfold unL; omega)]; rfl⟩
    · exact rt_some ⟨ua, ⟨u5, fun j hj => (uj j hj).1⟩, fun j hj => (uj j hj).2, by rw [decide_eq_false (show ¬ sumN (dN A) (WN A) = (unL A).length by unfold unL; omega)]; rfl⟩
end
