/-! LAYER 3zak: the shortest ROUND: the reference's moves -/
section
variable {A : JA} {h : List Int} {s t : JSg} {n : Nat} {x y : Stt}
theorem own_6 (hI : WfI A) (hW : WfR A) (hh : Hnd A h) {i : Nat} (hi : i < h.length) : (0 ≤ h.getD i 0 ∧ h.getD i 0 < 28) ∧ 0 ≤ ownA A (h.getD i 0) ∧ ownA A (h.getD i 0) < 6 := by
  have b := hI.2.1
  have b0 := hI.1
  have g := hh.2 i hi
  have := (hW.1 _ g.1 g.2).1
  omega
theorem eP_in (hI : WfI A) (hW : WfR A) (hh : H10 A h) {e d : Nat} (he : vle h e) (hd : d < 2) : eP A h e d = -1 ∨ (0 ≤ eP A h e d ∧ eP A h e d < 7) := by
  unfold eP
  by_cases c : e = 20
  · rw [if_pos c]
    by_cases g : A 151 = 0
    · left; unfold outA; rw [if_pos g]
    · have := outA_in hI hW g (show (0 : Int) ≤ d by omega) (show (d : Int) ≤ 1 by omega)
      right; omega
  · rw [if_neg c]
    have hl : e / 2 < h.length := by
      rcases he with q | q
      · exact absurd q c
      · exact q
    have := pN_lt hI hh.2 hl (d := if e % 2 = 0 then d else 1 - d) (by split <;> omega)
    right; omega
theorem e_endPips (hI : WfI A) (hW : WfR A) (hh : H10 A h) (hB : MhB A h s) {e d : Nat} (he : vle h e) (hd : d < 2) : f_M_endPips (e : Int) (d : Int) s = some (eP A h e d) := by
  have h10 := hh.1
  have e20 : e ≤ 20 := by unfold vle at he; omega
  unfold f_M_endPips eP
  rw [dv_p (by omega) (by omega) (by omega) (by omega), rm_p (by omega) (by omega) (by omega) (by omega)]
  by_cases c : e = 20
  · rw [if_pos c, if_pos (by omega), e_M_pipsAt (by rw [hB.1]; exact hI) (by rw [hB.1]; exact hW) (by omega) (by omega), b1_s, hB.1]
  · have hl : e / 2 < h.length := by
      rcases he with q | q
      · exact absurd q c
      · exact q
    rw [if_neg c, if_neg (by omega), ck_p (by omega), j1_s, show ((e : Int) / 2).toNat = e / 2 by omega]
    by_cases g : e % 2 = 0
    · rw [if_pos (show (e : Int) % 2 = 0 by omega), if_pos g]
      dsimp only
      rw [m_pip hI hh.2 hB hl hd, b1_s]
    · rw [if_neg (show ¬ (e : Int) % 2 = 0 by omega), if_neg g, wi (by omega) (by omega), show (1 : Int) - d = ((1 - d : Nat) : Int) by omega]
      dsimp only
      rw [m_pip hI hh.2 hB hl (by omega), b1_s]
theorem e_endLayer (hI : WfI A) (hW : WfR A) (hh : H10 A h) (hB : MhB A h s) {e d : Nat} (he : vle h e) : f_M_endLayer (e : Int) (d : Int) s = some (eL A h e d) := by
  have h10 := hh.1
  have e20 : e ≤ 20 := by unfold vle at he; omega
  unfold f_M_endLayer eL
  rw [dv_p (by omega) (by omega) (by omega) (by omega)]
  by_cases c : e = 20
  · rw [if_pos c, if_pos (by omega), show f_M_rowMany s = some (s 181 151) from rfl, b1_s, hB.1]
    by_cases g : A 151 = 0
    · rw [if_pos g, if_pos g]
    · rw [if_neg g, if_neg g, e_M_layerAt (by rw [hB.1]; exact hI) (by rw [hB.1]; exact hW) (by rw [hB.1]; exact g), b1_s, hB.1]
  · have hl : e / 2 < h.length := by
      rcases he with q | q
      · exact absurd q c
      · exact q
    have o := own_6 hI hW hh.2 hl
    rw [if_neg c, if_neg (by omega), ck_p (by omega), show ((e : Int) / 2).toNat = e / 2 by omega, hB.2 _ hl, wi (by omega) (by omega), ck_p (by omega), hB.1]
    rfl
def ono (o : Option Nat) : Int := match o with
  | none => -1
  | some x => (x : Int)
theorem e_laysAt (hI : WfI A) (hW : WfR A) (hh : H10 A h) (hB : MhB A h s) {i e d : Nat} (hi : i < h.length) (he : vle h e) (hd : d < 2) : f_M_laysAt (i : Int) (e : Int) (d : Int) s = some (ono (ly A h i e d)) := by
  have h10 := hh.1
  have o := own_6 hI hW hh.2 hi
  have ep := eP_in hI hW hh he hd
  have p0 := pN_lt hI hh.2 hi (show 0 < 2 by decide)
  have p1 := pN_lt hI hh.2 hi (show 1 < 2 by decide)
  have m0 : f_M_pip (h.getD i 0) 0 s = some ((pN A h i 0 : Nat) : Int) := by
    have := m_pip hI hh.2 hB hi (show 0 < 2 by decide)
    rw [hB.2 i hi] at this
    exact this
  have m1 : f_M_pip (h.getD i 0) 1 s = some ((pN A h i 1 : Nat) : Int) := by
    have := m_pip hI hh.2 hB hi (show 1 < 2 by decide)
    rw [hB.2 i hi] at this
    exact this
  have hI' : WfI (s 181) := by rw [hB.1]; exact hI
  unfold f_M_laysAt ly
  rw [ck_p (by omega), lt_u, e_endPips hI hW hh hB he hd, b1_s, lt_u, Int.toNat_natCast]
  by_cases c1 : eP A h e d = -1
  · rw [if_pos c1, if_pos c1, wi (by omega) (by omega)]
    rfl
  · rw [if_neg c1, if_neg c1, e_endLayer hI hW hh hB he, b1_s, hB.2 i hi, wi (x := 67 + h.getD i 0) (by omega) (by omega), ck_p (by omega), hB.1]
    have eo : A (67 + h.getD i 0).toNat = ownA A (h.getD i 0) := rfl
    rw [eo]
    by_cases c2 : eL A h e d = ownA A (h.getD i 0)
    · rw [if_pos c2, if_pos c2]
      rfl
    · rw [if_neg c2, if_neg c2, m0, b1_s, e_M_fit (by omega) (by omega) (by omega) (by omega), b1_s, lt_u, hB.1, j0_s]
      simp only [j1_s]
      have f1 : f_M_fit ((pN A h i 1 : Nat) : Int) (eP A h e d) s = some (bi (fitB A ((pN A h i 1 : Nat) : Int) (eP A h e d))) := by
        rw [e_M_fit (by omega) (by omega) (by omega) (by omega), hB.1]
      have w1 : w32 (2 * (i : Int)) = 2 * (i : Int) := wi (by omega) (by omega)
      have w2 : w32 (2 * (i : Int) + 1) = 2 * (i : Int) + 1 := wi (by omega) (by omega)
      have w3 : w32 (2 * (i : Int) + 0) = 2 * (i : Int) := by rw [wi (by omega) (by omega)]; omega
      cases g0 : fitB A ((pN A h i 0 : Nat) : Int) (eP A h e d)
      · rw [if_pos (show bi false = 0 from rfl), m1, b1_s, f1, b1_s]
        rw [if_neg (show ¬ (false = true) by decide)]
        cases g1 : fitB A ((pN A h i 1 : Nat) : Int) (eP A h e d)
        · rw [if_pos (show bi false = 0 from rfl), if_neg (show ¬ (false = true) by decide)]
          rfl
        · rw [if_neg (show ¬ bi true = 0 by decide), if_pos rfl]
          by_cases gd : d = 1
          · rw [if_pos gd, gd, if_pos (show ((1 : Nat) : Int) = 1 from rfl), if_neg (show ¬ bi false = 1 by decide), w1]
            show some (w32 (2 * (i : Int) + 1)) = _
            rw [w2]
            show some _ = some (((2 * i + 1 : Nat)) : Int)
            push_cast
            rfl
          · rw [if_neg gd, if_neg (by omega), if_pos (show bi false = 0 from rfl), w1]
            show some (w32 (2 * (i : Int) + 0)) = _
            rw [w3]
            show some _ = some (((2 * i : Nat)) : Int)
            push_cast
            rfl
      · rw [if_neg (show ¬ bi true = 0 by decide), if_pos rfl]
        by_cases gd : d = 1
        · rw [if_pos gd, gd, if_pos (show ((1 : Nat) : Int) = 1 from rfl), if_pos (show bi true = (1 : Int) from rfl), w1]
          show some (w32 (2 * (i : Int) + 0)) = _
          rw [w3]
          show some _ = some (((2 * i : Nat)) : Int)
          push_cast
          rfl
        · rw [if_neg gd, if_neg (show ¬ (d : Int) = 1 by omega), if_neg (show ¬ bi true = 0 by decide), w1]
          show some (w32 (2 * (i : Int) + 1)) = _
          rw [w2]
          show some _ = some (((2 * i + 1 : Nat)) : Int)
          push_cast
          rfl
def omv (o : Option Stt) : Int := match o with
  | none => -1
  | some x => (cdM x : Int)
theorem e_moved (hI : WfI A) (hW : WfR A) (hh : H10 A h) (hB : MhB A h s) {i d : Nat} (hx : rdy A h x) (hi : i < h.length) (hd : d < 2) : f_M_moved (cdM x : Int) (i : Int) (d : Int) s = some (omv (mv A h x (2 * i + d))) := by
  obtain ⟨c1, c2, c3, c4, c5⟩ := cdM_lt hh.1 hx
  obtain ⟨x1, x2, x3, x4⟩ := hx
  have h10 := hh.1
  obtain ⟨U, l, r⟩ := x
  dsimp only at *
  have ec : cdM (U, l, r) = (U * 22 + l) * 22 + r := rfl
  have z1 : rm32 (cdM (U, l, r) : Int) 22 = (r : Int) := by
    rw [rm_p (by omega) (by omega) (by omega) (by omega), ec]; omega
  have z2 : rm32 (dv32 (cdM (U, l, r) : Int) 22) 22 = (l : Int) := by
    rw [dv_p (by omega) (by omega) (by omega) (by omega), rm_p (by omega) (by omega) (by omega) (by omega), ec]; omega
  have z3 : dv32 (cdM (U, l, r) : Int) 484 = (U : Int) := by
    rw [dv_p (by omega) (by omega) (by omega) (by omega), ec]; omega
  have em : (2 * i + d) / 2 = i := by omega
  have ed : (2 * i + d) % 2 = d := by omega
  unfold f_M_moved mv
  rw [z1, z2, z3, lt_u, lt_u, lt_u, em, ed]
  unfold f_M_has
  rw [has_n (by omega) (by omega)]
  cases hb : U.testBit i
  · rw [if_neg (show ¬ (false = true) by decide), if_neg (show ¬ (0 : Int) = 1 by decide), b1_s, if_pos rfl]
    dsimp only
    have e0 : (if d = 0 then l else r) = if (d : Int) = 0 then l else r := by
      by_cases g : d = 0
      · rw [if_pos g, if_pos (by omega)]
      · rw [if_neg g, if_neg (by omega)]
    have ve : vle h (if d = 0 then l else r) := by split <;> assumption
    have la := e_laysAt hI hW hh hB hi ve hd
    have il : ins U i < 2 ^ h.length := ins_lt x1 hi
    have ie := ins_e (U := U) (i := i) (by omega) (by omega)
    have k : ∀ (u : Int), u = ((if d = 0 then l else r : Nat) : Int) → (bd1 (f_M_laysAt (i : Int) u (d : Int) s) fun r7 => lt_ r7 fun v8 => if v8 = (-1) then (some (-1)) else (bd1 (f_M_rowMany s) fun r9 => jn1 (fun (u11 : Int) => lt_ u11 fun v12 => jn1 (fun (u14 : Int) => jn1 (fun (u16 : Int) => bd1 (f_M_stateOf (or32 (U : Int) (sl32 1 (i : Int))) u14 u16 s) fun r17 => some r17) fun j15 => jn0 (j15 v8) fun j18 => if (d : Int) = 1 then (j18) else (if v12 = 0 then (j15 (r : Int)) else (j18))) fun j13 => jn0 (j13 v8) fun j19 => if (d : Int) = 0 then (j19) else (if v12 = 0 then (j13 (l : Int)) else (j19))) fun j10 => jn0 (j10 0) fun j20 => if r9 = 0 then (if (U : Int) = 0 then (j10 1) else (j20)) else (j20))) = some (omv (match ly A h i (if d = 0 then l else r) d with | none => none | some e => some (ins U i, if d = 0 ∨ (A 151 = 0 ∧ U = 0) then e else l, if d = 1 ∨ (A 151 = 0 ∧ U = 0) then e else r))) := by
      intro u hu
      rw [hu, la, b1_s, lt_u]
      cases g : ly A h i (if d = 0 then l else r) d with
      | none => rfl
      | some e =>
        have w := ly_in g
        have so : ∀ a b : Nat, a ≤ 20 → b ≤ 20 → f_M_stateOf (or32 (U : Int) (sl32 1 (i : Int))) (a : Int) (b : Int) s = some ((cdM (ins U i, a, b) : Nat) : Int) := by
          intro a b ha hb
          unfold f_M_stateOf
          rw [ie, wi (x := ((ins U i : Nat) : Int) * 22) (by omega) (by omega), wi (x := ((ins U i : Nat) : Int) * 22 + (a : Int)) (by omega) (by omega), wi (x := (((ins U i : Nat) : Int) * 22 + (a : Int)) * 22) (by omega) (by omega), wi (by omega) (by omega)]
          unfold cdM
          push_cast
          rfl
        rw [if_neg (show ¬ ono (some e) = -1 by show ¬ ((e : Nat) : Int) = -1; omega), show f_M_rowMany s = some (s 181 151) from rfl, b1_s, hB.1]
        simp only [j1_s, j0_s, lt_u]
        show _ = some ((cdM (ins U i, if d = 0 ∨ (A 151 = 0 ∧ U = 0) then e else l, if d = 1 ∨ (A 151 = 0 ∧ U = 0) then e else r) : Nat) : Int)
        have oe : ono (some e) = (e : Int) := rfl
        rw [oe]
        by_cases g1 : A 151 = 0 ∧ U = 0
        · rw [if_pos g1.1, if_pos (show (U : Int) = 0 by omega), if_neg (show ¬ (1 : Int) = 0 by decide), if_neg (show ¬ (1 : Int) = 0 by decide), ite_self, ite_self, so e e (by omega) (by omega), b1_s, if_pos (Or.inr g1), if_pos (Or.inr g1)]
        · have q : (if A 151 = 0 then (if (U : Int) = 0 then (1 : Int) else 0) else 0) = 0 := by
            by_cases g2 : A 151 = 0
            · rw [if_pos g2, if_neg (fun q => g1 ⟨g2, by omega⟩)]
            · rw [if_neg g2]
          rcases (show d = 0 ∨ d = 1 by omega) with rfl | rfl
          · have r1 := so e r (by omega) (by omega)
            rw [if_pos (Or.inl rfl), if_neg (show ¬ ((0 : Nat) = 1 ∨ (A 151 = 0 ∧ U = 0)) from fun q => by rcases q with q | q; exact absurd q (by decide); exact g1 q)]
            by_cases g2 : A 151 = 0
            · have g3 : ¬ (U : Int) = 0 := fun q => g1 ⟨g2, by omega⟩
              have g4 : ¬ U = 0 := fun q => g1 ⟨g2, q⟩
              simp [g2, g4, r1, b1_s]
            · simp [g2, r1, b1_s]
          · have r1 := so l e (by omega) (by omega)
            rw [if_pos (show (1 : Nat) = 1 ∨ (A 151 = 0 ∧ U = 0) from Or.inl rfl), if_neg (show ¬ ((1 : Nat) = 0 ∨ (A 151 = 0 ∧ U = 0)) from fun q => by rcases q with q | q; exact absurd q (by decide); exact g1 q)]
            by_cases g2 : A 151 = 0
            · have g3 : ¬ (U : Int) = 0 := fun q => g1 ⟨g2, by omega⟩
              have g4 : ¬ U = 0 := fun q => g1 ⟨g2, q⟩
              simp [g2, g4, r1, b1_s]
            · simp [g2, r1, b1_s]
    rw [j1_s]
    rcases (show d = 0 ∨ d = 1 by omega) with rfl | rfl
    · rw [if_pos (show ((0 : Nat) : Int) = 0 from rfl)]
      exact k _ rfl
    · rw [if_neg (show ¬ ((1 : Nat) : Int) = 0 by decide)]
      exact k _ rfl
  · rw [if_pos rfl, if_pos (show (1 : Int) = 1 from rfl), b1_s, if_neg (show ¬ (1 : Int) = 0 by decide), if_pos rfl]
    rfl
end
