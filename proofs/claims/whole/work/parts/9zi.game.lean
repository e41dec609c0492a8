/-! LAYER 3zb3: the GAME of two: the class's hand -/
section
variable {A : JA} {h : List Int} {a b : Int} {x y : Stt} {t : Nat} {s σ : JSg} {n : Nat}
def gaC (c j : Nat) : Prop := (c = 114 ∧ (j = 4 ∨ j = 5 ∨ j = 6)) ∨ c = 115
theorem orW_ap {w : Nat} {l : List Int} {z : Int} : ∀ m : Nat, m ≤ l.length → orW A (l ++ [z]) w m = orW A l w m := by
  intro m
  induction m with
  | zero => intro _; rfl
  | succ m ih =>
    intro hm
    unfold orW
    rw [ih (by omega), List.getD_eq_getElem?_getD, List.getElem?_append_left (by omega), ← List.getD_eq_getElem?_getD]
theorem orW_sn {w : Nat} {l : List Int} {z : Int} : orW A (l ++ [z]) w (l ++ [z]).length = if ownA A z = (w : Int) then ins (orW A l w l.length) l.length else orW A l w l.length := by
  rw [show (l ++ [z]).length = l.length + 1 by rw [List.length_append]; rfl]
  show (if ownA A ((l ++ [z]).getD l.length 0) = (w : Int) then ins (orW A (l ++ [z]) w l.length) l.length else orW A (l ++ [z]) w l.length) = _
  rw [orW_ap _ (Nat.le_refl _), List.getD_eq_getElem?_getD, List.getElem?_append_right (Nat.le_refl _), Nat.sub_self]
  rfl
theorem e_gatherM (hn : 1000000 < n) (hI : WfI A) (ha : 0 ≤ a) (hb : 0 ≤ b) (hL : IslR s 4 A) (hR : RowR s 11 A) : Ret (f_Mat_gather n a b s) (fun z => Agr gaC s z.2 ∧ ((z.1 = 0 ∧ 10 < (gmL A a b).length) ∨ (z.1 = 1 ∧ (gmL A a b).length ≤ 10 ∧ WG A (gmL A a b) a b z.2))) := by
  have b28 := hI.2.1
  unfold f_Mat_gather
  generalize hs : sp (sp (sp s 114 4 0) 114 5 0) 114 6 0 = s3
  have g3 : Agr gaC s s3 := by
    rw [← hs]
    exact ag_sp (ag_sp (ag_sp ag_refl (by unfold gaC; omega)) (by unfold gaC; omega)) (by unfold gaC; omega)
  have q4 : s3 114 4 = 0 := by rw [← hs, sp_nj (by decide), sp_nj (by decide), sp_eq]
  have q5 : s3 114 5 = 0 := by rw [← hs, sp_nj (by decide), sp_eq]
  have q6 : s3 114 6 = 0 := by rw [← hs, sp_eq]
  refine rt_lt (rt_lt (rt_lt (rt_lt ?_)))
  rw [hs]
  clear hs
  refine rt_w2 (I := fun (z : Int) (u : JSg) => ∃ k : Nat, z = k ∧ (k : Int) ≤ A 1 ∧ (hdL (gmP A a b) k).length ≤ 10 ∧ Agr gaC s u ∧ u 114 4 = ((hdL (gmP A a b) k).length : Nat) ∧ u 114 5 = (orW A (hdL (gmP A a b) k) a.toNat (hdL (gmP A a b) k).length : Nat) ∧ u 114 6 = (orW A (hdL (gmP A a b) k) b.toNat (hdL (gmP A a b) k).length : Nat) ∧ ∀ j : Nat, j < (hdL (gmP A a b) k).length → u 115 j = (hdL (gmP A a b) k).getD j 0) (μ := fun (z : Int) (u : JSg) => (A 1 - z).toNat) ?_ n _ _ ⟨0, rfl, by omega, by unfold hdL; exact Nat.zero_le _, g3, q4, q5, q6, fun j hj => absurd hj (by unfold hdL; exact Nat.not_lt_zero _)⟩ (by omega)
  rintro z u ⟨k, rfl, hk, hl, ua, u4, u5, u6, ue⟩ rc hrc
  have uL : IslR u 4 A := IslR_ag (fun q j hq => ua q j (by unfold gaC; omega)) hL
  have uR : RowR u 11 A := RowR_ag (fun q j hq => ua q j (by unfold gaC; omega)) hR
  rw [uL.2.1]
  refine rt_ite (fun g => ?_) (fun g => ?_)
  · have kk : (0 : Int) ≤ (k : Int) ∧ (k : Int) < A 1 := by omega
    rw [w_held uR hI kk, b1_s]
    refine rt_c1 (fun (u : JSg) => (hdL (gmP A a b) (k + 1)).length ≤ 10 ∧ Agr gaC s u ∧ u 114 4 = ((hdL (gmP A a b) (k + 1)).length : Nat) ∧ u 114 5 = (orW A (hdL (gmP A a b) (k + 1)) a.toNat (hdL (gmP A a b) (k + 1)).length : Nat) ∧ u 114 6 = (orW A (hdL (gmP A a b) (k + 1)) b.toNat (hdL (gmP A a b) (k + 1)).length : Nat) ∧ ∀ j : Nat, j < (hdL (gmP A a b) (k + 1)).length → u 115 j = (hdL (gmP A a b) (k + 1)).getD j 0) (fun w hw => ?_) (fun j hj => ?_)
    · rw [lt_u, wi (by omega) (by omega)]
      exact hrc _ _ ⟨k + 1, by push_cast; rfl, by omega, hw⟩ (by omega)
    · have no : gmP A a b (k : Int) = false → Ret (j u) (fun z => Agr gaC s z.2 ∧ ((z.1 = 0 ∧ 10 < (gmL A a b).length) ∨ (z.1 = 1 ∧ (gmL A a b).length ≤ 10 ∧ WG A (gmL A a b) a b z.2))) := by
        intro q
        refine hj _ ?_
        rw [hdL_s, q, if_neg (by decide)]
        exact ⟨hl, ua, u4, u5, u6, ue⟩
      rw [j0_s, u4]
      have es : gmP A a b (k : Int) = true → hdL (gmP A a b) (k + 1) = hdL (gmP A a b) k ++ [(k : Int)] := fun q => by rw [hdL_s, q, if_pos rfl]
      have mo := hdL_mo (P := gmP A a b) ((A 1).toNat - (k + 1)) (k + 1)
      rw [show k + 1 + ((A 1).toNat - (k + 1)) = (A 1).toNat by omega] at mo
      have gl : (hdL (gmP A a b) (A 1).toNat).length = (gmL A a b).length := rfl
      rw [gl] at mo
      have ol5 := orW_lt (A := A) (h := hdL (gmP A a b) k) (w := a.toNat) (hdL (gmP A a b) k).length
      have ol6 := orW_lt (A := A) (h := hdL (gmP A a b) k) (w := b.toNat) (hdL (gmP A a b) k).length
      have p : 2 ^ (hdL (gmP A a b) k).length ≤ 1024 := Nat.pow_le_pow_right (n := 2) (by decide) hl
      generalize hdL (gmP A a b) k = l at *
      have or0 : ∀ X : Nat, X < 1024 → or32 (X : Int) 0 = (X : Int) := fun X hX => by
        have := or_n (a := X) (b := 0) (by omega) (by omega)
        rw [Nat.or_zero] at this
        exact this
      have yes : gmP A a b (k : Int) = true → Ret (if ((l.length : Nat) : Int) < 10 then (chk (0 ≤ ((l.length : Nat) : Int) ∧ ((l.length : Nat) : Int) < 10) <| lt_ (sp u 115 ((l.length : Nat) : Int).toNat (k : Int)) fun s13 => bd1 (f_Row_isHeldBy 11 4 a (k : Int) s13) fun r14 => jn1 (fun (u16 : Int) => lt_ (sp s13 114 5 (or32 (s13 114 5) u16)) fun s17 => bd1 (f_Row_isHeldBy 11 4 b (k : Int) s17) fun r18 => jn1 (fun (u20 : Int) => lt_ (sp s17 114 6 (or32 (s17 114 6) u20)) fun s21 => lt_ (sp s21 114 4 (w32 ((s21 114 4) + 1))) fun s22 => j s22) fun j19 => if r18 = 0 then (j19 0) else (j19 (sl32 1 (s17 114 4)))) fun j15 => if r14 = 0 then (j15 0) else (j15 (sl32 1 (s13 114 4)))) else (some (0, u))) (fun z => Agr gaC s z.2 ∧ ((z.1 = 0 ∧ 10 < (gmL A a b).length) ∨ (z.1 = 1 ∧ (gmL A a b).length ≤ 10 ∧ WG A (gmL A a b) a b z.2))) := by
        intro q
        have es := es q
        have el : (l ++ [(k : Int)]).length = l.length + 1 := by rw [List.length_append]; rfl
        rw [es, el] at mo
        have hw0 : whrA A k = 0 := (of_decide_eq_true q).1
        refine rt_ite (fun q2 => ?_) (fun q2 => rt_some ⟨ua, Or.inl ⟨rfl, by omega⟩⟩)
        rw [Int.toNat_natCast]
        refine rt_chk (by omega) (rt_lt ?_)
        generalize hv : sp u 115 l.length (k : Int) = v
        have vg : ∀ c i, c ≠ 115 → v c i = u c i := fun c i z => by rw [← hv, sp_nq z]
        have vA : Agr gaC s v := by rw [← hv]; exact ag_sp ua (Or.inr rfl)
        have ve : ∀ i, i < l.length + 1 → v 115 i = (l ++ [(k : Int)]).getD i 0 := by
          intro i hi
          by_cases q3 : i = l.length
          · rw [← hv, q3, sp_eq, List.getD_eq_getElem?_getD, List.getElem?_append_right (Nat.le_refl _), Nat.sub_self]
            rfl
          · rw [← hv, sp_nj q3, List.getD_eq_getElem?_getD, List.getElem?_append_left (by omega), ← List.getD_eq_getElem?_getD]
            exact ue i (by omega)
        clear hv
        have vR : RowR v 11 A := RowR_ag (fun q j hq => vA q j (by unfold gaC; omega)) hR
        rw [w_held vR hI kk, b1_s]
        refine rt_c1 (fun e => or32 (v 114 5) e = (orW A (l ++ [(k : Int)]) a.toNat (l ++ [(k : Int)]).length : Nat)) (fun e he => ?_) (fun j2 hj2 => ?_)
        · rw [he, lt_u]
          generalize hw : sp v 114 5 ((orW A (l ++ [(k : Int)]) a.toNat (l ++ [(k : Int)]).length : Nat) : Int) = w
          have w5 : w 114 5 = (orW A (l ++ [(k : Int)]) a.toNat (l ++ [(k : Int)]).length : Nat) := by rw [← hw, sp_eq]
          have w6 : w 114 6 = (orW A l b.toNat l.length : Nat) := by rw [← hw, sp_nj (by decide)]; exact (vg 114 6 (by decide)).trans u6
          have w4 : w 114 4 = (l.length : Nat) := by rw [← hw, sp_nj (by decide)]; exact (vg 114 4 (by decide)).trans u4
          have wA : Agr gaC s w := by rw [← hw]; exact ag_sp vA (by unfold gaC; omega)
          have we : ∀ i, i < l.length + 1 → w 115 i = (l ++ [(k : Int)]).getD i 0 := fun i hi => by rw [← hw, sp_nq (by decide)]; exact ve i hi
          clear hw
          have wR : RowR w 11 A := RowR_ag (fun q j hq => wA q j (by unfold gaC; omega)) hR
          rw [w_held wR hI kk, b1_s]
          refine rt_c1 (fun e => or32 (w 114 6) e = (orW A (l ++ [(k : Int)]) b.toNat (l ++ [(k : Int)]).length : Nat)) (fun e he => ?_) (fun j3 hj3 => ?_)
          · rw [he, lt_u, lt_u, sp_nj (show (4 : Nat) ≠ 6 by decide), w4, wi (by omega) (by omega)]
            refine hj _ ?_
            rw [es, el]
            refine ⟨by omega, ag_sp (ag_sp wA (by unfold gaC; omega)) (by unfold gaC; omega), by rw [sp_eq]; push_cast; rfl, ?_, ?_, fun i hi => ?_⟩
            · rw [sp_nj (by decide), sp_nj (by decide), w5, el]
            · rw [sp_nj (by decide), sp_eq]
            · rw [sp_nq (by decide), sp_nq (by decide)]
              exact we i hi
          · rw [w6, w4] at *
            rw [orW_sn, show ((b.toNat : Nat) : Int) = b by omega] at hj3
            by_cases c : ownA A k = b
            · rw [decide_eq_true ⟨hw0, c⟩, if_neg (show ¬ bi true = 0 by decide)]
              exact hj3 _ (by rw [if_pos c, ins_e (by omega) (by omega)])
            · rw [decide_eq_false (fun z => c z.2), if_pos (show bi false = 0 from rfl)]
              exact hj3 _ (by rw [if_neg c, or0 _ (by omega)])
        · have v5 : v 114 5 = (orW A l a.toNat l.length : Nat) := (vg 114 5 (by decide)).trans u5
          have v4 : v 114 4 = (l.length : Nat) := (vg 114 4 (by decide)).trans u4
          rw [v5, orW_sn, show ((a.toNat : Nat) : Int) = a by omega] at hj2
          rw [v4]
          by_cases c : ownA A k = a
          · rw [decide_eq_true ⟨hw0, c⟩, if_neg (show ¬ bi true = 0 by decide)]
            exact hj2 _ (by rw [if_pos c, ins_e (by omega) (by omega)])
          · rw [decide_eq_false (fun z => c z.2), if_pos (show bi false = 0 from rfl)]
            exact hj2 _ (by rw [if_neg c, or0 _ (by omega)])
      by_cases c1 : whrA A k = 0 ∧ ownA A k = a
      · rw [decide_eq_true c1, if_neg (show ¬ bi true = 0 by decide)]
        exact yes (decide_eq_true ⟨c1.1, Or.inl c1.2⟩)
      · rw [decide_eq_false c1, if_pos (show bi false = 0 from rfl), w_held uR hI kk, b1_s]
        by_cases c2 : whrA A k = 0 ∧ ownA A k = b
        · rw [decide_eq_true c2, if_neg (show ¬ bi true = 0 by decide)]
          exact yes (decide_eq_true ⟨c2.1, Or.inr c2.2⟩)
        · rw [decide_eq_false c2, if_pos (show bi false = 0 from rfl)]
          refine no (decide_eq_false (fun z => ?_))
          rcases z.2 with q | q
          · exact c1 ⟨z.1, q⟩
          · exact c2 ⟨z.1, q⟩
  · have ek : k = (A 1).toNat := by omega
    subst ek
    exact rt_some ⟨ua, Or.inr ⟨rfl, hl, uL, u4, u5, u6, ue⟩⟩
end
