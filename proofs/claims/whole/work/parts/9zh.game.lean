/-! LAYER 3zb2: the GAME of two: the class's value, at any depth -/
section
variable {A : JA} {h : List Int} {a b : Int} {x y : Stt} {t : Nat} {s σ : JSg} {n : Nat}
theorem ov_free {w : Int} (g : ¬ ovB A h x.1 w = true) : pcn h.length x.1 + 1 ≤ h.length := by
  rw [ov_iff] at g
  apply Classical.byContradiction
  intro q
  apply g
  intro i hi ho
  cases b : x.1.testBit i with
  | true => rfl
  | false =>
    have p := pcn_ins b h.length
    rw [if_pos hi] at p
    have := pcn_le (U := ins x.1 i) h.length
    omega
theorem e_value (hn : 1000000 < n) (hI : WfI A) (hW : WfR A) (hh : H10 A h) (ha : 0 ≤ a) (hb : 0 ≤ b) (hab : a ≠ b) (ho : ∀ i, i < h.length → ownA A (h.getD i 0) = a ∨ ownA A (h.getD i 0) = b) : ∀ (d f : Nat) (x : Stt) (t dep : Nat) (s : JSg), h.length - pcn h.length x.1 ≤ d → rdG h x → t < 2 → WG A h a b s → TG A h a b s → dep ≤ 2 * pcn h.length x.1 + 1 → (¬ lyB A h x (wtG a b t) = true → dep ≤ 2 * pcn h.length x.1) → Ret ((fg_Mat_valueBehind n (f + 5 * d + 5)).2.1 (cplG h.length x.1 : Int) (x.2.1 : Int) (x.2.2 : Int) (t : Int) (dep : Int) s) (PW A h a b (VV A h a b x t) s) := by
  intro d
  induction d with
  | zero =>
    intro f x t dep s hd hx ht hC hT d1 d2
    have pl := pcn_le (U := x.1) h.length
    have h10 := hh.1
    refine e_vstep (n := n) (gB := (fg_Mat_valueBehind n (f + 4)).1) (gV := (fg_Mat_valueBehind n (f + 4)).2.1) (gR := (fg_Mat_valueBehind n (f + 4)).2.2) hI hh ha hb hx ht hC hT (by omega) (fun na _ => ?_)
    have := ov_free na
    omega
  | succ k ih =>
    intro f x t dep s hd hx ht hC hT d1 d2
    have pl := pcn_le (U := x.1) h.length
    have h10 := hh.1
    refine e_vstep (n := n) (gB := (fg_Mat_valueBehind n (f + 5 * k + 9)).1) (gV := (fg_Mat_valueBehind n (f + 5 * k + 9)).2.1) (gR := (fg_Mat_valueBehind n (f + 5 * k + 9)).2.2) hI hh ha hb hx ht hC hT (by omega) (fun na nb => ?_)
    refine e_rstep (gB := (fg_Mat_valueBehind n (f + 5 * k + 8)).1) (gV := (fg_Mat_valueBehind n (f + 5 * k + 8)).2.1) (gR := (fg_Mat_valueBehind n (f + 5 * k + 8)).2.2) hn hI hW hh ha hb hab ho hx ht hC hT (by omega) na nb (fun l1 l2 => ?_) (fun l1 c u hc ho1 hb1 uC uT => ?_)
    · have d3 := d2 l1
      refine e_vstep (n := n) (gB := (fg_Mat_valueBehind n (f + 5 * k + 7)).1) (gV := (fg_Mat_valueBehind n (f + 5 * k + 7)).2.1) (gR := (fg_Mat_valueBehind n (f + 5 * k + 7)).2.2) hI hh ha hb hx (show 1 - t < 2 by omega) hC hT (by omega) (fun na nb => ?_)
      refine e_rstep (gB := (fg_Mat_valueBehind n (f + 5 * k + 6)).1) (gV := (fg_Mat_valueBehind n (f + 5 * k + 6)).2.1) (gR := (fg_Mat_valueBehind n (f + 5 * k + 6)).2.2) hn hI hW hh ha hb hab ho hx (show 1 - t < 2 by omega) hC hT (by omega) na nb (fun l3 _ => absurd l2 l3) (fun _ c u hc ho1 hb1 uC uT => ?_)
      refine e_bstep (n := n) (gB := (fg_Mat_valueBehind n (f + 5 * k + 5)).1) (gV := (fg_Mat_valueBehind n (f + 5 * k + 5)).2.1) (gR := (fg_Mat_valueBehind n (f + 5 * k + 5)).2.2) hI hh hx (show 1 - t < 2 by omega) uC uT (by omega) hc ho1 hb1 (fun y hy => ?_)
      have r := nx_rd hI hh.2 hx hc hy
      exact ih f y (1 - (1 - t)) (dep + 1 + 1) u (by omega) r.1 (by omega) uC uT (by omega) (fun _ => by omega)
    · refine e_bstep (n := n) (gB := (fg_Mat_valueBehind n (f + 5 * k + 7)).1) (gV := (fg_Mat_valueBehind n (f + 5 * k + 7)).2.1) (gR := (fg_Mat_valueBehind n (f + 5 * k + 7)).2.2) hI hh hx ht uC uT (by omega) hc ho1 hb1 (fun y hy => ?_)
      have r := nx_rd hI hh.2 hx hc hy
      have := ih (f + 2) y (1 - t) (dep + 1) u (by omega) r.1 (by omega) uC uT (by omega) (fun _ => by omega)
      rwa [show f + 2 + 5 * k + 5 = f + 5 * k + 7 by omega] at this
theorem gml_own (hI : WfI A) {i : Nat} (hi : i < (gmL A a b).length) : ownA A ((gmL A a b).getD i 0) = a ∨ ownA A ((gmL A a b).getD i 0) = b := by
  have g := (hdL_g (P := gmP A a b) (k := (A 1).toNat) (i := i) hi).2.2
  exact (of_decide_eq_true g).2
theorem w_held {p ip : Nat} {w k : Int} (hR : RowR s p A) (hI : WfI A) (hk : 0 ≤ k ∧ k < A 1) : f_Row_isHeldBy p ip w k s = some (bi (decide (whrA A k = 0 ∧ ownA A k = w))) := by
  have b28 := hI.2.1
  have r := hR.2.1 k hk.1 hk.2
  unfold f_Row_isHeldBy
  rw [ck_p (by omega), ck_p (by omega), r.1, r.2]
  by_cases c : ownA A k = w
  · rw [if_pos c]
    by_cases d : whrA A k = 0
    · rw [if_pos d, decide_eq_true ⟨d, c⟩]; rfl
    · rw [if_neg d, decide_eq_false (fun q => d q.1)]; rfl
  · rw [if_neg c, decide_eq_false (fun q => c q.2)]; rfl
end
