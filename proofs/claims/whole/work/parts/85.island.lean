/-! LAYER 3zj: ISLAND -/
section
variable {σ τ ρ s z : JSg} {n p : Nat}
def tpC (a j : Nat) : Prop := (a = 0 ∧ j = 1) ∨ (a = 2 ∧ j = 12) ∨ (a = 179 ∧ (j = 2 ∨ j = 10))
theorem LstR_tp (h : ∀ q j, (q = 0 ∧ j = 18) ∨ (q = 104 ∧ j = 6) ∨ q = 106 ∨ (q = 107 ∧ j = 12) ∨ q = 113 ∨ (q = 114 ∧ j = 7) ∨ (q = 121 ∧ (j = 2 ∨ j = 4 ∨ j = 5 ∨ j = 6)) ∨ q = 122 ∨ (q = 179 ∧ (j = 28 ∨ j = 32 ∨ j = 36 ∨ j = 39)) ∨ q = 191 ∨ q = 194 ∨ q = 196 ∨ q = 201 → s q j = ρ q j) (t3 : s 2 12 = s 179 10) (H : LstR ρ) : LstR s := by
  have e1 : s 106 = ρ 106 := funext fun j => h _ _ (by omega)
  have e2 : s 113 = ρ 113 := funext fun j => h _ _ (by omega)
  have e3 : s 122 = ρ 122 := funext fun j => h _ _ (by omega)
  have e4 : s 191 = ρ 191 := funext fun j => h _ _ (by omega)
  have e5 : s 194 = ρ 194 := funext fun j => h _ _ (by omega)
  have e6 : s 196 = ρ 196 := funext fun j => h _ _ (by omega)
  have e7 : s 201 = ρ 201 := funext fun j => h _ _ (by omega)
  unfold LstR at *
  rw [e1, e2, e3, e4, e5, e6, e7, h 0 18 (by omega), h 104 6 (by omega), h 107 12 (by omega), h 114 7 (by omega), h 121 2 (by omega), h 121 4 (by omega), h 121 5 (by omega), h 121 6 (by omega), h 179 28 (by omega), h 179 32 (by omega), h 179 36 (by omega), h 179 39 (by omega)]
  exact ⟨t3, H.2⟩
theorem inv_tape0 (H : Inv ρ) (h : Agr (fun a j => scr a j ∨ tpC a j) ρ s) (t1 : s 0 1 = 0) (t2 : s 179 2 = 0) (t3 : s 2 12 = s 179 10) : Inv s := by
  unfold Agr scr tpC at h
  have e1 : s 181 = ρ 181 := funext fun j => h _ _ (by omega)
  have e2 : s 185 = ρ 185 := funext fun j => h _ _ (by omega)
  have e3 : pwA s = pwA ρ := by
    unfold pwA
    rw [e1, h 179 23 (by omega)]
  obtain ⟨h1, h2, h3, h4, h5, h6, h7⟩ := H
  unfold Inv
  rw [e1, e2, e3, h 179 23 (by omega)]
  refine ⟨h1, WorR_ag (fun q j hq => h q j ?_) h2, ⟨by omega, by omega, fun i i0 i1 => by omega⟩, h4, ⟨ImgR_ag (fun q j hq => h q j ?_) h5.1, ImgR_ag (fun q j hq => h q j ?_) h5.2⟩, PasR_ag (fun q j hq => h q j (by omega)) h6, LstR_tp (fun q j hq => h q j (by omega)) t3 h7⟩
  · unfold worC at hq
    omega
  · unfold worC at hq
    omega
  · unfold worC at hq
    omega
def ilC (a j : Nat) : Prop := scr a j ∨ tpC a j ∨ (4 ≤ a ∧ a ≤ 21 ∧ a ≠ 14) ∨ a = 181 ∨ a = 185 ∨ (a = 0 ∧ j = 8) ∨ (a = 179 ∧ j = 22)
theorem inv_isl (H : Inv ρ) (h : Agr ilC ρ s) (h23 : s 179 23 = 1) (t1 : s 0 1 = 0) (t2 : s 179 2 = 0) (hz : ∀ a j, a < 179 → s a j = z a j) (hF : Fin z s) : Inv s := by
  obtain ⟨⟨f1, f2⟩, f3, f4, f5, f6, f7, f8, f9, f10, f11, f12, f13⟩ := hF
  unfold Agr ilC scr tpC at h
  have eB : ∀ k : Nat, k < 192 → s 181 k = s 182 k := fun k hk => by rw [f11 k (by omega), if_pos hk]
  have eC : ∀ k : Nat, 95 ≤ k → k < 448 → s 181 k = 0 := by
    intro k k0 k1
    rw [f11 k k1]
    by_cases c : k < 192
    · rw [if_pos c]; exact f8 k k0 c
    · rw [if_neg c]
  have pw : pwA s = s 182 3 := by
    unfold pwA
    rw [h23, if_neg (by decide), eB 3 (by omega)]
  have B0 := eB 0 (by omega)
  have B1 := eB 1 (by omega)
  have b0 := f1.1
  have b1 := f1.2.1
  have ow : ∀ d : Int, 0 ≤ d → d < s 181 1 → ownA (s 181) d = ownA (s 182) d := fun d d0 d1 => eB _ (by omega)
  have wh : ∀ d : Int, 0 ≤ d → d < s 181 1 → whrA (s 181) d = 0 := fun d d0 d1 => eC _ (by omega) (by omega)
  obtain ⟨h1, h2, h3, h4, h5, h6, h7⟩ := H
  have l14 : 0 ≤ s 14 0 ∧ s 14 0 < 28 := by
    rw [h 14 0 (by omega)]
    exact h2.2.2.1.2.2.2.2
  refine ⟨⟨WfI_cg (fun k k0 _ => eB k (by omega)) f1, ⟨fun d d0 d1 => ?_, ?_, fun i i0 i1 => ?_, fun i j i0 ij j1 => ?_⟩, ⟨?_, fun d d0 => ?_, fun w w0 w1 => ?_, fun a b a0 a1 b0 b1 => ?_⟩⟩, ⟨?_, ?_, ⟨?_, fun d d0 d1 => ?_, fun i i0 i1 => ?_, fun w w0 w1 => ?_, l14⟩, ⟨?_, ?_, fun w w0 w1 => ?_⟩, Or.inl ⟨?_, ?_⟩⟩, ⟨by omega, by omega, fun i i0 i1 => by omega⟩, Or.inr h23, ⟨?_, ?_⟩, ⟨?_, by omega, ?_, fun j j0 j1 => by omega⟩, ?_⟩
  · rw [ow d d0 d1, wh d d0 d1, B0]
    have := f5 d d0 (by omega)
    exact ⟨⟨this.2.2.1, this.2.2.2⟩, by omega, fun g => by omega⟩
  · rw [eC 151 (by omega) (by omega)]; omega
  · rw [eC 151 (by omega) (by omega)] at i1; omega
  · rw [eC 151 (by omega) (by omega)] at j1; omega
  · rw [eC 193 (by omega) (by omega)]; omega
  · rw [eC 193 (by omega) (by omega)]; exact bt_0 _
  · rw [eC _ (by omega) (by omega), eC _ (by omega) (by omega)]; omega
  · rw [eB _ (by omega), eB _ (by omega)]; exact f2 a b a0 a1 b0 b1
  · exact IslR_ag (fun q j hq => hz q j (by omega)) (IslR_cg b1.2 (fun k k0 _ => eB k (by omega)) f3)
  · rw [pw]
    obtain ⟨g0, g1, g2, g3, g4⟩ := IslX_cg (fun k k0 _ => eB k (by omega)) f4
    refine ⟨by rw [hz _ _ (by omega)]; exact g0, by rw [hz _ _ (by omega)]; exact g1, by rw [hz _ _ (by omega)]; exact g2, fun q q0 q1 => by rw [hz _ _ (by omega)]; exact g3 q q0 q1, fun w w0 w1 => ?_⟩
    rw [hz _ _ (by omega), f12 _ (by omega)]; exact g4 w w0 w1
  · rw [hz _ _ (by omega), eC 151 (by omega) (by omega)]; exact f6.1
  · rw [hz _ _ (by omega), hz _ _ (by omega), ow d d0 d1, wh d d0 d1]
    have := f5 d d0 (by omega)
    exact ⟨this.1, this.2.1⟩
  · rw [eC 151 (by omega) (by omega)] at i1; omega
  · rw [eC _ (by omega) (by omega), eC _ (by omega) (by omega), hz _ _ (by omega), hz _ _ (by omega)]
    exact ⟨(f7 _ (by omega)).1, (f7 _ (by omega)).2.1⟩
  · rw [hz _ _ (by omega), eC 192 (by omega) (by omega)]; exact f6.2.1
  · rw [hz _ _ (by omega), eC 193 (by omega) (by omega)]; exact f6.2.2.1
  · rw [eC _ (by omega) (by omega), eC _ (by omega) (by omega), hz _ _ (by omega), hz _ _ (by omega)]
    exact ⟨(f7 _ (by omega)).2.2.1, (f7 _ (by omega)).2.2.2⟩
  · exact eC 206 (by omega) (by omega)
  · rw [hz _ _ (by omega)]; exact f6.2.2.2
  · exact ImgR_ag (fun q j hq => h q j (by unfold worC at hq; omega)) h5.1
  · exact ImgR_ag (fun q j hq => h q j (by unfold worC at hq; omega)) h5.2
  · rw [hz _ _ (by omega), f13]; exact f10
  · rw [h 0 9 (by omega)]; exact h6.2.2.1
  · exact LstR_tp (fun q j hq => h q j (by omega)) (by rw [hz _ _ (by omega)]; exact f9) h7
theorem wr_sc {a j : Nat} (h : wxC a j) : scr a j ∨ tpC a j := by
  unfold wxC wrC at h
  rcases h with (h | h | h) | h
  · by_cases c : j = 12
    · exact Or.inr (Or.inr (Or.inl ⟨h.1, c⟩))
    · exact Or.inl (Or.inl ⟨h.1, c⟩)
  · exact Or.inl (Or.inr (Or.inr (Or.inr (Or.inl ⟨by omega, by omega⟩))))
  · exact Or.inl (Or.inr (Or.inr (Or.inr (Or.inl ⟨by omega, by omega⟩))))
  · exact Or.inl (Or.inr (Or.inr (Or.inr (Or.inl ⟨by omega, by omega⟩))))
theorem bw_sc {a j : Nat} (h : bwC a j) : scr a j ∨ tpC a j := by
  unfold bwC at h
  rcases h with h | h
  · exact Or.inr (Or.inl h)
  · by_cases c : j = 12
    · exact Or.inr (Or.inr (Or.inl ⟨h.1, c⟩))
    · exact Or.inl (Or.inl ⟨h.1, c⟩)
theorem sc_179 {j : Nat} (h : j ≠ 2 ∧ j ≠ 10 ∧ j ≠ 22 ∧ j ≠ 23 ∧ j ≠ 28 ∧ j ≠ 32 ∧ j ≠ 36 ∧ j ≠ 39) : scr 179 j := by
  unfold scr
  omega
theorem sc_182 {j : Nat} : scr 182 j := by
  unfold scr
  omega
theorem sc_186 {j : Nat} : scr 186 j := by
  unfold scr
  omega
theorem mr_sc {a j : Nat} (h : mrC a j) : scr a j ∨ tpC a j := by
  unfold mrC at h
  rcases h with ⟨rfl, h⟩ | rfl | rfl
  · by_cases c : j = 10
    · exact Or.inr (Or.inr (Or.inr ⟨rfl, Or.inr c⟩))
    · exact Or.inl (sc_179 (by omega))
  · exact Or.inl sc_182
  · exact Or.inl sc_186
theorem bm_sc {a j : Nat} (h : bmC a j) (q1 : ¬ (a = 179 ∧ j = 23)) (q2 : ¬ (a = 181 ∧ j = 3)) : scr a j ∨ tpC a j := by
  unfold bmC at h
  rcases h with ⟨rfl, h⟩ | h
  · by_cases c : j = 2 ∨ j = 10
    · exact Or.inr (Or.inr (Or.inr ⟨rfl, c⟩))
    · exact Or.inl (sc_179 (by omega))
  · exact absurd h q2
theorem il_1 {a j : Nat} (h : scr a j ∨ tpC a j) : ilC a j := by
  rcases h with h | h
  · exact Or.inl h
  · exact Or.inr (Or.inl h)
theorem wy_il {a j : Nat} (h : wyC a j) : ilC a j := by
  rcases h with h | h | h
  · exact il_1 (wr_sc h)
  · exact Or.inr (Or.inr (Or.inl h))
  · exact Or.inr (Or.inr (Or.inr (Or.inr (Or.inr (Or.inl h)))))
theorem mx_il {a j : Nat} (h : mxC a j) : ilC a j := by
  rcases h with h | h | h | h
  · exact il_1 (mr_sc h)
  · exact Or.inr (Or.inr (Or.inr (Or.inl h)))
  · exact Or.inr (Or.inr (Or.inr (Or.inr (Or.inl h))))
  · exact Or.inr (Or.inr (Or.inr (Or.inr (Or.inr (Or.inr h)))))
theorem bm_il {a j : Nat} (h : bmC a j) (q1 : ¬ (a = 179 ∧ j = 23)) : ilC a j := by
  by_cases q2 : a = 181 ∧ j = 3
  · exact Or.inr (Or.inr (Or.inr (Or.inl q2.1)))
  · exact il_1 (bm_sc h q1 q2)
theorem op_island : Op_island Inv := by
  intro σ H
  obtain ⟨t1, t2, t3⟩ := in_T H
  obtain ⟨⟨r, σ1⟩, y0, e1, -, -, s0, t0, hB, hc⟩ := s_island (σ := σ) (τ := σ) hNN (in_b H) t1 t2 t3
  have hc1 : Agr wyC s0 σ1 := by
    rcases hc with ⟨-, c2, -⟩ | ⟨-, c2, -⟩
    · exact ag_mono c2 (fun a j q => Or.inl q)
    · exact c2
  have up : ∀ a j, 179 ≤ a → σ1 a j = σ a j := fun a j h => (hc1 a j (by unfold wyC wxC wrC seC; omega)).trans (hB.2.2.2.2.2.2.2.1 a j (by unfold bwC; omega))
  clear hc hc1 hB s0 t0
  have u180 : σ1 180 = σ 180 := funext fun j => up 180 j (by omega)
  have upw : pwA σ1 = pwA σ := by
    unfold pwA
    rw [up _ _ (by omega), up _ _ (by omega)]
  obtain ⟨z, ⟨r2, σ2⟩, g1, g2, g3, s0, t0, hB, hc⟩ := s_island (σ := σ) (τ := σ1) hNN (by rw [up _ _ (by omega)]; exact in_b H) (by rw [up _ _ (by omega)]; exact t1) (by rw [up _ _ (by omega)]; exact t2) (by rw [u180, up _ _ (by omega)]; exact t3)
  rw [e1] at g1
  cases g1
  have g3 : r = r2 := g3
  subst g3
  refine ⟨r, σ1, σ2, e1, g2, ?_⟩
  obtain ⟨ρ, -, u2, u3, u4, u5, u6⟩ := inv_layAll H
  obtain ⟨-, b1, b2, b3, b4, b5, b6, b7, b8⟩ := hB
  rcases hc with ⟨c1, c2, c3⟩ | ⟨c1, c2, c3⟩
  · have lo : ∀ a j, a < 179 → σ2 a j = σ1 a j := fun a j h => (c3 a j (by unfold mrC; omega)).trans (b8 a j (by unfold bmC; omega))
    refine inv_tape0 u2 (fun a j hh => ?_) ?_ ?_ ?_
    · by_cases q1 : a = 179 ∧ j = 23
      · rw [q1.1, q1.2, u3]
        exact (c3 179 23 (by unfold mrC; omega)).trans b5
      · by_cases q2 : a = 181 ∧ j = 3
        · rw [q2.1, q2.2, u4, ← upw]
          exact (c3 181 3 (by unfold mrC; omega)).trans b6
        · rw [u6 a j (fun q => by rcases q with q | q; exact q1 q; exact q2 q)]
          by_cases q3 : a < 179
          · exact (lo a j q3).trans ((c2 a j (fun q => hh (wr_sc q))).trans (b7 a j (fun q => hh (bw_sc q))))
          · exact ((c3 a j (fun q => hh (mr_sc q))).trans (b8 a j (fun q => hh (bm_sc q q1 q2)))).trans (up a j (Nat.le_of_not_lt q3))
    · exact (lo 0 1 (by omega)).trans ((c2 0 1 (by unfold wxC wrC; omega)).trans b1)
    · exact (c3 179 2 (by unfold mrC; omega)).trans b2
    · exact (lo 2 12 (by omega)).trans c1.1
  · have lo : ∀ a j, a < 179 → σ2 a j = σ1 a j := fun a j h => (c3 a j (by unfold mxC mrC; omega)).trans (b8 a j (by unfold bmC; omega))
    refine inv_isl (z := σ1) u2 (fun a j hh => ?_) ?_ ?_ ?_ lo c1
    · by_cases q1 : a = 179 ∧ j = 23
      · rw [q1.1, q1.2, u3]
        exact (c3 179 23 (by unfold mxC mrC; omega)).trans b5
      · rw [u6 a j (fun q => by rcases q with q | q; exact q1 q; exact hh (Or.inr (Or.inr (Or.inr (Or.inl q.1)))))]
        by_cases q3 : a < 179
        · exact (lo a j q3).trans ((c2 a j (fun q => hh (wy_il q))).trans (b7 a j (fun q => hh (il_1 (bw_sc q)))))
        · exact ((c3 a j (fun q => hh (mx_il q))).trans (b8 a j (fun q => hh (bm_il q q1)))).trans (up a j (Nat.le_of_not_lt q3))
    · exact (c3 179 23 (by unfold mxC mrC; omega)).trans b5
    · exact (lo 0 1 (by omega)).trans ((c2 0 1 (by unfold wyC wxC wrC seC; omega)).trans b1)
    · exact (c3 179 2 (by unfold mxC mrC; omega)).trans b2
end
