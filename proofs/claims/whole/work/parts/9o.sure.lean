/-! LAYER 3za13: sure, both -/
section
variable {A : JA} {σ s t : JSg} {n : Nat}
theorem cmp_pos {x : Nat} : 0 < cmpL (x : Int) 0 ↔ x ≠ 0 := by
  unfold cmpL
  by_cases h : (x : Int) > 0
  · rw [if_pos h]; omega
  · rw [if_neg h, if_pos (show (x : Int) = 0 by omega)]; omega
theorem e_M_sure {w : Nat} (hn : 1000000 < n) (hI : WfI (σ 181)) (hM : WfM (σ 181)) (hw : w < WN (σ 181)) : Ret (f_M_sure n (w : Int) σ) (fun z => Agr dmC σ z.2 ∧ surP (σ 181) w z.1) := by
  have W6 := w6 hI
  have b1 := hI.2.1
  have b193 := hM.1
  unfold f_M_sure
  rw [lt_u, e_M_isWidow, th_A, b1_s, decide_eq_true (by omega), if_neg bn0]
  generalize hA : σ 181 = A at *
  refine rt_b2 (e_M_deal (A := A) (s0 := -1) (w0 := -1) hn hI hM (by rw [th_A, hA]) (Or.inl rfl)) (fun r u hu => ?_)
  obtain ⟨u1, u2⟩ := hu
  have u2 : r = (dealV A (-1) (-1) : Nat) := u2
  subst u2
  have ua : Agr dmC σ u := ag_tr (ag_sp ag_refl (Or.inl ⟨rfl, rfl⟩)) (ag_mono u1 (fun a j q => Or.inr q))
  clear u1
  refine rt_lt (rt_lt (rt_lt ?_))
  refine rt_w3 (I := fun (x y : Int) (v : JSg) => ∃ q : Nat, y = q ∧ y ≤ A 1 ∧ okI x ∧ (∀ k : Nat, bt x k = true ↔ k < q ∧ unP A k = true ∧ dealV A (-1) (-1) ≠ 0 ∧ mayB A k w = true ∧ dealV A k w = dealV A (-1) (-1)) ∧ Agr dmC σ v) (μ := fun (x y : Int) (v : JSg) => (28 - y).toNat) ?_ n _ _ _ ⟨0, rfl, by omega, ⟨by decide, by decide⟩, fun k => ⟨fun q => (by rw [bt_0] at q; cases q), fun q => absurd q.1 (Nat.not_lt_zero _)⟩, ua⟩ (by omega)
  rintro x y v ⟨q, rfl, hq, xo, xb, va⟩ rc hrc
  have vA : v 181 = A := (funext fun j => va 181 j (by unfold dmC; omega)).trans hA
  have fin : ∀ z : Int, okI z → (∀ k : Nat, bt z k = true ↔ (k : Int) < A 1 ∧ unP A k = true ∧ dealV A (-1) (-1) ≠ 0 ∧ mayB A k w = true ∧ dealV A k w = dealV A (-1) (-1)) → surP A w z := by
    intro z z1 z2
    refine ⟨z1, fun k => (z2 k).trans ?_⟩
    constructor
    · rintro ⟨k1, k2, k3, k4, k5⟩
      obtain ⟨e1, e2⟩ := hdL_at (P := unP A) (k := k) (K := (A 1).toNat) (by omega) k2
      refine ⟨(hdL (unP A) k).length, e1, e2, k3, ?_⟩
      have := sur_m (A := A) (w := w) (j := (hdL (unP A) k).length) hw e1 k3
      refine this.mp ?_
      have e2' : (unL A).getD (hdL (unP A) k).length 0 = (k : Int) := e2
      rw [e2']
      exact ⟨k4, k5⟩
    · rintro ⟨j, j1, j2, j3, j4⟩
      have hg := hdL_g (P := unP A) (k := (A 1).toNat) (i := j) j1
      have eg : (hdL (unP A) (A 1).toNat).getD j 0 = (k : Int) := j2
      rw [eg] at hg
      have := (sur_m (A := A) (w := w) (j := j) hw j1 j3).mpr j4
      rw [j2] at this
      exact ⟨by omega, hg.2.2, j3, this⟩
  rw [stM, b1_s, vA]
  refine rt_ite (fun g => ?_) (fun g => ?_)
  · refine rt_ite (fun g2 => ?_) (fun g2 => ?_)
    · have nz := cmp_pos.mp g2
      rw [e_M_has (by omega) (by omega), b1_s, j2_s, wi (x := (q : Int) + 1) (by omega) (by omega)]
      simp only [lt_u]
      have nx : ∀ (z : Int) (t : JSg), okI z → (∀ k : Nat, bt z k = true ↔ bt x k = true ∨ (k = q ∧ unP A q = true ∧ mayB A q w = true ∧ dealV A q w = dealV A (-1) (-1))) → Agr dmC σ t → Ret (rc z ((q : Int) + 1) t) (fun z => Agr dmC σ z.2 ∧ surP A w z.1) := by
        intro z t z1 z2 z3
        refine hrc _ _ _ ⟨q + 1, by push_cast; rfl, by omega, z1, fun k => ?_, z3⟩ (by omega)
        rw [z2, xb]
        constructor
        · rintro (⟨k1, k2⟩ | ⟨rfl, k2, k3⟩)
          · exact ⟨by omega, k2⟩
          · exact ⟨by omega, k2, nz, k3⟩
        · rintro ⟨k1, k2, k3, k4⟩
          by_cases e : k = q
          · subst e; exact Or.inr ⟨rfl, k2, k4⟩
          · exact Or.inl ⟨by omega, k2, k3, k4⟩
      have no : (¬ (unP A q = true ∧ mayB A q w = true ∧ dealV A q w = dealV A (-1) (-1))) → ∀ t, Agr dmC σ t → Ret (rc x ((q : Int) + 1) t) (fun z => Agr dmC σ z.2 ∧ surP A w z.1) := by
        intro h t ht
        refine nx x t xo (fun k => ?_) ht
        constructor
        · exact Or.inl
        · rintro (h1 | ⟨-, h1⟩)
          · exact h1
          · exact absurd h1 h
      cases hb : bt (A 193) ((q : Int)).toNat
      · have hP : unP A q = true := by unfold unP; rw [hb]; rfl
        rw [if_pos by0, e_mayHave hI hM vA g hw, b1_s]
        cases hm : mayB A q w
        · rw [if_pos by0]
          exact no (fun h => by rw [hm] at h; cases h.2.1) v va
        · rw [if_neg bn0]
          refine rt_b2 (e_M_deal (A := A) (s := v) (s0 := (q : Int)) (w0 := (w : Int)) hn hI hM vA (Or.inr (by omega))) (fun r t ht => ?_)
          obtain ⟨t1, t2⟩ := ht
          have t2 : r = (dealV A q w : Nat) := t2
          subst t2
          have ta : Agr dmC σ t := ag_tr va (ag_mono t1 (fun a j q => Or.inr q))
          refine rt_ite (fun z => ?_) (fun z => ?_)
          · have e : dealV A q w = dealV A (-1) (-1) := by have := cmpL_0.mp z; omega
            refine nx _ t (ok_or _ _) (fun k => ?_) ta
            rw [bt_or, bt_bit (by omega) (by omega), Bool.or_eq_true, decide_eq_true_eq]
            constructor
            · rintro (h | h)
              · exact Or.inl h
              · exact Or.inr ⟨by omega, hP, hm, e⟩
            · rintro (h | ⟨h, -⟩)
              · exact Or.inl h
              · exact Or.inr (by omega)
          · exact no (fun h => z (cmpL_0.mpr (by omega))) t ta
      · have hP : ¬ unP A q = true := by unfold unP; rw [hb]; decide
        rw [if_neg bn0]
        exact no (fun h => hP h.1) v va
    · have z0 : dealV A (-1) (-1) = 0 := Classical.byContradiction fun h => g2 (cmp_pos.mpr h)
      refine rt_some ⟨va, fin _ xo (fun k => ?_)⟩
      show bt x k = true ↔ _
      rw [xb]
      constructor
      · rintro ⟨-, -, h, -⟩; exact absurd z0 h
      · rintro ⟨-, -, h, -⟩; exact absurd z0 h
  · refine rt_some ⟨va, fin _ xo (fun k => ?_)⟩
    show bt x k = true ↔ _
    rw [xb]
    constructor
    · rintro ⟨k1, k2⟩; exact ⟨by omega, k2⟩
    · rintro ⟨k1, k2⟩; exact ⟨by omega, k2⟩
end
theorem op_sure : Op_sure Inv := by
  intro σ H a ha
  have hI := in_I H
  have hM := in_M H
  have W6 := w6 hI
  by_cases g : 0 ≤ a ∧ a < σ 181 0
  · obtain ⟨w, rfl⟩ : ∃ w : Nat, a = w := ⟨a.toNat, by omega⟩
    obtain ⟨⟨r, σ1⟩, e1, e2, e3⟩ := e_certain (n := NN) (A := σ 181) (s := σ) (w := w) hNN hI hM ⟨in_L H, in_Y H⟩ (by omega)
    have e2 : Agr (fun a j => (a = 116 ∧ j = 5) ∨ a = 117 ∨ a = 118) σ σ1 := e2
    have A1 : σ1 181 = σ 181 := funext fun j => e2 181 j (by omega)
    obtain ⟨⟨r2, σ2⟩, f1, f2, f3⟩ := e_M_sure (n := NN) (σ := σ1) (w := w) hNN (by rw [A1]; exact hI) (by rw [A1]; exact hM) (by rw [A1]; omega)
    have f2 : Agr dmC σ1 σ2 := f2
    rw [A1] at f3
    have er : r = r2 := sur_u e3 f3
    refine ⟨r, σ1, σ2, ?_, by rw [f1, er], inv_ag (fun a j hq => ?_) H⟩
    · unfold f_W_sure
      rw [e_W_isWidow (in_L H), b1_s, decide_eq_true g, if_neg bn0, e1, b2_s]
    · refine (f2 a j (fun q => hq (dm_sc q))).trans (e2 a j (fun q => hq (dw_sc ?_)))
      unfold dwC
      omega
  · refine ⟨-1, σ, sp σ 179 0 0, ?_, ?_, inv_thr H⟩
    · unfold f_W_sure
      rw [e_W_isWidow (in_L H), b1_s, decide_eq_false g, if_pos by0]
    · unfold f_M_sure
      rw [lt_u, e_M_isWidow, th_A, b1_s, decide_eq_false g, if_pos by0]
