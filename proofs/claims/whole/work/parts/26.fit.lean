/-! LAYER 3a3: which PIPS fit -/
section
theorem by0 : bi false = 0 := by decide
theorem bn0 : ¬ bi true = 0 := by decide
variable {σ τ : JSg} {n p : Nat} {A : JA}
theorem or_bd {x k : Int} (hx : 0 ≤ x ∧ x < 128) (hk : 0 ≤ k ∧ k ≤ 6) : 0 ≤ or32 x (sl32 1 k) ∧ or32 x (sl32 1 k) < 128 := by
  obtain ⟨a, rfl⟩ : ∃ a : Nat, x = a := ⟨x.toNat, by omega⟩
  have hc : k = 0 ∨ k = 1 ∨ k = 2 ∨ k = 3 ∨ k = 4 ∨ k = 5 ∨ k = 6 := by omega
  have key : ∀ b : Nat, b < 128 → 0 ≤ or32 (a : Int) (b : Int) ∧ or32 (a : Int) (b : Int) < 128 := by
    intro b hb
    rw [or_n (by omega) (by omega)]
    have := Nat.or_lt_two_pow (n := 7) (x := a) (y := b) (by omega) (by omega)
    omega
  rcases hc with rfl | rfl | rfl | rfl | rfl | rfl | rfl
  · exact key 1 (by decide)
  · exact key 2 (by decide)
  · exact key 4 (by decide)
  · exact key 8 (by decide)
  · exact key 16 (by decide)
  · exact key 32 (by decide)
  · exact key 64 (by decide)
theorem bt_orb {x k : Int} {j : Nat} (hk : 0 ≤ k ∧ k ≤ 6) : bt (or32 x (sl32 1 k)) j = (bt x j || decide ((j : Int) = k)) := by rw [bt_or, bt_bit (by omega) (by omega)]
theorem an_bi {x k : Int} {b : Bool} (h0 : 0 ≤ k) (h1 : k < 32) (h : bt x k.toNat = b) : (if an32 (sr32 x k) 1 = 0 then some (0 : Int) else some 1) = some (bi b) := by
  rw [has_e h0 h1, h]
  cases b
  · rfl
  · rfl
def fitC (p a j : Nat) : Prop := a = p + 6 ∧ j < 7
def fitD (s : JSg) (p : Nat) (A : JA) (w : Int) : Prop := (0 ≤ s (p + 6) w.toNat ∧ s (p + 6) w.toNat < 128) ∧ ∀ m : Int, 0 ≤ m → m < 7 → bt (s (p + 6) w.toNat) m.toNat = fitB A w m
theorem e_fit (hn : 10 < n) (h5 : ∀ w : Int, 0 ≤ w → w < 7 → σ (p + 5) w.toNat = A (4 + w).toNat) (h3 : σ p 3 = A 2) : Ret (f_Isl_findFitting n p σ) (fun s => Agr (fitC p) σ s ∧ ∀ w : Int, 0 ≤ w → w < 7 → fitD s p A w) := by
  unfold f_Isl_findFitting
  refine rt_lt ?_
  refine rt_w2 (I := fun (x : Int) (s : JSg) => (0 ≤ x ∧ x ≤ 7) ∧ Agr (fitC p) σ s ∧ ∀ w : Int, 0 ≤ w → w < x → fitD s p A w) (μ := fun (x : Int) (s : JSg) => (7 - x).toNat) ?_ n _ _ ⟨by omega, ag_refl, fun w _ _ => by omega⟩ (by omega)
  rintro x s ⟨x01, sa, sd⟩ rc hrc
  refine rt_ite (fun hx => ?_) (fun hx => rt_some ⟨sa, fun w w0 w1 => sd w w0 (by omega)⟩)
  refine rt_chk (by omega) (rt_lt (rt_lt ?_))
  refine rt_w2 (I := fun (y : Int) (u : JSg) => (0 ≤ y ∧ y ≤ 7) ∧ Agr (fitC p) σ u ∧ (∀ w : Int, 0 ≤ w → w < x → fitD u p A w) ∧ (0 ≤ u (p + 6) x.toNat ∧ u (p + 6) x.toNat < 128) ∧ ∀ m : Int, 0 ≤ m → m < 7 → bt (u (p + 6) x.toNat) m.toNat = (decide (m < y) && fitB A x m)) (μ := fun (y : Int) (s : JSg) => (7 - y).toNat) ?_ n _ _ ⟨by omega, ag_sp sa (by unfold fitC; omega), fun w w0 w1 => ?_, ?_, fun m m0 m1 => ?_⟩ (by omega)
  · rintro y u ⟨y01, ua, ud, ub, um⟩ rd hrd
    refine rt_ite (fun hy => ?_) (fun hy => ?_)
    · have hit : fitB A x y = true → Ret (rd (y + 1) (sp u (p + 6) x.toNat (or32 (u (p + 6) x.toNat) (sl32 1 y)))) (fun s => Agr (fitC p) σ s ∧ ∀ w : Int, 0 ≤ w → w < 7 → fitD s p A w) := by
        intro hf
        refine hrd _ _ ⟨by omega, ag_sp ua (by unfold fitC; omega), fun w w0 w1 => ?_, ?_, fun m m0 m1 => ?_⟩ (by omega)
        · unfold fitD
          rw [sp_nj (by omega)]; exact ud w w0 w1
        · rw [sp_eq]; exact or_bd ub (by omega)
        · rw [sp_eq, bt_orb (by omega), um m m0 m1]
          by_cases e : m = y
          · subst e
            rw [hf, decide_eq_true (show ((m.toNat : Nat) : Int) = m by omega), decide_eq_true (show m < m + 1 by omega), Bool.or_true]
            rfl
          · rw [decide_eq_false (show ¬ ((m.toNat : Nat) : Int) = y by omega), Bool.or_false]
            congr 1
            exact decide_eq_decide.mpr (by omega)
      have mis : fitB A x y = false → Ret (rd (y + 1) u) (fun s => Agr (fitC p) σ s ∧ ∀ w : Int, 0 ≤ w → w < 7 → fitD s p A w) := by
        intro hf
        refine hrd _ _ ⟨by omega, ua, ud, ub, fun m m0 m1 => ?_⟩ (by omega)
        rw [um m m0 m1]
        by_cases e : m = y
        · subst e
          rw [hf, Bool.and_false, Bool.and_false]
        · congr 1
          exact decide_eq_decide.mpr (by omega)
      have u5 : u (p + 5) x.toNat = A (4 + x).toNat := (ua _ _ (by unfold fitC; omega)).trans (h5 x (by omega) (by omega))
      have u3 : u p 3 = A 2 := (ua _ _ (by unfold fitC; omega)).trans h3
      have ea : f_Isl_areAngry p x y u = some (bi (bt (A (4 + x).toNat) y.toNat)) := by
        unfold f_Isl_areAngry
        rw [ck_p (by omega), u5]; exact an_bi (by omega) (by omega) rfl
      have ef : ∀ k : Int, 0 ≤ k → k < 7 → f_Isl_isForgiven p k u = some (bi (bt (A 2) k.toNat)) := by
        intro k k0 k1
        unfold f_Isl_isForgiven
        rw [u3]; exact an_bi (by omega) (by omega) rfl
      simp only [j0_s, j1_s, lt_u]
      rw [ea, b1_s, ef x (by omega) (by omega), ef y (by omega) (by omega), wi (x := y + 1) (by omega) (by omega), ck_p (by omega), ck_p (by omega)]
      unfold fitB at hit mis
      cases g1 : bt (A (4 + x).toNat) y.toNat
      · rw [if_pos by0]
        by_cases g2 : x = y
        · rw [if_pos g2]
          exact hit (by rw [g1, decide_eq_true g2]; rfl)
        · rw [if_neg g2, b1_s]
          cases g3 : bt (A 2) x.toNat
          · rw [if_pos by0, b1_s]
            cases g4 : bt (A 2) y.toNat
            · rw [if_pos by0]
              exact mis (by rw [g1, g3, g4, decide_eq_false g2]; rfl)
            · rw [if_neg bn0]
              exact hit (by rw [g1, g3, g4, decide_eq_false g2]; rfl)
          · rw [if_neg bn0]
            exact hit (by rw [g1, g3, decide_eq_false g2]; rfl)
      · rw [if_neg bn0]
        exact mis (by rw [g1]; rfl)
    · rw [lt_u, wi (by omega) (by omega)]
      refine hrc _ _ ⟨by omega, ua, fun w w0 w1 => ?_⟩ (by omega)
      by_cases e : w = x
      · subst e
        exact ⟨ub, fun m m0 m1 => by rw [um m m0 m1, decide_eq_true (show m < y by omega), Bool.true_and]⟩
      · exact ud w w0 (by omega)
  · unfold fitD
    rw [sp_nj (by omega)]; exact sd w w0 w1
  · rw [sp_eq]; omega
  · rw [sp_eq, bt_0, decide_eq_false (by omega)]; rfl
end
