/-! LAYER 3zb6: what the constructors write of the pips that fit (to go ahead of part 32) -/
section
theorem one_bit : ∀ n : Nat, n < 7 → ∀ v : Nat, v < 128 → (∀ m, m < 7 → v.testBit m = decide (n = m)) → v = 2 ^ n := by decide +kernel
theorem fit_gen {p c : Nat} (h : ∀ w : Nat, w < 7 → SLt[c + w]? = some (p + 6, w, ((2 ^ w : Nat) : Int))) (h5 : ∀ w : Nat, w < 7 → sst c (p + 5) w = 0) (h3 : sst c p 3 = 0) : f_Isl_findFitting 64 p (sst c) = some (sst (c + 7)) := by
  obtain ⟨s, e, a, d⟩ := e_fit (n := 64) (p := p) (σ := sst c) (A := fun _ => 0) (by decide) (fun w w0 w1 => h5 w.toNat (by omega)) h3
  have st : ∀ k : Nat, k ≤ 7 → ∀ q j, sst (c + k) q j = if q = p + 6 ∧ j < k then ((2 ^ j : Nat) : Int) else sst c q j := by
    intro k
    induction k with
    | zero => intro _ q j; rw [if_neg (by omega)]; rfl
    | succ k ih =>
      intro hk q j
      rw [show c + (k + 1) = c + k + 1 by omega, ← sst_push (h k (by omega)), sp_at]
      by_cases q1 : q = p + 6
      · rw [if_pos q1]
        by_cases q2 : j = k
        · rw [if_pos q2, if_pos ⟨q1, by omega⟩, q2]
        · rw [if_neg q2, ih (by omega)]
          by_cases q3 : j < k
          · rw [if_pos ⟨q1, q3⟩, if_pos ⟨q1, by omega⟩]
          · rw [if_neg (fun z => q3 z.2), if_neg (fun z => by omega)]
      · rw [if_neg q1, ih (by omega), if_neg (fun z => q1 z.1), if_neg (fun z => q1 z.1)]
  rw [e]
  congr 1
  funext q j
  rw [st 7 (by omega)]
  by_cases f : q = p + 6 ∧ j < 7
  · obtain ⟨rfl, hj⟩ := f
    rw [if_pos ⟨rfl, hj⟩]
    obtain ⟨⟨d1, d2⟩, d3⟩ := d (j : Int) (by omega) (by omega)
    rw [Int.toNat_natCast] at d1 d2 d3
    obtain ⟨v, hv⟩ : ∃ v : Nat, s (p + 6) j = (v : Int) := ⟨(s (p + 6) j).toNat, by omega⟩
    rw [hv] at d1 d2 d3 ⊢
    have := one_bit j hj v (by omega) (fun m hm => by
      have k := d3 (m : Int) (by omega) (by omega)
      rw [Int.toNat_natCast, bt_n (by omega)] at k
      rw [k]
      unfold fitB
      rw [bt_0, bt_0]
      by_cases z : j = m
      · subst z; simp
      · have z2 : ¬ (j : Int) = (m : Int) := by omega
        simp [z, z2])
    rw [this]
  · rw [if_neg f]
    exact a q j f
end
