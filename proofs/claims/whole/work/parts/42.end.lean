/-! the stages' end -/
theorem shp_end : shp 203 ++ [.inr (2, 1)] = SH := by decide +kernel
theorem rstL_some (l : List (Nat × Nat × Nat)) : ∀ (ρ : JRo) (k j : Nat), ((∃ t ∈ l, t.1 = k ∧ t.2.1 = j) ∨ (ρ k j).isSome = true) → (l.foldl (fun ρ t => rp ρ t.1 t.2.1 t.2.2) ρ k j).isSome = true := by
  induction l with
  | nil =>
    intro ρ k j h
    rcases h with ⟨t, ht, -⟩ | h
    · cases ht
    · exact h
  | cons t l ih =>
    intro ρ k j h
    refine ih _ k j ?_
    rcases h with ⟨u, hu, h1, h2⟩ | h
    · rcases List.mem_cons.mp hu with rfl | hu
      · refine Or.inr ?_
        simp [rp, h1, h2]
      · exact Or.inl ⟨u, hu, h1, h2⟩
    · refine Or.inr ?_
      show (rp ρ t.1 t.2.1 t.2.2 k j).isSome = true
      unfold rp
      split
      · split
        · rfl
        · exact h
      · exact h
theorem rl_ok : ∀ t ∈ RLt, RHO t.1 t.2.1 = some t.2.2 := by decide +kernel
theorem rho_all : ((List.range 204).all fun k => (List.range (rhoT.getD k []).length).all fun j => (RHO k j).isNone || RLt.any (fun t => t.1 == k && t.2.1 == j)) = true := by decide +kernel
theorem rho_len : rhoT.length = 204 := by decide +kernel
theorem rho_mem {k j q : Nat} (h : RHO k j = some q) : ∃ t ∈ RLt, t.1 = k ∧ t.2.1 = j := by
  have hk : k < 204 := by
    apply Nat.lt_of_not_le
    intro hk
    unfold RHO at h
    have e : rhoT.getD k [] = [] := by rw [List.getD_eq_getElem?_getD, List.getElem?_eq_none (by rw [rho_len]; exact hk)]; rfl
    rw [e] at h
    cases h
  have hj : j < (rhoT.getD k []).length := by
    apply Nat.lt_of_not_le
    intro hj
    unfold RHO at h
    rw [List.getD_eq_getElem?_getD (l := rhoT.getD k []), List.getElem?_eq_none hj] at h
    cases h
  have h1 := List.all_eq_true.mp (List.all_eq_true.mp rho_all k (List.mem_range.mpr hk)) j (List.mem_range.mpr hj)
  rw [h] at h1
  simp only [Option.isNone_some, Bool.false_or, List.any_eq_true, Bool.and_eq_true, beq_iff_eq] at h1
  exact h1
theorem rl_len : RLt.length = 228 := by decide +kernel
theorem rst_end : rst 228 = RHO := by
  funext k j
  have e : rst 228 = rstL RLt := by unfold rst; rw [List.take_of_length_le (by rw [rl_len]; exact Nat.le_refl _)]
  rw [e]
  cases hq : rstL RLt k j with
  | some q =>
    rcases rstL_val RLt (fun _ _ => none) k j q hq with h1 | h1
    · cases h1
    · exact (rl_ok _ h1).symm
  | none =>
    cases hr : RHO k j with
    | none => rfl
    | some q =>
      have h1 := rstL_some RLt (fun _ _ => none) k j (Or.inl (rho_mem hr))
      have h2 : (rstL RLt k j).isSome = true := h1
      rw [hq] at h2
      cases h2
