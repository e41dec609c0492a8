/-! LAYER 3zn: ONES of a SENTENCE side by side -/
section
variable {σ τ s t s' t' : JSg} {n p d : Nat} {c : JA} {size lim q : Int}
theorem flat_s {A : JA} {f : Nat} {k : Int} : flat A (f + 1) k = if 0 ≤ k ∧ k < 60 then
      if A (208 + 4 * k).toNat = 1 then (flat A f (A (208 + 4 * k + 1).toNat)).bind fun l => some (l ++ [(11, 0, 0)])
      else if A (208 + 4 * k).toNat = 2 then (flat A f (A (208 + 4 * k + 1).toNat)).bind fun l => (flat A f (A (208 + 4 * k + 2).toNat)).bind fun l2 => some (l ++ l2 ++ [(10, 0, 0)])
      else if A (208 + 4 * k).toNat = 3 then (flat A f (A (208 + 4 * k + 1).toNat)).bind fun l => (flat A f (A (208 + 4 * k + 2).toNat)).bind fun l2 => some (l ++ l2 ++ [(9, 0, 0)])
      else if 61 ≤ A (208 + 4 * k).toNat ∧ A (208 + 4 * k).toNat ≤ 69 then some [(A (208 + 4 * k).toNat - 49, A (208 + 4 * k + 3).toNat, if A (208 + 4 * k).toNat = 64 then A (208 + 4 * k + 1).toNat else A (208 + 4 * k + 2).toNat)]
      else none
    else none := rfl
theorem flat_le {A : JA} : ∀ (f g : Nat) (k : Int) (L : List (Int × Int × Int)), f ≤ g → flat A f k = some L → flat A g k = some L := by
  intro f
  induction f with
  | zero => intro g k L _ h; cases h
  | succ f ih =>
    intro g k L hg h
    obtain ⟨m, rfl⟩ : ∃ m, g = m + 1 := ⟨g - 1, by omega⟩
    rw [flat_s] at h ⊢
    by_cases hk : 0 ≤ k ∧ k < 60
    · rw [if_pos hk] at h ⊢
      generalize A (208 + 4 * k).toNat = a0 at *
      generalize A (208 + 4 * k + 1).toNat = a1 at *
      generalize A (208 + 4 * k + 2).toNat = a2 at *
      have one : ∀ (K : List (Int × Int × Int) → Option (List (Int × Int × Int))) (a : Int), (flat A f a).bind K = some L → ∃ l, flat A m a = some l ∧ K l = some L := by
        intro K a h
        cases e : flat A f a with
        | none => rw [e] at h; cases h
        | some l => rw [e] at h; exact ⟨l, ih m a l (by omega) e, h⟩
      have two : ∀ w : Int, ((flat A f a1).bind fun l => (flat A f a2).bind fun l2 => some (l ++ l2 ++ [(w, 0, 0)])) = some L → ((flat A m a1).bind fun l => (flat A m a2).bind fun l2 => some (l ++ l2 ++ [(w, 0, 0)])) = some L := by
        intro w h
        obtain ⟨l, e1, e2⟩ := one _ _ h
        obtain ⟨l2, e3, e4⟩ := one _ _ e2
        rw [e1]
        show (flat A m a2).bind _ = _
        rw [e3]
        exact e4
      by_cases c1 : a0 = 1
      · rw [if_pos c1] at h ⊢
        obtain ⟨l, e1, e2⟩ := one _ _ h
        rw [e1]
        exact e2
      · rw [if_neg c1] at h ⊢
        by_cases c2 : a0 = 2
        · rw [if_pos c2] at h ⊢
          exact two 10 h
        · rw [if_neg c2] at h ⊢
          by_cases c3 : a0 = 3
          · rw [if_pos c3] at h ⊢
            exact two 9 h
          · rw [if_neg c3] at h ⊢
            exact h
    · rw [if_neg hk] at h
      cases h
/-- node k of a row of nodes, nd of them told, says L -/
def TreeR (T : JA) (nd k : Int) (L : List (Int × Int × Int)) : Prop := ∃ f : Nat, (f : Int) ≤ nd ∧ ∀ B : JA, (∀ j : Nat, (j : Int) < 4 * nd → B (208 + j) = T j) → flat B f k = some L
theorem tree_mo {T T' : JA} {nd nd' k : Int} {L : List (Int × Int × Int)} (h : TreeR T nd k L) (h1 : nd ≤ nd') (h2 : ∀ j : Nat, (j : Int) < 4 * nd → T' j = T j) : TreeR T' nd' k L := by
  obtain ⟨f, f1, f2⟩ := h
  exact ⟨f, by omega, fun B hB => f2 B (fun j hj => (hB j (by omega)).trans (h2 j hj))⟩
theorem tree_leaf {T : JA} {nd a x y w : Int} (h0 : 0 ≤ nd ∧ nd < 60) (ha : 61 ≤ a ∧ a ≤ 69) (h1 : T (4 * nd).toNat = a) (h2 : T (4 * nd + 1).toNat = x) (h3 : T (4 * nd + 2).toNat = y) (h4 : T (4 * nd + 3).toNat = w) : TreeR T (nd + 1) nd [(a - 49, w, if a = 64 then x else y)] := by
  refine ⟨1, by omega, fun B hB => ?_⟩
  have e1 : B (208 + 4 * nd).toNat = a := by rw [← h1, ← hB _ (by omega)]; congr 1; omega
  have e2 : B (208 + 4 * nd + 1).toNat = x := by rw [← h2, ← hB _ (by omega)]; congr 1; omega
  have e3 : B (208 + 4 * nd + 2).toNat = y := by rw [← h3, ← hB _ (by omega)]; congr 1; omega
  have e4 : B (208 + 4 * nd + 3).toNat = w := by rw [← h4, ← hB _ (by omega)]; congr 1; omega
  rw [flat_s, if_pos h0, e1, e2, e3, e4, if_neg (by omega), if_neg (by omega), if_neg (by omega), if_pos ha]
theorem tree_not {T : JA} {nd x : Int} {L : List (Int × Int × Int)} (h0 : 0 ≤ nd ∧ nd < 60) (h1 : T (4 * nd).toNat = 1) (h2 : T (4 * nd + 1).toNat = x) (hx : TreeR T nd x L) : TreeR T (nd + 1) nd (L ++ [(11, 0, 0)]) := by
  obtain ⟨f, f1, f2⟩ := hx
  refine ⟨f + 1, by omega, fun B hB => ?_⟩
  have e1 : B (208 + 4 * nd).toNat = 1 := by rw [← h1, ← hB _ (by omega)]; congr 1; omega
  have e2 : B (208 + 4 * nd + 1).toNat = x := by rw [← h2, ← hB _ (by omega)]; congr 1; omega
  rw [flat_s, if_pos h0, e1, e2, if_pos rfl, f2 B (fun j hj => hB j (by omega))]
  rfl
theorem tree_bin {T : JA} {nd a w x y : Int} {L1 L2 : List (Int × Int × Int)} (h0 : 0 ≤ nd ∧ nd < 60) (ha : (a = 2 ∧ w = 10) ∨ (a = 3 ∧ w = 9)) (h1 : T (4 * nd).toNat = a) (h2 : T (4 * nd + 1).toNat = x) (h3 : T (4 * nd + 2).toNat = y) (hx : TreeR T nd x L1) (hy : TreeR T nd y L2) : TreeR T (nd + 1) nd (L1 ++ L2 ++ [(w, 0, 0)]) := by
  obtain ⟨f, f1, f2⟩ := hx
  obtain ⟨g, g1, g2⟩ := hy
  refine ⟨max f g + 1, by omega, fun B hB => ?_⟩
  have e1 : B (208 + 4 * nd).toNat = a := by rw [← h1, ← hB _ (by omega)]; congr 1; omega
  have e2 : B (208 + 4 * nd + 1).toNat = x := by rw [← h2, ← hB _ (by omega)]; congr 1; omega
  have e3 : B (208 + 4 * nd + 2).toNat = y := by rw [← h3, ← hB _ (by omega)]; congr 1; omega
  have e4 := flat_le _ (max f g) _ _ (by omega) (f2 B (fun j hj => hB j (by omega)))
  have e5 := flat_le _ (max f g) _ _ (by omega) (g2 B (fun j hj => hB j (by omega)))
  rw [flat_s, if_pos h0, e1, e2, e3, if_neg (by omega), e4, e5]
  rcases ha with ⟨rfl, rfl⟩ | ⟨rfl, rfl⟩
  · rfl
  · rfl
theorem lv_ap (L1 L2 : List (Int × Int × Int)) : leaves (L1 ++ L2) = leaves L1 + leaves L2 := by
  unfold leaves
  rw [List.filter_append, List.length_append]
theorem lv_1 (x : Int × Int × Int) : leaves [x] ≤ 1 := List.length_filter_le _ _
theorem lv_op {x : Int × Int × Int} (h : x.1 < 12) : leaves [x] = 0 := by
  unfold leaves
  rw [List.filter_cons_of_neg (by simp; omega)]
  rfl
/-- what was added on both sides: L -/
def GrQ (σ τ s t : JSg) (L : List (Int × Int × Int)) : Prop := s 44 1 = t 179 48 ∧ s 44 1 = σ 44 1 + L.length ∧ (∀ (i : Nat) (x : Int × Int × Int), L[i]? = some x → s 45 ((σ 44 1).toNat + i) = x.1 ∧ s 46 ((σ 44 1).toNat + i) = x.2.1 ∧ s 47 ((σ 44 1).toNat + i) = x.2.2) ∧ (∀ i : Nat, (i : Int) < σ 44 1 → s 45 i = σ 45 i ∧ s 46 i = σ 46 i ∧ s 47 i = σ 47 i) ∧ (∀ j : Nat, (j : Int) < 4 * σ 44 1 → t 202 j = τ 202 j)
def OnR (σ s t : JSg) (L : List (Int × Int × Int)) : Prop := s 44 0 = t 179 49 ∧ σ 44 0 < s 44 0 ∧ s 44 0 ≤ 20 ∧ (L.length : Int) ≤ 2 * (s 44 0 - σ 44 0) - 1 ∧ (leaves L : Int) ≤ s 44 0 - σ 44 0
def GrP (σ τ s t : JSg) (L : List (Int × Int × Int)) (a : Int) : Prop := GrQ σ τ s t L ∧ OnR σ s t L ∧ t 179 50 = τ 179 50 ∧ TreeR (t 202) (s 44 1) a L ∧ s 2 12 = t 179 10
theorem gq_nil (h : s 44 1 = t 179 48) (h1 : ∀ a j, (a = 44 ∧ j = 1) ∨ a = 45 ∨ a = 46 ∨ a = 47 → s a j = σ a j) (h2 : ∀ j, t 202 j = τ 202 j) : GrQ σ τ s t [] := by
  refine ⟨h, by rw [h1 _ _ (by omega)]; exact (Int.add_zero _).symm, fun i x hx => ?_, fun i hi => ⟨h1 _ _ (by omega), h1 _ _ (by omega), h1 _ _ (by omega)⟩, fun j hj => h2 j⟩
  rw [List.getElem?_nil] at hx
  cases hx
theorem gq_ag {L : List (Int × Int × Int)} (h : GrQ σ τ s t L) (h1 : ∀ a j, (a = 44 ∧ j = 1) ∨ a = 45 ∨ a = 46 ∨ a = 47 → s' a j = s a j) (h2 : ∀ a j, (a = 179 ∧ j = 48) ∨ a = 202 → t' a j = t a j) : GrQ σ τ s' t' L := by
  obtain ⟨a1, a2, a3, a4, a5⟩ := h
  refine ⟨by rw [h1 _ _ (by omega), h2 _ _ (by omega)]; exact a1, by rw [h1 _ _ (by omega)]; exact a2, fun i x hx => ?_, fun i hi => ?_, fun j hj => by rw [h2 _ _ (by omega)]; exact a5 j hj⟩
  · rw [h1 _ _ (by omega), h1 _ _ (by omega), h1 _ _ (by omega)]; exact a3 i x hx
  · rw [h1 _ _ (by omega), h1 _ _ (by omega), h1 _ _ (by omega)]; exact a4 i hi
theorem gp_ag {L : List (Int × Int × Int)} {a : Int} (h : GrP σ τ s t L a) (h1 : ∀ a j, (a = 44 ∧ j ≤ 1) ∨ a = 45 ∨ a = 46 ∨ a = 47 ∨ (a = 2 ∧ j = 12) → s' a j = s a j) (h2 : ∀ a j, (a = 179 ∧ (j = 48 ∨ j = 49 ∨ j = 50 ∨ j = 10)) ∨ a = 202 → t' a j = t a j) : GrP σ τ s' t' L a := by
  obtain ⟨a1, a2, a3, a4, a5⟩ := h
  unfold OnR at a2
  refine ⟨gq_ag a1 (fun a j hh => h1 a j (by omega)) (fun a j hh => h2 a j (by omega)), ?_, by rw [h2 _ _ (by omega)]; exact a3, ?_, by rw [h1 _ _ (by omega), h2 _ _ (by omega)]; exact a5⟩
  · unfold OnR
    rw [h1 44 0 (by omega), h2 179 49 (by omega)]; exact a2
  · rw [h1 44 1 (by omega)]
    exact tree_mo a4 (by omega) (fun j _ => h2 202 j (by omega))
theorem gq_app {u v : JSg} {L1 L2 : List (Int × Int × Int)} (h : GrQ σ τ s t L1) (h0 : 0 ≤ σ 44 1) (g : GrQ s t u v L2) : GrQ σ τ u v (L1 ++ L2) := by
  obtain ⟨a1, a2, a3, a4, a5⟩ := h
  obtain ⟨b1, b2, b3, b4, b5⟩ := g
  refine ⟨b1, by rw [List.length_append]; push_cast; omega, fun i x hx => ?_, fun i hi => ?_, fun j hj => (b5 j (by omega)).trans (a5 j hj)⟩
  · by_cases hi : i < L1.length
    · rw [List.getElem?_append_left hi] at hx
      have c := b4 ((σ 44 1).toNat + i) (by omega)
      rw [c.1, c.2.1, c.2.2]
      exact a3 i x hx
    · rw [List.getElem?_append_right (by omega)] at hx
      have c := b3 _ x hx
      rw [show (s 44 1).toNat + (i - L1.length) = (σ 44 1).toNat + i by omega] at c
      exact c
  · have c := b4 i (by omega)
    rw [c.1, c.2.1, c.2.2]
    exact a4 i hi
theorem e_addW {a b w : Int} (h : 0 ≤ s 44 1 ∧ s 44 1 < 40) : ∃ u, f_Sen_add 44 a b w s = some (1, u) ∧ u 44 1 = s 44 1 + 1 ∧ u 45 (s 44 1).toNat = a ∧ u 46 (s 44 1).toNat = b ∧ u 47 (s 44 1).toNat = w ∧ ∀ x j, ¬ ((x = 44 ∧ j = 1) ∨ ((x = 45 ∨ x = 46 ∨ x = 47) ∧ j = (s 44 1).toNat)) → u x j = s x j := by
  unfold f_Sen_add
  rw [if_pos h.2]
  simp (disch := omega) only [lt_u, ck_p, sp_nq, wi]
  refine ⟨_, rfl, sp_eq, ?_, ?_, ?_, fun x j hh => ?_⟩
  · simp (disch := omega) only [sp_eq, sp_nq]
  · simp (disch := omega) only [sp_eq, sp_nq]
  · simp (disch := omega) only [sp_eq, sp_nq]
  · simp only [sp_at]
    repeat' split
    all_goals first | omega | rfl
theorem e_saysM {a b e w : Int} (h : 0 ≤ t 179 48 ∧ t 179 48 < 60) : ∃ v, f_M_saysOne a b e w t = some (t 179 48, v) ∧ v 179 48 = t 179 48 + 1 ∧ v 202 (4 * t 179 48).toNat = a ∧ v 202 (4 * t 179 48 + 1).toNat = b ∧ v 202 (4 * t 179 48 + 2).toNat = e ∧ v 202 (4 * t 179 48 + 3).toNat = w ∧ ∀ x j, ¬ ((x = 179 ∧ j = 48) ∨ (x = 202 ∧ (4 * t 179 48).toNat ≤ j)) → v x j = t x j := by
  unfold f_M_saysOne
  simp (disch := omega) only [lt_u, wi, ck_p, sp_nq, sp_eq]
  rw [show t 179 48 + 1 - 1 = t 179 48 by omega]
  refine ⟨_, rfl, sp_eq, ?_, ?_, ?_, ?_, fun x j hh => ?_⟩
  · simp (disch := omega) only [sp_eq, sp_nj, sp_nq]
  · simp (disch := omega) only [sp_eq, sp_nj, sp_nq]
  · simp (disch := omega) only [sp_eq, sp_nj, sp_nq]
  · simp (disch := omega) only [sp_eq, sp_nj, sp_nq]
  · simp only [sp_at]
    repeat' split
    all_goals first | omega | rfl
theorem gq_1 {a b w : Int} {u v : JSg} (h1 : s 44 1 = t 179 48) (h0 : 0 ≤ s 44 1) (u1 : u 44 1 = s 44 1 + 1) (u2 : u 45 (s 44 1).toNat = a) (u3 : u 46 (s 44 1).toNat = b) (u4 : u 47 (s 44 1).toNat = w) (u5 : ∀ x j, ¬ ((x = 44 ∧ j = 1) ∨ ((x = 45 ∨ x = 46 ∨ x = 47) ∧ j = (s 44 1).toNat)) → u x j = s x j) (v1 : v 179 48 = t 179 48 + 1) (v5 : ∀ x j, ¬ ((x = 179 ∧ j = 48) ∨ (x = 202 ∧ (4 * t 179 48).toNat ≤ j)) → v x j = t x j) : GrQ s t u v [(a, b, w)] := by
  refine ⟨by omega, by rw [u1]; rfl, fun i x hx => ?_, fun i hi => ⟨u5 _ _ (by omega), u5 _ _ (by omega), u5 _ _ (by omega)⟩, fun j hj => v5 _ _ (by omega)⟩
  cases i with
  | zero =>
    have : (a, b, w) = x := Option.some.inj hx
    subst this
    exact ⟨u2, u3, u4⟩
  | succ i => cases hx
end
