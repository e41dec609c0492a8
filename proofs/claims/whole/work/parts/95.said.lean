/-! LAYER 3zt: said -/
section
variable {σ τ s : JSg} {n p : Nat} {A : JA}
theorem bt_m1 : ∀ k : Nat, k < 32 → bt (-1) k = true := by decide +kernel
theorem lvp {x : Int × Int × Int} (h : 12 ≤ x.1) : leaves [x] = 1 := by
  unfold leaves
  rw [List.filter_cons_of_pos (by simp; omega)]
  rfl
theorem w_flat (hn : 1000000 < n) (hI : WfI A) (hW : WfR A) (hL : IslR σ 4 A) (hR : RowR σ 11 A) (hz : σ 21 1 ≤ 40) : ∀ (f : Nat) (k : Int) (L : List (Int × Int × Int)), flat A f k = some L → 1 ≤ leaves L ∧ ∃ v : Int → Bool, (∀ (τ : JSg) (g : Nat) (t : Int), τ 181 = A → f ≤ g → 0 ≤ t → t < A 1 → fg_M_holds n g k t τ = some (bi (v t))) ∧ (∀ (P : Int × JSg → Prop) (m i h : Nat) (s : JSg), (∀ a j, a ≠ 25 → s a j = σ a j) → (∀ (j : Nat) (x : Int × Int × Int), L[j]? = some x → σ 22 (i + j) = x.1 ∧ σ 23 (i + j) = x.2.1 ∧ σ 24 (i + j) = x.2.2) → h + leaves L ≤ 20 → (i : Int) + L.length ≤ σ 21 1 → (∀ s' : JSg, (∀ a j, ¬ (a = 25 ∧ h ≤ j) → s' a j = s a j) → (∀ t : Int, 0 ≤ t → t < A 1 → bt (s' 25 h) t.toNat = v t) → Ret (wh3 m (tOB n) ((h + 1 : Nat) : Int) ((i + L.length : Nat) : Int) s') P) → Ret (wh3 (m + L.length) (tOB n) (h : Int) (i : Int) s) P) := by
  have b28 := hI.2.1
  intro f
  induction f with
  | zero => intro k L h; cases h
  | succ f ih =>
    intro k L h
    rw [flat_s] at h
    by_cases hk : 0 ≤ k ∧ k < 60
    · rw [if_pos hk] at h
      have one : ∀ (K : List (Int × Int × Int) → Option (List (Int × Int × Int))) (a : Int), (flat A f a).bind K = some L → ∃ l, flat A f a = some l ∧ K l = some L := by
        intro K a h
        cases e : flat A f a with
        | none => rw [e] at h; cases h
        | some l => rw [e] at h; exact ⟨l, rfl, h⟩
      have hMs : ∀ (τ : JSg) (g : Nat) (t : Int), f_M_holds_s n (fg_M_holds n g) k t τ = fg_M_holds n (g + 1) k t τ := fun _ _ _ => rfl
      generalize ec : A (208 + 4 * k).toNat = c at *
      generalize ex : A (208 + 4 * k + 1).toNat = x at *
      generalize ey : A (208 + 4 * k + 2).toNat = y at *
      generalize ew : A (208 + 4 * k + 3).toNat = w at *
      have g0 : ∀ τ : JSg, τ 181 = A → τ 181 (208 + 4 * k).toNat = c := fun τ hA => by rw [hA, ec]
      have g1 : ∀ τ : JSg, τ 181 = A → τ 181 (208 + 4 * k + 1).toNat = x := fun τ hA => by rw [hA, ex]
      have g2 : ∀ τ : JSg, τ 181 = A → τ 181 (208 + 4 * k + 2).toNat = y := fun τ hA => by rw [hA, ey]
      have g3 : ∀ τ : JSg, τ 181 = A → τ 181 (208 + 4 * k + 3).toNat = w := fun τ hA => by rw [hA, ew]
      have two : ∀ u : Int, ((u = 10 ∧ c = 2) ∨ (u = 9 ∧ c = 3)) → ((flat A f x).bind fun l => (flat A f y).bind fun l2 => some (l ++ l2 ++ [(u, 0, 0)])) = some L → 1 ≤ leaves L ∧ ∃ v : Int → Bool, (∀ (τ : JSg) (g : Nat) (t : Int), τ 181 = A → f + 1 ≤ g → 0 ≤ t → t < A 1 → fg_M_holds n g k t τ = some (bi (v t))) ∧ (∀ (P : Int × JSg → Prop) (m i h : Nat) (s : JSg), (∀ a j, a ≠ 25 → s a j = σ a j) → (∀ (j : Nat) (x : Int × Int × Int), L[j]? = some x → σ 22 (i + j) = x.1 ∧ σ 23 (i + j) = x.2.1 ∧ σ 24 (i + j) = x.2.2) → h + leaves L ≤ 20 → (i : Int) + L.length ≤ σ 21 1 → (∀ s' : JSg, (∀ a j, ¬ (a = 25 ∧ h ≤ j) → s' a j = s a j) → (∀ t : Int, 0 ≤ t → t < A 1 → bt (s' 25 h) t.toNat = v t) → Ret (wh3 m (tOB n) ((h + 1 : Nat) : Int) ((i + L.length : Nat) : Int) s') P) → Ret (wh3 (m + L.length) (tOB n) (h : Int) (i : Int) s) P) := by
        intro u hu h
        obtain ⟨l1, e1, h⟩ := one _ _ h
        obtain ⟨l2, e2, h⟩ := one _ _ h
        have h : l1 ++ l2 ++ [(u, 0, 0)] = L := Option.some.inj h
        subst h
        obtain ⟨a1, v1, a2, a3⟩ := ih x l1 e1
        obtain ⟨b1, v2, b2, b3⟩ := ih y l2 e2
        have lv : leaves (l1 ++ l2 ++ [(u, 0, 0)]) = leaves l1 + leaves l2 := by rw [lv_ap, lv_ap, lv_op (by show u < 12; omega)]; rfl
        have ll : (l1 ++ l2 ++ [(u, 0, 0)]).length = l1.length + l2.length + 1 := by rw [List.length_append, List.length_append]; rfl
        refine ⟨by omega, fun t => if c = 2 then v1 t && v2 t else v1 t || v2 t, fun τ g t hA hg t0 t1 => ?_, fun P m i h s hs hp hh hi hK => ?_⟩
        · obtain ⟨g, rfl⟩ : ∃ j, g = j + 1 := ⟨g - 1, by omega⟩
          rw [← hMs]
          unfold f_M_holds_s
          simp (disch := omega) only [wi, ck_p, lt_u, j0_s]
          rw [g0 τ hA, g1 τ hA, g2 τ hA, a2 τ g t hA (by omega) t0 t1, b2 τ g t hA (by omega) t0 t1]
          rcases hu with ⟨-, rfl⟩ | ⟨-, rfl⟩
          · rw [show ∀ (a0 a1 a2 a3 a4 a5 a6 a7 f : Option Int), ls_ 2 [1, 2, 3, 61, 62, 63, 64, 65] [a0, a1, a2, a3, a4, a5, a6, a7] f = a1 from fun _ _ _ _ _ _ _ _ _ => rfl]
            show _ = some (bi (if (2 : Int) = 2 then v1 t && v2 t else v1 t || v2 t))
            cases v1 t <;> cases v2 t <;> rfl
          · rw [show ∀ (a0 a1 a2 a3 a4 a5 a6 a7 f : Option Int), ls_ 3 [1, 2, 3, 61, 62, 63, 64, 65] [a0, a1, a2, a3, a4, a5, a6, a7] f = a2 from fun _ _ _ _ _ _ _ _ _ => rfl]
            show _ = some (bi (if (3 : Int) = 2 then v1 t && v2 t else v1 t || v2 t))
            cases v1 t <;> cases v2 t <;> rfl
        · rw [ll, show m + (l1.length + l2.length + 1) = (m + 1 + l2.length) + l1.length by omega]
          rw [ll] at hi
          rw [lv] at hh
          refine a3 P (m + 1 + l2.length) i h s hs (fun j x hx => hp j x ?_) (by omega) (by push_cast at hi ⊢; omega) (fun s1 q1 q2 => ?_)
          · have := (List.getElem?_eq_some_iff.mp hx).1
            rw [List.append_assoc, List.getElem?_append_left this]; exact hx
          · refine b3 P (m + 1) (i + l1.length) (h + 1) s1 (fun a j ha => (q1 a j (by omega)).trans (hs a j ha)) (fun j x hx => ?_) (by omega) (by push_cast at hi ⊢; omega) (fun s2 r1 r2 => ?_)
            · have hj := (List.getElem?_eq_some_iff.mp hx).1
              have := hp (l1.length + j) x (by rw [List.append_assoc, List.getElem?_append_right (by omega), List.getElem?_append_left (by omega), show l1.length + j - l1.length = j by omega]; exact hx)
              rw [show i + l1.length + j = i + (l1.length + j) by omega]; exact this
            · have hq := hp (l1.length + l2.length) (u, 0, 0) (by rw [List.getElem?_append_right (by rw [List.length_append]; omega), List.length_append, show l1.length + l2.length - (l1.length + l2.length) = 0 by omega]; rfl)
              have s25 : ∀ a j, a ≠ 25 → s2 a j = σ a j := fun a j ha => ((r1 a j (by omega)).trans (q1 a j (by omega))).trans (hs a j ha)
              have w22 : s2 22 (i + l1.length + l2.length) = u := by
                rw [s25 22 _ (by decide), Nat.add_assoc]; exact hq.1
              have w21 : s2 21 1 = σ 21 1 := s25 21 1 (by decide)
              rw [show h + 1 + 1 = h + 2 by omega, tob_bin (w := u) (by rw [w21]; push_cast at hi ⊢; omega) (by omega) (by omega) w22]
              have := hK (sp s2 25 h (if u = 9 then or32 (s2 25 h) (s2 25 (h + 1)) else an32 (s2 25 h) (s2 25 (h + 1)))) (fun a j ha => ?_) (fun t t0 t1 => ?_)
              · rw [ll] at this
                rw [show i + l1.length + l2.length + 1 = i + (l1.length + l2.length + 1) by omega]; exact this
              · rw [sp_at]
                by_cases c1 : a = 25
                · rw [if_pos c1, if_neg (by omega), r1 a j (by omega), q1 a j (by omega)]
                · rw [if_neg c1, r1 a j (by omega), q1 a j (by omega)]
              · have x1 : bt (s2 25 h) t.toNat = v1 t := by rw [r1 25 h (by omega)]; exact q2 t t0 t1
                have x2 : bt (s2 25 (h + 1)) t.toNat = v2 t := r2 t t0 t1
                rw [sp_eq]
                rcases hu with ⟨rfl, rfl⟩ | ⟨rfl, rfl⟩
                · rw [if_neg (by decide), bt_and, x1, x2]
                  rfl
                · rw [if_pos rfl, bt_or, x1, x2]
                  rfl
      by_cases c1 : c = 1
      · rw [if_pos c1] at h
        obtain ⟨l1, e1, h⟩ := one _ _ h
        have h : l1 ++ [(11, 0, 0)] = L := Option.some.inj h
        subst h
        obtain ⟨a1, v1, a2, a3⟩ := ih x l1 e1
        have lv : leaves (l1 ++ [(11, 0, 0)]) = leaves l1 := by rw [lv_ap, lv_op (by show (11 : Int) < 12; omega)]; rfl
        have ll : (l1 ++ [((11 : Int), (0 : Int), (0 : Int))]).length = l1.length + 1 := by rw [List.length_append]; rfl
        refine ⟨by omega, fun t => !v1 t, fun τ g t hA hg t0 t1 => ?_, fun P m i h s hs hp hh hi hK => ?_⟩
        · obtain ⟨g, rfl⟩ : ∃ j, g = j + 1 := ⟨g - 1, by omega⟩
          rw [← hMs]
          unfold f_M_holds_s
          simp (disch := omega) only [wi, ck_p, lt_u, j0_s]
          rw [g0 τ hA, g1 τ hA, a2 τ g t hA (by omega) t0 t1, c1, show ∀ (a0 a1 a2 a3 a4 a5 a6 a7 f : Option Int), ls_ 1 [1, 2, 3, 61, 62, 63, 64, 65] [a0, a1, a2, a3, a4, a5, a6, a7] f = a0 from fun _ _ _ _ _ _ _ _ _ => rfl]
          show _ = some (bi (!v1 t))
          cases v1 t <;> rfl
        · rw [ll, show m + (l1.length + 1) = (m + 1) + l1.length by omega]
          rw [ll] at hi
          rw [lv] at hh
          refine a3 P (m + 1) i h s hs (fun j x hx => hp j x ?_) (by omega) (by push_cast at hi ⊢; omega) (fun s1 q1 q2 => ?_)
          · have := (List.getElem?_eq_some_iff.mp hx).1
            rw [List.getElem?_append_left this]; exact hx
          · have hq := hp l1.length (11, 0, 0) (by rw [List.getElem?_append_right (by omega), show l1.length - l1.length = 0 by omega]; rfl)
            have s25 : ∀ a j, a ≠ 25 → s1 a j = σ a j := fun a j ha => (q1 a j (by omega)).trans (hs a j ha)
            have w21 : s1 21 1 = σ 21 1 := s25 21 1 (by decide)
            rw [tob_not (by rw [w21]; push_cast at hi ⊢; omega) (by omega) (by rw [s25 22 _ (by decide)]; exact hq.1)]
            have := hK (sp s1 25 h (xr32 (s1 25 h) (-1))) (fun a j ha => ?_) (fun t t0 t1 => ?_)
            · rw [ll] at this
              rw [show i + l1.length + 1 = i + (l1.length + 1) by omega]; exact this
            · rw [sp_at]
              by_cases c1 : a = 25
              · rw [if_pos c1, if_neg (by omega), q1 a j (by omega)]
              · rw [if_neg c1, q1 a j (by omega)]
            · rw [sp_eq, bt_xor, q2 t t0 t1, bt_m1 _ (by omega)]
              show (v1 t ^^ true) = !v1 t
              cases v1 t <;> rfl
      · rw [if_neg c1] at h
        by_cases c2 : c = 2
        · rw [if_pos c2] at h
          exact two 10 (Or.inl ⟨rfl, c2⟩) h
        · rw [if_neg c2] at h
          by_cases c3 : c = 3
          · rw [if_pos c3] at h
            exact two 9 (Or.inr ⟨rfl, c3⟩) h
          · rw [if_neg c3] at h
            by_cases c4 : 61 ≤ c ∧ c ≤ 69
            · rw [if_pos c4] at h
              have h : [(c - 49, w, if c = 64 then x else y)] = L := Option.some.inj h
              subst h
              have lv : leaves [(c - 49, w, if c = 64 then x else y)] = 1 := lvp (by show 12 ≤ c - 49; omega)
              refine ⟨by omega, fun t => lfB A (c - 49, w, if c = 64 then x else y) t, fun τ g t hA hg t0 t1 => ?_, fun P m i h s hs hp hh hi hK => ?_⟩
              · obtain ⟨g, rfl⟩ : ∃ j, g = j + 1 := ⟨g - 1, by omega⟩
                rw [← hMs]
                have := e_holdsL (σ := τ) (k := k) (t := t) (g := fg_M_holds n g) hn (by rw [hA]; exact hI) (by rw [hA]; exact hW) (by rw [hA]; exact ⟨t0, t1⟩) hk c4 (g0 τ hA) (g1 τ hA) (g2 τ hA) (g3 τ hA)
                rw [hA] at this
                exact this
              · have hq := hp 0 _ rfl
                have hi' : (i : Int) + ((1 : Nat) : Int) ≤ σ 21 1 := hi
                have w21 : s 21 1 = σ 21 1 := hs 21 1 (by decide)
                have hLs : IslR s 4 A := IslR_ag (fun q j hq => hs q j (by omega)) hL
                have hRs : RowR s 11 A := RowR_ag (fun q j hq => hs q j (by omega)) hR
                have e := e_part (σ := s) (i := i) (x := (c - 49, w, if c = 64 then x else y)) hn hI hW hLs hRs (by omega) (by rw [hs 22 _ (by decide)]; exact hq.1) (by rw [hs 23 _ (by decide)]; exact hq.2.1) (by rw [hs 24 _ (by decide)]; exact hq.2.2) (by show 12 ≤ c - 49 ∧ c - 49 ≤ 20; omega)
                show Ret (wh3 (m + 1) (tOB n) (h : Int) (i : Int) s) P
                rw [tob_leaf (by rw [w21]; omega) (by omega) (by rw [hs 22 _ (by decide), show σ 22 i = _ from hq.1]; show 12 ≤ c - 49; omega) e]
                exact hK _ (fun a j ha => by
                  rw [sp_at]
                  by_cases c1 : a = 25
                  · rw [if_pos c1, if_neg (by omega)]
                  · rw [if_neg c1]) (fun t t0 t1 => by rw [sp_eq]; exact part_bt hI ⟨t0, t1⟩)
            · rw [if_neg c4] at h
              cases h
    · rw [if_neg hk] at h
      cases h
def kRes (v : Int → Bool) (a N : Int) : Int := match kth v a N 0 0 with
  | .inl i => i
  | .inr c => if a = -1 then c else -1
theorem e_W_saidL {v : Int → Bool} {x a : Int} (hn : 1000000 < n) (hI : WfI A) (h1 : σ 4 2 = A 1) (hx : ∀ t : Int, 0 ≤ t → t < A 1 → bt x t.toNat = v t) : wh2 n (fun rc6 (x7 : Int) (x8 : Int) => if x8 < (σ 4 2) then (jn1 (fun (y10 : Int) => lt_ (w32 (x8 + 1)) fun v11 => rc6 y10 v11) fun j9 => if (an32 (sr32 x x8) 1) = 0 then (j9 x7) else (if x7 = a then (some (x8, σ)) else (lt_ (w32 (x7 + 1)) fun v12 => j9 v12))) else (if a = (-1) then (some (x7, σ)) else (some ((-1), σ)))) 0 0 = some (kRes v a (A 1), σ) := by
  have b28 := hI.2.1
  apply rt_eq
  refine rt_w2 (I := fun (c t : Int) => (0 ≤ t ∧ t ≤ A 1) ∧ (0 ≤ c ∧ c ≤ t) ∧ kth v a (A 1) t c = kth v a (A 1) 0 0) (μ := fun (c t : Int) => (A 1 - t).toNat) ?_ n 0 0 ⟨by omega, by omega, rfl⟩ (by omega)
  rintro c t ⟨⟨t0, t1⟩, ⟨d0, d1⟩, e1⟩ rc hrc
  rw [h1]
  refine rt_ite (fun h => ?_) (fun h => ?_)
  · rw [kth_s h] at e1
    rw [j1_s, has_e t0 (by omega), hx t t0 h, wi (by omega) (by omega)]
    simp only [lt_u]
    cases g : v t
    · rw [g] at e1
      rw [if_pos (by rfl)]
      exact hrc _ _ ⟨by omega, by omega, e1⟩ (by omega)
    · rw [g] at e1
      rw [if_neg (by decide)]
      rw [cond_true] at e1
      refine rt_ite (fun q => ?_) (fun q => ?_)
      · rw [if_pos q] at e1
        refine rt_some ?_
        unfold kRes
        rw [← e1]
      · rw [if_neg q] at e1
        rw [wi (by omega) (by omega)]
        exact hrc _ _ ⟨by omega, by omega, e1⟩ (by omega)
  · rw [kth_e (by omega)] at e1
    have : kRes v a (A 1) = if a = -1 then c else -1 := by
      unfold kRes
      rw [← e1]
    rw [this]
    refine rt_ite (fun q => rt_some ?_) (fun q => rt_some ?_)
    · rw [if_pos q]
    · rw [if_neg q]
theorem e_M_saidL {v : Int → Bool} {a k : Int} (hn : 1000000 < n) (hI : WfI A) (hA : τ 181 = A) (hv : ∀ t : Int, 0 ≤ t → t < A 1 → f_M_holds n k t τ = some (bi (v t))) : wh2 n (fun rc4 (x5 : Int) (x6 : Int) => bd1 (f_M_stones τ) fun r7 => if x6 < r7 then (bd1 (f_M_holds n k x6 τ) fun r8 => jn1 (fun (y10 : Int) => lt_ (w32 (x6 + 1)) fun v11 => rc4 y10 v11) fun j9 => if r8 = 0 then (j9 x5) else (if x5 = a then (some (x6, τ)) else (lt_ (w32 (x5 + 1)) fun v12 => j9 v12))) else (if a = (-1) then (some (x5, τ)) else (some ((-1), τ)))) 0 0 = some (kRes v a (A 1), τ) := by
  have b28 := hI.2.1
  apply rt_eq
  refine rt_w2 (I := fun (c t : Int) => (0 ≤ t ∧ t ≤ A 1) ∧ (0 ≤ c ∧ c ≤ t) ∧ kth v a (A 1) t c = kth v a (A 1) 0 0) (μ := fun (c t : Int) => (A 1 - t).toNat) ?_ n 0 0 ⟨by omega, by omega, rfl⟩ (by omega)
  rintro c t ⟨⟨t0, t1⟩, ⟨d0, d1⟩, e1⟩ rc hrc
  rw [stM, b1_s, hA]
  refine rt_ite (fun h => ?_) (fun h => ?_)
  · rw [kth_s h] at e1
    rw [hv t t0 h, b1_s, j1_s, wi (by omega) (by omega)]
    simp only [lt_u]
    cases g : v t
    · rw [g] at e1
      rw [if_pos by0]
      exact hrc _ _ ⟨by omega, by omega, e1⟩ (by omega)
    · rw [g] at e1
      rw [if_neg bn0]
      rw [cond_true] at e1
      refine rt_ite (fun q => ?_) (fun q => ?_)
      · rw [if_pos q] at e1
        refine rt_some ?_
        unfold kRes
        rw [← e1]
      · rw [if_neg q] at e1
        rw [wi (by omega) (by omega)]
        exact hrc _ _ ⟨by omega, by omega, e1⟩ (by omega)
  · rw [kth_e (by omega)] at e1
    have : kRes v a (A 1) = if a = -1 then c else -1 := by
      unfold kRes
      rw [← e1]
    rw [this]
    refine rt_ite (fun q => rt_some ?_) (fun q => rt_some ?_)
    · rw [if_pos q]
    · rw [if_neg q]
end
theorem op_said : Op_said Inv := by
  intro σ H a ha
  have hI := in_I H
  have hW := in_W H
  rcases in_S H with ⟨h1, h2⟩ | ⟨h1, h2, L, h3, h4, h5, h6, h7⟩
  · refine ⟨-1, σ, sp σ 179 0 0, ?_, ?_, inv_thr H⟩
    · unfold f_W_said
      rw [if_pos h2]
    · unfold f_M_said
      rw [lt_u, th_A, if_pos h1]
  · obtain ⟨k1, v, k2, k3⟩ := w_flat (n := NN) (σ := σ) hNN hI hW (in_L H) (in_R H) (by omega) 60 _ _ h3
    have key : Ret (f_Sen_trueOf NN 21 11 4 σ) (fun z => (∀ a j, a ≠ 25 → z.2 a j = σ a j) ∧ ∀ t : Int, 0 ≤ t → t < σ 181 1 → bt z.1 t.toNat = v t) := by
      rw [tob_e]
      obtain ⟨m, hm⟩ : ∃ m, NN = (m + 1) + L.length := ⟨NN - 1 - L.length, by have := hNN; omega⟩
      have := k3 (fun z => (∀ a j, a ≠ 25 → z.2 a j = σ a j) ∧ ∀ t : Int, 0 ≤ t → t < σ 181 1 → bt z.1 t.toNat = v t) (m + 1) 0 0 σ (fun _ _ _ => rfl) (fun j x hx => by rw [Nat.zero_add]; exact h7 j x hx) (by omega) (by omega) (fun s' q1 q2 => ?_)
      · rw [← hm] at this
        have e : wh3 NN (tOB NN) 0 0 σ = wh3 NN (tOB NN) ((0 : Nat) : Int) ((0 : Nat) : Int) σ := rfl
        rw [e]
        exact this
      · show Ret (tOB NN (wh3 m (tOB NN)) _ _ s') _
        unfold tOB
        rw [if_neg (by rw [q1 21 1 (by omega)]; omega)]
        exact rt_some ⟨fun a j ha => q1 a j (by omega), q2⟩
    obtain ⟨⟨x, s2⟩, e1, e2, e3⟩ := key
    have e2 : ∀ a j, a ≠ 25 → s2 a j = σ a j := e2
    have e3 : ∀ t : Int, 0 ≤ t → t < σ 181 1 → bt x t.toNat = v t := e3
    have A2 : s2 181 = σ 181 := funext fun j => e2 181 j (by decide)
    have H2 : Inv s2 := inv_ag (fun a j h => e2 a j (fun q => h (by subst q; exact Or.inr (Or.inr (Or.inl rfl))))) H
    refine ⟨kRes v a (σ 181 1), s2, sp s2 179 0 0, ?_, ?_, inv_thr H2⟩
    · unfold f_W_said
      rw [if_neg h2, e1, b2_s, lt_u, lt_u, lt_u]
      exact e_W_saidL hNN hI (by rw [e2 4 2 (by decide)]; exact (in_L H).2.1) e3
    · unfold f_M_said
      rw [lt_u, th_A, A2, if_neg (by omega), lt_u, lt_u]
      exact e_M_saidL hNN hI (by rw [th_A, A2]) (fun t t0 t1 => k2 (sp s2 179 0 0) 64 t (by rw [th_A, A2]) (by omega) t0 t1)
