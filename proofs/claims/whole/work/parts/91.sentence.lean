/-! LAYER 3zp: ONE -/
section
variable {σ τ s t u v : JSg} {n p d : Nat} {c : JA} {size lim q p' : Int}
theorem sm_wf {Z Y : Type} {o1 : Option Z} {J : Int → Option Y} {Q : Z → Y → Prop} (hn : 1000000 < n) (h : TR c size lim q σ τ) (k : Sm o1 (J (if 11 ≤ σ 2 6 ∧ σ 2 6 ≤ 20 then σ 2 6 - 1 else 20)) Q) : Sm o1 (wh1 n (fun rc4 (x5 : Int) => if 19 < x5 then J x5 else (bd1 (f_M_isWord x5 τ) fun r36 => if r36 = 0 then (rc4 (w32 (x5 + 1))) else J x5)) 10) Q := by
  rw [wf_lp (J := J) h _ n 10 rfl (by omega) (by omega) (by omega) (by omega)]
  exact k
/-- behind the first TOKEN of ONE -/
def MidP (σ τ s t : JSg) : Prop := (Agr wrS σ s ∧ Agr mrS τ t) ∧ s 44 1 = σ 44 1 ∧ s 44 0 = σ 44 0 + 1 ∧ (∀ i, s 45 i = σ 45 i ∧ s 46 i = σ 46 i ∧ s 47 i = σ 47 i) ∧ (∀ i, t 202 i = τ 202 i) ∧ t 179 48 = τ 179 48 ∧ t 179 49 = τ 179 49 + 1 ∧ t 179 50 = τ 179 50 + 1 ∧ (0 ≤ τ 179 50 ∧ τ 179 50 < 8) ∧ s 2 12 = t 179 10 ∧ σ 44 1 = τ 179 48 ∧ σ 44 0 = τ 179 49 ∧ (0 ≤ σ 44 1 ∧ σ 44 1 ≤ 2 * σ 44 0) ∧ (0 ≤ σ 44 0 ∧ σ 44 0 < 20)
def OnQ (s u v : JSg) (L : List (Int × Int × Int)) : Prop := u 44 0 = v 179 49 ∧ s 44 0 ≤ u 44 0 ∧ u 44 0 ≤ 20 ∧ (L.length : Int) ≤ 2 * (u 44 0 - s 44 0) + 1 ∧ (leaves L : Int) ≤ u 44 0 - s 44 0 + 1
/-- what a ONE leaves behind its first TOKEN -/
def MidS (c : JA) (size lim : Int) (s t u v : JSg) : Prop := ∃ L, GrQ s t u v L ∧ OnQ s u v L ∧ v 179 50 = t 179 50 ∧ TreeR (v 202) (u 44 1) (v 179 51) L ∧ u 2 12 = v 179 10 ∧ ∃ p', TR c size lim p' u v
def MidR (c : JA) (size lim : Int) (s t : JSg) (z y : Int × JSg) : Prop := Agr wrS s z.2 ∧ Agr mrS t y.2 ∧ ((z.1 = 0 ∧ y.1 = 0 ∧ FR z.2 y.2) ∨ (z.1 = 1 ∧ y.1 = 1 ∧ MidS c size lim s t z.2 y.2))
theorem sp50 {x : Int} : ∀ a j, ¬ (a = 179 ∧ j = 50) → sp v 179 50 x a j = v a j := by
  intro a j hh
  rw [sp_at]
  by_cases e : a = 179
  · rw [if_pos e, if_neg (by omega)]
  · rw [if_neg e]
theorem sp51 {x : Int} : ∀ a j, ¬ (a = 179 ∧ j = 51) → sp v 179 51 x a j = v a j := by
  intro a j hh
  rw [sp_at]
  by_cases e : a = 179
  · rw [if_pos e, if_neg (by omega)]
  · rw [if_neg e]
theorem mid_fin (hM : MidP σ τ s t) (w : Agr wrS s u) (m : Agr mrS t v) (h : MidS c size lim s t u v) : SnR c size lim σ τ (1, u) (1, sp v 179 50 (w32 ((v 179 50) - 1))) := by
  obtain ⟨⟨m1, m2⟩, m3, m4, m5, m6, m7, m8, m9, m10, m11, m12, m13, m14, m15⟩ := hM
  obtain ⟨L, g1, ⟨o1, o2, o3, o4, o5⟩, g3, g4, g5, p', hT⟩ := h
  rw [wi (by omega) (by omega)]
  have eq := sp50 (v := v) (x := v 179 50 - 1)
  refine ⟨ag_tr m1 w, ag_sp (ag_tr m2 m) (by unfold mrS; omega), Or.inr ⟨rfl, rfl, ⟨L, ?_⟩, p', tr_ag hT (fun _ _ _ => rfl) (fun a j hh => eq a j (by omega))⟩⟩
  show GrP σ τ u (sp v 179 50 (v 179 50 - 1)) L (sp v 179 50 (v 179 50 - 1) 179 51)
  have q0 : GrQ σ τ s t [] := gq_nil (by omega) (fun a j hh => by
    rcases hh with ⟨rfl, rfl⟩ | rfl | rfl | rfl
    · exact m3
    · exact (m5 j).1
    · exact (m5 j).2.1
    · exact (m5 j).2.2) m6
  have q1 := gq_app q0 (by omega) g1
  rw [List.nil_append] at q1
  rw [eq 179 51 (by omega)]
  refine ⟨gq_ag q1 (fun _ _ _ => rfl) (fun a j hh => eq a j (by omega)), ⟨by rw [eq 179 49 (by omega)]; exact o1, by omega, by omega, by omega, by omega⟩, by rw [sp_eq]; omega, ?_, by rw [eq 179 10 (by omega)]; exact g5⟩
  exact tree_mo g4 (by omega) (fun j _ => eq 202 j (by omega))
theorem mid_bad {x : Int} (hM : MidP σ τ s t) (w : Agr wrS s u) (m : Agr mrS t v) (hF : FR u v) : SnR c size lim σ τ (0, u) (0, sp v 179 50 x) := by
  obtain ⟨⟨m1, m2⟩, -⟩ := hM
  have eq := sp50 (v := v) (x := x)
  exact ⟨ag_tr m1 w, ag_sp (ag_tr m2 m) (by unfold mrS; omega), Or.inl ⟨rfl, rfl, by dsimp only; rw [eq 179 10 (by omega)]; exact hF.1, by dsimp only; rw [eq 179 11 (by omega)]; exact hF.2⟩⟩
theorem mid_end {o1 o2 : Option (Int × JSg)} (hM : MidP σ τ s t) (h : Sm o1 o2 (MidR c size lim s t)) : Sm o1 (bd2 o2 fun r w => chk (r = 0 ∨ r = 1) <| some (r, sp w 179 50 (w32 ((w 179 50) - 1)))) (SnR c size lim σ τ) := by
  obtain ⟨⟨r, z⟩, ⟨r', y⟩, rfl, rfl, h1, h2, h3⟩ := h
  rw [b2_s]
  rcases h3 with ⟨b1, b2, b3⟩ | ⟨b1, b2, b3⟩
  · have b1 : r = 0 := b1
    have b2 : r' = 0 := b2
    subst b1 b2
    rw [ck_p (Or.inl rfl)]
    exact sm_some (mid_bad hM h1 h2 b3)
  · have b1 : r = 1 := b1
    have b2 : r' = 1 := b2
    subst b1 b2
    rw [ck_p (Or.inr rfl)]
    exact sm_some (mid_fin hM h1 h2 b3)
theorem mid_ec {o1 o2 : Option (Int × JSg)} (hM : MidP σ τ s t) (h : Sm o1 o2 (MidR c size lim s t)) : Sm (bd2 o1 fun r w => chk (r = 0 ∨ r = 1) <| some (r, w)) (bd2 o2 fun r w => chk (r = 0 ∨ r = 1) <| some (r, sp w 179 50 (w32 ((w 179 50) - 1)))) (SnR c size lim σ τ) := by
  have h' := mid_end hM h
  obtain ⟨⟨r, z⟩, ⟨r', y⟩, rfl, rfl, h1, h2, h3⟩ := h
  rw [b2_s (x := r), ck_p (by rcases h3 with ⟨b1, -⟩ | ⟨b1, -⟩; exact Or.inl b1; exact Or.inr b1)]
  exact h'
theorem mr_bad {k : Int} (wu : Agr wrS s u) (mv : Agr mrS t v) (h : TR c size lim p' u v) (hk : k = 1 ∨ v 179 7 ≠ 1) : Sm (bd2 (f_Tok_fail k u) fun r s' => chk (r = 0 ∨ r = 1) <| some (r, s')) (bd2 (f_M_bad k v) fun r s' => chk (r = 0 ∨ r = 1) <| some (r, s')) (MidR c size lim s t) := by
  obtain ⟨s', t', f1, f2, f3, f4, f5⟩ := tr_fail h hk
  rw [f1, f2, b2_s, b2_s, ck_p (Or.inl rfl), ck_p (Or.inl rfl)]
  exact sm_some ⟨zs_f wu f4, zm_f mv f5, Or.inl ⟨rfl, rfl, f3⟩⟩
/-- a ONE without others: both sides add it -/
theorem mid_leaf {k x y w num : Int} (hM : MidP σ τ s t) (wu : Agr wrS s u) (mv : Agr mrS t v) (e1 : ∀ a j, (a = 44 ∧ j ≤ 1) ∨ a = 45 ∨ a = 46 ∨ a = 47 ∨ (a = 2 ∧ j = 12) → u a j = s a j) (e2 : ∀ a j, (a = 179 ∧ (j = 48 ∨ j = 49 ∨ j = 50 ∨ j = 10)) ∨ a = 202 → v a j = t a j) (hk : 12 ≤ k ∧ k ≤ 20) (hnum : num = if k + 49 = 64 then x else y) : ∃ u' v', f_Sen_add 44 k w num u = some (1, u') ∧ f_M_saysOne (k + 49) x y w v = some (v 179 48, v') ∧ Agr wrS s u' ∧ Agr mrS t v' ∧ GrQ s t u' v' [(k, w, num)] ∧ OnQ s u' v' [(k, w, num)] ∧ v' 179 50 = t 179 50 ∧ TreeR (v' 202) (u' 44 1) (v 179 48) [(k, w, num)] ∧ u' 2 12 = v' 179 10 ∧ (∀ a j, ¬ (44 ≤ a ∧ a ≤ 47) → u' a j = u a j) ∧ (∀ a j, ¬ ((a = 179 ∧ j = 48) ∨ a = 202) → v' a j = v a j) := by
  obtain ⟨⟨m1, m2⟩, m3, m4, m5, m6, m7, m8, m9, m10, m11, m12, m13, m14, m15⟩ := hM
  have u1 := e1 44 1 (by omega)
  have u0 := e1 44 0 (by omega)
  have v8 := e2 179 48 (by omega)
  have v9 := e2 179 49 (by omega)
  have hz : u 44 1 = v 179 48 := by omega
  obtain ⟨u', a1, a2, a3, a4, a5, a6⟩ := e_addW (s := u) (a := k) (b := w) (w := num) (by omega)
  obtain ⟨v', b1, b2, b3, b4, b5, b6, b8⟩ := e_saysM (t := v) (a := k + 49) (b := x) (e := y) (w := w) (by omega)
  have q0 : GrQ s t u v [] := gq_nil hz (fun a j hh => e1 a j (by omega)) (fun j => e2 202 j (by omega))
  have q1 := gq_app q0 (by omega) (gq_1 hz (by omega) a2 a3 a4 a5 a6 b2 b8)
  rw [List.nil_append] at q1
  have l1 := lv_1 (k, w, num)
  have z0 := a6 44 0 (by omega)
  have z9 := b8 179 49 (by omega)
  refine ⟨u', v', a1, b1, ag_tr wu (fun a j hh => a6 a j (by unfold wrS at hh; omega)), ag_tr mv (fun a j hh => b8 a j (by unfold mrS at hh; omega)), q1, ⟨by omega, by omega, by omega, ?_, by omega⟩, ?_, ?_, ?_, fun a j hh => a6 a j (by omega), fun a j hh => b8 a j (by omega)⟩
  · show ((1 : Nat) : Int) ≤ _
    omega
  · rw [b8 179 50 (by omega)]; exact e2 179 50 (by omega)
  · rw [a2, hz]
    have := tree_leaf (T := v' 202) (nd := v 179 48) (a := k + 49) (by omega) (by omega) b3 b4 b5 b6
    rw [show k + 49 - 49 = k by omega, ← hnum] at this
    exact this
  · rw [a6 2 12 (by omega), b8 179 10 (by omega), e1 2 12 (by omega), e2 179 10 (by omega)]; exact m11
theorem st_of (hn : 1000000 < n) (hM : MidP σ τ s t) (hT : TR c size lim q s t) (hB : BkP s t) : Sm (f_Sen_readOf n 44 4 s) (f_M_readOf n t) (MidR c size lim s t) := by
  obtain ⟨k1, k2, k3⟩ := id hB
  unfold f_Sen_readOf f_M_readOf
  rcases s_who (p := 4) (k := 185) (N := t 181 0) hn hT k1.1 k2.1 (fun w w0 w1 => k3 w w0 w1) with ⟨s6, t6, g1, g2, g3, g4, g5, g6⟩ | ⟨s6, t6, g1, g2, g3, g4, g5, g6, g7⟩ | ⟨w, g1, g2, g3, g4, g5⟩
  · rw [g1, g2, b2_s, b1_s, lt_u, if_pos rfl, if_pos rfl, g3, b2_s, ck_p (Or.inl rfl)]
    exact sm_some ⟨zs_f ag_refl g5, zm_f ag_refl g6, Or.inl ⟨rfl, rfl, g4⟩⟩
  · rw [g1, g2, b2_s, b1_s, lt_u, if_pos rfl, if_neg n10, wdM, b1_s, g3, b1_s, lt_u, if_pos rfl, g4, b2_s, ck_p (Or.inl rfl)]
    exact sm_some ⟨zs_f ag_refl g6, zm_f ag_refl g7, Or.inl ⟨rfl, rfl, g5⟩⟩
  · rw [g1, g2, b2_s, b1_s, lt_u, if_neg (by omega), if_neg n10, wdM, b1_s, g3, b1_s, lt_u, if_neg (by omega)]
    obtain ⟨s4, t4, f1, f2, f3, f4, f5⟩ := tr_step hn hT
    obtain ⟨u', v', a1, a2, a3, a4, a5, a6, a7, a8, a9, a10, a11⟩ := mid_leaf (u := s4) (v := t) (k := 15) (x := w) (y := 0) (w := 0) (num := w) hM (zs_t ag_refl f4) ag_refl (fun a j hh => f4 a j (by unfold wtkC; omega)) (fun _ _ _ => rfl) (by omega) rfl
    have e51 := sp51 (v := v') (x := t 179 48)
    have hT' : TR c size lim q s (sp v' 179 51 (t 179 48)) := tr_ag hT (fun _ _ _ => rfl) (fun a j hh => (e51 a j (by omega)).trans (a11 a j (by omega)))
    obtain ⟨s4', t8, h1, h2, h3, h4, h5⟩ := tr_step hn hT'
    rw [f1] at h1
    cases h1
    rw [show (64 : Int) = 15 + 49 by decide, f1, a2, b1_s, b2_s, lt_u, a1, h2, b2_s, b1_s, ck_p (Or.inr rfl)]
    have e8 : ∀ a j, ¬ (a = 179 ∧ (j = 5 ∨ j = 6 ∨ j = 7 ∨ j = 8 ∨ j = 9 ∨ j = 12 ∨ j = 51)) → t8 a j = v' a j := fun a j hh => (h5 a j (by unfold mtkC; omega)).trans (e51 a j (by omega))
    have t51 : t8 179 51 = t 179 48 := (h5 179 51 (by unfold mtkC; omega)).trans sp_eq
    refine sm_some ⟨a3, ag_tr a4 (fun a j hh => e8 a j (by unfold mrS at hh; omega)), Or.inr ⟨rfl, rfl, [(15, 0, w)], gq_ag a5 (fun _ _ _ => rfl) (fun a j hh => e8 a j (by omega)), ?_, ?_, ?_, ?_, s 2 3, tr_ag h3 (fun a j hh => a10 a j (by omega)) (fun _ _ _ => rfl)⟩⟩
    · obtain ⟨o1, o2, o3, o4, o5⟩ := a6
      exact ⟨by show u' 44 0 = t8 179 49; rw [e8 179 49 (by omega)]; exact o1, o2, o3, o4, o5⟩
    · show t8 179 50 = t 179 50
      rw [e8 179 50 (by omega)]; exact a7
    · show TreeR (t8 202) (u' 44 1) (t8 179 51) [(15, 0, w)]
      rw [t51]
      exact tree_mo a8 (by omega) (fun j _ => e8 202 j (by omega))
    · show u' 2 12 = t8 179 10
      rw [e8 179 10 (by omega)]; exact a9
theorem st_meas {k : Int} (hn : 1000000 < n) (hM : MidP σ τ s t) (hT : TR c size lim q s t) (hk : 17 ≤ k ∧ k ≤ 20) : Sm (f_Sen_readMeasure n 44 k s) (f_M_readCompare n (k - 1) t) (MidR c size lim s t) := by
  have g60 := tr_sign hT (a := 60)
  have g61 := tr_sign hT (a := 61)
  have g62 := tr_sign hT (a := 62)
  unfold f_Sen_readMeasure f_M_readCompare
  rw [g60.1, g60.2, g61.1, g61.2, g62.1, g62.2]
  simp only [b1_s, j0_s, lt_u]
  have core : s 2 4 = 5 → Sm (bd1 (f_Tok_step n s) fun s4 => bd2 (f_Tok_numberTo 999 s4) fun r5 s6 => if r5 = (-1) then (some ((0 : Int), s6)) else (bd1 (f_Tok_step n s6) fun s8 => bd2 (f_Sen_add 44 k (s 2 9) r5 s8) fun r9 s10 => chk (r9 = 0 ∨ r9 = 1) <| some (r9, s10))) (bd1 (f_M_go n t) fun s4 => bd2 (f_M_readNumber n 0 999 s4) fun r5 s6 => if r5 = 0 then (some ((0 : Int), s6)) else (bd2 (f_M_saysOne (w32 (50 + (k - 1))) 0 (s6 179 13) (t 179 9) s6) fun r7 s8 => some (1, sp s8 179 51 r7))) (MidR c size lim s t) := by
    intro k5
    have s9 : s 2 9 = t 179 9 := by
      rcases tr_kd hT with ⟨h1, h2, h3⟩ | ⟨h1, h2, h3⟩ | ⟨h1, h2, h3, h4⟩ | ⟨h1, h2, h3, h4⟩ | ⟨h1, h2, h3, h4⟩ <;> omega
    refine sm_b11 (tr_step hn hT) (fun s4 t4 hs => ?_)
    obtain ⟨f3, f4, f5⟩ := hs
    have w4 := zs_t (σ := s) ag_refl f4
    have m4 := zm_t (σ := t) ag_refl f5
    unfold f_M_readNumber
    obtain ⟨z, y, e1, e2, e3⟩ := s_num (m := 999) (by omega) f3
    rw [e1, e2]
    rcases e3 with ⟨z1, z2, z3, z4, z5⟩ | ⟨z1, z2, z3, z4⟩
    · obtain ⟨z0, zs⟩ := z
      obtain ⟨y0, ys⟩ := y
      have z1 : z0 = -1 := z1
      have z2 : y0 = 0 := z2
      rw [b2_s, b2_s, if_pos z1, if_pos z2, b2_s, if_pos rfl]
      exact sm_some ⟨zs_f w4 z4, zm_f m4 z5, Or.inl ⟨rfl, rfl, z3⟩⟩
    · obtain ⟨b, zs⟩ := z
      have z2 : zs = s4 := z2
      have z1 : 0 ≤ b ∧ b ≤ 999 := z1
      subst z2
      have e13 : ∀ a j, ¬ (a = 179 ∧ j = 13) → sp t4 179 13 b a j = t4 a j := by
        intro a j hh
        rw [sp_at]
        by_cases e : a = 179
        · rw [if_pos e, if_neg (by omega)]
        · rw [if_neg e]
      have h13 : TR c size lim (s 2 3) zs (sp t4 179 13 b) := tr_ag f3 (fun _ _ _ => rfl) (fun a j hh => e13 a j (by omega))
      obtain ⟨s8, t8, h1, h2, h3, h4, h5⟩ := tr_step hn h13
      rw [z3, b2_s, b2_s, if_neg (by omega), if_neg n10, h1, h2, b1_s, b1_s, b2_s, if_neg n10]
      have t13 : t8 179 13 = b := (h5 179 13 (by unfold mtkC; omega)).trans sp_eq
      have w8 := zs_t w4 h4
      have m8 : Agr mrS t t8 := zm_t (ag_sp m4 (by unfold mrS; omega)) h5
      rw [t13, wi (by omega) (by omega), show 50 + (k - 1) = k + 49 by omega, ← s9]
      obtain ⟨u', v', a1, a2, a3, a4, a5, a6, a7, a8, a9, a10, a11⟩ := mid_leaf (u := s8) (v := t8) (k := k) (x := 0) (y := b) (w := s 2 9) (num := b) hM w8 m8 (fun a j hh => (h4 a j (by unfold wtkC; omega)).trans (f4 a j (by unfold wtkC; omega))) (fun a j hh => ((h5 a j (by unfold mtkC; omega)).trans (e13 a j (by omega))).trans (f5 a j (by unfold mtkC; omega))) (by omega) (by rw [if_neg (by omega)])
      rw [a1, a2, b2_s, b2_s, ck_p (Or.inr rfl)]
      have e51 := sp51 (v := v') (x := t8 179 48)
      refine sm_some ⟨a3, ag_sp a4 (by unfold mrS; omega), Or.inr ⟨rfl, rfl, [(k, s 2 9, b)], gq_ag a5 (fun _ _ _ => rfl) (fun a j hh => e51 a j (by omega)), ?_, ?_, ?_, ?_, zs 2 3, tr_ag h3 (fun a j hh => a10 a j (by omega)) (fun a j hh => (e51 a j (by omega)).trans (a11 a j (by omega)))⟩⟩
      · obtain ⟨o1, o2, o3, o4, o5⟩ := a6
        exact ⟨by dsimp only; rw [e51 179 49 (by omega)]; exact o1, o2, o3, o4, o5⟩
      · dsimp only
        rw [e51 179 50 (by omega)]; exact a7
      · dsimp only
        rw [sp_eq]
        exact tree_mo a8 (by omega) (fun j _ => e51 202 j (by omega))
      · dsimp only
        rw [e51 179 10 (by omega)]; exact a9
  by_cases c60 : s 2 4 = 5 ∧ s 2 9 = 60
  · rw [decide_eq_true c60, if_neg bn0, if_neg bn0]
    exact core c60.1
  · rw [decide_eq_false c60, if_pos by0, if_pos by0]
    by_cases c61 : s 2 4 = 5 ∧ s 2 9 = 61
    · rw [decide_eq_true c61, if_neg bn0, if_neg bn0]
      exact core c61.1
    · rw [decide_eq_false c61, if_pos by0, if_pos by0]
      by_cases c62 : s 2 4 = 5 ∧ s 2 9 = 62
      · rw [decide_eq_true c62, if_neg bn0, if_neg bn0]
        exact core c62.1
      · rw [decide_eq_false c62, if_pos by0, if_pos by0]
        exact mr_bad ag_refl ag_refl hT (Or.inl rfl)
end
