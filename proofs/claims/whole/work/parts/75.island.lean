/-! LAYER 3z: an ISLAND read on both sides -/
section
variable {σ τ : JSg} {n p : Nat} {c : JA} {size lim q : Int}
theorem s_num {m : Int} (hm : 0 ≤ m ∧ m ≤ 999) (h : TR c size lim q σ τ) : ∃ z y, f_Tok_numberTo m σ = some z ∧ f_M_isNumber 0 m τ = some y ∧ ((z.1 = -1 ∧ y.1 = 0 ∧ FR z.2 y.2 ∧ Agr ftC σ z.2 ∧ Agr fmC τ y.2) ∨ ((0 ≤ z.1 ∧ z.1 ≤ m) ∧ z.2 = σ ∧ y = (1, sp τ 179 13 z.1) ∧ σ 2 4 = 4)) := by
  unfold f_Tok_numberTo f_M_isNumber
  have kd := tr_kd h
  by_cases g : σ 2 4 = 4
  · have t7 : τ 179 7 = 3 ∧ σ 2 8 = τ 179 8 ∧ 0 ≤ σ 2 8 ∧ σ 2 8 ≤ 999 := by
      rcases kd with ⟨h1, h2, h3⟩ | ⟨h1, h2, h3⟩ | ⟨h1, h2, h3, h4⟩ | ⟨h1, h2, h3, h4⟩ | ⟨h1, h2, h3, h4⟩
      · omega
      · omega
      · omega
      · exact ⟨h2, h4⟩
      · omega
    rw [if_pos g, if_pos t7.1, e_M_isIn, b1_s, ← t7.2.1]
    by_cases g2 : m < σ 2 8
    · obtain ⟨s, t, f1, f2, f3, f4, f5⟩ := tr_fail h (k := 2) (Or.inr (by omega))
      refine ⟨(-1, s), (0, t), ?_, ?_, Or.inl ⟨rfl, rfl, f3, f4, f5⟩⟩
      · rw [if_pos g2, f1, b2_s]
      · rw [decide_eq_false (by omega), if_pos by0, f2, b2_s, ck_p (Or.inl rfl)]
    · refine ⟨(σ 2 8, σ), (1, sp τ 179 13 (σ 2 8)), by rw [if_neg g2], ?_, Or.inr ⟨by omega, rfl, rfl, g⟩⟩
      rw [decide_eq_true (by omega), if_neg bn0, lt_u]
  · have t7 : τ 179 7 ≠ 3 := by
      rcases kd with ⟨h1, h2, h3⟩ | ⟨h1, h2, h3⟩ | ⟨h1, h2, h3, h4⟩ | ⟨h1, h2, h3, h4⟩ | ⟨h1, h2, h3, h4⟩
      · omega
      · omega
      · omega
      · omega
      · omega
    obtain ⟨s, t, f1, f2, f3, f4, f5⟩ := tr_fail h (k := 1) (Or.inl rfl)
    refine ⟨(-1, s), (0, t), ?_, ?_, Or.inl ⟨rfl, rfl, f3, f4, f5⟩⟩
    · rw [if_neg g, f1, b2_s]
    · rw [if_neg t7, f2, b2_s, ck_p (Or.inl rfl)]
theorem s_find {k : Nat} {N x y : Int} (hn : 1000000 < n) (hN : 0 ≤ N ∧ N ≤ 6) (h1 : σ p 1 = N) (hxy : nmR x y) (hnm : ∀ w : Int, 0 ≤ w → w < N → nmR (σ (p + 1) w.toNat) (τ k w.toNat)) : ∃ r, f_Isl_widowNamed n p x σ = some r ∧ f_M_findIn n k 6 N y τ = some r ∧ (r = -1 ∨ (0 ≤ r ∧ r < N)) := by
  have key : Sm (f_Isl_widowNamed n p x σ) (f_M_findIn n k 6 N y τ) (fun a b => a = b ∧ (a = -1 ∨ (0 ≤ a ∧ a < N))) := by
    unfold f_Isl_widowNamed f_M_findIn
    rw [lt_u, lt_u]
    refine sm_w11 (I := fun (i j : Int) => i = j ∧ (0 ≤ i ∧ i ≤ N)) (μ := fun (i : Int) => (N - i).toNat) ?_ n n 0 0 ⟨rfl, by omega⟩ (by omega) (by omega)
    rintro i j ⟨rfl, i0, i1⟩ rc rd hrc
    rw [h1]
    refine sm_ite Iff.rfl (fun g _ => ?_) (fun g _ => sm_some ⟨rfl, Or.inl rfl⟩)
    refine sm_cl (by omega) (sm_cr (by omega) (sm_ite (by rw [cmpL_0, cmpL_0]; exact nmR_i (hnm i i0 g) hxy) (fun _ _ => sm_some ⟨rfl, Or.inr ⟨i0, g⟩⟩) (fun _ _ => ?_)))
    rw [lt_u, lt_u, wi (by omega) (by omega)]
    exact hrc _ _ ⟨rfl, by omega⟩ (by omega)
  obtain ⟨a, b, e1, e2, rfl, e3⟩ := key
  exact ⟨a, e1, e2, e3⟩
/-- the islands in the making: the class's fresh one at 27, the reference's rows 182, 186 -/
def IslP (σ τ : JSg) : Prop := WfI (τ 182) ∧ symQ (τ 182) ∧ (σ 27 1 = τ 182 0 ∧ σ 27 2 = τ 182 1 ∧ σ 27 3 = τ 182 2 ∧ σ 27 4 = cntQ (τ 182) ∧ σ 27 5 = τ 182 3 ∧ σ 27 6 = τ 179 24) ∧ (σ 27 6 = 0 ∨ σ 27 6 = 1) ∧ (∀ w : Int, 0 ≤ w → w < τ 182 0 → nmR (σ 28 w.toNat) (τ 186 w.toNat)) ∧ (∀ s : Int, 0 ≤ s → s < τ 182 1 → σ 29 s.toNat = pipA (τ 182) s 0 ∧ σ 30 s.toNat = pipA (τ 182) s 1 ∧ σ 31 s.toNat = ownA (τ 182) s ∧ 0 ≤ ownA (τ 182) s ∧ ownA (τ 182) s < τ 182 0) ∧ (∀ w : Int, 0 ≤ w → w < 7 → σ 32 w.toNat = τ 182 (4 + w).toNat) ∧ (∀ k : Nat, 95 ≤ k → k < 192 → τ 182 k = 0) ∧ σ 2 12 = τ 179 10
theorem IslP_ag {s t : JSg} (h : IslP σ τ) (h1 : ∀ a j, (a = 27 ∧ 1 ≤ j ∧ j ≤ 6) ∨ (28 ≤ a ∧ a ≤ 32) ∨ (a = 2 ∧ j = 12) → s a j = σ a j) (h2 : ∀ a j, a = 182 ∨ a = 186 ∨ (a = 179 ∧ (j = 24 ∨ j = 10)) → t a j = τ a j) : IslP s t := by
  have e1 : s 28 = σ 28 := funext fun j => h1 _ _ (by omega)
  have e2 : s 29 = σ 29 := funext fun j => h1 _ _ (by omega)
  have e3 : s 30 = σ 30 := funext fun j => h1 _ _ (by omega)
  have e4 : s 31 = σ 31 := funext fun j => h1 _ _ (by omega)
  have e5 : s 32 = σ 32 := funext fun j => h1 _ _ (by omega)
  have e6 : t 182 = τ 182 := funext fun j => h2 _ _ (by omega)
  have e7 : t 186 = τ 186 := funext fun j => h2 _ _ (by omega)
  unfold IslP at *
  rw [e1, e2, e3, e4, e5, e6, e7, h1 27 1 (by omega), h1 27 2 (by omega), h1 27 3 (by omega), h1 27 4 (by omega), h1 27 5 (by omega), h1 27 6 (by omega), h2 179 24 (by omega), h1 2 12 (by omega), h2 179 10 (by omega)]
  exact h
def wrC (a j : Nat) : Prop := (a = 2 ∧ 3 ≤ j) ∨ (a = 27 ∧ 1 ≤ j) ∨ (28 ≤ a ∧ a ≤ 33)
def mrC (a j : Nat) : Prop := (a = 179 ∧ ((5 ≤ j ∧ j ≤ 13) ∨ j = 24)) ∨ a = 182 ∨ a = 186
def LnP (c : JA) (size lim : Int) (σ τ : JSg) (nx : Int) (z y : Int × JSg) : Prop := Agr wrC σ z.2 ∧ Agr mrC τ y.2 ∧ ((z.1 = 0 ∧ y.1 = 0 ∧ FR z.2 y.2) ∨ (z.1 = 1 ∧ y.1 = 1 ∧ IslP z.2 y.2 ∧ ∃ p', TR c size lim p' z.2 y.2 ∧ nx ≤ p'))
theorem wr_f {s t : JSg} (h : Agr wrC σ s) (g : Agr ftC s t) : Agr wrC σ t := ag_tr h (ag_mono g (fun a j q => by unfold ftC at q; unfold wrC; omega))
theorem mr_f {s t : JSg} (h : Agr mrC σ s) (g : Agr fmC s t) : Agr mrC σ t := ag_tr h (ag_mono g (fun a j q => by unfold fmC at q; unfold mrC; omega))
theorem wr_t {s t : JSg} (h : Agr wrC σ s) (g : Agr wtkC s t) : Agr wrC σ t := ag_tr h (ag_mono g (fun a j q => by unfold wtkC at q; unfold wrC; omega))
theorem mr_t {s t : JSg} (h : Agr mrC σ s) (g : Agr mtkC s t) : Agr mrC σ t := ag_tr h (ag_mono g (fun a j q => by unfold mtkC at q; unfold mrC; omega))
theorem lp_fail {s t : JSg} {k nx q' : Int} (h1 : Agr wrC σ s) (h2 : Agr mrC τ t) (h : TR c size lim q' s t) (hk : k = 1 ∨ t 179 7 ≠ 1) : Sm (bd2 (f_Tok_fail k s) fun r s' => chk (r = 0 ∨ r = 1) <| some (r, s')) (bd2 (f_M_bad k t) fun r s' => chk (r = 0 ∨ r = 1) <| some (r, s')) (LnP c size lim σ τ nx) := by
  obtain ⟨s', t', f1, f2, f3, f4, f5⟩ := tr_fail h hk
  rw [f1, f2, b2_s, b2_s, ck_p (Or.inl rfl), ck_p (Or.inl rfl)]
  exact sm_some ⟨wr_f h1 f4, mr_f h2 f5, Or.inl ⟨rfl, rfl, f3⟩⟩
/-- the last step of a LINE's part -/
theorem lp_step {s t : JSg} {nx q' : Int} (hn : 1000000 < n) (h1 : Agr wrC σ s) (h2 : Agr mrC τ t) (h : TR c size lim q' s t) (hP : IslP s t) (hx : nx ≤ s 2 3) : Sm (bd1 (f_Tok_step n s) fun s6 => some ((1 : Int), s6)) (bd1 (f_M_go n t) fun s7 => some ((1 : Int), s7)) (LnP c size lim σ τ nx) := by
  refine sm_b11 (tr_step hn h) (fun s6 t6 h6 => sm_some ⟨wr_t h1 h6.2.1, mr_t h2 h6.2.2, Or.inr ⟨rfl, rfl, IslP_ag hP (fun a j q => h6.2.1 a j (by unfold wtkC; omega)) (fun a j q => h6.2.2 a j (by unfold mtkC; omega)), s 2 3, h6.1, hx⟩⟩)
theorem s_readWidow (hn : 1000000 < n) (h : TR c size lim q σ τ) (hP : IslP σ τ) (hk : τ 179 7 ≠ 1) : Sm (f_Isl_readWidow n 27 σ) (f_M_readWidow n τ) (LnP c size lim σ τ (σ 2 3)) := by
  have nx0 := tr_nx h
  obtain ⟨p1, p2, ⟨p3, p3'⟩, p4, p5, p6, p7, p8, p9⟩ := id hP
  have b0 := p1.1
  unfold f_Isl_readWidow f_M_readWidow
  rw [lt_u, p3]
  by_cases g : τ 182 0 < 6
  · rw [if_pos g, if_neg (by omega)]
    refine sm_b11 (tr_step hn h) (fun s t hs => ?_)
    obtain ⟨h1, h2, h3⟩ := hs
    have w1 := wr_t (σ := σ) ag_refl h2
    have m1 := mr_t (σ := τ) ag_refl h3
    have nm := tr_name hn h1
    rw [nm.1, nm.2, b1_s, b1_s]
    by_cases g2 : s 2 4 = 3 ∧ s 2 6 = 0
    · rw [decide_eq_true g2, if_neg bn0, if_neg bn0]
      have hxy : nmR (s 2 7) (t 179 12) := by
        rcases tr_kd h1 with ⟨h1, h2, h3⟩ | ⟨h1, h2, h3⟩ | ⟨h1, h2, h3, h4⟩ | ⟨h1, h2, h3, h4⟩ | ⟨h1, h2, h3, h4⟩
        · omega
        · omega
        · exact h3
        · omega
        · omega
      have e27 : s 27 1 = τ 182 0 := (h2 27 1 (by unfold wtkC; omega)).trans p3
      have e28 : s 28 = σ 28 := funext fun j => h2 28 j (by unfold wtkC; omega)
      have f186 : t 186 = τ 186 := funext fun j => h3 186 j (by unfold mtkC; omega)
      have f182 : t 182 = τ 182 := funext fun j => h3 182 j (by unfold mtkC; omega)
      obtain ⟨r, r1, r2, r3⟩ := s_find (p := 27) (k := 186) (σ := s) (τ := t) (N := τ 182 0) hn b0 e27 hxy (fun w w0 w1 => by rw [show 27 + 1 = 28 from rfl, e28, f186]; exact p5 w w0 w1)
      rw [r1, r2, b1_s, b1_s]
      refine sm_ite Iff.rfl (fun g3 _ => ?_) (fun g3 _ => ?_)
      · rw [e27]
        refine sm_cl (by omega) (sm_cr (by omega) ?_)
        simp only [lt_u]
        rw [sp_nq (show (27 : Nat) ≠ 27 + 1 by decide), e27, sp_nq (show (182 : Nat) ≠ 186 by decide), f182, wi (by omega) (by omega)]
        generalize hs' : sp (sp s (27 + 1) (τ 182 0).toNat (s 2 7)) 27 1 (τ 182 0 + 1) = s'
        generalize ht' : sp (sp t 186 (τ 182 0).toNat (t 179 12)) 182 0 (τ 182 0 + 1) = t'
        have sg : ∀ a j, ¬ ((a = 27 ∧ j = 1) ∨ (a = 28 ∧ j = (τ 182 0).toNat)) → s' a j = s a j := by
          intro a j hh
          rw [← hs', sp_at, sp_at]
          by_cases c1 : a = 27
          · rw [if_pos c1, if_neg (by omega), if_neg (by omega)]
          · rw [if_neg c1]
            by_cases c2 : a = 27 + 1
            · rw [if_pos c2, if_neg (by omega)]
            · rw [if_neg c2]
        have tg : ∀ a j, ¬ ((a = 182 ∧ j = 0) ∨ (a = 186 ∧ j = (τ 182 0).toNat)) → t' a j = t a j := by
          intro a j hh
          rw [← ht', sp_at, sp_at]
          by_cases c1 : a = 182
          · rw [if_pos c1, if_neg (by omega), if_neg (by omega)]
          · rw [if_neg c1]
            by_cases c2 : a = 186
            · rw [if_pos c2, if_neg (by omega)]
            · rw [if_neg c2]
        have s1 : s' 27 1 = τ 182 0 + 1 := by rw [← hs', sp_eq]
        have s28 : s' 28 (τ 182 0).toNat = s 2 7 := by rw [← hs', sp_nq (by decide), sp_eq]
        have t0 : t' 182 0 = τ 182 0 + 1 := by rw [← ht', sp_eq]
        have t186 : t' 186 (τ 182 0).toNat = t 179 12 := by rw [← ht', sp_nq (by decide), sp_eq]
        have ek : ∀ k : Nat, k ≠ 0 → t' 182 k = τ 182 k := fun k hk => (tg 182 k (by omega)).trans (by rw [f182])
        have sgg : ∀ a j, ¬ (a = 2 ∨ (a = 27 ∧ j = 1) ∨ (a = 28 ∧ j = (τ 182 0).toNat)) → s' a j = σ a j := fun a j hh => (sg a j (by omega)).trans (h2 a j (by unfold wtkC; omega))
        refine lp_step hn (ag_tr w1 (fun a j hh => sg a j (by unfold wrC at hh; omega))) (ag_tr m1 (fun a j hh => tg a j (by unfold mrC at hh; omega))) (tr_ag h1 (fun a j hh => sg a j (by omega)) (fun a j hh => tg a j (by omega))) ?_ (by rw [sg 2 3 (by omega)]; have := tr_nx h1; omega)
        obtain ⟨i0, i1, i2, i3, i4⟩ := p1
        refine ⟨⟨by rw [t0]; omega, by rw [ek 1 (by omega)]; exact i1, by rw [ek 2 (by omega)]; exact i2, fun v v0 v1 => by rw [ek _ (by omega)]; exact i3 v v0 v1, fun d i d0 d1 j0 j1 => ?_⟩, fun a b a0 a1 b0 b1 => ?_, ⟨by rw [s1, t0], ?_, ?_, ?_, ?_, ?_⟩, ?_, fun w w0 w1 => ?_, fun d d0 d1 => ?_, fun w w0 w1 => ?_, fun k k0 k1 => ?_, ?_⟩
        · rw [ek 1 (by omega)] at d1
          have := i4 d i d0 d1 j0 j1
          unfold pipA at *
          rw [ek _ (by omega)]; exact this
        · rw [ek _ (by omega), ek _ (by omega)]; exact p2 a b a0 a1 b0 b1
        · rw [sgg _ _ (by omega), ek _ (by omega)]; exact p3'.1
        · rw [sgg _ _ (by omega), ek _ (by omega)]; exact p3'.2.1
        · rw [sgg _ _ (by omega), p3'.2.2.1]
          unfold cntQ
          refine fo_cg _ _ _ rfl (fun v x v0 v1 => ?_)
          rw [ek _ (by omega)]
        · rw [sgg _ _ (by omega), ek _ (by omega)]; exact p3'.2.2.2.1
        · rw [sgg _ _ (by omega), tg _ _ (by omega), h3 179 24 (by unfold mtkC; omega)]; exact p3'.2.2.2.2
        · rw [sgg _ _ (by omega)]; exact p4
        · rw [t0] at w1
          by_cases e : w = τ 182 0
          · rw [e, s28, t186]; exact hxy
          · rw [sgg _ _ (by omega), tg _ _ (by omega), f186]; exact p5 w w0 (by omega)
        · rw [ek 1 (by omega)] at d1
          have := p6 d d0 d1
          unfold pipA ownA at *
          rw [sgg _ _ (by omega), sgg _ _ (by omega), sgg _ _ (by omega), ek _ (by omega), ek _ (by omega), ek _ (by omega), t0]
          exact ⟨this.1, this.2.1, this.2.2.1, this.2.2.2.1, by omega⟩
        · rw [sgg _ _ (by omega), ek _ (by omega)]; exact p7 w w0 w1
        · rw [ek _ (by omega)]; exact p8 k k0 k1
        · rw [sg _ _ (by omega), tg _ _ (by omega), h2 2 12 (by unfold wtkC; omega), h3 179 10 (by unfold mtkC; omega)]; exact p9
      · exact lp_fail w1 m1 h1 (Or.inr (by
          rcases tr_kd h1 with ⟨h1, h2, h3⟩ | ⟨h1, h2, h3⟩ | ⟨h1, h2, h3, h4⟩ | ⟨h1, h2, h3, h4⟩ | ⟨h1, h2, h3, h4⟩ <;> omega))
    · rw [decide_eq_false g2, if_pos by0, if_pos by0]
      exact lp_fail w1 m1 h1 (Or.inl rfl)
  · rw [if_neg g, if_pos (by omega)]
    exact lp_fail ag_refl ag_refl h (Or.inr hk)
end
