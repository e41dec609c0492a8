/-! LAYER 3q: image, restore -/
theorem cpW_ag {σ s τ ρ : JSg} {w q : Nat} (h1 : ∀ a j, w + 1 ≤ a → a ≤ w + 21 → τ a j = s a j) (h2 : ∀ a j, q + 1 ≤ a → a ≤ q + 21 → ρ a j = σ a j) (H : cpW σ s w q) : cpW ρ τ w q := by
  have e : ∀ d i, 1 ≤ d → d ≤ 21 → s (w + d) i = σ (q + d) i → τ (w + d) i = ρ (q + d) i := fun d i d0 d1 g => by rw [h1 _ _ (by omega) (by omega), h2 _ _ (by omega) (by omega)]; exact g
  obtain ⟨c1, c2, c3, c4, c5, c6, c7, c8, c9, c10, c11⟩ := H
  exact ⟨⟨e 1 _ (by omega) (by omega) c1.1, e 1 _ (by omega) (by omega) c1.2.1, e 1 _ (by omega) (by omega) c1.2.2.1, e 1 _ (by omega) (by omega) c1.2.2.2.1, e 1 _ (by omega) (by omega) c1.2.2.2.2.1, e 1 _ (by omega) (by omega) c1.2.2.2.2.2⟩,
    fun i hi => e 2 _ (by omega) (by omega) (c2 i hi), fun i hi => ⟨e 3 _ (by omega) (by omega) (c3 i hi).1, e 4 _ (by omega) (by omega) (c3 i hi).2⟩, fun i hi => ⟨e 6 _ (by omega) (by omega) (c4 i hi).1, e 7 _ (by omega) (by omega) (c4 i hi).2⟩, e 8 _ (by omega) (by omega) c5,
    fun i hi => ⟨e 9 _ (by omega) (by omega) (c6 i hi).1, e 10 _ (by omega) (by omega) (c6 i hi).2.1, e 11 _ (by omega) (by omega) (c6 i hi).2.2.1, e 12 _ (by omega) (by omega) (c6 i hi).2.2.2⟩, fun i hi => ⟨e 13 _ (by omega) (by omega) (c7 i hi).1, e 14 _ (by omega) (by omega) (c7 i hi).2⟩,
    ⟨e 15 _ (by omega) (by omega) c8.1, e 15 _ (by omega) (by omega) c8.2⟩, fun i hi => ⟨e 16 _ (by omega) (by omega) (c9 i hi).1, e 17 _ (by omega) (by omega) (c9 i hi).2⟩, ⟨e 18 _ (by omega) (by omega) c10.1, e 18 _ (by omega) (by omega) c10.2⟩,
    fun i hi => ⟨e 19 _ (by omega) (by omega) (c11 i hi).1, e 20 _ (by omega) (by omega) (c11 i hi).2.1, e 21 _ (by omega) (by omega) (c11 i hi).2.2⟩⟩
theorem la_23 {σ : JSg} (H : Inv σ) : LA σ 179 23 = 1 := by
  obtain ⟨τ, t1, t2, t3, t4, t5, t6⟩ := inv_layAll H
  rw [la_e] at t1
  cases t1
  exact t3
def imgC (k a j : Nat) : Prop := (49 + 23 * k ≤ a ∧ a ≤ 49 + 23 * k + 21) ∨ (a = 183 ∧ 448 * k ≤ j ∧ j < 448 * k + 448) ∨ (a = 187 ∧ 6 * k ≤ j ∧ j < 6 * k + 6) ∨ (a = 188 ∧ j = k) ∨ (a = 179 ∧ j = 0)
theorem inv_img {σ τ s : JSg} {k : Nat} (hk : k ≤ 1) (H : Inv σ) (h23 : σ 179 23 = 1) (h : ∀ a j, ¬ imgC k a j → τ a j = σ a j) (hc : cpW σ s (49 + 23 * k) 3) (hs : ∀ a j, 49 + 23 * k + 1 ≤ a → a ≤ 49 + 23 * k + 21 → τ a j = s a j) (h4 : τ (49 + 23 * k) 4 = 1) (h8 : τ 188 k = 1) (hA : ∀ j, j < 448 → τ 183 (448 * k + j) = σ 181 j) (hN : ∀ j, j < 6 → τ 187 (6 * k + j) = σ 185 j) : Inv τ := by
  unfold imgC at h
  have e1 : τ 181 = σ 181 := funext fun j => h _ _ (by omega)
  have e2 : τ 185 = σ 185 := funext fun j => h _ _ (by omega)
  have e3 : pwA τ = pwA σ := by
    unfold pwA
    rw [e1, h 179 23 (by omega)]
  have pw : pwA σ = σ 181 3 := by
    unfold pwA
    rw [if_neg (by omega)]
  obtain ⟨h1, h2, h3, h4', h5, h6, h7⟩ := H
  have cp : cpW σ τ (49 + 23 * k) 3 := cpW_ag hs (fun a j _ _ => rfl) hc
  have ek : ∀ i : Nat, i < 448 → i ≠ 3 → shf (τ 183) (448 * k) i = σ 181 i := fun i hi _ => hA i hi
  have mine : ImgR τ k := by
    refine ⟨by rw [h4, h8], Or.inr ⟨h8, by rw [h 179 23 (by omega)]; exact h23, WfA_cg2 h1 ek, ?_⟩⟩
    rw [hA 3 (by omega), ← pw]
    exact WorR_cg2 h1 ek (fun i hi => hN i hi) (WorR_cp h1 cp h2)
  have other : ∀ m, m ≤ 1 → m ≠ k → ImgR σ m → ImgR τ m := fun m hm hne g => ImgR_ag2 (fun a j hj => h a j (by unfold worC at hj; omega)) (fun _ => by rw [h 179 23 (by omega)]; exact h23) g
  unfold Inv
  rw [e1, e2, e3, h 179 23 (by omega)]
  refine ⟨h1, WorR_ag (fun q j hq => h q j ?_) h2, TapR_ag (fun q j hq => h q j (by omega)) h3, h4', ⟨?_, ?_⟩, PasR_ag (fun q j hq => h q j (by omega)) h6, LstR_ag (fun q j hq => h q j (by omega)) h7⟩
  · unfold worC at hq
    omega
  · by_cases c : k = 0
    · subst c; exact mine
    · exact other 0 (by omega) (by omega) h5.1
  · by_cases c : k = 1
    · subst c; exact mine
    · exact other 1 (by omega) (by omega) h5.2
theorem e_M_image {σ : JSg} {n : Nat} {a : Int} {P : Int × JSg → Prop} (hn : 1000000 < n) (ha : 0 ≤ a ∧ a ≤ 1) (hk : ∀ τ, (∀ x j, ¬ ((x = 183 ∧ 448 * a.toNat ≤ j ∧ j < 448 * a.toNat + 448) ∨ (x = 187 ∧ 6 * a.toNat ≤ j ∧ j < 6 * a.toNat + 6) ∨ (x = 188 ∧ j = a.toNat)) → τ x j = LA (sp σ 179 0 0) x j) → τ 188 a.toNat = 1 → (∀ j, j < 448 → τ 183 (448 * a.toNat + j) = LA (sp σ 179 0 0) 181 j) → (∀ j, j < 6 → τ 187 (6 * a.toNat + j) = LA (sp σ 179 0 0) 185 j) → P (1, τ)) : Ret (f_M_image n a σ) P := by
  unfold f_M_image
  rw [lt_u, la_e, b1_s, e_M_isIn, b1_s, decide_eq_true ha, if_neg bn0]
  refine rt_lt (img_cp hn ha (fun τ1 t1 t2 => rt_lt (img_nm hn ha (fun τ2 u1 u2 => rt_chk (by omega) (rt_lt (rt_some (hk _ (fun x j hx => ?_) sp_eq (fun j hj => ?_) (fun j hj => ?_))))))))
  · rw [sp_at]
    by_cases c : x = 188
    · rw [if_pos c, if_neg (by omega), u1 x j (by omega), t1 x j (by omega)]
    · rw [if_neg c, u1 x j (by omega), t1 x j (by omega)]
  · rw [sp_nq (by decide), u1 183 _ (by omega)]
    exact t2 j hj
  · rw [sp_nq (by decide), u2 j hj, t1 185 _ (by omega)]
theorem op_image : Op_image Inv := by
  intro σ H a _
  have H1 := inv_thr (x := 0) H
  have X := in_X H
  by_cases ha : 0 ≤ a ∧ a ≤ 1
  · obtain ⟨L1, L2⟩ := la_inv H
    have L3 := la_23 H
    obtain ⟨s, e1, a1, c1⟩ := e_Wld_copy (σ := σ) (p := 49 + 23 * a.toNat) (q := 3) (by omega) X.2.2.1
    generalize hz : sp s (49 + 23 * a.toNat) 4 1 = z
    have zg : ∀ x j, ¬ (49 + 23 * a.toNat ≤ x ∧ x ≤ 49 + 23 * a.toNat + 21) → z x j = σ x j := by
      intro x j h
      rw [← hz, sp_nq (by omega)]
      exact a1 x j (by unfold wldC; omega)
    have zw : ∀ x j, 49 + 23 * a.toNat + 1 ≤ x → z x j = s x j := by
      intro x j h
      rw [← hz, sp_nq (by omega)]
    have z4 : z (49 + 23 * a.toNat) 4 = 1 := by rw [← hz, sp_eq]
    have lg : ∀ x j, ¬ (49 + 23 * a.toNat ≤ x ∧ x ≤ 49 + 23 * a.toNat + 21) → ¬ (x = 179 ∧ j = 0) → LA (sp z 179 0 0) x j = LA σ x j := by
      intro x j h1 h2
      refine la_cg ?_ (fun _ => ?_) ?_
      · rw [sp_nj (by decide)]; exact zg _ _ (by omega)
      · rw [sp_at]
        by_cases c : x = 179
        · rw [if_pos c, if_neg (by omega)]; exact zg _ _ (by omega)
        · rw [if_neg c]; exact zg _ _ (by omega)
      · rw [sp_nq (by decide)]; exact zg _ _ (by omega)
    have lw : ∀ x j, 49 + 23 * a.toNat ≤ x → x ≤ 49 + 23 * a.toNat + 21 → LA (sp z 179 0 0) x j = z x j := by
      intro x j h1 h2
      rw [la_o (by omega), sp_nq (by omega)]
    obtain ⟨y, y1, y2, y3⟩ := e_M_image (σ := z) (n := NN) (a := a) (P := fun y => y.1 = 1 ∧ Inv y.2) hNN ha (fun τ t1 t2 t3 t4 => ⟨rfl, inv_img (τ := τ) (k := a.toNat) (s := s) (by omega) L1 L3 (fun x j hx => by
        unfold imgC at hx
        rw [t1 x j (by omega), lg x j (by omega) (by omega)]) (cpW_ag (fun x j _ _ => rfl) (fun x j _ _ => la_o (by omega)) c1) (fun x j h1 h2 => by rw [t1 x j (by omega), lw x j (by omega) h2, zw x j h1]) (by rw [t1 _ _ (by omega), lw _ _ (by omega) (by omega), z4]) t2 (fun j hj => by rw [t3 j hj, lg _ _ (by omega) (by omega)]) (fun j hj => by rw [t4 j hj, lg _ _ (by omega) (by omega)])⟩)
    refine ⟨1, z, y.2, ?_, by rw [← y2]; exact y1, y3⟩
    unfold f_W_image
    rw [e_W_isPlace, b1_s, decide_eq_true ha, if_neg bn0]
    have c : a = 0 ∨ a = 1 := by omega
    rcases c with rfl | rfl
    · rw [if_pos rfl]
      rw [show f_Wld_copyFrom 49 3 σ = some s from e1, b1_s, ← hz]
      rfl
    · rw [if_neg (by decide)]
      rw [show f_Wld_copyFrom 72 3 σ = some s from e1, b1_s, ← hz]
      rfl
  · obtain ⟨L1, -⟩ := la_inv H1
    refine ⟨0, σ, _, ?_, ?_, L1⟩
    · unfold f_W_image
      rw [e_W_isPlace, b1_s, decide_eq_false ha, if_pos by0]
    · unfold f_M_image
      rw [lt_u, la_e, b1_s, e_M_isIn, b1_s, decide_eq_false ha, if_pos by0]
def rstC (a j : Nat) : Prop := (3 ≤ a ∧ a ≤ 24) ∨ (a = 0 ∧ j = 8) ∨ (a = 181 ∧ j < 448) ∨ (a = 185 ∧ j < 6) ∨ (a = 179 ∧ (j = 0 ∨ j = 22))
theorem inv_rst {σ τ : JSg} {k : Nat} (hk : k ≤ 1) (H : Inv σ) (h1 : σ 188 k = 1) (h : ∀ a j, ¬ rstC a j → τ a j = σ a j) (hc : cpW σ τ 3 (49 + 23 * k)) (h8 : τ 0 8 = 0) (h22 : τ 179 22 = 0) (hA : ∀ j, j < 448 → τ 181 j = σ 183 (448 * k + j)) (hN : ∀ j, j < 6 → τ 185 j = σ 187 (6 * k + j)) : Inv τ := by
  unfold rstC at h
  have im : ImgR σ k := by
    have := H.2.2.2.2.1
    have c : k = 0 ∨ k = 1 := by omega
    rcases c with rfl | rfl
    · exact this.1
    · exact this.2
  rcases im.2 with g | ⟨-, g1, g2, g3⟩
  · omega
  have e9 : τ 0 9 = σ 0 9 := h 0 9 (by omega)
  have e23 : τ 179 23 = 1 := (h 179 23 (by omega)).trans g1
  have pw : pwA τ = σ 183 (448 * k + 3) := by
    unfold pwA
    rw [if_neg (by omega)]
    exact hA 3 (by omega)
  have ek : ∀ i : Nat, i < 448 → i ≠ 3 → τ 181 i = shf (σ 183) (448 * k) i := fun i hi _ => hA i hi
  obtain ⟨-, -, p3, -, p5, p6, p7⟩ := H
  refine ⟨WfA_cg2 g2 ek, ?_, TapR_ag (fun q j hq => h q j (by omega)) p3, Or.inr e23, ⟨ImgR_ag (fun q j hq => h q j (by unfold worC at hq; omega)) p5.1, ImgR_ag (fun q j hq => h q j (by unfold worC at hq; omega)) p5.2⟩, ⟨by rw [h8, h22], by omega, by rw [e9]; exact p6.2.2.1, fun j j0 j1 => by omega⟩, LstR_ag (fun q j hq => h q j (by omega)) p7⟩
  rw [pw]
  exact WorR_cg2 g2 ek (fun i hi => hN i hi) (WorR_cp g2 hc g3)
theorem e_M_restore {σ : JSg} {n : Nat} {a : Int} {P : Int × JSg → Prop} (hn : 1000000 < n) (ha : 0 ≤ a ∧ a ≤ 1) (h8 : σ 188 a.toNat ≠ 0) (hk : ∀ τ, (∀ x j, ¬ ((x = 181 ∧ j < 448) ∨ (x = 185 ∧ j < 6) ∨ (x = 179 ∧ (j = 0 ∨ j = 22))) → τ x j = σ x j) → τ 179 22 = 0 → (∀ j, j < 448 → τ 181 j = σ 183 (448 * a.toNat + j)) → (∀ j, j < 6 → τ 185 j = σ 187 (6 * a.toNat + j)) → P (1, τ)) : Ret (f_M_restore n a σ) P := by
  unfold f_M_restore
  rw [lt_u, e_M_isIn, b1_s, decide_eq_true ha, if_neg bn0, ck_p (by omega), th_q (by decide), if_neg h8]
  refine rt_lt (rst_cp hn ha (fun τ1 t1 t2 => rt_lt (rst_nm hn ha (fun τ2 u1 u2 => rt_lt (rt_some (hk _ (fun x j hx => ?_) sp_eq (fun j hj => ?_) (fun j hj => ?_)))))))
  · rw [sp_at]
    by_cases c : x = 179
    · rw [if_pos c, if_neg (by omega), u1 x j (by omega), t1 x j (by omega), sp_at, if_pos c, if_neg (by omega)]
    · rw [if_neg c, u1 x j (by omega), t1 x j (by omega), sp_nq c]
  · rw [sp_nq (by decide), u1 181 _ (by omega), t2 j hj, sp_nq (by decide)]
  · rw [sp_nq (by decide), u2 j hj, t1 187 _ (by omega), sp_nq (by decide)]
theorem op_restore : Op_restore Inv := by
  intro σ H a _
  have H1 := inv_thr (x := 0) H
  by_cases ha : 0 ≤ a ∧ a ≤ 1
  · have im : ImgR σ a.toNat := by
      have := H.2.2.2.2.1
      have c : a = 0 ∨ a = 1 := by omega
      rcases c with rfl | rfl
      · exact this.1
      · exact this.2
    by_cases h8 : σ 188 a.toNat = 0
    · have w4 : σ (49 + 23 * a.toNat) 4 = 0 := im.1.trans h8
      refine ⟨0, σ, _, ?_, ?_, H1⟩
      · unfold f_W_restore
        rw [e_W_isPlace, b1_s, decide_eq_true ha, if_neg bn0]
        have c : a = 0 ∨ a = 1 := by omega
        rcases c with rfl | rfl
        · rw [if_pos rfl, if_pos (show σ 49 4 = 0 from w4)]
        · rw [if_neg (by decide), if_pos (show σ 72 4 = 0 from w4)]
      · unfold f_M_restore
        rw [lt_u, e_M_isIn, b1_s, decide_eq_true ha, if_neg bn0, ck_p (by omega), th_q (by decide), if_pos h8]
    · have w4 : σ (49 + 23 * a.toNat) 4 ≠ 0 := by rw [im.1]; exact h8
      rcases im.2 with g | ⟨g0, g1, g2, g3⟩
      · exact absurd g h8
      obtain ⟨s, e1, a1, c1⟩ := e_Wld_copy (σ := σ) (p := 3) (q := 49 + 23 * a.toNat) (by omega) g3.2.1.2.2.1
      generalize hz : sp s 0 8 0 = z
      have zg : ∀ x j, ¬ ((3 ≤ x ∧ x ≤ 24) ∨ (x = 0 ∧ j = 8)) → z x j = σ x j := by
        intro x j h
        rw [← hz, sp_at]
        by_cases c : x = 0
        · rw [if_pos c, if_neg (by omega)]; exact a1 x j (by unfold wldC; omega)
        · rw [if_neg c]; exact a1 x j (by unfold wldC; omega)
      have z8 : z 0 8 = 0 := by rw [← hz, sp_eq]
      have zs : ∀ x j, x ≠ 0 → z x j = s x j := fun x j h => by rw [← hz, sp_nq h]
      obtain ⟨y, y1, y2, y3⟩ := e_M_restore (σ := z) (n := NN) (a := a) (P := fun y => y.1 = 1 ∧ Inv y.2) hNN ha (by rw [zg _ _ (by omega)]; exact h8) (fun τ t1 t2 t3 t4 => ⟨rfl, inv_rst (τ := τ) (k := a.toNat) (by omega) H g0 (fun x j hx => by
          unfold rstC at hx
          rw [t1 x j (by omega), zg x j (by omega)]) (cpW_ag (fun x j h1 h2 => by rw [t1 x j (by omega), zs x j (by omega)]) (fun x j _ _ => rfl) c1) (by rw [t1 _ _ (by omega), z8]) t2 (fun j hj => by rw [t3 j hj, zg _ _ (by omega)]) (fun j hj => by rw [t4 j hj, zg _ _ (by omega)])⟩)
      refine ⟨1, z, y.2, ?_, by rw [← y2]; exact y1, y3⟩
      unfold f_W_restore
      rw [e_W_isPlace, b1_s, decide_eq_true ha, if_neg bn0]
      have c : a = 0 ∨ a = 1 := by omega
      rcases c with rfl | rfl
      · rw [if_pos rfl, if_neg (show ¬ σ 49 4 = 0 from w4)]
        rw [show f_Wld_copyFrom 3 49 σ = some s from e1, b1_s, ← hz]
        rfl
      · rw [if_neg (by decide), if_neg (show ¬ σ 72 4 = 0 from w4)]
        rw [show f_Wld_copyFrom 3 72 σ = some s from e1, b1_s, ← hz]
        rfl
  · refine ⟨0, σ, _, ?_, ?_, H1⟩
    · unfold f_W_restore
      rw [e_W_isPlace, b1_s, decide_eq_false ha, if_pos by0]
    · unfold f_M_restore
      rw [lt_u, e_M_isIn, b1_s, decide_eq_false ha, if_pos by0]
