/-! LAYER 3zc: QUARREL lines -/
section
variable {σ τ : JSg} {n p : Nat} {c : JA} {size lim q : Int}
theorem cntQ_bd {A : JA} : 0 ≤ cntQ A ∧ cntQ A ≤ 49 := by
  have key : ∀ (C : Int → Prop) [DecidablePred C] (k : Nat) (N i x : Int), (N - i).toNat = k → x ≤ fo (fun q x => if C q then x + 1 else x) N i x ∧ fo (fun q x => if C q then x + 1 else x) N i x ≤ x + k := by
    intro C _ k
    induction k with
    | zero => intro N i x h; rw [fo_e (by omega)]; omega
    | succ k ih =>
      intro N i x h
      rw [fo_s (by omega)]
      have := ih N (i + 1) (if C i then x + 1 else x) (by omega)
      revert this
      split <;> (intro this; omega)
  unfold cntQ
  have st : ∀ (p : Int) (x : Int), x ≤ (fun (p x : Int) => fo (fun q x => if bt (A (4 + p).toNat) q.toNat then x + 1 else x) (p + 1) 0 x) p x ∧ (fun (p x : Int) => fo (fun q x => if bt (A (4 + p).toNat) q.toNat then x + 1 else x) (p + 1) 0 x) p x ≤ x + (p + 1 - 0).toNat := fun p x => key (fun q => bt (A (4 + p).toNat) q.toNat = true) _ _ _ _ rfl
  generalize (fun (p x : Int) => fo (fun q x => if bt (A (4 + p).toNat) q.toNat then x + 1 else x) (p + 1) 0 x) = F at *
  have st' : ∀ (p x : Int), x ≤ F p x ∧ F p x ≤ x + (p + 1 - 0).toNat := st
  have key2 : ∀ (k : Nat) (i x : Int), (7 - i).toNat = k → 0 ≤ i → x ≤ fo F 7 i x ∧ fo F 7 i x ≤ x + 7 * k := by
    intro k
    induction k with
    | zero => intro i x h h0; rw [fo_e (by omega)]; omega
    | succ k ih =>
      intro i x h h0
      rw [fo_s (by omega)]
      have a := ih (i + 1) (F i x) (by omega) (by omega)
      have b := st' i x
      omega
  have := key2 7 0 0 rfl (by omega)
  omega
theorem s_readQuarrel (hn : 1000000 < n) (h : TR c size lim q σ τ) (hP : IslP σ τ) : Sm (f_Isl_readQuarrel n 27 σ) (f_M_readQuarrel n τ) (LnP c size lim σ τ (σ 2 3)) := by
  have nx0 := tr_nx h
  obtain ⟨p1, p2, ⟨p3, p3a, p3b⟩, p4, p5, p6, p7, p8, p9⟩ := id hP
  unfold f_Isl_readQuarrel f_M_readQuarrel
  refine sm_b11 (tr_step hn h) (fun s t hs => ?_)
  obtain ⟨h1, h2, h3⟩ := hs
  have w1 := wr_t (σ := σ) ag_refl h2
  have m1 := mr_t (σ := τ) ag_refl h3
  have nx1 := tr_nx h1
  refine s_two hn h1 (fun s t ws mt fr => sm_some ⟨ag_tr w1 (wr_2F ws), ag_tr m1 (mr_2F mt), Or.inl ⟨rfl, rfl, fr⟩⟩) (fun a b s3 t3 q' a0 b0 h4 sa sb tb ws mt qq s24 => ?_)
  have w2 := ag_tr w1 (wr_2 ws)
  have m2 := ag_tr m1 (mr_2 mt)
  have e2 : ∀ a j, a ≠ 2 → s3 a j = σ a j := fun a j q => (ws a j (by unfold wtkC2; omega)).trans (h2 a j (by unfold wtkC; omega))
  have f2 : ∀ a j, a ≠ 179 → t3 a j = τ a j := fun a j q => (mt a j (by unfold mtkC2; omega)).trans (h3 a j (by unfold mtkC; omega))
  have f24 : t3 179 24 = τ 179 24 := (mt 179 24 (by unfold mtkC2; omega)).trans (h3 179 24 (by unfold mtkC; omega))
  have ne1 : t3 179 7 ≠ 1 := by
    rcases tr_kd h4 with ⟨h1, h2, h3⟩ | ⟨h1, h2, h3⟩ | ⟨h1, h2, h3, h4⟩ | ⟨h1, h2, h3, h4⟩ | ⟨h1, h2, h3, h4⟩ <;> omega
  have e32 : ∀ w : Int, 0 ≤ w → w < 7 → s3 32 w.toNat = τ 182 (4 + w).toNat := fun w w0 w1 => by rw [e2 _ _ (by omega)]; exact p7 w w0 w1
  have fa : t3 182 (4 + a).toNat = τ 182 (4 + a).toNat := f2 _ _ (by omega)
  have bA := p1.2.2.2.1 a (by omega) (by omega)
  have bB := p1.2.2.2.1 b (by omega) (by omega)
  unfold f_Isl_areAngry
  rw [sa, sb, tb, show (27 + 5 : Nat) = 32 from rfl, e32 a (by omega) (by omega), wi (x := 4 + a) (by omega) (by omega), fa]
  simp (disch := omega) only [ck_p]
  rw [e_M_has (by omega) (by omega), b1_s, has_e (by omega) (by omega)]
  cases gb : bt (τ 182 (4 + a).toNat) b.toNat
  · rw [if_pos (show (if false = true then (1:Int) else 0) = 0 from rfl), b1_s, if_pos rfl, if_pos by0]
    simp only [lt_u]
    simp (disch := omega) only [sp_nq, sp_nj, sb, tb, wi, ck_p]
    rw [sa]
    generalize hx : or32 (τ 182 (4 + a).toNat) (sl32 1 b) = x
    have xb := or_bd (x := τ 182 (4 + a).toNat) bA b0
    have xt : ∀ j : Nat, bt x j = (bt (τ 182 (4 + a).toNat) j || decide ((j : Int) = b)) := fun j => by rw [← hx]; exact bt_orb b0
    rw [hx] at xb
    have eqy : sp s3 32 a.toNat x 32 b.toNat = sp t3 182 (4 + a).toNat x 182 (4 + b).toNat := by
      by_cases e : a = b
      · subst e
        rw [sp_eq, sp_eq]
      · rw [sp_nj (by omega), sp_nj (by omega), e32 b (by omega) (by omega), f2 _ _ (by omega)]
    generalize hy : or32 (sp t3 182 (4 + a).toNat x 182 (4 + b).toNat) (sl32 1 a) = y
    have y0b : 0 ≤ sp t3 182 (4 + a).toNat x 182 (4 + b).toNat ∧ sp t3 182 (4 + a).toNat x 182 (4 + b).toNat < 128 := by
      by_cases e : a = b
      · subst e
        rw [sp_eq]; exact xb
      · rw [sp_nj (by omega), f2 _ _ (by omega)]; exact bB
    have yb := or_bd y0b a0
    have yt : ∀ j : Nat, bt y j = (bt (sp t3 182 (4 + a).toNat x 182 (4 + b).toNat) j || decide ((j : Int) = a)) := fun j => by rw [← hy]; exact bt_orb a0
    rw [hy] at yb
    rw [eqy, hy]
    have cb := cntQ_bd (A := τ 182)
    have s34 : s3 27 4 = cntQ (τ 182) := (e2 27 4 (by omega)).trans p3b.2.1
    rw [s34, wi (by omega) (by omega)]
    generalize hs' : sp (sp (sp s3 32 a.toNat x) 32 b.toNat y) 27 4 (cntQ (τ 182) + 1) = s'
    generalize ht' : sp (sp t3 182 (4 + a).toNat x) 182 (4 + b).toNat y = t'
    have sg : ∀ x j, ¬ ((x = 27 ∧ j = 4) ∨ (x = 32 ∧ (j = a.toNat ∨ j = b.toNat))) → s' x j = s3 x j := by
      intro x j hh
      rw [← hs']
      simp only [sp_at]
      repeat' split
      all_goals first | omega | rfl
    have tg : ∀ x j, ¬ (x = 182 ∧ (j = (4 + a).toNat ∨ j = (4 + b).toNat)) → t' x j = t3 x j := by
      intro x j hh
      rw [← ht']
      simp only [sp_at]
      repeat' split
      all_goals first | omega | rfl
    have s4 : s' 27 4 = cntQ (τ 182) + 1 := by rw [← hs', sp_eq]
    have ek : ∀ k : Nat, k ≠ (4 + a).toNat → k ≠ (4 + b).toNat → t' 182 k = τ 182 k := fun k k1 k2 => by rw [tg _ _ (by omega), f2 _ _ (by omega)]
    have eb : t' 182 (4 + b).toNat = y := by rw [← ht', sp_eq]
    have ea : a ≠ b → t' 182 (4 + a).toNat = x := fun e => by rw [← ht', sp_nj (by omega), sp_eq]
    have e32' : ∀ w : Int, 0 ≤ w → w < 7 → s' 32 w.toNat = t' 182 (4 + w).toNat := by
      intro w w0 w1
      by_cases cb : w = b
      · rw [cb, eb, ← hs', sp_nq (by decide), sp_eq]
      · by_cases ca : w = a
        · subst ca
          rw [ea cb, ← hs', sp_nq (by decide), sp_nj (by omega), sp_eq]
        · rw [sg _ _ (by omega), tg _ _ (by omega), e32 w w0 w1, f2 _ _ (by omega)]
    have hB : ∀ v j : Int, 0 ≤ v → v < 7 → 0 ≤ j → j < 7 → bt (t' 182 (4 + v).toNat) j.toNat = (bt (τ 182 (4 + v).toNat) j.toNat || (decide (v = a) && decide (j = b)) || (decide (v = b) && decide (j = a))) := by
      intro v j v0 v1 j0 j1
      have jj : ((j.toNat : Nat) : Int) = j := by omega
      by_cases cb : v = b
      · subst cb
        rw [eb, yt, jj]
        by_cases ca : v = a
        · subst ca
          rw [sp_eq, xt, jj]
          simp
        · rw [sp_nj (by omega), f2 _ _ (by omega)]
          simp [ca]
      · by_cases ca : v = a
        · subst ca
          rw [ea cb, xt, jj]
          simp [cb]
        · rw [ek _ (by omega) (by omega)]
          simp [cb, ca]
    have rng : ∀ v : Int, 0 ≤ v → v < 7 → 0 ≤ t' 182 (4 + v).toNat ∧ t' 182 (4 + v).toNat < 128 := by
      intro v v0 v1
      by_cases cb : v = b
      · subst cb
        rw [eb]; exact yb
      · by_cases ca : v = a
        · subst ca
          rw [ea cb]; exact xb
        · rw [ek _ (by omega) (by omega)]; exact p1.2.2.2.1 v v0 v1
    clear hs' ht' eqy hx hy xt yt
    have sgg : ∀ x j, x ≠ 2 → ¬ ((x = 27 ∧ j = 4) ∨ (x = 32 ∧ (j = a.toNat ∨ j = b.toNat))) → s' x j = σ x j := fun x j hx hh => (sg x j hh).trans (e2 x j hx)
    refine lp_step hn (ag_tr w2 (fun x j hh => sg x j (by unfold wrC at hh; omega))) (ag_tr m2 (fun x j hh => tg x j (by unfold mrC at hh; omega))) (tr_ag h4 (fun x j hh => sg x j (by omega)) (fun x j hh => tg x j (by omega))) ?_ (by rw [sg 2 3 (by omega)]; have := tr_nx h4; omega)
    obtain ⟨i0, i1, i2, i3, i4⟩ := p1
    refine ⟨⟨by rw [ek 0 (by omega) (by omega)]; exact i0, by rw [ek 1 (by omega) (by omega)]; exact i1, by rw [ek 2 (by omega) (by omega)]; exact i2, rng, fun d i d0 d1 j0 j1 => ?_⟩, bt_new hB p2, ⟨?_, ?_, ?_, ?_, ?_, ?_⟩, ?_, fun w w0 w1 => ?_, fun d d0 d1 => ?_, e32', fun k k0 k1 => ?_, ?_⟩
    · rw [ek 1 (by omega) (by omega)] at d1
      have := i4 d i d0 d1 j0 j1
      unfold pipA at *
      rw [ek _ (by omega) (by omega)]; exact this
    · rw [sgg _ _ (by omega) (by omega), ek _ (by omega) (by omega)]; exact p3
    · rw [sgg _ _ (by omega) (by omega), ek _ (by omega) (by omega)]; exact p3a
    · rw [sgg _ _ (by omega) (by omega), ek _ (by omega) (by omega)]; exact p3b.1
    · rw [s4, cntQ_one a0 b0 p2 gb hB]
    · rw [sgg _ _ (by omega) (by omega), ek _ (by omega) (by omega)]; exact p3b.2.2.1
    · rw [sgg _ _ (by omega) (by omega), tg _ _ (by omega), f24]; exact p3b.2.2.2
    · rw [sgg _ _ (by omega) (by omega)]; exact p4
    · rw [ek 0 (by omega) (by omega)] at w1
      rw [sgg _ _ (by omega) (by omega), tg _ _ (by omega), f2 _ _ (by omega)]; exact p5 w w0 w1
    · rw [ek 1 (by omega) (by omega)] at d1
      have := p6 d d0 d1
      unfold pipA ownA at *
      rw [sgg _ _ (by omega) (by omega), sgg _ _ (by omega) (by omega), sgg _ _ (by omega) (by omega), ek _ (by omega) (by omega), ek _ (by omega) (by omega), ek _ (by omega) (by omega), ek 0 (by omega) (by omega)]
      exact this
    · rw [ek _ (by omega) (by omega)]; exact p8 k k0 k1
    · rw [sg _ _ (by omega), tg _ _ (by omega), ws 2 12 (by unfold wtkC2; omega), mt 179 10 (by unfold mtkC2; omega), h2 2 12 (by unfold wtkC; omega), h3 179 10 (by unfold mtkC; omega)]; exact p9
  · rw [if_neg (show ¬ (if true = true then (1:Int) else 0) = 0 by decide), b1_s, if_neg (by decide), if_neg bn0]
    exact lp_fail w2 m2 h4 (Or.inr ne1)
end
