/-! LAYER 3zb: STONE and QUARREL lines -/
section
theorem fo_sh {g : Int → Int → Int} {N : Int} (hs : ∀ p x y, g p (x + y) = g p x + y) : ∀ (k : Nat) (i x y : Int), (N - i).toNat = k → fo g N i (x + y) = fo g N i x + y := by
  intro k
  induction k with
  | zero => intro i x y h; rw [fo_e (by omega), fo_e (by omega)]
  | succ k ih => intro i x y h; rw [fo_s (by omega), fo_s (i := i) (x := x) (by omega), hs, ih _ _ _ (by omega)]
theorem fo_one {g g' : Int → Int → Int} {N M : Int} (hs : ∀ p x y, g p (x + y) = g p x + y) (he : ∀ p x, 0 ≤ p → p < N → g' p x = g p x + if p = M then 1 else 0) : ∀ (k : Nat) (i x : Int), (N - i).toNat = k → 0 ≤ i → fo g' N i x = fo g N i x + if i ≤ M ∧ M < N then 1 else 0 := by
  intro k
  induction k with
  | zero =>
    intro i x h h0
    rw [fo_e (by omega), fo_e (by omega), if_neg (by omega)]
    omega
  | succ k ih =>
    intro i x h h0
    rw [fo_s (by omega), fo_s (i := i) (x := x) (by omega), he _ _ h0 (by omega), ih _ _ (by omega) (by omega), fo_sh hs _ _ _ _ rfl]
    generalize fo g N (i + 1) (g i x) = y
    repeat' split
    all_goals omega
theorem bt_new {A B : JA} {a b : Int} (hB : ∀ v j : Int, 0 ≤ v → v < 7 → 0 ≤ j → j < 7 → bt (B (4 + v).toNat) j.toNat = (bt (A (4 + v).toNat) j.toNat || (decide (v = a) && decide (j = b)) || (decide (v = b) && decide (j = a)))) (hS : symQ A) : symQ B := by
  intro v m v0 v1 m0 m1
  rw [hB v m v0 v1 m0 m1, hB m v m0 m1 v0 v1, hS v m v0 v1 m0 m1]
  generalize bt (A (4 + m).toNat) v.toNat = x
  generalize decide (v = a) = y1
  generalize decide (m = b) = y2
  generalize decide (v = b) = y3
  generalize decide (m = a) = y4
  cases x <;> cases y1 <;> cases y2 <;> cases y3 <;> cases y4 <;> rfl
theorem cntQ_one {A B : JA} {a b : Int} (ha : 0 ≤ a ∧ a ≤ 6) (hb : 0 ≤ b ∧ b ≤ 6) (hS : symQ A) (h0 : bt (A (4 + a).toNat) b.toNat = false) (hB : ∀ v j : Int, 0 ≤ v → v < 7 → 0 ≤ j → j < 7 → bt (B (4 + v).toNat) j.toNat = (bt (A (4 + v).toNat) j.toNat || (decide (v = a) && decide (j = b)) || (decide (v = b) && decide (j = a)))) : cntQ B = cntQ A + 1 := by
  have h0' : bt (A (4 + b).toNat) a.toNat = false := by rw [hS b a (by omega) (by omega) (by omega) (by omega)]; exact h0
  unfold cntQ
  have sh1 : ∀ (C : Int → Prop) [DecidablePred C] (p x y : Int), (if C p then (x + y) + 1 else x + y) = (if C p then x + 1 else x) + y := by
    intro C _ p x y
    split <;> omega
  have hs : ∀ p x y : Int, fo (fun q x => if bt (A (4 + p).toNat) q.toNat then x + 1 else x) (p + 1) 0 (x + y) = fo (fun q x => if bt (A (4 + p).toNat) q.toNat then x + 1 else x) (p + 1) 0 x + y := fun p x y => fo_sh (fun q x y => sh1 (fun q => bt (A (4 + p).toNat) q.toNat = true) q x y) _ _ _ _ rfl
  rw [fo_one (g := fun p x => fo (fun q x => if bt (A (4 + p).toNat) q.toNat then x + 1 else x) (p + 1) 0 x) (M := if a ≤ b then b else a) hs ?_ 7 0 0 rfl (by omega), if_pos ?_]
  · split <;> omega
  · intro p x p0 p1
    show fo _ _ _ _ = fo _ _ _ _ + _
    rw [fo_one (g := fun q x => if bt (A (4 + p).toNat) q.toNat then x + 1 else x) (M := if p = (if a ≤ b then b else a) then (if a ≤ b then a else b) else -1) (fun q x y => sh1 (fun q => bt (A (4 + p).toNat) q.toNat = true) q x y) ?_ _ 0 x rfl (by omega)]
    · congr 1
      repeat' split
      all_goals omega
    · intro q x q0 q1
      have hc : (bt (B (4 + p).toNat) q.toNat = true) ↔ (bt (A (4 + p).toNat) q.toNat = true ∨ (p = a ∧ q = b) ∨ (p = b ∧ q = a)) := by
        rw [hB p q p0 p1 q0 (by omega)]
        simp [or_assoc]
      have hM : (q = if p = (if a ≤ b then b else a) then (if a ≤ b then a else b) else -1) ↔ ((p = a ∧ q = b) ∨ (p = b ∧ q = a)) := by
        repeat' split
        all_goals omega
      simp only [hc, hM]
      by_cases ht : bt (A (4 + p).toNat) q.toNat = true
      · have n1 : ¬ (p = a ∧ q = b) := by
          rintro ⟨rfl, rfl⟩
          rw [h0] at ht; cases ht
        have n2 : ¬ (p = b ∧ q = a) := by
          rintro ⟨rfl, rfl⟩
          rw [h0'] at ht; cases ht
        rw [if_pos (Or.inl ht), if_pos ht, if_neg (by rintro (h | h); exact n1 h; exact n2 h)]
        omega
      · rw [if_neg (c := bt (A (4 + p).toNat) q.toNat = true) ht]
        by_cases hh : (p = a ∧ q = b) ∨ (p = b ∧ q = a)
        · rw [if_pos (Or.inr hh), if_pos hh]
        · rw [if_neg (by rintro (h | h); exact ht h; exact hh h), if_neg hh]
          omega
end
section
variable {σ τ : JSg} {n p : Nat} {c : JA} {size lim q : Int}
theorem s_readStone (hn : 1000000 < n) (h : TR c size lim q σ τ) (hP : IslP σ τ) (hk : τ 179 7 ≠ 1) : Sm (f_Isl_readStone n 27 σ) (f_M_readStone n τ) (LnP c size lim σ τ (σ 2 3)) := by
  have nx0 := tr_nx h
  obtain ⟨p1, p2, ⟨p3, p3a, p3b⟩, p4, p5, p6, p7, p8, p9⟩ := id hP
  have bv := p1.2.1
  unfold f_Isl_readStone f_M_readStone
  rw [lt_u, p3a]
  by_cases g : τ 182 1 < 28
  · rw [if_pos g, if_neg (by omega)]
    refine sm_b11 (tr_step hn h) (fun s t hs => ?_)
    obtain ⟨h1, h2, h3⟩ := hs
    have w1 := wr_t (σ := σ) ag_refl h2
    have m1 := mr_t (σ := τ) ag_refl h3
    have nx1 := tr_nx h1
    refine s_two hn h1 (fun s t ws mt fr => sm_some ⟨ag_tr w1 (wr_2F ws), ag_tr m1 (mr_2F mt), Or.inl ⟨rfl, rfl, fr⟩⟩) (fun a b s3 t3 q' a0 b0 h4 sa sb tb ws mt qq s24 => ?_)
    have w2 := ag_tr w1 (wr_2 ws)
    have m2 := ag_tr m1 (mr_2 mt)
    have e2 : ∀ a j, a ≠ 2 → s3 a j = σ a j := fun a j q => (ws a j (by unfold wtkC2; omega)).trans (h2 a j (by unfold wtkC; omega))
    have f2 : ∀ a j, a ≠ 179 → t3 a j = τ a j := fun a j q => (mt a j (by unfold mtkC2; omega)).trans (h3 a j (by unfold mtkC; omega))
    have f24 : t3 179 24 = τ 179 24 := (mt 179 24 (by unfold mtkC2; omega)).trans (h3 179 24 (by unfold mtkC; omega))
    have f182 : t3 182 = τ 182 := funext fun j => f2 182 j (by omega)
    have ne1 : t3 179 7 ≠ 1 := by
      rcases tr_kd h4 with ⟨h1, h2, h3⟩ | ⟨h1, h2, h3⟩ | ⟨h1, h2, h3, h4⟩ | ⟨h1, h2, h3, h4⟩ | ⟨h1, h2, h3, h4⟩ <;> omega
    rw [sa, sb, tb, e_stoneW (A := τ 182) hn bv ((e2 27 2 (by omega)).trans p3a) (fun s s0 s1 => by rw [e2 _ _ (by omega), e2 _ _ (by omega)]; exact ⟨(p6 s s0 s1).1, (p6 s s0 s1).2.1⟩), e_M_findStone hn (by omega) (by rw [f182]; exact bv.1) (by rw [f182]; exact bv.2), f182, b1_s, b1_s]
    refine sm_ite Iff.rfl (fun gf _ => ?_) (fun gf _ => lp_fail w2 m2 h4 (Or.inr ne1))
    simp (disch := omega) only [wi, ck_p, lt_u]
    rw [sp_nq (show (179 : Nat) ≠ 182 by decide), tb]
    generalize ht' : sp (sp t3 182 (11 + 2 * τ 182 1).toNat a) 182 (11 + 2 * τ 182 1 + 1).toNat b = t4
    have tg : ∀ x j, ¬ (x = 182 ∧ (j = (11 + 2 * τ 182 1).toNat ∨ j = (11 + 2 * τ 182 1 + 1).toNat)) → t4 x j = t3 x j := by
      intro x j hh
      rw [← ht', sp_at, sp_at]
      by_cases c1 : x = 182
      · rw [if_pos c1, if_pos c1, if_neg (by omega), if_neg (by omega)]
      · rw [if_neg c1, if_neg c1]
    have ta : t4 182 (11 + 2 * τ 182 1).toNat = a := by rw [← ht', sp_nj (by omega), sp_eq]
    have tb4 : t4 182 (11 + 2 * τ 182 1 + 1).toNat = b := by rw [← ht', sp_eq]
    clear ht'
    refine sm_b11 (tr_step hn (tr_ag h4 (fun _ _ _ => rfl) (fun x j hh => tg x j (by omega)))) (fun s5 t5 hs5 => ?_)
    obtain ⟨h5, h6, h7⟩ := hs5
    have e5 : ∀ a j, a ≠ 2 → s5 a j = σ a j := fun a j q => (h6 a j (by unfold wtkC; omega)).trans (e2 a j q)
    have w5 := wr_t w2 h6
    have m5 : Agr mrC τ t5 := mr_t (ag_tr m2 (fun x j hh => tg x j (by unfold mrC at hh; omega))) h7
    have f5 : ∀ x j, x ≠ 179 → t5 x j = t4 x j := fun x j q => h7 x j (by unfold mtkC; omega)
    have t0 : t5 182 0 = τ 182 0 := by rw [f5 _ _ (by omega), tg _ _ (by omega), f182]
    have t1 : t5 182 1 = τ 182 1 := by rw [f5 _ _ (by omega), tg _ _ (by omega), f182]
    rw [t0]
    rcases s_who (p := 27) (k := 186) (N := τ 182 0) hn h5 p1.1 ((e5 27 1 (by omega)).trans p3) (fun w w0 w1 => by rw [e5 _ _ (by omega), f5 _ _ (by omega), tg _ _ (by omega), f2 _ _ (by omega)]; exact p5 w w0 w1) with ⟨s6, t6, g1, g2, g3, g4, g5, g6⟩ | ⟨s6, t6, g1, g2, g3, g4, g5, g6, g7⟩ | ⟨w, g1, g2, g3, g4, g5⟩
    · rw [g1, g2, b2_s, b1_s, if_pos rfl, if_pos rfl, g3, b2_s, ck_p (Or.inl rfl)]
      exact sm_some ⟨wr_f w5 g5, mr_f m5 g6, Or.inl ⟨rfl, rfl, g4⟩⟩
    · rw [g1, g2, b2_s, b1_s, if_pos rfl, if_neg (by decide), g3, b1_s, if_pos rfl, g4, b2_s, ck_p (Or.inl rfl)]
      exact sm_some ⟨wr_f w5 g6, mr_f m5 g7, Or.inl ⟨rfl, rfl, g5⟩⟩
    · have s5a : s5 2 10 = a := (h6 2 10 (by unfold wtkC; omega)).trans sa
      have s5b : s5 2 11 = b := (h6 2 11 (by unfold wtkC; omega)).trans sb
      have s52 : s5 27 2 = τ 182 1 := (e5 27 2 (by omega)).trans p3a
      rw [g1, g2, b2_s, b1_s, if_neg (by omega), if_neg (by decide), g3, b1_s, if_neg (by omega)]
      simp (disch := omega) only [sp_nq, s52, s5a, s5b, t1, sp_nj, ck_p, wi]
      generalize hs' : sp (sp (sp (sp s5 (27 + 2) (τ 182 1).toNat a) (27 + 3) (τ 182 1).toNat b) (27 + 4) (τ 182 1).toNat w) 27 2 (τ 182 1 + 1) = s'
      generalize ht' : sp (sp t5 182 (67 + τ 182 1).toNat w) 182 1 (τ 182 1 + 1) = t'
      have sg : ∀ x j, ¬ ((x = 27 ∧ j = 2) ∨ ((x = 29 ∨ x = 30 ∨ x = 31) ∧ j = (τ 182 1).toNat)) → s' x j = s5 x j := by
        intro x j hh
        rw [← hs']
        simp (disch := omega) only [sp_at]
        repeat' split
        all_goals first | omega | rfl
      have tg' : ∀ x j, ¬ (x = 182 ∧ (j = 1 ∨ j = (67 + τ 182 1).toNat)) → t' x j = t5 x j := by
        intro x j hh
        rw [← ht']
        simp only [sp_at]
        repeat' split
        all_goals first | omega | rfl
      have sA : s' 29 (τ 182 1).toNat = a ∧ s' 30 (τ 182 1).toNat = b ∧ s' 31 (τ 182 1).toNat = w ∧ s' 27 2 = τ 182 1 + 1 := by
        rw [← hs']
        simp (disch := omega) only [sp_nq, sp_eq, sp_nj]
        exact ⟨trivial, trivial, trivial, trivial⟩
      have tA : t' 182 (67 + τ 182 1).toNat = w ∧ t' 182 1 = τ 182 1 + 1 := by
        rw [← ht']
        simp (disch := omega) only [sp_nq, sp_eq, sp_nj]
        exact ⟨trivial, trivial⟩
      clear hs' ht'
      have ek : ∀ k : Nat, k ≠ 1 → k ≠ (11 + 2 * τ 182 1).toNat → k ≠ (11 + 2 * τ 182 1 + 1).toNat → k ≠ (67 + τ 182 1).toNat → t' 182 k = τ 182 k := fun k k1 k2 k3 k4 => by rw [tg' _ _ (by omega), f5 _ _ (by omega), tg _ _ (by omega), f182]
      have Ea : t' 182 (11 + 2 * τ 182 1).toNat = a := by rw [tg' _ _ (by omega), f5 _ _ (by omega)]; exact ta
      have Eb : t' 182 (11 + 2 * τ 182 1 + 1).toNat = b := by rw [tg' _ _ (by omega), f5 _ _ (by omega)]; exact tb4
      have sgg : ∀ x j, x ≠ 2 → ¬ ((x = 27 ∧ j = 2) ∨ ((x = 29 ∨ x = 30 ∨ x = 31) ∧ j = (τ 182 1).toNat)) → s' x j = σ x j := fun x j hx hh => (sg x j hh).trans (e5 x j hx)
      refine lp_step hn (ag_tr w5 (fun x j hh => sg x j (by unfold wrC at hh; omega))) (ag_tr m5 (fun x j hh => tg' x j (by unfold mrC at hh; omega))) (tr_ag h5 (fun x j hh => sg x j (by omega)) (fun x j hh => tg' x j (by omega))) ?_ (by rw [sg 2 3 (by omega)]; have := tr_nx h5; have := tr_nx h4; omega)
      obtain ⟨i0, i1, i2, i3, i4⟩ := p1
      refine ⟨⟨by rw [ek 0 (by omega) (by omega) (by omega) (by omega)]; exact i0, by rw [tA.2]; omega, by rw [ek 2 (by omega) (by omega) (by omega) (by omega)]; exact i2, fun v v0 v1 => by rw [ek _ (by omega) (by omega) (by omega) (by omega)]; exact i3 v v0 v1, fun d i d0 d1 j0 j1 => ?_⟩, fun a b a0 a1 b0 b1 => ?_, ⟨?_, ?_, ?_, ?_, ?_, ?_⟩, ?_, fun w w0 w1 => ?_, fun d d0 d1 => ?_, fun w w0 w1 => ?_, fun k k0 k1 => ?_, ?_⟩
      · rw [tA.2] at d1
        by_cases e : d = τ 182 1
        · unfold pipA
          have hi : i = 0 ∨ i = 1 := by omega
          subst e
          rcases hi with rfl | rfl
          · rw [show (11 + 2 * τ 182 1 + 0 : Int) = 11 + 2 * τ 182 1 by omega, Ea]; exact a0
          · rw [Eb]; exact b0
        · have := i4 d i d0 (by omega) j0 j1
          unfold pipA at *
          rw [ek _ (by omega) (by omega) (by omega) (by omega)]; exact this
      · rw [ek _ (by omega) (by omega) (by omega) (by omega), ek _ (by omega) (by omega) (by omega) (by omega)]; exact p2 a b a0 a1 b0 b1
      · rw [sgg _ _ (by omega) (by omega), ek _ (by omega) (by omega) (by omega) (by omega)]; exact p3
      · rw [sA.2.2.2, tA.2]
      · rw [sgg _ _ (by omega) (by omega), ek _ (by omega) (by omega) (by omega) (by omega)]; exact p3b.1
      · rw [sgg _ _ (by omega) (by omega), p3b.2.1]
        unfold cntQ
        refine fo_cg _ _ _ rfl (fun v x v0 v1 => ?_)
        rw [ek _ (by omega) (by omega) (by omega) (by omega)]
      · rw [sgg _ _ (by omega) (by omega), ek _ (by omega) (by omega) (by omega) (by omega)]; exact p3b.2.2.1
      · rw [sgg _ _ (by omega) (by omega), tg' _ _ (by omega), h7 179 24 (by unfold mtkC; omega), tg _ _ (by omega), f24]; exact p3b.2.2.2
      · rw [sgg _ _ (by omega) (by omega)]; exact p4
      · rw [ek 0 (by omega) (by omega) (by omega) (by omega)] at w1
        rw [sgg _ _ (by omega) (by omega), tg' _ _ (by omega), f5 _ _ (by omega), tg _ _ (by omega), f2 _ _ (by omega)]; exact p5 w w0 w1
      · rw [tA.2] at d1
        by_cases e : d = τ 182 1
        · subst e
          unfold pipA ownA
          rw [sA.1, sA.2.1, sA.2.2.1, show (11 + 2 * τ 182 1 + 0 : Int) = 11 + 2 * τ 182 1 by omega, Ea, Eb, tA.1, ek 0 (by omega) (by omega) (by omega) (by omega)]
          exact ⟨rfl, rfl, rfl, g4.1, g4.2⟩
        · have := p6 d d0 (by omega)
          unfold pipA ownA at *
          rw [sgg _ _ (by omega) (by omega), sgg _ _ (by omega) (by omega), sgg _ _ (by omega) (by omega), ek _ (by omega) (by omega) (by omega) (by omega), ek _ (by omega) (by omega) (by omega) (by omega), ek _ (by omega) (by omega) (by omega) (by omega), ek 0 (by omega) (by omega) (by omega) (by omega)]
          exact this
      · rw [sgg _ _ (by omega) (by omega), ek _ (by omega) (by omega) (by omega) (by omega)]; exact p7 w w0 w1
      · rw [ek _ (by omega) (by omega) (by omega) (by omega)]; exact p8 k k0 k1
      · rw [sg _ _ (by omega), tg' _ _ (by omega), h6 2 12 (by unfold wtkC; omega), h7 179 10 (by unfold mtkC; omega), tg _ _ (by omega), ws 2 12 (by unfold wtkC2; omega), mt 179 10 (by unfold mtkC2; omega), h2 2 12 (by unfold wtkC; omega), h3 179 10 (by unfold mtkC; omega)]; exact p9
  · rw [if_neg g, if_pos (by omega)]
    exact lp_fail ag_refl ag_refl h (Or.inr hk)
end
