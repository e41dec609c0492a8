/-! LAYER 3za: the other LINES of an ISLAND -/
section
variable {σ τ : JSg} {n p : Nat} {c : JA} {size lim q : Int} {A : JA}
theorem e_stoneW {a b : Int} (hn : 1000000 < n) (h1 : 0 ≤ A 1 ∧ A 1 ≤ 28) (h2 : σ p 2 = A 1) (h3 : ∀ s : Int, 0 ≤ s → s < A 1 → σ (p + 2) s.toNat = pipA A s 0 ∧ σ (p + 3) s.toNat = pipA A s 1) : f_Isl_stoneWith n p a b σ = some (findA A a b) := by
  apply rt_eq
  unfold f_Isl_stoneWith findA
  refine rt_lt ?_
  refine rt_w1 (I := fun i => (0 ≤ i ∧ i ≤ A 1) ∧ fi (fndP A a b) (A 1) i = fi (fndP A a b) (A 1) 0) (μ := fun i => (A 1 - i).toNat) ?_ n 0 ⟨⟨by omega, by omega⟩, rfl⟩ (by omega)
  rintro i ⟨⟨i0, i1⟩, e⟩ rc hrc
  rw [h2]
  refine rt_ite (fun h => ?_) (fun h => ?_)
  · have l := h3 i i0 h
    rw [l.1, l.2]
    simp (disch := omega) only [wi, ck_p, lt_u, j0_s]
    rw [fi_s h] at e
    have hit : fndP A a b i = some i → Ret (some i) (fun z => z = (fi (fndP A a b) (A 1) 0).getD (-1)) := fun q => rt_some (by rw [← e, q]; rfl)
    have mis : fndP A a b i = none → Ret (rc (i + 1)) (fun z => z = (fi (fndP A a b) (A 1) 0).getD (-1)) := fun q => hrc (i + 1) ⟨⟨by omega, by omega⟩, by rw [← e, q]⟩ (by omega)
    unfold fndP at hit mis
    repeat' (refine rt_ite (fun _ => ?_) (fun _ => ?_))
    all_goals first
      | exact hit (if_pos (by omega))
      | exact mis (if_neg (by omega))
  · refine rt_some ?_
    rw [← e, fi_e (by omega)]
    rfl
theorem findA_in {a b : Int} (h : findA A a b ≠ -1) : 0 ≤ findA A a b ∧ findA A a b < A 1 := by
  unfold findA at *
  cases c : fi (fndP A a b) (A 1) 0 with
  | none => rw [c] at h; exact absurd rfl h
  | some z =>
    obtain ⟨m, m0, m1, m2⟩ := fi_some _ _ rfl c
    unfold fndP at m2
    split at m2
    · cases m2; exact ⟨m0, m1⟩
    · cases m2
def wtkC2 (a j : Nat) : Prop := a = 2 ∧ 3 ≤ j ∧ j ≠ 12 ∧ j ≠ 13
def wtkF (a j : Nat) : Prop := a = 2 ∧ 3 ≤ j
def mtkC2 (a j : Nat) : Prop := a = 179 ∧ 5 ≤ j ∧ j ≤ 13 ∧ j ≠ 10 ∧ j ≠ 11
def mtkF (a j : Nat) : Prop := a = 179 ∧ 5 ≤ j ∧ j ≤ 13
theorem w2_t {s t : JSg} (h : Agr wtkC2 σ s) (g : Agr wtkC s t) : Agr wtkC2 σ t := ag_tr h (ag_mono g (fun a j q => by unfold wtkC at q; unfold wtkC2; omega))
theorem w2_f {s t : JSg} (h : Agr wtkC2 σ s) (g : Agr ftC s t) : Agr wtkF σ t := ag_tr (ag_mono h (fun a j q => by unfold wtkC2 at q; unfold wtkF; omega)) (ag_mono g (fun a j q => by unfold ftC at q; unfold wtkF; omega))
theorem m2_t {s t : JSg} (h : Agr mtkC2 σ s) (g : Agr mtkC s t) : Agr mtkC2 σ t := ag_tr h (ag_mono g (fun a j q => by unfold mtkC at q; unfold mtkC2; omega))
theorem m2_f {s t : JSg} (h : Agr mtkC2 σ s) (g : Agr fmC s t) : Agr mtkF σ t := ag_tr (ag_mono h (fun a j q => by unfold mtkC2 at q; unfold mtkF; omega)) (ag_mono g (fun a j q => by unfold fmC at q; unfold mtkF; omega))
/-- two pips, the second one not gone over -/
theorem s_two {Z Y : Type} {K0 : JSg → Option Z} {J0 : JSg → Option Y} {K1 : JSg → Option Z} {K2 : Int → JSg → Option Y} {Q : Z → Y → Prop} (hn : 1000000 < n) (h : TR c size lim q σ τ)
    (hf : ∀ s t, Agr wtkF σ s → Agr mtkF τ t → FR s t → Sm (K0 s) (J0 t) Q)
    (hk : ∀ a b s t q', (0 ≤ a ∧ a ≤ 6) → (0 ≤ b ∧ b ≤ 6) → TR c size lim q' s t → s 2 10 = a → s 2 11 = b → t 179 13 = b → Agr wtkC2 σ s → Agr mtkC2 τ t → σ 2 3 ≤ q' → s 2 4 = 4 → Sm (K1 s) (K2 a t) Q) :
    Sm (bd2 (f_Tok_readTwoPips n σ) fun r2 s3 => if r2 = 0 then (K0 s3) else (K1 s3)) (bd2 (f_M_readNumber n 0 6 τ) fun r3 s4 => if r3 = 0 then (J0 s4) else (lt_ (s4 179 13) fun v5 => bd2 (f_M_isNumber 0 6 s4) fun r6 s7 => if r6 = 0 then (J0 s7) else (K2 v5 s7))) Q := by
  unfold f_Tok_readTwoPips f_M_readNumber
  obtain ⟨z, y, e1, e2, e3⟩ := s_num (m := 6) (by omega) h
  rw [e1, e2]
  rcases e3 with ⟨z1, z2, z3, z4, z5⟩ | ⟨z1, z2, z3, z4⟩
  · obtain ⟨z0, zs⟩ := z
    obtain ⟨y0, ys⟩ := y
    have z1 : z0 = -1 := z1
    have z2 : y0 = 0 := z2
    subst z1
    subst z2
    rw [b2_s, b2_s, lt_u, sp_eq, if_pos rfl, if_pos rfl, b2_s, b2_s, if_pos rfl, if_pos rfl]
    refine hf _ _ (ag_sp (w2_f ag_refl z4) (by unfold wtkF; omega)) (m2_f ag_refl z5) ⟨?_, ?_⟩
    · rw [sp_nj (by decide)]; exact z3.1
    · rw [sp_nj (by decide)]; exact z3.2
  · obtain ⟨a, zs⟩ := z
    have z2 : zs = σ := z2
    have z1 : 0 ≤ a ∧ a ≤ 6 := z1
    subst z2
    rw [z3, b2_s, b2_s, lt_u, sp_eq, if_neg (by omega), if_neg (by decide)]
    have h1 : TR c size lim q (sp zs 2 10 a) (sp τ 179 13 a) := tr_ag h (fun x j hh => by
      rw [sp_at]
      by_cases c : x = 2
      · rw [if_pos c, if_neg (by omega)]
      · rw [if_neg c]) (fun x j hh => by
      rw [sp_at]
      by_cases c : x = 179
      · rw [if_pos c, if_neg (by omega)]
      · rw [if_neg c])
    obtain ⟨s4, t4, f1, f2, g1, g2, g3⟩ := tr_step hn h1
    have w4 : Agr wtkC2 zs s4 := w2_t (ag_sp ag_refl (by unfold wtkC2; omega)) g2
    have m4 : Agr mtkC2 τ t4 := m2_t (ag_sp ag_refl (by unfold mtkC2; omega)) g3
    have s10 : s4 2 10 = a := (g2 2 10 (by unfold wtkC; omega)).trans sp_eq
    have t13 : t4 179 13 = a := (g3 179 13 (by unfold mtkC; omega)).trans sp_eq
    rw [f1, f2, b1_s, b1_s, b2_s, if_neg (by decide), t13, lt_u]
    rw [sp_nj (show (3 : Nat) ≠ 10 by decide)] at g1
    obtain ⟨z', y', e1', e2', e3'⟩ := s_num (m := 6) (by omega) g1
    rw [e1', e2']
    rcases e3' with ⟨u1, u2, u3, u4, u5⟩ | ⟨u1, u2, u3, u4⟩
    · obtain ⟨b, zs'⟩ := z'
      obtain ⟨y0, ys'⟩ := y'
      have u1 : b = -1 := u1
      have u2 : y0 = 0 := u2
      subst u1
      subst u2
      rw [b2_s, b2_s, lt_u, sp_eq, if_pos rfl, b2_s, if_pos rfl, if_pos rfl]
      refine hf _ _ (ag_sp (w2_f w4 u4) (by unfold wtkF; omega)) (m2_f m4 u5) ⟨?_, ?_⟩
      · rw [sp_nj (by decide)]; exact u3.1
      · rw [sp_nj (by decide)]; exact u3.2
    · obtain ⟨b, zs'⟩ := z'
      have u2 : zs' = s4 := u2
      have u1 : 0 ≤ b ∧ b ≤ 6 := u1
      subst u2
      rw [u3, b2_s, b2_s, lt_u, sp_eq, if_neg (by omega), b2_s, if_neg (by decide), if_neg (by decide)]
      refine hk a b _ _ (zs 2 3) z1 u1 (tr_ag g1 (fun x j hh => ?_) (fun x j hh => ?_)) ?_ sp_eq sp_eq (ag_sp w4 (by unfold wtkC2; omega)) (ag_sp m4 (by unfold mtkC2; omega)) (by omega) ?_
      · rw [sp_at]
        by_cases c : x = 2
        · rw [if_pos c, if_neg (by omega)]
        · rw [if_neg c]
      · rw [sp_at]
        by_cases c : x = 179
        · rw [if_pos c, if_neg (by omega)]
        · rw [if_neg c]
      · rw [sp_nj (by decide)]; exact s10
      · rw [sp_nj (by decide)]; exact u4
/-- a WIDOW's name -/
theorem s_who {k : Nat} {N : Int} (hn : 1000000 < n) (h : TR c size lim q σ τ) (hN : 0 ≤ N ∧ N ≤ 6) (h1 : σ p 1 = N) (hnm : ∀ w : Int, 0 ≤ w → w < N → nmR (σ (p + 1) w.toNat) (τ k w.toNat)) :
    (∃ s t, f_Isl_widowHere n p σ = some (-1, s) ∧ f_M_isName n τ = some 0 ∧ f_M_bad 1 τ = some (0, t) ∧ FR s t ∧ Agr ftC σ s ∧ Agr fmC τ t)
    ∨ (∃ s t, f_Isl_widowHere n p σ = some (-1, s) ∧ f_M_isName n τ = some 1 ∧ f_M_findIn n k 6 N (τ 179 12) τ = some (-1) ∧ f_M_bad 3 τ = some (0, t) ∧ FR s t ∧ Agr ftC σ s ∧ Agr fmC τ t)
    ∨ (∃ w, f_Isl_widowHere n p σ = some (w, σ) ∧ f_M_isName n τ = some 1 ∧ f_M_findIn n k 6 N (τ 179 12) τ = some w ∧ (0 ≤ w ∧ w < N) ∧ σ 2 4 = 3) := by
  have nm := tr_name hn h
  by_cases g : σ 2 4 = 3 ∧ σ 2 6 = 0
  · rw [decide_eq_true g] at nm
    have kd : nmR (σ 2 7) (τ 179 12) ∧ τ 179 7 = 2 := by
      rcases tr_kd h with ⟨h1, h2, h3⟩ | ⟨h1, h2, h3⟩ | ⟨h1, h2, h3, h4⟩ | ⟨h1, h2, h3, h4⟩ | ⟨h1, h2, h3, h4⟩
      · omega
      · omega
      · exact ⟨h3, h2⟩
      · omega
      · omega
    obtain ⟨r, r1, r2, r3⟩ := s_find hn hN h1 kd.1 hnm
    by_cases g2 : r = -1
    · subst g2
      obtain ⟨s, t, f1, f2, f3, f4, f5⟩ := tr_fail h (k := 3) (Or.inr (by omega))
      refine Or.inr (Or.inl ⟨s, t, ?_, nm.2, r2, f2, f3, f4, f5⟩)
      unfold f_Isl_widowHere
      rw [nm.1, b1_s, if_neg bn0, r1, b1_s, lt_u, if_pos rfl, f1, b2_s]
    · refine Or.inr (Or.inr ⟨r, ?_, nm.2, r2, by omega, g.1⟩)
      unfold f_Isl_widowHere
      rw [nm.1, b1_s, if_neg bn0, r1, b1_s, lt_u, if_neg g2]
  · rw [decide_eq_false g] at nm
    obtain ⟨s, t, f1, f2, f3, f4, f5⟩ := tr_fail h (k := 1) (Or.inl rfl)
    refine Or.inl ⟨s, t, ?_, nm.2, f2, f3, f4, f5⟩
    unfold f_Isl_widowHere
    rw [nm.1, b1_s, if_pos by0, f1, b2_s]
theorem wr_2 {s : JSg} (h : Agr wtkC2 σ s) : Agr wrC σ s := ag_mono h (fun a j q => by unfold wtkC2 at q; unfold wrC; omega)
theorem mr_2 {s : JSg} (h : Agr mtkC2 σ s) : Agr mrC σ s := ag_mono h (fun a j q => by unfold mtkC2 at q; unfold mrC; omega)
theorem wr_2F {s : JSg} (h : Agr wtkF σ s) : Agr wrC σ s := ag_mono h (fun a j q => by unfold wtkF at q; unfold wrC; omega)
theorem mr_2F {s : JSg} (h : Agr mtkF σ s) : Agr mrC σ s := ag_mono h (fun a j q => by unfold mtkF at q; unfold mrC; omega)
theorem s_readForgive (hn : 1000000 < n) (h : TR c size lim q σ τ) (hP : IslP σ τ) : Sm (f_Isl_readForgive n 27 σ) (f_M_readForgive n τ) (LnP c size lim σ τ (σ 2 3)) := by
  unfold f_Isl_readForgive f_M_readForgive
  refine sm_b11 (tr_step hn h) (fun s t hs => ?_)
  obtain ⟨h1, h2, h3⟩ := hs
  have w1 := wr_t (σ := σ) ag_refl h2
  have m1 := mr_t (σ := τ) ag_refl h3
  have nx1 := tr_nx h1
  have sP : IslP s t := IslP_ag hP (fun a j q => h2 a j (by unfold wtkC; omega)) (fun a j q => h3 a j (by unfold mtkC; omega))
  obtain ⟨z, y, e1, e2, e3⟩ := s_num (m := 6) (by omega) h1
  rw [e1, e2]
  rcases e3 with ⟨z1, z2, z3, z4, z5⟩ | ⟨z1, z2, z3, z4⟩
  · obtain ⟨z0, zs⟩ := z
    obtain ⟨y0, ys⟩ := y
    have z1 : z0 = -1 := z1
    have z2 : y0 = 0 := z2
    rw [b2_s, b2_s, lt_u, if_pos z1, if_pos z2]
    exact sm_some ⟨wr_f w1 z4, mr_f m1 z5, Or.inl ⟨rfl, rfl, z3⟩⟩
  · obtain ⟨a, zs⟩ := z
    have z2 : zs = s := z2
    have z1 : 0 ≤ a ∧ a ≤ 6 := z1
    subst z2
    rw [z3, b2_s, b2_s, lt_u, if_neg (by omega), if_neg (by decide)]
    obtain ⟨p1, p2, ⟨p3, p3a, p3b, p3c⟩, p4, p5, p6, p7, p8, p9⟩ := sP
    unfold f_Isl_isForgiven
    rw [sp_eq, sp_nq (show (182 : Nat) ≠ 179 by decide), p3b, e_M_has (by omega) (by omega), b1_s, has_e (by omega) (by omega)]
    have h1' : TR c size lim (σ 2 3) zs (sp t 179 13 a) := tr_ag h1 (fun _ _ _ => rfl) (fun x j hh => by
      rw [sp_at]
      by_cases c : x = 179
      · rw [if_pos c, if_neg (by omega)]
      · rw [if_neg c])
    have m1' : Agr mrC τ (sp t 179 13 a) := ag_sp m1 (by unfold mrC; omega)
    cases g : bt (t 182 2) a.toNat
    · dsimp only
      rw [if_pos (show (if false = true then (1:Int) else 0) = 0 from rfl), b1_s, if_pos rfl, if_pos by0, lt_u, lt_u]
      refine lp_step hn (ag_sp w1 (by unfold wrC; omega)) (ag_sp m1' (by unfold mrC; omega)) (tr_ag h1' (fun x j hh => by rw [sp_nq (by omega)]) (fun x j hh => by rw [sp_nq (by omega)])) ?_ (by rw [sp_nq (by decide)]; exact nx1.2.1)
      generalize hx : or32 (t 182 2) (sl32 1 a) = x
      have xb := or_bd (x := t 182 2) p1.2.2.1 z1
      rw [hx] at xb
      have ek : ∀ k : Nat, k ≠ 2 → sp (sp t 179 13 a) 182 2 x 182 k = t 182 k := fun k hk => by rw [sp_nj hk, sp_nq (by decide)]
      have e2 : sp (sp t 179 13 a) 182 2 x 182 2 = x := sp_eq
      have e186 : sp (sp t 179 13 a) 182 2 x 186 = t 186 := by rw [sp_nq (by decide), sp_nq (by decide)]
      have e24 : sp (sp t 179 13 a) 182 2 x 179 24 = t 179 24 := by rw [sp_nq (by decide), sp_nj (by decide)]
      have e10 : sp (sp t 179 13 a) 182 2 x 179 10 = t 179 10 := by rw [sp_nq (by decide), sp_nj (by decide)]
      generalize sp (sp t 179 13 a) 182 2 x = t' at *
      obtain ⟨i0, i1, i2, i3, i4⟩ := p1
      refine ⟨⟨by rw [ek 0 (by omega)]; exact i0, by rw [ek 1 (by omega)]; exact i1, by rw [e2]; exact xb, fun v v0 v1 => by rw [ek _ (by omega)]; exact i3 v v0 v1, fun d i d0 d1 j0 j1 => ?_⟩, fun a b a0 a1 b0 b1 => ?_, ⟨?_, ?_, ?_, ?_, ?_, ?_⟩, ?_, fun w w0 w1 => ?_, fun d d0 d1 => ?_, fun w w0 w1 => ?_, fun k k0 k1 => ?_, ?_⟩
      · rw [ek 1 (by omega)] at d1
        have := i4 d i d0 d1 j0 j1
        unfold pipA at *
        rw [ek _ (by omega)]; exact this
      · rw [ek _ (by omega), ek _ (by omega)]; exact p2 a b a0 a1 b0 b1
      · rw [sp_nj (by decide), ek _ (by omega)]; exact p3
      · rw [sp_nj (by decide), ek _ (by omega)]; exact p3a
      · rw [sp_eq, e2]
      · rw [sp_nj (by decide), p3c.1]
        unfold cntQ
        refine fo_cg _ _ _ rfl (fun v x v0 v1 => ?_)
        rw [ek _ (by omega)]
      · rw [sp_nj (by decide), ek _ (by omega)]; exact p3c.2.1
      · rw [sp_nj (by decide), e24]; exact p3c.2.2
      · rw [sp_nj (by decide)]; exact p4
      · rw [ek 0 (by omega)] at w1
        rw [sp_nq (by decide), e186]; exact p5 w w0 w1
      · rw [ek 1 (by omega)] at d1
        have := p6 d d0 d1
        unfold pipA ownA at *
        rw [sp_nq (by decide), sp_nq (by decide), sp_nq (by decide), ek _ (by omega), ek _ (by omega), ek _ (by omega), ek 0 (by omega)]
        exact this
      · rw [sp_nq (by decide), ek _ (by omega)]; exact p7 w w0 w1
      · rw [ek _ (by omega)]; exact p8 k k0 k1
      · rw [sp_nq (by decide), e10]; exact p9
    · rw [if_pos rfl, if_neg (by decide), b1_s, if_neg (by decide), if_neg bn0]
      exact lp_fail w1 m1' h1' (Or.inr (by
        rw [sp_nj (by decide)]
        rcases tr_kd h1 with ⟨h1, h2, h3⟩ | ⟨h1, h2, h3⟩ | ⟨h1, h2, h3, h4⟩ | ⟨h1, h2, h3, h4⟩ | ⟨h1, h2, h3, h4⟩ <;> omega))
theorem s_readPawn (hn : 1000000 < n) (h : TR c size lim q σ τ) (hP : IslP σ τ) (hk : τ 179 7 ≠ 1) : Sm (f_Isl_readPawn n 27 σ) (f_M_readPawn n τ) (LnP c size lim σ τ (σ 2 3)) := by
  obtain ⟨p1, p2, ⟨p3, p3a, p3b, p3c, p3d, p3e⟩, p4, p5, p6, p7, p8, p9⟩ := id hP
  unfold f_Isl_readPawn f_M_readPawn
  rw [p3e]
  by_cases g : τ 179 24 = 0
  · rw [if_pos g, if_pos g, lt_u]
    have h0 : TR c size lim q σ (sp τ 179 24 1) := tr_ag h (fun _ _ _ => rfl) (fun x j hh => by
      rw [sp_at]
      by_cases c : x = 179
      · rw [if_pos c, if_neg (by omega)]
      · rw [if_neg c])
    refine sm_b11 (tr_step hn h0) (fun s t hs => ?_)
    obtain ⟨h1, h2, h3⟩ := hs
    have w1 := wr_t (σ := σ) ag_refl h2
    have m1 := mr_t (σ := τ) (ag_sp ag_refl (by unfold mrC; omega)) h3
    have nx1 := tr_nx h1
    unfold f_M_readNumber
    obtain ⟨z, y, e1, e2, e3⟩ := s_num (m := 99) (by omega) h1
    rw [e1, e2]
    rcases e3 with ⟨z1, z2, z3, z4, z5⟩ | ⟨z1, z2, z3, z4⟩
    · obtain ⟨z0, zs⟩ := z
      obtain ⟨y0, ys⟩ := y
      have z1 : z0 = -1 := z1
      have z2 : y0 = 0 := z2
      rw [b2_s, b2_s, lt_u, if_pos z1, if_pos z2, b2_s, if_pos rfl]
      exact sm_some ⟨wr_f w1 z4, mr_f m1 z5, Or.inl ⟨rfl, rfl, z3⟩⟩
    · obtain ⟨a, zs⟩ := z
      have z2 : zs = s := z2
      have z1 : 0 ≤ a ∧ a ≤ 99 := z1
      subst z2
      rw [z3, b2_s, b2_s, lt_u, if_neg (by omega), if_neg (by decide), lt_u, lt_u]
      generalize hs' : sp (sp zs 27 5 a) 27 6 1 = s'
      have sg : ∀ x j, ¬ (x = 27 ∧ (j = 5 ∨ j = 6)) → s' x j = zs x j := by
        intro x j hh
        rw [← hs', sp_at, sp_at]
        by_cases c : x = 27
        · rw [if_pos c, if_neg (by omega), if_pos c, if_neg (by omega)]
        · rw [if_neg c, if_neg c]
      have s5 : s' 27 5 = a := by rw [← hs', sp_nj (by decide), sp_eq]
      have s6 : s' 27 6 = 1 := by rw [← hs', sp_eq]
      have h1' : TR c size lim (σ 2 3) s' (sp t 179 13 a) := tr_ag h1 (fun x j hh => sg x j (by omega)) (fun x j hh => by
        rw [sp_at]
        by_cases c : x = 179
        · rw [if_pos c, if_neg (by omega)]
        · rw [if_neg c])
      obtain ⟨s'', t'', f1, f2, h4, h5, h6⟩ := tr_step hn h1'
      rw [f1, f2, b1_s, b1_s, b2_s, if_neg (by decide), lt_u]
      have t13 : t'' 179 13 = a := (h6 179 13 (by unfold mtkC; omega)).trans sp_eq
      have t24 : t'' 179 24 = 1 := ((h6 179 24 (by unfold mtkC; omega)).trans (sp_nj (by decide))).trans ((h3 179 24 (by unfold mtkC; omega)).trans sp_eq)
      rw [t13]
      have w3 : Agr wrC σ s'' := wr_t (ag_tr w1 (fun x j hh => sg x j (by unfold wrC at hh; omega))) h5
      have m3 : Agr mrC τ (sp t'' 182 3 a) := ag_sp (mr_t (ag_sp m1 (by unfold mrC; omega)) h6) (by unfold mrC; omega)
      have tk : ∀ x j, x ≠ 179 → t'' x j = τ x j := fun x j hx => ((h6 x j (by unfold mtkC; omega)).trans (by rw [sp_nq hx])).trans ((h3 x j (by unfold mtkC; omega)).trans (by rw [sp_nq hx]))
      have sk : ∀ x j, ¬ (x = 2 ∨ (x = 27 ∧ (j = 5 ∨ j = 6))) → s'' x j = σ x j := fun x j hx => ((h5 x j (by unfold wtkC; omega)).trans (sg x j (by omega))).trans (h2 x j (by unfold wtkC; omega))
      refine sm_some ⟨w3, m3, Or.inr ⟨rfl, rfl, ?_, s' 2 3, tr_ag h4 (fun _ _ _ => rfl) (fun x j hh => by show sp t'' 182 3 a x j = _; rw [sp_nq (by omega)]), by rw [sg 2 3 (by omega)]; exact nx1.2.1⟩⟩
      show IslP s'' (sp t'' 182 3 a)
      have ek : ∀ k : Nat, k ≠ 3 → sp t'' 182 3 a 182 k = τ 182 k := fun k hk => by rw [sp_nj hk]; exact tk 182 k (by decide)
      have e3 : sp t'' 182 3 a 182 3 = a := sp_eq
      have e186 : sp t'' 182 3 a 186 = τ 186 := by rw [sp_nq (by decide)]; exact funext fun j => tk 186 j (by decide)
      have e24 : sp t'' 182 3 a 179 24 = 1 := by rw [sp_nq (by decide)]; exact t24
      have e10 : sp t'' 182 3 a 179 10 = τ 179 10 := by rw [sp_nq (by decide)]; exact ((h6 179 10 (by unfold mtkC; omega)).trans (sp_nj (by decide))).trans ((h3 179 10 (by unfold mtkC; omega)).trans (sp_nj (by decide)))
      generalize sp t'' 182 3 a = t' at *
      refine ⟨WfI_cg (fun k _ hk => ek k hk) p1, fun a b a0 a1 b0 b1 => ?_, ⟨?_, ?_, ?_, ?_, ?_, ?_⟩, ?_, fun w w0 w1 => ?_, fun d d0 d1 => ?_, fun w w0 w1 => ?_, fun k k0 k1 => ?_, ?_⟩
      · rw [ek _ (by omega), ek _ (by omega)]; exact p2 a b a0 a1 b0 b1
      · rw [sk _ _ (by omega), ek _ (by omega)]; exact p3
      · rw [sk _ _ (by omega), ek _ (by omega)]; exact p3a
      · rw [sk _ _ (by omega), ek _ (by omega)]; exact p3b
      · rw [sk _ _ (by omega), cntQ_cg (fun k _ hk => ek k hk)]; exact p3c
      · rw [h5 _ _ (by unfold wtkC; omega), s5, e3]
      · rw [h5 _ _ (by unfold wtkC; omega), s6, e24]
      · rw [h5 _ _ (by unfold wtkC; omega), s6]; omega
      · rw [ek 0 (by omega)] at w1
        rw [sk _ _ (by omega), e186]; exact p5 w w0 w1
      · rw [ek 1 (by omega)] at d1
        have := p6 d d0 d1
        have b1 := p1.2.1
        unfold pipA ownA at *
        rw [sk _ _ (by omega), sk _ _ (by omega), sk _ _ (by omega), ek _ (by omega), ek _ (by omega), ek _ (by omega), ek 0 (by omega)]
        exact this
      · rw [sk _ _ (by omega), ek _ (by omega)]; exact p7 w w0 w1
      · rw [ek _ (by omega)]; exact p8 k k0 k1
      · rw [h5 _ _ (by unfold wtkC; omega), sg _ _ (by omega), h2 _ _ (by unfold wtkC; omega), e10]; exact p9
  · rw [if_neg g, if_neg g]
    exact lp_fail ag_refl ag_refl h (Or.inr hk)
end
