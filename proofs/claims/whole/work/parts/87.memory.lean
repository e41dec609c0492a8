/-! LAYER 3zl: the other LINES of a MEMORY -/
section
variable {σ τ : JSg} {n p : Nat} {c : JA} {size lim q : Int}
theorem n10 : ¬ (1 : Int) = 0 := by decide
theorem s_readDeal (hn : 1000000 < n) (h : TR c size lim q σ τ) (hB : BkP σ τ) (hP : MemP σ τ) : Sm (f_Mem_readDeal n 41 4 σ) (f_M_readDeal n τ) (LmP c size lim σ τ (σ 2 3)) := by
  have nx0 := tr_nx h
  unfold f_Mem_readDeal f_M_readDeal
  refine sm_b11 (tr_step hn h) (fun s t hs => ?_)
  obtain ⟨h1, h2, h3⟩ := hs
  have w1 := wm_t (σ := σ) ag_refl h2
  have m1 := mm_t (σ := τ) ag_refl h3
  have nx1 := tr_nx h1
  have hB1 : BkP s t := BkP_ag hB (fun a j q => h2 a j (by unfold wtkC; omega)) (fun a j q => h3 a j (by unfold mtkC; omega))
  have hP1 : MemP s t := MemP_ag hP (fun a j q => h2 a j (by unfold wtkC; omega)) (fun a j q => h3 a j (by unfold mtkC; omega))
  obtain ⟨k1, k2, k3⟩ := id hB1
  obtain ⟨a1, a2, a3, a4, a5⟩ := id hP1
  have b0 := k1.1
  rcases s_who (p := 4) (k := 185) (N := t 181 0) hn h1 b0 k2.1 (fun w w0 w1 => k3 w w0 w1) with ⟨s6, t6, g1, g2, g3, g4, g5, g6⟩ | ⟨s6, t6, g1, g2, g3, g4, g5, g6, g7⟩ | ⟨w, g1, g2, g3, g4, g5⟩
  · rw [g1, g2, b2_s, b1_s, lt_u, if_pos rfl, if_pos rfl, g3, b2_s, ck_p (Or.inl rfl)]
    exact sm_some ⟨wm_f w1 g5, mm_f m1 g6, Or.inl ⟨rfl, rfl, g4⟩⟩
  · rw [g1, g2, b2_s, b1_s, lt_u, if_pos rfl, if_neg n10, wdM, b1_s, g3, b1_s, lt_u, j0_s, if_pos rfl, g4, b2_s, ck_p (Or.inl rfl)]
    exact sm_some ⟨wm_f w1 g6, mm_f m1 g7, Or.inl ⟨rfl, rfl, g5⟩⟩
  · rw [g1, g2, b2_s, b1_s, lt_u, if_neg (show ¬ w = -1 by omega), if_neg n10, wdM, b1_s, g3, b1_s, lt_u, j0_s, if_neg (show ¬ w = -1 by omega), a1.1, e_M_has (by omega) (by omega), b1_s, has_e (by omega) (by omega)]
    have ne1 : t 179 7 ≠ 1 := by
      rcases tr_kd h1 with ⟨h1, h2, h3⟩ | ⟨h1, h2, h3⟩ | ⟨h1, h2, h3, h4⟩ | ⟨h1, h2, h3, h4⟩ | ⟨h1, h2, h3, h4⟩ <;> omega
    refine sm_ite Iff.rfl (fun _ _ => ?_) (fun _ _ => lm_fail w1 m1 h1 (Or.inr ne1))
    have xb := or_bd (x := t 179 41) (k := w) a1.2 (by omega)
    simp only [lt_u]
    have hx : s 41 1 = t 179 41 := a1.1
    generalize hxx : or32 (t 179 41) (sl32 1 w) = x at *
    have h1' : TR c size lim (σ 2 3) s (sp t 179 41 x) := tr_ag h1 (fun _ _ _ => rfl) (fun a j hh => by
      rw [sp_at]
      by_cases c : a = 179
      · rw [if_pos c, if_neg (by omega)]
      · rw [if_neg c])
    refine sm_b11 (tr_step hn h1') (fun s5 t5 hs5 => ?_)
    obtain ⟨h5, h6, h7⟩ := hs5
    have w5 := wm_t w1 h6
    have m5 : Agr mrM τ t5 := mm_t (ag_sp m1 (by unfold mrM; omega)) h7
    have nx5 := tr_nx h5
    unfold f_M_readNumber
    obtain ⟨z, y, e1, e2, e3⟩ := s_num (m := 7) (by omega) h5
    rw [e1, e2]
    rcases e3 with ⟨z1, z2, z3, z4, z5⟩ | ⟨z1, z2, z3, z4⟩
    · obtain ⟨z0, zs⟩ := z
      obtain ⟨y0, ys⟩ := y
      have z1 : z0 = -1 := z1
      have z2 : y0 = 0 := z2
      rw [b2_s, b2_s, if_pos z1, if_pos z2, b2_s, if_pos rfl]
      exact sm_some ⟨wm_f w5 z4, mm_f m5 z5, Or.inl ⟨rfl, rfl, z3⟩⟩
    · obtain ⟨b, zs⟩ := z
      have z2 : zs = s5 := z2
      have z1 : 0 ≤ b ∧ b ≤ 7 := z1
      subst z2
      have z41 : zs 41 1 = t 179 41 := (h6 41 1 (by unfold wtkC; omega)).trans hx
      rw [z3, b2_s, b2_s, if_neg (by omega), if_neg n10, ck_p (by omega), z41, hxx]
      generalize hs' : sp (sp zs 41 1 x) (41 + 1) w.toNat b = s'
      have sg : ∀ a j, ¬ ((a = 41 ∧ j = 1) ∨ (a = 42 ∧ j = w.toNat)) → s' a j = zs a j := by
        intro a j hh
        rw [← hs']
        simp only [sp_at]
        repeat' split
        all_goals first | omega | rfl
      have s1 : s' 41 1 = x := by rw [← hs', sp_nq (by decide), sp_eq]
      have s42 : s' 42 w.toNat = b := by rw [← hs', sp_eq]
      clear hs'
      have h5' : TR c size lim (s 2 3) s' (sp t5 179 13 b) := tr_ag h5 (fun a j hh => sg a j (by omega)) (fun a j hh => by
        rw [sp_at]
        by_cases c : a = 179
        · rw [if_pos c, if_neg (by omega)]
        · rw [if_neg c])
      obtain ⟨s8, t8, f1, f2, h8, h9, h10⟩ := tr_step hn h5'
      rw [f1, f2, b1_s, b1_s, b2_s, if_neg n10]
      have t13 : t8 179 13 = b := (h10 179 13 (by unfold mtkC; omega)).trans sp_eq
      have w8 : Agr wrM σ s8 := wm_t (ag_tr w5 (fun a j hh => sg a j (by unfold wrM at hh; omega))) h9
      have m8 : Agr mrM τ t8 := mm_t (ag_sp m5 (by unfold mrM; omega)) h10
      have sk : ∀ a j, ¬ (a = 2 ∨ (a = 41 ∧ j = 1) ∨ (a = 42 ∧ j = w.toNat)) → s8 a j = s a j := fun a j hh => ((h9 a j (by unfold wtkC; omega)).trans (sg a j (by omega))).trans (h6 a j (by unfold wtkC; omega))
      have tk : ∀ a j, a ≠ 179 → t8 a j = t a j := fun a j hh => ((h10 a j (by unfold mtkC; omega)).trans (by rw [sp_nq hh])).trans ((h7 a j (by unfold mtkC; omega)).trans (by rw [sp_nq hh]))
      have t41 : t8 179 41 = x := ((h10 179 41 (by unfold mtkC; omega)).trans (sp_nj (by decide))).trans ((h7 179 41 (by unfold mtkC; omega)).trans sp_eq)
      have t10 : t8 179 10 = t 179 10 := ((h10 179 10 (by unfold mtkC; omega)).trans (sp_nj (by decide))).trans ((h7 179 10 (by unfold mtkC; omega)).trans (sp_nj (by decide)))
      have s12 : s8 2 12 = s 2 12 := ((h9 2 12 (by unfold wtkC; omega)).trans (sg 2 12 (by omega))).trans (h6 2 12 (by unfold wtkC; omega))
      rw [wi (by omega) (by omega), ck_p (by omega), t13]
      have hP8 : MemP s8 (sp t8 197 (2 + w).toNat b) := by
        refine ⟨?_, ?_, fun e e0 => ?_, fun v v0 v1 => ?_, ?_⟩
        · rw [sp_nq (by decide), t41, h9 41 1 (by unfold wtkC; omega), s1]
          exact ⟨rfl, xb⟩
        · rw [sp_nj (by omega), tk _ _ (by decide), sk _ _ (by omega)]; exact a2
        · rw [sp_nq (by decide), tk _ _ (by decide)] at e0
          rw [sp_nj (by omega), tk _ _ (by decide)]; exact a3 e e0
        · rw [sp_nj (show (8 + v).toNat ≠ (2 + w).toNat by omega), tk 197 (8 + v).toNat (by decide), sk 43 _ (by omega)]
          refine ⟨?_, (a4 v v0 v1).2⟩
          by_cases e : v = w
          · subst e
            rw [sp_eq, h9 42 _ (by unfold wtkC; omega), s42]; exact ⟨rfl, z1⟩
          · rw [sp_nj (by omega), tk _ _ (by decide), sk 42 _ (by omega)]; exact (a4 v v0 v1).1
        · rw [sp_nq (by decide), t10, s12]; exact a5
      exact sm_some ⟨w8, ag_sp m8 (by unfold mrM; omega), Or.inr ⟨rfl, rfl, hP8, s' 2 3, tr_ag h8 (fun _ _ _ => rfl) (fun a j hh => by dsimp only; rw [sp_nq (by omega)]), by show σ 2 3 ≤ s' 2 3; rw [sg 2 3 (by omega)]; omega⟩⟩
theorem s_readPassed (hn : 1000000 < n) (h : TR c size lim q σ τ) (hB : BkP σ τ) (hP : MemP σ τ) : Sm (f_Mem_readPassed n 41 4 σ) (f_M_readPassed n τ) (LmP c size lim σ τ (σ 2 3)) := by
  have nx0 := tr_nx h
  unfold f_Mem_readPassed f_M_readPassed
  refine sm_b11 (tr_step hn h) (fun s t hs => ?_)
  obtain ⟨h1, h2, h3⟩ := hs
  have w1 := wm_t (σ := σ) ag_refl h2
  have m1 := mm_t (σ := τ) ag_refl h3
  have nx1 := tr_nx h1
  have hB1 : BkP s t := BkP_ag hB (fun a j q => h2 a j (by unfold wtkC; omega)) (fun a j q => h3 a j (by unfold mtkC; omega))
  have hP1 : MemP s t := MemP_ag hP (fun a j q => h2 a j (by unfold wtkC; omega)) (fun a j q => h3 a j (by unfold mtkC; omega))
  obtain ⟨k1, k2, k3⟩ := id hB1
  have b0 := k1.1
  rcases s_who (p := 4) (k := 185) (N := t 181 0) hn h1 b0 k2.1 (fun w w0 w1 => k3 w w0 w1) with ⟨s6, t6, g1, g2, g3, g4, g5, g6⟩ | ⟨s6, t6, g1, g2, g3, g4, g5, g6, g7⟩ | ⟨w, g1, g2, g3, g4, g5⟩
  · rw [g1, g2, b2_s, b1_s, lt_u, if_pos rfl, if_pos rfl, g3, b2_s, ck_p (Or.inl rfl)]
    exact sm_some ⟨wm_f w1 g5, mm_f m1 g6, Or.inl ⟨rfl, rfl, g4⟩⟩
  · rw [g1, g2, b2_s, b1_s, lt_u, if_pos rfl, if_neg n10, wdM, b1_s, g3, b1_s, lt_u, if_pos rfl, g4, b2_s, ck_p (Or.inl rfl)]
    exact sm_some ⟨wm_f w1 g6, mm_f m1 g7, Or.inl ⟨rfl, rfl, g5⟩⟩
  · rw [g1, g2, b2_s, b1_s, lt_u, if_neg (show ¬ w = -1 by omega), if_neg n10, wdM, b1_s, g3, b1_s, lt_u, if_neg (show ¬ w = -1 by omega)]
    refine sm_b11 (tr_step hn h1) (fun s5 t5 hs5 => ?_)
    obtain ⟨h5, h6, h7⟩ := hs5
    have w5 := wm_t w1 h6
    have m5 : Agr mrM τ t5 := mm_t m1 h7
    have nx5 := tr_nx h5
    have hP5 : MemP s5 t5 := MemP_ag hP1 (fun a j q => h6 a j (by unfold wtkC; omega)) (fun a j q => h7 a j (by unfold mtkC; omega))
    obtain ⟨z, y, e1, e2, e3⟩ := s_num (m := 6) (by omega) h5
    rw [e1, e2]
    rcases e3 with ⟨z1, z2, z3, z4, z5⟩ | ⟨z1, z2, z3, z4⟩
    · obtain ⟨z0, zs⟩ := z
      obtain ⟨y0, ys⟩ := y
      have z1 : z0 = -1 := z1
      have z2 : y0 = 0 := z2
      rw [b2_s, b2_s, lt_u, if_pos z1, if_pos z2]
      exact sm_some ⟨wm_f w5 z4, mm_f m5 z5, Or.inl ⟨rfl, rfl, z3⟩⟩
    · obtain ⟨b, zs⟩ := z
      have z2 : zs = s5 := z2
      have z1 : 0 ≤ b ∧ b ≤ 6 := z1
      subst z2
      have h5' : TR c size lim (s 2 3) zs (sp t5 179 13 b) := tr_ag h5 (fun _ _ _ => rfl) (fun a j hh => by
        rw [sp_at]
        by_cases c : a = 179
        · rw [if_pos c, if_neg (by omega)]
        · rw [if_neg c])
      have hP6 : MemP zs (sp t5 179 13 b) := MemP_ag hP5 (fun _ _ _ => rfl) (fun a j hh => by
        rw [sp_at]
        by_cases c : a = 179
        · rw [if_pos c, if_neg (by omega)]
        · rw [if_neg c])
      have m6 : Agr mrM τ (sp t5 179 13 b) := ag_sp m5 (by unfold mrM; omega)
      have t13 : sp t5 179 13 b 179 13 = b := sp_eq
      rw [z3, b2_s, b2_s, lt_u, if_neg (show ¬ b = -1 by omega), if_neg n10]
      generalize sp t5 179 13 b = u at *
      have ne1 : u 179 7 ≠ 1 := by
        rcases tr_kd h5' with ⟨h1, h2, h3⟩ | ⟨h1, h2, h3⟩ | ⟨h1, h2, h3, h4⟩ | ⟨h1, h2, h3, h4⟩ | ⟨h1, h2, h3, h4⟩ <;> omega
      obtain ⟨a1, a2, a3, a4, a5⟩ := id hP6
      have aw := (a4 w g4.1 (by omega)).2
      have e43 : zs (41 + 2) w.toNat = u 197 (8 + w).toNat := aw.1
      simp (disch := omega) only [wi, ck_p, t13, e43, lt_u]
      rw [e_M_has (by omega) (by omega), b1_s, has_e (by omega) (by omega)]
      refine sm_ite Iff.rfl (fun _ _ => ?_) (fun _ _ => lm_fail w5 m6 h5' (Or.inr ne1))
      have xb := or_bd (x := u 197 (8 + w).toNat) (k := b) aw.2 z1
      generalize or32 (u 197 (8 + w).toNat) (sl32 1 b) = x at *
      refine lm_step hn (ag_sp w5 (by unfold wrM; omega)) (ag_sp m6 (by unfold mrM; omega)) (tr_ag h5' (fun a j hh => by rw [sp_nq (by omega)]) (fun a j hh => by rw [sp_nq (by omega)])) ⟨?_, ?_, fun e e0 => ?_, fun v v0 v1 => ?_, ?_⟩ (by rw [sp_nq (by decide)]; omega)
      · rw [sp_nq (by decide), sp_nq (by decide)]; exact a1
      · rw [sp_nq (by decide), sp_nj (by omega)]; exact a2
      · rw [sp_nq (by decide)] at e0
        rw [sp_nj (by omega)]; exact a3 e e0
      · rw [sp_nq (show (42 : Nat) ≠ 41 + 2 by decide), sp_nj (show (2 + v).toNat ≠ (8 + w).toNat by omega)]
        refine ⟨(a4 v v0 v1).1, ?_⟩
        by_cases e : v = w
        · subst e
          rw [sp_eq, sp_eq]; exact ⟨rfl, xb⟩
        · rw [sp_nj (by omega), sp_nj (by omega)]; exact (a4 v v0 v1).2
      · rw [sp_nq (by decide), sp_nq (by decide)]; exact a5
theorem sw_o3 {Z : Type} {x : Int} {a b c f : Option Z} (h : x < 6 ∨ 8 < x) : sw_ x 6 [a, b, c] f = f := by
  unfold sw_
  by_cases g : x < 6
  · rw [if_pos g]
  · rw [if_neg g, List.getElem?_eq_none (by simp only [List.length_cons, List.length_nil]; omega)]
    rfl
/-- a LINE of a MEMORY and its ; -/
theorem s_mline {Z Y : Type} {K0 K : JSg → Option Z} {J0 J : JSg → Option Y} {Q : Z → Y → Prop} (hn : 1000000 < n) (h : TR c size lim q σ τ) (hB : BkP σ τ) (hP : MemP σ τ)
    (hf : ∀ s t, Agr wrM σ s → Agr mrM τ t → FR s t → Sm (K0 s) (J0 t) Q)
    (hk : ∀ s t p', Agr wrM σ s → Agr mrM τ t → MemP s t → TR c size lim p' s t → σ 2 3 < p' → p' ≤ lim → σ 2 6 ≠ 0 → Sm (K s) (J t) Q) :
    Sm (bd2 (f_Mem_readLine n 41 4 σ) fun r s => if r = 0 then K0 s else bd2 (f_Tok_passes n 59 s) fun r s => if r = 0 then K0 s else K s)
      (bd1 (f_M_isWord 5 τ) fun r15 => if r15 = 0 then (bd1 (f_M_isWord 6 τ) fun r25 => if r25 = 0 then (bd1 (f_M_isWord 7 τ) fun r26 => if r26 = 0 then (bd2 (f_M_bad 1 τ) fun r s => if r = 0 then J0 s else bd2 (f_M_readEnd n s) fun r s => if r = 0 then J0 s else J s) else (bd2 (f_M_readPassed n τ) fun r s => if r = 0 then J0 s else bd2 (f_M_readEnd n s) fun r s => if r = 0 then J0 s else J s)) else (bd2 (f_M_readSeen n τ) fun r s => if r = 0 then J0 s else bd2 (f_M_readEnd n s) fun r s => if r = 0 then J0 s else J s)) else (bd2 (f_M_readDeal n τ) fun r s => if r = 0 then J0 s else bd2 (f_M_readEnd n s) fun r s => if r = 0 then J0 s else J s)) Q := by
  have tail : ∀ z y : Int × JSg, σ 2 6 ≠ 0 → LmP c size lim σ τ (σ 2 3) z y → Sm (if z.1 = 0 then K0 z.2 else bd2 (f_Tok_passes n 59 z.2) fun r s => if r = 0 then K0 s else K s) (if y.1 = 0 then J0 y.2 else bd2 (f_M_readEnd n y.2) fun r s => if r = 0 then J0 s else J s) Q := by
    rintro ⟨z0, zs⟩ ⟨y0, ys⟩ hk0 ⟨a1, a2, a3⟩
    have a1 : Agr wrM σ zs := a1
    have a2 : Agr mrM τ ys := a2
    rcases a3 with ⟨b1, b2, b3⟩ | ⟨b1, b2, b3, p', b4, b5⟩
    · have b1 : z0 = 0 := b1
      have b2 : y0 = 0 := b2
      subst b1 b2
      rw [if_pos rfl, if_pos rfl]
      exact hf _ _ a1 a2 b3
    · have b1 : z0 = 1 := b1
      have b2 : y0 = 1 := b2
      subst b1 b2
      have b3 : MemP zs ys := b3
      have b4 : TR c size lim p' zs ys := b4
      rw [if_neg (show ¬ (1 : Int) = 0 by decide), if_neg (show ¬ (1 : Int) = 0 by decide)]
      unfold f_Tok_passes f_M_readEnd
      have sg := tr_sign b4 (a := 59)
      rw [sg.1, sg.2, b1_s, b1_s]
      by_cases g : zs 2 4 = 5 ∧ zs 2 9 = 59
      · rw [decide_eq_true g, if_neg bn0, if_neg bn0]
        have nx1 := tr_nx b4
        have lt := nx1.2.2.2.1 (by omega) (by omega)
        obtain ⟨s6, t6, f1, f2, h6, h7, h8⟩ := tr_step hn b4
        rw [f1, f2, b1_s, b1_s, b2_s, b2_s, if_neg n10, if_neg n10]
        exact hk _ _ _ (wm_t a1 h7) (mm_t a2 h8) (MemP_ag b3 (fun a j q => h7 a j (by unfold wtkC; omega)) (fun a j q => h8 a j (by unfold mtkC; omega))) h6 (by omega) (by omega) hk0
      · rw [decide_eq_false g, if_pos by0, if_pos by0]
        obtain ⟨s', t', f1, f2, f3, f4, f5⟩ := tr_fail b4 (k := 1) (Or.inl rfl)
        rw [f1, f2, b2_s, b2_s, ck_p (Or.inl rfl), ck_p (Or.inl rfl), b2_s, b2_s, if_pos rfl, if_pos rfl]
        exact hf _ _ (wm_f a1 f4) (mm_f a2 f5) f3
  have rz : ∀ z y : Int × JSg, LmP c size lim σ τ (σ 2 3) z y → z.1 = 0 ∨ z.1 = 1 := by
    rintro z y ⟨a1, a2, a3⟩
    rcases a3 with ⟨b1, b2, b3⟩ | ⟨b1, b2, b3⟩
    · exact Or.inl b1
    · exact Or.inr b1
  have w5 : f_M_isWord 5 τ = some (bi (decide (σ 2 6 = 6))) := tr_word h (k := 5) (by decide)
  have w6 : f_M_isWord 6 τ = some (bi (decide (σ 2 6 = 7))) := tr_word h (k := 6) (by decide)
  have w7 : f_M_isWord 7 τ = some (bi (decide (σ 2 6 = 8))) := tr_word h (k := 7) (by decide)
  unfold f_Mem_readLine
  rw [w5, b1_s]
  by_cases k1 : σ 2 6 = 6
  · rw [decide_eq_true k1, if_neg bn0, k1]
    obtain ⟨⟨z0, zs⟩, ⟨y0, ys⟩, e1, e2, e3⟩ := s_readDeal hn h hB hP
    rw [show ∀ (Z : Type) (a b c f : Option Z), sw_ 6 6 [a, b, c] f = a from fun _ _ _ _ _ => rfl, e1, e2, b2_s, b2_s, ck_p (rz _ _ e3), b2_s]
    exact tail _ _ (by omega) e3
  · rw [decide_eq_false k1, if_pos by0, w6, b1_s]
    by_cases k2 : σ 2 6 = 7
    · rw [decide_eq_true k2, if_neg bn0, k2]
      obtain ⟨⟨z0, zs⟩, ⟨y0, ys⟩, e1, e2, e3⟩ := s_readSeen hn h hB hP
      rw [show ∀ (Z : Type) (a b c f : Option Z), sw_ 7 6 [a, b, c] f = b from fun _ _ _ _ _ => rfl, e1, e2, b2_s, b2_s, ck_p (rz _ _ e3), b2_s]
      exact tail _ _ (by omega) e3
    · rw [decide_eq_false k2, if_pos by0, w7, b1_s]
      by_cases k3 : σ 2 6 = 8
      · rw [decide_eq_true k3, if_neg bn0, k3]
        obtain ⟨⟨z0, zs⟩, ⟨y0, ys⟩, e1, e2, e3⟩ := s_readPassed hn h hB hP
        rw [show ∀ (Z : Type) (a b c f : Option Z), sw_ 8 6 [a, b, c] f = c from fun _ _ _ _ _ => rfl, e1, e2, b2_s, b2_s, ck_p (rz _ _ e3), b2_s]
        exact tail _ _ (by omega) e3
      · rw [decide_eq_false k3, if_pos by0, sw_o3 (by omega)]
        obtain ⟨s', t', f1, f2, f3, f4, f5⟩ := tr_fail h (k := 1) (Or.inl rfl)
        rw [f1, f2, b2_s, b2_s, ck_p (Or.inl rfl), b2_s, if_pos rfl, if_pos rfl]
        exact hf _ _ (wm_f ag_refl f4) (mm_f ag_refl f5) f3
end
