/-! LAYER 3zq: ONE, and all three together -/
section
variable {σ τ s t u v : JSg} {n p d : Nat} {c : JA} {size lim q p' : Int}
theorem mid_snp {e : Nat} (hM : MidP σ τ s t) (h : τ 179 50 = 8 - ((e + 1 : Nat) : Int)) : SnP e s t := by
  obtain ⟨⟨m1, m2⟩, m3, m4, m5, m6, m7, m8, m9, m10, m11, m12, m13, m14, m15⟩ := hM
  exact ⟨⟨by omega, by omega⟩, by omega, by omega, by push_cast at h; omega, m11⟩
theorem st_not (hn : 1000000 < n) {e : Nat} {on : Int → JSg → Option (Int × JSg)} {on_ z1 z2 z3 z4 : JSg → Option (Int × JSg)} (hO : PoP n e on on_) (hM : MidP σ τ s t) (h50 : τ 179 50 = 8 - ((e + 1 : Nat) : Int)) (hT : TR c size lim q s t) (hB : BkP s t) : Sm (bd2 (on (8 - e) s) fun r19 s20 => if r19 = 0 then (some (0, s20)) else (bd2 (f_Sen_add 44 11 0 0 s20) fun r21 s22 => if r21 = 0 then (some (0, s22)) else (some (1, s22)))) (f_M_readNot_s n z1 z2 on_ z3 z4 t) (MidR c size lim s t) := by
  have hS := mid_snp hM h50
  obtain ⟨⟨m1, m2⟩, m3, m4, m5, m6, m7, m8, m9, m10, m11, m12, m13, m14, m15⟩ := hM
  unfold f_M_readNot_s
  refine sm_b22 (hO c size lim q s t hT hB hS) ?_
  rintro r u r' v ⟨c1, c2, c3⟩
  have c1 : Agr wrS s u := c1
  have c2 : Agr mrS t v := c2
  rcases c3 with ⟨b1, b2, b3⟩ | ⟨b1, b2, ⟨L, b3⟩, p', b4⟩
  · have b1 : r = 0 := b1
    have b2 : r' = 0 := b2
    rw [if_pos b1, if_pos b2]
    exact sm_some ⟨c1, c2, Or.inl ⟨rfl, rfl, b3⟩⟩
  · have b1 : r = 1 := b1
    have b2 : r' = 1 := b2
    have b3 : GrP s t u v L (v 179 51) := b3
    have b4 : TR c size lim p' u v := b4
    obtain ⟨g1, ⟨o1, o2, o3, o4, o5⟩, g3, g4, g5⟩ := id b3
    have g11 := g1.1
    have g12 := g1.2.1
    obtain ⟨u', a1, a2, a3, a4, a5, a6⟩ := e_addW (s := u) (a := 11) (b := 0) (w := 0) (by omega)
    obtain ⟨v', n1, n2, n3, n4, n5, n6, n8⟩ := e_saysM (t := v) (a := 1) (b := v 179 51) (e := 0) (w := 0) (by omega)
    rw [if_neg (by omega), if_neg (by omega), a1, n1, b2_s, b2_s, if_neg n10, lt_u]
    have e51 := sp51 (v := v') (x := v 179 48)
    have T1 : TreeR (v' 202) (v 179 48) (v 179 51) L := tree_mo g4 (by omega) (fun j hj => n8 202 j (by omega))
    refine sm_some ⟨ag_tr c1 (fun a j hh => a6 a j (by unfold wrS at hh; omega)), ag_sp (ag_tr c2 (fun a j hh => n8 a j (by unfold mrS at hh; omega))) (by unfold mrS; omega), Or.inr ⟨rfl, rfl, L ++ [(11, 0, 0)], gq_ag (gq_app g1 (by omega) (gq_1 g11 (by omega) a2 a3 a4 a5 a6 n2 n8)) (fun _ _ _ => rfl) (fun a j hh => e51 a j (by omega)), ⟨?_, ?_, ?_, ?_, ?_⟩, ?_, ?_, ?_, p', tr_ag b4 (fun a j hh => a6 a j (by omega)) (fun a j hh => (e51 a j (by omega)).trans (n8 a j (by omega)))⟩⟩
    · dsimp only
      rw [e51 179 49 (by omega), a6 44 0 (by omega), n8 179 49 (by omega)]; exact o1
    · show s 44 0 ≤ u' 44 0
      rw [a6 44 0 (by omega)]; omega
    · show u' 44 0 ≤ 20
      rw [a6 44 0 (by omega)]; omega
    · show _ ≤ 2 * (u' 44 0 - s 44 0) + 1
      rw [a6 44 0 (by omega), List.length_append]
      show ((L.length + 1 : Nat) : Int) ≤ _
      push_cast
      omega
    · show _ ≤ u' 44 0 - s 44 0 + 1
      rw [a6 44 0 (by omega), lv_ap, lv_op (show (11 : Int) < 12 by omega)]
      push_cast
      omega
    · dsimp only
      rw [e51 179 50 (by omega), n8 179 50 (by omega)]; exact g3
    · dsimp only
      rw [sp_eq, a2, g11]
      exact tree_mo (tree_not (by omega) n3 n4 T1) (by omega) (fun j _ => e51 202 j (by omega))
    · dsimp only
      rw [e51 179 10 (by omega), a6 2 12 (by omega), n8 179 10 (by omega)]; exact g5
theorem st_brk (hn : 1000000 < n) {e : Nat} {ei : Int → JSg → Option (Int × JSg)} {or_ y1 y2 y3 y4 : JSg → Option (Int × JSg)} (hE : PoP n e ei or_) (hM : MidP σ τ s t) (h50 : τ 179 50 = 8 - ((e + 1 : Nat) : Int)) (hT : TR c size lim q s t) (hB : BkP s t) : Sm (bd2 (ei (8 - e) s) fun r15 s16 => if r15 = 0 then (some (0, s16)) else (bd2 (f_Tok_passes n 41 s16) fun r17 s18 => if r17 = 0 then (some (0, s18)) else (some (1, s18)))) (f_M_readBracket_s n or_ y1 y2 y3 y4 t) (MidR c size lim s t) := by
  have hS := mid_snp hM h50
  obtain ⟨⟨m1, m2⟩, m3, m4, m5, m6, m7, m8, m9, m10, m11, m12, m13, m14, m15⟩ := hM
  unfold f_M_readBracket_s
  refine sm_b22 (hE c size lim q s t hT hB hS) ?_
  rintro r u r' v ⟨c1, c2, c3⟩
  have c1 : Agr wrS s u := c1
  have c2 : Agr mrS t v := c2
  rcases c3 with ⟨b1, b2, b3⟩ | ⟨b1, b2, ⟨L, b3⟩, p', b4⟩
  · have b1 : r = 0 := b1
    have b2 : r' = 0 := b2
    rw [if_pos b1, if_pos b2]
    exact sm_some ⟨c1, c2, Or.inl ⟨rfl, rfl, b3⟩⟩
  · have b1 : r = 1 := b1
    have b2 : r' = 1 := b2
    have b3 : GrP s t u v L (v 179 51) := b3
    have b4 : TR c size lim p' u v := b4
    have sg := tr_sign b4 (a := 41)
    unfold f_Tok_passes
    rw [if_neg (by omega), if_neg (by omega), sg.1, sg.2, b1_s, b1_s]
    by_cases g : u 2 4 = 5 ∧ u 2 9 = 41
    · rw [decide_eq_true g, if_neg bn0, if_neg bn0]
      obtain ⟨s6, t6, f1, f2, h6, h7, h8⟩ := tr_step hn b4
      rw [f1, f2, b1_s, b1_s, b2_s, if_neg n10]
      have b6 : GrP s t s6 t6 L (v 179 51) := gp_ag b3 (fun a j hh => h7 a j (by unfold wtkC; omega)) (fun a j hh => h8 a j (by unfold mtkC; omega))
      obtain ⟨g1, ⟨o1, o2, o3, o4, o5⟩, g3, g4, g5⟩ := id b6
      refine sm_some ⟨zs_t c1 h7, zm_t c2 h8, Or.inr ⟨rfl, rfl, L, g1, ⟨o1, ?_, o3, ?_, ?_⟩, g3, ?_, g5, u 2 3, h6⟩⟩
      · show s 44 0 ≤ s6 44 0
        omega
      · show _ ≤ 2 * (s6 44 0 - s 44 0) + 1
        omega
      · show _ ≤ s6 44 0 - s 44 0 + 1
        omega
      · show TreeR (t6 202) (s6 44 1) (t6 179 51) L
        rw [h8 179 51 (by unfold mtkC; omega)]
        exact g4
    · rw [decide_eq_false g, if_pos by0, if_pos by0]
      obtain ⟨s', t', f1, f2, f3, f4, f5⟩ := tr_fail b4 (k := 1) (Or.inl rfl)
      rw [f1, f2, b2_s, b2_s, ck_p (Or.inl rfl), ck_p (Or.inl rfl), b2_s, if_pos rfl]
      exact sm_some ⟨zs_f c1 f4, zm_f c2 f5, Or.inl ⟨rfl, rfl, f3⟩⟩
theorem st_word {k : Int} (hn : 1000000 < n) (hM : MidP σ τ s t) (hT : TR c size lim q s t) (hk : 12 ≤ k ∧ k ≤ 16 ∧ k ≠ 15) : Sm (bd2 (f_Sen_add 44 k 0 0 s) fun r10 s11 => chk (r10 = 0 ∨ r10 = 1) <| some (r10, s11)) (bd2 (f_M_saysOne (w32 (50 + (k - 1))) 0 0 0 t) fun r22 s23 => chk ((1 : Int) = 0 ∨ True) <| some ((1 : Int), sp (sp s23 179 51 r22) 179 50 (w32 ((sp s23 179 51 r22) 179 50 - 1)))) (SnR c size lim σ τ) := by
  rw [wi (x := 50 + (k - 1)) (by omega) (by omega), show 50 + (k - 1) = k + 49 by omega]
  obtain ⟨u', v', a1, a2, a3, a4, a5, a6, a7, a8, a9, a10, a11⟩ := mid_leaf (u := s) (v := t) (k := k) (x := 0) (y := 0) (w := 0) (num := 0) hM ag_refl ag_refl (fun _ _ _ => rfl) (fun _ _ _ => rfl) (by omega) (by rw [if_neg (by omega)])
  rw [a1, a2, b2_s, b2_s, ck_p (Or.inr rfl), ck_p (Or.inr trivial)]
  have e51 := sp51 (v := v') (x := t 179 48)
  refine sm_some (mid_fin (v := sp v' 179 51 (t 179 48)) hM a3 (ag_sp a4 (by unfold mrS; omega)) ⟨[(k, 0, 0)], gq_ag a5 (fun _ _ _ => rfl) (fun a j hh => e51 a j (by omega)), ?_, ?_, ?_, ?_, q, tr_ag hT (fun a j hh => a10 a j (by omega)) (fun a j hh => (e51 a j (by omega)).trans (a11 a j (by omega)))⟩)
  · obtain ⟨o1, o2, o3, o4, o5⟩ := a6
    exact ⟨by rw [e51 179 49 (by omega)]; exact o1, o2, o3, o4, o5⟩
  · rw [e51 179 50 (by omega)]; exact a7
  · rw [sp_eq]
    exact tree_mo a8 (by omega) (fun j _ => e51 202 j (by omega))
  · rw [e51 179 10 (by omega)]; exact a9
theorem st_one (hn : 1000000 < n) (hd : d ≤ 8) {ei bo on : Int → JSg → Option (Int × JSg)} {or_ on_ x1 x2 x3 y1 y2 y3 y4 z1 z2 z3 z4 : JSg → Option (Int × JSg)} (hE : ∀ e, d = e + 1 → PoP n e ei or_) (hO : ∀ e, d = e + 1 → PoP n e on on_) : PoP n d (f_Sen_readOne_s n 44 4 ei bo on) (f_M_readOne_s n x1 x2 x3 (f_M_readBracket_s n or_ y1 y2 y3 y4) (f_M_readNot_s n z1 z2 on_ z3 z4)) := by
  intro c size lim q σ τ h hB hS
  obtain ⟨⟨i1, i2⟩, i3, i4, i5, i6⟩ := id hS
  have sg := tr_sign h (a := 40)
  have kd := tr_kd h
  unfold f_Sen_readOne_s f_M_readOne_s
  rw [sg.1, sg.2, b1_s, b1_s]
  simp only [lt_u, j0_s, j2_s]
  refine sm_wf hn h ?_
  generalize hw : (if 11 ≤ σ 2 6 ∧ σ 2 6 ≤ 20 then σ 2 6 - 1 else 20) = wf
  have key20 : 0 ≤ σ 2 6 ∧ σ 2 6 ≤ 20 := by
    rcases kd with ⟨h1, h2, h3⟩ | ⟨h1, h2, h3⟩ | ⟨h1, h2, h3, h4⟩ | ⟨h1, h2, h3, h4⟩ | ⟨h1, h2, h3, h4⟩
    · omega
    · omega
    · rcases h4 with ⟨g1, g2⟩ | ⟨m, m1, m2, m3⟩
      · omega
      · omega
    · omega
    · omega
  by_cases gg : ¬ (σ 2 4 = 5 ∧ σ 2 9 = 40) ∧ σ 2 6 < 11
  · rw [if_neg (by omega)] at hw
    rw [decide_eq_false gg.1, if_pos by0, if_pos by0, if_pos gg.2, if_pos (by omega)]
    exact sn_fail ag_refl ag_refl h (Or.inl rfl)
  · have eW : ∀ X Y : Option (Int × JSg), (if bi (decide (σ 2 4 = 5 ∧ σ 2 9 = 40)) = 0 then (if σ 2 6 < 11 then X else Y) else Y) = Y := by
      intro X Y
      by_cases g : (σ 2 4 = 5 ∧ σ 2 9 = 40)
      · rw [decide_eq_true g, if_neg bn0]
      · rw [decide_eq_false g, if_pos by0, if_neg (fun g2 => gg ⟨g, g2⟩)]
    have eM : ∀ X Y : Option (Int × JSg), (if bi (decide (σ 2 4 = 5 ∧ σ 2 9 = 40)) = 0 then (if 19 < wf then X else Y) else Y) = Y := by
      intro X Y
      by_cases g : (σ 2 4 = 5 ∧ σ 2 9 = 40)
      · rw [decide_eq_true g, if_neg bn0]
      · rw [decide_eq_false g, if_pos by0, if_neg]
        have : ¬ σ 2 6 < 11 := fun g2 => gg ⟨g, g2⟩
        rw [if_pos (by omega)] at hw
        omega
    rw [eW, eM]
    clear eW eM
    have ne1 : τ 179 7 ≠ 1 := by
      rcases kd with ⟨h1, h2, h3⟩ | ⟨h1, h2, h3⟩ | ⟨h1, h2, h3, h4⟩ | ⟨h1, h2, h3, h4⟩ | ⟨h1, h2, h3, h4⟩ <;> omega
    by_cases gl : σ 44 0 < 20 ∧ d ≠ 0
    · rw [if_pos gl.1, if_pos (by omega), if_neg (by omega), if_neg (by omega)]
      obtain ⟨e, he⟩ : ∃ e, d = e + 1 := ⟨d - 1, by omega⟩
      have hE := hE e he
      have hO := hO e he
      rw [wi (x := σ 44 0 + 1) (by omega) (by omega), wi (x := τ 179 49 + 1) (by omega) (by omega), sp_nj (show (50 : Nat) ≠ 49 by decide), wi (x := τ 179 50 + 1) (by omega) (by omega), wi (x := 8 - (d : Int) + 1) (by omega) (by omega), show 8 - (d : Int) + 1 = 8 - (e : Int) by omega, sp_nq (show (2 : Nat) ≠ 44 by decide)]
      have h0 : TR c size lim q (sp σ 44 0 (σ 44 0 + 1)) (sp (sp τ 179 49 (τ 179 49 + 1)) 179 50 (τ 179 50 + 1)) := tr_ag h (fun a j hh => by rw [sp_nq (by omega)]) (fun a j hh => by
        rw [sp50 a j (by omega), sp_at]
        by_cases e : a = 179
        · rw [if_pos e, if_neg (by omega)]
        · rw [if_neg e])
      obtain ⟨s, t, f1, f2, hT, h8, h9⟩ := tr_step hn h0
      rw [f1, f2, b1_s, b1_s]
      have es : ∀ a j, ¬ (a = 2 ∨ (a = 44 ∧ j = 0)) → s a j = σ a j := by
        intro a j hh
        rw [h8 a j (by unfold wtkC; omega), sp_at]
        by_cases e : a = 44
        · rw [if_pos e, if_neg (by omega)]
        · rw [if_neg e]
      have et : ∀ a j, ¬ (a = 179 ∧ (j = 5 ∨ j = 6 ∨ j = 7 ∨ j = 8 ∨ j = 9 ∨ j = 12 ∨ j = 49 ∨ j = 50)) → t a j = τ a j := by
        intro a j hh
        rw [h9 a j (by unfold mtkC; omega), sp50 a j (by omega), sp_at]
        by_cases e : a = 179
        · rw [if_pos e, if_neg (by omega)]
        · rw [if_neg e]
      have s12 : s 2 12 = σ 2 12 := (h8 2 12 (by unfold wtkC; omega)).trans (by rw [sp_nq (by decide)])
      have hM : MidP σ τ s t := by
        refine ⟨⟨?_, ?_⟩, es 44 1 (by omega), ?_, fun i => ⟨es 45 i (by omega), es 46 i (by omega), es 47 i (by omega)⟩, fun i => et 202 i (by omega), et 179 48 (by omega), ?_, ?_, by omega, ?_, by omega, by omega, by omega, by omega⟩
        · exact zs_t (ag_sp ag_refl (by unfold wrS; omega)) h8
        · exact zm_t (ag_sp (ag_sp ag_refl (by unfold mrS; omega)) (by unfold mrS; omega)) h9
        · rw [h8 44 0 (by unfold wtkC; omega), sp_eq]
        · rw [h9 179 49 (by unfold mtkC; omega), sp_nj (by decide), sp_eq]
        · rw [h9 179 50 (by unfold mtkC; omega), sp_eq]
        · rw [s12, et 179 10 (by omega)]; exact i6
      have hB1 : BkP s t := BkP_ag hB (fun a j hh => es a j (by omega)) (fun a j hh => et a j (by omega))
      have h50 : τ 179 50 = 8 - ((e + 1 : Nat) : Int) := by omega
      clear h0 f1 f2 h8 h9 es et s12 hS
      by_cases g : (σ 2 4 = 5 ∧ σ 2 9 = 40)
      · have k0 : σ 2 6 = 0 := by
          rcases kd with ⟨h1, h2, h3⟩ | ⟨h1, h2, h3⟩ | ⟨h1, h2, h3, h4⟩ | ⟨h1, h2, h3, h4⟩ | ⟨h1, h2, h3, h4⟩ <;> omega
        rw [decide_eq_true g, if_neg bn0, k0, show ∀ (a0 a1 a2 a3 a4 a5 a6 a7 a8 a9 a10 a11 a12 a13 a14 a15 a16 a17 a18 a19 a20 f : Option (Int × JSg)), sw_ 0 0 [a0, a1, a2, a3, a4, a5, a6, a7, a8, a9, a10, a11, a12, a13, a14, a15, a16, a17, a18, a19, a20] f = a0 from fun _ _ _ _ _ _ _ _ _ _ _ _ _ _ _ _ _ _ _ _ _ _ => rfl]
        exact mid_end hM (st_brk hn hE hM h50 hT hB1)
      · have k11 : ¬ σ 2 6 < 11 := fun g2 => gg ⟨g, g2⟩
        rw [if_pos (by omega)] at hw
        subst hw
        rw [decide_eq_false g, if_pos by0]
        have kc : σ 2 6 = 11 ∨ σ 2 6 = 12 ∨ σ 2 6 = 13 ∨ σ 2 6 = 14 ∨ σ 2 6 = 15 ∨ σ 2 6 = 16 ∨ σ 2 6 = 17 ∨ σ 2 6 = 18 ∨ σ 2 6 = 19 ∨ σ 2 6 = 20 := by omega
        rcases kc with k | k | k | k | k | k | k | k | k | k <;> rw [k]
        · rw [show ∀ (a0 a1 a2 a3 a4 a5 a6 a7 a8 a9 a10 a11 a12 a13 a14 a15 a16 a17 a18 a19 a20 f : Option (Int × JSg)), sw_ 11 0 [a0, a1, a2, a3, a4, a5, a6, a7, a8, a9, a10, a11, a12, a13, a14, a15, a16, a17, a18, a19, a20] f = a11 from fun _ _ _ _ _ _ _ _ _ _ _ _ _ _ _ _ _ _ _ _ _ _ => rfl, if_pos (show (11 : Int) - 1 = 10 by decide)]
          exact mid_end hM (st_not hn hO hM h50 hT hB1)
        · rw [show ∀ (a0 a1 a2 a3 a4 a5 a6 a7 a8 a9 a10 a11 a12 a13 a14 a15 a16 a17 a18 a19 a20 f : Option (Int × JSg)), sw_ 12 0 [a0, a1, a2, a3, a4, a5, a6, a7, a8, a9, a10, a11, a12, a13, a14, a15, a16, a17, a18, a19, a20] f = a12 from fun _ _ _ _ _ _ _ _ _ _ _ _ _ _ _ _ _ _ _ _ _ _ => rfl, if_neg (show ¬ (12 : Int) - 1 = 10 by decide), if_neg (show ¬ (12 : Int) - 1 = 14 by decide), if_pos (show (12 : Int) - 1 < 16 by decide)]
          exact st_word (k := 12) hn hM hT (by omega)
        · rw [show ∀ (a0 a1 a2 a3 a4 a5 a6 a7 a8 a9 a10 a11 a12 a13 a14 a15 a16 a17 a18 a19 a20 f : Option (Int × JSg)), sw_ 13 0 [a0, a1, a2, a3, a4, a5, a6, a7, a8, a9, a10, a11, a12, a13, a14, a15, a16, a17, a18, a19, a20] f = a13 from fun _ _ _ _ _ _ _ _ _ _ _ _ _ _ _ _ _ _ _ _ _ _ => rfl, if_neg (show ¬ (13 : Int) - 1 = 10 by decide), if_neg (show ¬ (13 : Int) - 1 = 14 by decide), if_pos (show (13 : Int) - 1 < 16 by decide)]
          exact st_word (k := 13) hn hM hT (by omega)
        · rw [show ∀ (a0 a1 a2 a3 a4 a5 a6 a7 a8 a9 a10 a11 a12 a13 a14 a15 a16 a17 a18 a19 a20 f : Option (Int × JSg)), sw_ 14 0 [a0, a1, a2, a3, a4, a5, a6, a7, a8, a9, a10, a11, a12, a13, a14, a15, a16, a17, a18, a19, a20] f = a14 from fun _ _ _ _ _ _ _ _ _ _ _ _ _ _ _ _ _ _ _ _ _ _ => rfl, if_neg (show ¬ (14 : Int) - 1 = 10 by decide), if_neg (show ¬ (14 : Int) - 1 = 14 by decide), if_pos (show (14 : Int) - 1 < 16 by decide)]
          exact st_word (k := 14) hn hM hT (by omega)
        · rw [show ∀ (a0 a1 a2 a3 a4 a5 a6 a7 a8 a9 a10 a11 a12 a13 a14 a15 a16 a17 a18 a19 a20 f : Option (Int × JSg)), sw_ 15 0 [a0, a1, a2, a3, a4, a5, a6, a7, a8, a9, a10, a11, a12, a13, a14, a15, a16, a17, a18, a19, a20] f = a15 from fun _ _ _ _ _ _ _ _ _ _ _ _ _ _ _ _ _ _ _ _ _ _ => rfl, if_neg (show ¬ (15 : Int) - 1 = 10 by decide), if_pos (show (15 : Int) - 1 = 14 by decide)]
          exact mid_ec hM (st_of hn hM hT hB1)
        · rw [show ∀ (a0 a1 a2 a3 a4 a5 a6 a7 a8 a9 a10 a11 a12 a13 a14 a15 a16 a17 a18 a19 a20 f : Option (Int × JSg)), sw_ 16 0 [a0, a1, a2, a3, a4, a5, a6, a7, a8, a9, a10, a11, a12, a13, a14, a15, a16, a17, a18, a19, a20] f = a16 from fun _ _ _ _ _ _ _ _ _ _ _ _ _ _ _ _ _ _ _ _ _ _ => rfl, if_neg (show ¬ (16 : Int) - 1 = 10 by decide), if_neg (show ¬ (16 : Int) - 1 = 14 by decide), if_pos (show (16 : Int) - 1 < 16 by decide)]
          exact st_word (k := 16) hn hM hT (by omega)
        · rw [show ∀ (a0 a1 a2 a3 a4 a5 a6 a7 a8 a9 a10 a11 a12 a13 a14 a15 a16 a17 a18 a19 a20 f : Option (Int × JSg)), sw_ 17 0 [a0, a1, a2, a3, a4, a5, a6, a7, a8, a9, a10, a11, a12, a13, a14, a15, a16, a17, a18, a19, a20] f = a17 from fun _ _ _ _ _ _ _ _ _ _ _ _ _ _ _ _ _ _ _ _ _ _ => rfl, if_neg (show ¬ (17 : Int) - 1 = 10 by decide), if_neg (show ¬ (17 : Int) - 1 = 14 by decide), if_neg (show ¬ (17 : Int) - 1 < 16 by decide)]
          exact mid_ec hM (st_meas (k := 17) hn hM hT (by omega))
        · rw [show ∀ (a0 a1 a2 a3 a4 a5 a6 a7 a8 a9 a10 a11 a12 a13 a14 a15 a16 a17 a18 a19 a20 f : Option (Int × JSg)), sw_ 18 0 [a0, a1, a2, a3, a4, a5, a6, a7, a8, a9, a10, a11, a12, a13, a14, a15, a16, a17, a18, a19, a20] f = a18 from fun _ _ _ _ _ _ _ _ _ _ _ _ _ _ _ _ _ _ _ _ _ _ => rfl, if_neg (show ¬ (18 : Int) - 1 = 10 by decide), if_neg (show ¬ (18 : Int) - 1 = 14 by decide), if_neg (show ¬ (18 : Int) - 1 < 16 by decide)]
          exact mid_ec hM (st_meas (k := 18) hn hM hT (by omega))
        · rw [show ∀ (a0 a1 a2 a3 a4 a5 a6 a7 a8 a9 a10 a11 a12 a13 a14 a15 a16 a17 a18 a19 a20 f : Option (Int × JSg)), sw_ 19 0 [a0, a1, a2, a3, a4, a5, a6, a7, a8, a9, a10, a11, a12, a13, a14, a15, a16, a17, a18, a19, a20] f = a19 from fun _ _ _ _ _ _ _ _ _ _ _ _ _ _ _ _ _ _ _ _ _ _ => rfl, if_neg (show ¬ (19 : Int) - 1 = 10 by decide), if_neg (show ¬ (19 : Int) - 1 = 14 by decide), if_neg (show ¬ (19 : Int) - 1 < 16 by decide)]
          exact mid_ec hM (st_meas (k := 19) hn hM hT (by omega))
        · rw [show ∀ (a0 a1 a2 a3 a4 a5 a6 a7 a8 a9 a10 a11 a12 a13 a14 a15 a16 a17 a18 a19 a20 f : Option (Int × JSg)), sw_ 20 0 [a0, a1, a2, a3, a4, a5, a6, a7, a8, a9, a10, a11, a12, a13, a14, a15, a16, a17, a18, a19, a20] f = a20 from fun _ _ _ _ _ _ _ _ _ _ _ _ _ _ _ _ _ _ _ _ _ _ => rfl, if_neg (show ¬ (20 : Int) - 1 = 10 by decide), if_neg (show ¬ (20 : Int) - 1 = 14 by decide), if_neg (show ¬ (20 : Int) - 1 < 16 by decide)]
          exact mid_ec hM (st_meas (k := 20) hn hM hT (by omega))
    · have eW : ∀ X Y : Option (Int × JSg), (if σ 44 0 < 20 then (if (8 : Int) - d < 8 then X else Y) else Y) = Y := by
        intro X Y
        by_cases g : σ 44 0 < 20
        · rw [if_pos g, if_neg (by omega)]
        · rw [if_neg g]
      have eM : ∀ X Y : Option (Int × JSg), (if τ 179 49 = 20 then Y else (if τ 179 50 = 8 then Y else X)) = Y := by
        intro X Y
        by_cases g : τ 179 49 = 20
        · rw [if_pos g]
        · rw [if_neg g, if_pos (by omega)]
      rw [eW, eM]
      exact sn_fail ag_refl ag_refl h (Or.inr ne1)
/-- as deep as it goes -/
theorem st_all (hn : 1000000 < n) : ∀ d : Nat, d ≤ 8 → (∀ r1 r2 : Nat, 3 * d + 1 ≤ r1 → 4 * d + 2 ≤ r2 → PoP n d (fg_Sen_readEither n 44 4 r1).2.2 (fg_M_readOr n r2).2.2.1) ∧ (∀ r1 r2 : Nat, 3 * d + 3 ≤ r1 → 4 * d + 4 ≤ r2 → PoP n d (fg_Sen_readEither n 44 4 r1).1 (fg_M_readOr n r2).1) := by
  intro d
  induction d with
  | zero =>
    intro hd
    have one : ∀ r1 r2 : Nat, 1 ≤ r1 → 2 ≤ r2 → PoP n 0 (fg_Sen_readEither n 44 4 r1).2.2 (fg_M_readOr n r2).2.2.1 := by
      intro r1 r2 h1 h2
      obtain ⟨r1, rfl⟩ : ∃ r, r1 = r + 1 := ⟨r1 - 1, by omega⟩
      obtain ⟨r2, rfl⟩ : ∃ r, r2 = r + 2 := ⟨r2 - 2, by omega⟩
      exact st_one (bo := (fg_Sen_readEither n 44 4 r1).2.1) (x1 := (fg_M_readOr n (r2 + 1)).1) (x2 := (fg_M_readOr n (r2 + 1)).2.1) (x3 := (fg_M_readOr n (r2 + 1)).2.2.1) (y1 := (fg_M_readOr n r2).2.1) (y2 := (fg_M_readOr n r2).2.2.1) (y3 := (fg_M_readOr n r2).2.2.2.1) (y4 := (fg_M_readOr n r2).2.2.2.2) (z1 := (fg_M_readOr n r2).1) (z2 := (fg_M_readOr n r2).2.1) (z3 := (fg_M_readOr n r2).2.2.2.1) (z4 := (fg_M_readOr n r2).2.2.2.2) hn hd (fun e he => by omega) (fun e he => by omega)
    refine ⟨fun r1 r2 h1 h2 => one r1 r2 (by omega) (by omega), fun r1 r2 h1 h2 => ?_⟩
    obtain ⟨r1, rfl⟩ : ∃ r, r1 = r + 2 := ⟨r1 - 2, by omega⟩
    obtain ⟨r2, rfl⟩ : ∃ r, r2 = r + 2 := ⟨r2 - 2, by omega⟩
    exact st_either (ei := (fg_Sen_readEither n 44 4 (r1 + 1)).1) (on := (fg_Sen_readEither n 44 4 (r1 + 1)).2.2) (or_ := (fg_M_readOr n (r2 + 1)).1) (on_ := (fg_M_readOr n (r2 + 1)).2.2.1) (br := (fg_M_readOr n (r2 + 1)).2.2.2.1) (nt := (fg_M_readOr n (r2 + 1)).2.2.2.2) hn (st_both (ei := (fg_Sen_readEither n 44 4 r1).1) (bo := (fg_Sen_readEither n 44 4 r1).2.1) (or_ := (fg_M_readOr n r2).1) (an_ := (fg_M_readOr n r2).2.1) (br := (fg_M_readOr n r2).2.2.2.1) (nt := (fg_M_readOr n r2).2.2.2.2) hn (one r1 r2 (by omega) (by omega)))
  | succ d ih =>
    intro hd
    obtain ⟨ih1, ih2⟩ := ih (by omega)
    have one : ∀ r1 r2 : Nat, 3 * (d + 1) + 1 ≤ r1 → 4 * (d + 1) + 2 ≤ r2 → PoP n (d + 1) (fg_Sen_readEither n 44 4 r1).2.2 (fg_M_readOr n r2).2.2.1 := by
      intro r1 r2 h1 h2
      obtain ⟨r1, rfl⟩ : ∃ r, r1 = r + 1 := ⟨r1 - 1, by omega⟩
      obtain ⟨r2, rfl⟩ : ∃ r, r2 = r + 2 := ⟨r2 - 2, by omega⟩
      exact st_one (bo := (fg_Sen_readEither n 44 4 r1).2.1) (x1 := (fg_M_readOr n (r2 + 1)).1) (x2 := (fg_M_readOr n (r2 + 1)).2.1) (x3 := (fg_M_readOr n (r2 + 1)).2.2.1) (y1 := (fg_M_readOr n r2).2.1) (y2 := (fg_M_readOr n r2).2.2.1) (y3 := (fg_M_readOr n r2).2.2.2.1) (y4 := (fg_M_readOr n r2).2.2.2.2) (z1 := (fg_M_readOr n r2).1) (z2 := (fg_M_readOr n r2).2.1) (z3 := (fg_M_readOr n r2).2.2.2.1) (z4 := (fg_M_readOr n r2).2.2.2.2) hn hd (fun e he => by
        obtain rfl : d = e := by omega
        exact ih2 r1 r2 (by omega) (by omega)) (fun e he => by
        obtain rfl : d = e := by omega
        exact ih1 r1 r2 (by omega) (by omega))
    refine ⟨one, fun r1 r2 h1 h2 => ?_⟩
    obtain ⟨r1, rfl⟩ : ∃ r, r1 = r + 2 := ⟨r1 - 2, by omega⟩
    obtain ⟨r2, rfl⟩ : ∃ r, r2 = r + 2 := ⟨r2 - 2, by omega⟩
    exact st_either (ei := (fg_Sen_readEither n 44 4 (r1 + 1)).1) (on := (fg_Sen_readEither n 44 4 (r1 + 1)).2.2) (or_ := (fg_M_readOr n (r2 + 1)).1) (on_ := (fg_M_readOr n (r2 + 1)).2.2.1) (br := (fg_M_readOr n (r2 + 1)).2.2.2.1) (nt := (fg_M_readOr n (r2 + 1)).2.2.2.2) hn (st_both (ei := (fg_Sen_readEither n 44 4 r1).1) (bo := (fg_Sen_readEither n 44 4 r1).2.1) (or_ := (fg_M_readOr n r2).1) (an_ := (fg_M_readOr n r2).2.1) (br := (fg_M_readOr n r2).2.2.2.1) (nt := (fg_M_readOr n r2).2.2.2.2) hn (one r1 r2 (by omega) (by omega)))
end
