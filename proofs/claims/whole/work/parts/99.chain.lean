/-! LAYER 3zx: the class's longest */ -/
section
variable {A : JA} {h : List Int} {st : Nat} {σ s t : JSg} {n p : Nat}
theorem sr_bit {G p : Nat} (hG : G < 256) (hp : p < 64) : cmpL (an64 (sr64 (G : Int) (p : Int)) 1) 0 = 0 ↔ ¬ G.testBit p = true := by
  have h1 : G >>> p < 256 := Nat.lt_of_le_of_lt (Nat.shiftRight_le _ _) hG
  rw [cmpL_0, sr_n64 (by omega) hp]
  have e := an_n64 (a := G >>> p) (b := 1) (by omega)
  rw [show an64 ((G >>> p : Nat) : Int) 1 = ((G >>> p &&& 1 : Nat) : Int) from e]
  have : G.testBit p = true ↔ G >>> p &&& 1 ≠ 0 := by
    unfold Nat.testBit
    rw [Nat.and_comm]
    simp
  rw [this]
  omega
theorem cell_n (hT : 0 ≤ s 103 p ∧ s 103 p < 256) : s 103 p = ((s 103 p).toNat : Int) ∧ (s 103 p).toNat < 256 := by omega
theorem sr_cell {X : Nat} (hT : 0 ≤ s 103 X ∧ s 103 X < 256) (hp : p < 64) : cmpL (an64 (sr64 (s 103 X) (p : Int)) 1) 0 = 0 ↔ ¬ tbb s X p = true := by
  obtain ⟨c1, c2⟩ := cell_n hT
  have := sr_bit (G := (s 103 X).toNat) (p := p) c2 hp
  rwa [← c1] at this
/-- pips of the hand as the class reads them -/
theorem hand_6 (hI : WfI A) (hh : Hnd A h) (hB : ChB A h s) {i : Nat} (hi : i < h.length) : s 105 i = h.getD i 0 ∧ (0 ≤ h.getD i 0 ∧ h.getD i 0 < 28) ∧ s 6 (h.getD i 0).toNat = (pN A h i 0 : Nat) ∧ s 7 (h.getD i 0).toNat = (pN A h i 1 : Nat) := by
  have x0 := pN_lt hI hh hi (show 0 < 2 by decide)
  have x1 := pN_lt hI hh hi (show 1 < 2 by decide)
  have g := hh.2 i hi
  have b28 := hI.2.1
  have l := hB.1.2.2.2.1 _ g.1 g.2
  exact ⟨hB.2.2 i hi, by omega, l.1.trans x0.2.symm, l.2.trans x1.2.symm⟩
theorem e_usefulBy {U i : Nat} (hI : WfI A) (hh : Hnd A h) (hB : ChB A h s) (hU : U < 2 ^ h.length) (hi : i < h.length) (hT : 0 ≤ s 103 (4096 + ins U i) ∧ s 103 (4096 + ins U i) < 256) : ∃ G : Nat, f_Chn_usefulBy (U : Int) (i : Int) s = some (G : Int) ∧ G < 256 ∧ ∀ p, p < 8 → (G.testBit p = true ↔ ∃ d, d < 2 ∧ tbb s (4096 + ins U i) (pN A h i (1 - d)) = true ∧ okp A (pN A h i d) p = true) := by
  have l12 := hh.1
  have p12 := pw12 l12
  have hv := ins_lt hU hi
  have x0 := pN_lt hI hh hi (show 0 < 2 by decide)
  have x1 := pN_lt hI hh hi (show 1 < 2 by decide)
  obtain ⟨q1, q2, q3, q4⟩ := hand_6 hI hh hB hi
  obtain ⟨c1, c2⟩ := cell_n hT
  obtain ⟨G0, a1, a2, a3⟩ := e_ahead hB.1 x0.1
  obtain ⟨G1, b1, b2, b3⟩ := e_ahead hB.1 x1.1
  unfold f_Chn_usefulBy
  rw [ins_e (by omega) (by omega), wi (by omega) (by omega)]
  simp only [lt_u, Int.toNat_natCast]
  rw [show ((4096 : Int) + ((ins U i : Nat) : Int)).toNat = 4096 + ins U i by omega]
  simp only [q1, q3, q4, a1, b1, b1_s, j1_s]
  rw [ck_p (by omega), ck_p (by omega), ck_p (by omega), ck_p (by omega), ck_p (by omega)]
  have s0 := sr_cell (p := pN A h i 0) hT (by omega)
  have s1 := sr_cell (p := pN A h i 1) hT (by omega)
  have hd : ∀ p, p < 8 → ((∃ d, d < 2 ∧ tbb s (4096 + ins U i) (pN A h i (1 - d)) = true ∧ okp A (pN A h i d) p = true) ↔ (tbb s (4096 + ins U i) (pN A h i 1) = true ∧ G0.testBit p = true) ∨ (tbb s (4096 + ins U i) (pN A h i 0) = true ∧ G1.testBit p = true)) := by
    intro p hp
    rw [a3 p hp, b3 p hp]
    constructor
    · rintro ⟨d, d1, d2, d3⟩
      have : d = 0 ∨ d = 1 := by omega
      rcases this with rfl | rfl
      · exact Or.inl ⟨d2, d3⟩
      · exact Or.inr ⟨d2, d3⟩
    · rintro (⟨d2, d3⟩ | ⟨d2, d3⟩)
      · exact ⟨0, by decide, d2, d3⟩
      · exact ⟨1, by decide, d2, d3⟩
  by_cases z1 : tbb s (4096 + ins U i) (pN A h i 1) = true
  · rw [if_neg (fun q => s1.mp q z1)]
    by_cases z0 : tbb s (4096 + ins U i) (pN A h i 0) = true
    · rw [if_neg (fun q => s0.mp q z0)]
      refine ⟨G0 ||| G1, congrArg some (or64_n (by omega) (by omega)), or8 a2 b2, fun p hp => ?_⟩
      rw [hd p hp, Nat.testBit_or, Bool.or_eq_true]
      constructor
      · rintro (q | q)
        · exact Or.inl ⟨z1, q⟩
        · exact Or.inr ⟨z0, q⟩
      · rintro (⟨-, q⟩ | ⟨-, q⟩)
        · exact Or.inl q
        · exact Or.inr q
    · rw [if_pos (s0.mpr z0)]
      refine ⟨G0, congrArg some ((or64_n (a := G0) (b := 0) (by omega) (by omega)).trans (by rw [Nat.or_zero])), a2, fun p hp => ?_⟩
      rw [hd p hp]
      constructor
      · intro q; exact Or.inl ⟨z1, q⟩
      · rintro (⟨-, q⟩ | ⟨q, -⟩)
        · exact q
        · exact absurd q z0
  · rw [if_pos (s1.mpr z1)]
    by_cases z0 : tbb s (4096 + ins U i) (pN A h i 0) = true
    · rw [if_neg (fun q => s0.mp q z0)]
      refine ⟨G1, congrArg some ((or64_n (a := 0) (b := G1) (by omega) (by omega)).trans (by rw [Nat.zero_or])), b2, fun p hp => ?_⟩
      rw [hd p hp]
      constructor
      · intro q; exact Or.inr ⟨z0, q⟩
      · rintro (⟨q, -⟩ | ⟨-, q⟩)
        · exact absurd q z1
        · exact q
    · rw [if_pos (s0.mpr z0)]
      refine ⟨0, rfl, by decide, fun p hp => ?_⟩
      rw [hd p hp, Nat.zero_testBit]
      constructor
      · intro q; cases q
      · rintro (⟨q, -⟩ | ⟨q, -⟩)
        · exact absurd q z1
        · exact absurd q z0
/-- from where the longest can still be had -/
def UsfP (A : JA) (h : List Int) (st L : Nat) (t : JSg) (V : Nat) : Prop := (0 ≤ t 103 (4096 + V) ∧ t 103 (4096 + V) < 256) ∧ ∀ p, tbb t (4096 + V) p = true ↔ ∃ k, rch A h st k V p ∧ can A h (L - k) V p
theorem e_markUseful {L : Nat} (hn : 1000000 < n) (hI : WfI A) (hh : Hnd A h) (hB : ChB A h s) (hs : st < 8) (hS : SprP A h st s) (h6 : s 104 6 = (L : Nat)) (hL : isLg A h 0 st L) : Ret (f_Chn_markUseful n s) (fun t => Agr (fun a j => a = 103 ∧ 4096 ≤ j) s t ∧ ∀ V, V < 2 ^ h.length → UsfP A h st L t V) := by
  have l12 := hh.1
  have p12 := pw12 l12
  have p0 := Nat.two_pow_pos h.length
  have kL : ∀ k V p, rch A h st k V p → k ≤ L := by
    intro k V p r
    have := rch_can k V p 0 r trivial
    rcases Nat.lt_or_ge L k with g | g
    · exact absurd (can_mo (k - (L + 1)) (by rw [show L + 1 + (k - (L + 1)) = k by omega]; exact this)) hL.2
    · exact g
  unfold f_Chn_markUseful
  rw [hB.2.1, full_e (by omega), wi (by omega) (by omega)]
  unfold SprP at hS
  generalize hN : 2 ^ h.length = N at *
  refine rt_lt ?_
  refine rt_w2 (I := fun (x : Int) (u : JSg) => ∃ U : Nat, x = (U : Int) - 1 ∧ U ≤ N ∧ Agr (fun a j => a = 103 ∧ 4096 ≤ j) s u ∧ ∀ V, U ≤ V → V < N → UsfP A h st L u V) (μ := fun (x : Int) (u : JSg) => (x + 1).toNat) ?_ n _ _ ⟨N, rfl, by omega, ag_refl, fun V h1 h2 => by omega⟩ (by omega)
  rintro x u ⟨U, rfl, hU, ua, uu⟩ rc hrc
  refine rt_ite (fun g => ?_) (fun g => ?_)
  · exact rt_some ⟨ua, fun V hV => uu V (by omega) hV⟩
  · obtain ⟨W, rfl⟩ : ∃ W, U = W + 1 := ⟨U - 1, by omega⟩
    rw [show ((W + 1 : Nat) : Int) - 1 = (W : Int) by omega, bc_e (by omega), b1_s]
    refine rt_lt ?_
    have u6 : u 104 6 = (L : Nat) := (ua 104 6 (by omega)).trans h6
    have sW : u 103 W = s 103 W := ua 103 W (by omega)
    obtain ⟨⟨t0, t1⟩, t2⟩ := hS W (by omega)
    rw [j1_s, u6, wi (x := 4096 + (W : Int)) (by omega) (by omega), show ((4096 : Int) + (W : Int)).toNat = 4096 + W by omega, Int.toNat_natCast, sW]
    /- the first word -/
    have start : ∀ u8 : Int, u8 = (if pcn 12 W = L then s 103 W else 0) → Ret (chk (0 ≤ (4096 : Int) + W ∧ (4096 : Int) + W < 32768) <| lt_ (sp u 103 (4096 + W) u8) fun s9 => lt_ 0 fun v10 => wh2 n (fun rc11 (x12 : Int) (s13 : JSg) => jn0 (lt_ (w32 ((W : Int) + (-1))) fun v15 => rc v15 s13) fun j14 => if x12 < (s13 104 4) then (if ((pcn 12 W : Nat) : Int) < (s13 104 6) then (chk (0 ≤ (W : Int) ∧ (W : Int) < 32768) <| if (cmpL (s13 103 W) 0) = 0 then (j14) else (jn1 (fun  (s17 : JSg) => lt_ (w32 (x12 + 1)) fun v18 => rc11 v18 s17) fun j16 => if (an32 (sr32 (W : Int) x12) 1) = 0 then (chk (0 ≤ (4096 : Int) + W ∧ (4096 : Int) + W < 32768) <| chk (0 ≤ (W : Int) ∧ (W : Int) < 32768) <| bd1 (f_Chn_usefulBy (W : Int) x12 s13) fun r19 => chk (0 ≤ (4096 : Int) + W ∧ (4096 : Int) + W < 32768) <| lt_ (sp s13 103 (4096 + W) (or64 (s13 103 (4096 + W)) (an64 (s13 103 W) r19))) fun s20 => j16 s20) else (j16 s13))) else (j14)) else (j14)) v10 s9) (fun t => Agr (fun a j => a = 103 ∧ 4096 ≤ j) s t ∧ ∀ V, V < N → UsfP A h st L t V) := by
      intro u8 h8
      refine rt_chk (by omega) (rt_lt (rt_lt ?_))
      have fin : ∀ v : JSg, Agr (fun a j => a = 103 ∧ 4096 ≤ j) s v → (∀ V, W + 1 ≤ V → V < N → UsfP A h st L v V) → UsfP A h st L v W → Ret (rc (w32 ((W : Int) + (-1))) v) (fun t => Agr (fun a j => a = 103 ∧ 4096 ≤ j) s t ∧ ∀ V, V < N → UsfP A h st L t V) := by
        intro v v1 v2 v3
        rw [wi (by omega) (by omega)]
        refine hrc _ _ ⟨W, by omega, by omega, v1, fun V w1 w2 => ?_⟩ (by omega)
        by_cases e : V = W
        · rw [e]; exact v3
        · exact v2 V (by omega) w2
      refine rt_w2 (I := fun (y : Int) (v : JSg) => ∃ m : Nat, y = m ∧ m ≤ h.length ∧ Agr (fun a j => a = 103 ∧ 4096 ≤ j) s v ∧ (∀ V, W + 1 ≤ V → V < N → UsfP A h st L v V) ∧ (0 ≤ v 103 (4096 + W) ∧ v 103 (4096 + W) < 256) ∧ ∀ p, tbb v (4096 + W) p = true ↔ (pcn 12 W = L ∧ tbb s W p = true) ∨ (pcn 12 W < L ∧ tbb s W p = true ∧ ∃ i d, i < m ∧ edg A h W p i d ∧ can A h (L - (pcn 12 W + 1)) (ins W i) (pN A h i (1 - d)))) (μ := fun (y : Int) (v : JSg) => (h.length - y).toNat) ?_ n _ _ ⟨0, rfl, by omega, ag_sp ua (by omega), fun V w1 w2 => ?_, ?_, fun p => ?_⟩ (by omega)
      · rintro y v ⟨m, rfl, hm, va, vu, vb, vp⟩ rc2 hrc2
        have hBv : ChB A h v := ChB_ag hB (fun a j hq => va a j (by omega))
        have v6 : v 104 6 = (L : Nat) := (va 104 6 (by omega)).trans h6
        have vW : v 103 W = s 103 W := va 103 W (by omega)
        have done : (m = h.length ∨ ¬ pcn 12 W < L ∨ s 103 W = 0) → Ret (rc (w32 ((W : Int) + (-1))) v) (fun t => Agr (fun a j => a = 103 ∧ 4096 ≤ j) s t ∧ ∀ V, V < N → UsfP A h st L t V) := by
          intro hd
          refine fin v va vu ⟨vb, fun p => (vp p).trans ?_⟩
          constructor
          · rintro (⟨c1, c2⟩ | ⟨c1, c2, i, d, c3, c4, c5⟩)
            · obtain ⟨k, r⟩ := (t2 p).mp c2
              have := (rch_s _ _ _ r).2.2 l12
              exact ⟨k, r, by rw [show L - k = 0 by omega]; trivial⟩
            · obtain ⟨k, r⟩ := (t2 p).mp c2
              have := (rch_s _ _ _ r).2.2 l12
              refine ⟨k, r, ?_⟩
              rw [show L - k = (L - (pcn 12 W + 1)) + 1 by omega]
              exact ⟨i, d, c4, c5⟩
          · rintro ⟨k, r, c⟩
            have pk := (rch_s _ _ _ r).2.2 l12
            have kl := kL _ _ _ r
            have tb := (t2 p).mpr ⟨k, r⟩
            by_cases e : pcn 12 W = L
            · exact Or.inl ⟨e, tb⟩
            · rw [show L - k = (L - (pcn 12 W + 1)) + 1 by omega] at c
              obtain ⟨i, d, c4, c5⟩ := c
              refine Or.inr ⟨by omega, tb, i, d, ?_, c4, c5⟩
              rcases hd with hd | hd | hd
              · rw [hd]; exact c4.1
              · omega
              · unfold tbb at tb
                rw [hd] at tb
                simp at tb
        rw [hBv.2.1, v6, vW, j0_s]
        refine rt_ite (fun g1 => ?_) (fun g1 => rt_lt (done (Or.inl (by omega))))
        refine rt_ite (fun g2 => ?_) (fun g2 => rt_lt (done (Or.inr (Or.inl (by omega)))))
        refine rt_chk (by omega) (rt_ite (fun g3 => rt_lt (done (Or.inr (Or.inr (cmpL_0.mp g3))))) (fun g3 => ?_))
        rw [j1_s, has_n (by omega) (by omega), wi (x := (m : Int) + 1) (by omega) (by omega)]
        simp only [lt_u]
        by_cases hb : W.testBit m = true
        · rw [if_pos hb, if_neg (by decide)]
          refine hrc2 _ _ ⟨m + 1, by push_cast; rfl, by omega, va, vu, vb, fun p => (vp p).trans ?_⟩ (by omega)
          constructor
          · rintro (c | ⟨c1, c2, i, d, c3, c4⟩)
            · exact Or.inl c
            · exact Or.inr ⟨c1, c2, i, d, by omega, c4⟩
          · rintro (c | ⟨c1, c2, i, d, c3, c4, c5⟩)
            · exact Or.inl c
            · refine Or.inr ⟨c1, c2, i, d, ?_, c4, c5⟩
              by_cases e : i = m
              · have := c4.2.2.1
                rw [e, hb] at this
                cases this
              · omega
        · have hb' : W.testBit m = false := by
            cases c : W.testBit m
            · rfl
            · exact absurd c hb
          rw [if_neg hb, if_pos rfl]
          have hv : ins W m < N := by rw [← hN]; exact ins_lt (by omega) (by omega)
          have hgt := ins_gt hb'
          have uI := vu (ins W m) (by omega) hv
          obtain ⟨G, e1, e2, e3⟩ := e_usefulBy hI hh hBv (by omega) (show m < h.length by omega) uI.1
          rw [e1, b1_s]
          refine rt_chk (by omega) (rt_chk (by omega) (rt_chk (by omega) ?_))
          have cW : s 103 W = ((s 103 W).toNat : Int) ∧ (s 103 W).toNat < 256 := by omega
          obtain ⟨cV1, cV2⟩ := cell_n vb
          have ba : (s 103 W).toNat &&& G < 256 := Nat.lt_of_le_of_lt Nat.and_le_left cW.2
          rw [cW.1, an_n64 (by omega), cV1, or64_n (by omega) (by omega)]
          have bo := or8 cV2 ba
          refine hrc2 _ _ ⟨m + 1, by push_cast; rfl, by omega, ag_sp va (by omega), fun V w1 w2 => ?_, ?_, fun p => ?_⟩ (by omega)
          · have := vu V w1 w2
            unfold UsfP tbb at this ⊢
            rw [sp_nj (show 4096 + V ≠ 4096 + W by omega)]
            exact this
          · rw [sp_eq]; omega
          · unfold tbb at vp ⊢
            rw [sp_eq, Int.toNat_natCast, Nat.testBit_or, Nat.testBit_and, Bool.or_eq_true, Bool.and_eq_true, vp p]
            constructor
            · rintro ((c | ⟨c1, c2, i, d, c3, c4⟩) | ⟨c1, c2⟩)
              · exact Or.inl c
              · exact Or.inr ⟨c1, c2, i, d, by omega, c4⟩
              · obtain ⟨k, r⟩ := (t2 p).mp c1
                have p8 := rch_8 hI hh hs r
                have pk := (rch_s _ _ _ r).2.2 l12
                obtain ⟨d, d1, d2, d3⟩ := (e3 p p8).mp c2
                obtain ⟨k', r', c'⟩ := (uI.2 _).mp d2
                have pk' := (rch_s _ _ _ r').2.2 l12
                rw [pcn_ins hb', if_pos (by omega)] at pk'
                refine Or.inr ⟨by omega, c1, m, d, by omega, ⟨by omega, d1, hb', d3⟩, ?_⟩
                rw [pk']; exact c'
            · rintro (c | ⟨c1, c2, i, d, c3, c4, c5⟩)
              · exact Or.inl (Or.inl c)
              · by_cases e : i = m
                · subst e
                  obtain ⟨k, r⟩ := (t2 p).mp c2
                  have p8 := rch_8 hI hh hs r
                  have pk := (rch_s _ _ _ r).2.2 l12
                  refine Or.inr ⟨c2, (e3 p p8).mpr ⟨d, c4.2.1, (uI.2 _).mpr ⟨k + 1, ⟨W, p, i, d, r, c4, rfl, rfl⟩, ?_⟩, c4.2.2.2⟩⟩
                  rw [show L - (k + 1) = L - (pcn 12 W + 1) by omega]; exact c5
                · exact Or.inl (Or.inr ⟨c1, c2, i, d, by omega, c4, c5⟩)
      · have := uu V w1 w2
        unfold UsfP tbb at this ⊢
        rw [sp_nj (show 4096 + V ≠ 4096 + W by omega)]
        exact this
      · rw [sp_eq, h8]
        split <;> omega
      · unfold tbb
        rw [sp_eq, h8]
        by_cases e : pcn 12 W = L
        · rw [if_pos e]
          constructor
          · intro c; exact Or.inl ⟨e, c⟩
          · rintro (c | ⟨c1, -⟩)
            · exact c.2
            · omega
        · rw [if_neg e]
          constructor
          · intro c; simp at c
          · rintro (c | ⟨-, -, i, d, c3, -⟩)
            · exact absurd c.1 e
            · omega
    refine rt_ite (fun e => ?_) (fun e => ?_)
    · exact rt_chk (by omega) (start _ (by rw [if_pos (by omega)]))
    · exact start _ (by rw [if_neg (by omega)])
end
