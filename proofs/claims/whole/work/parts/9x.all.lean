/-! LAYER 3zar: the shortest ROUND: op_all -/
section
variable {A : JA} {h : List Int} {s t σ : JSg} {n : Nat} {x y : Stt}
theorem e_layAt2 {e : Int} (hI : WfI A) (hW : WfR A) (hR : RowR s 11 A) : ∃ v, f_Row_layerAt 11 4 e s = some v ∧ (A 151 ≠ 0 → v = layA A e) := by
  by_cases g : A 151 = 0
  · refine ⟨s 12 (s 14 0).toNat, ?_, fun q => absurd g q⟩
    have r := hR.2.2.2.2
    have h4 : s 11 4 = 0 := hR.1.trans g
    unfold f_Row_layerAt f_Row_lastAt
    rw [j0_s, if_pos h4, ite_self, b1_s]
    exact ck_p r
  · exact ⟨_, e_Row_layerAt hI hW hR g, fun _ => rfl⟩
def prA (a j : Nat) : Prop := 109 ≤ a ∧ a ≤ 111
theorem e_prepare (hn : 1000000 < n) (hI : WfI A) (hW : WfR A) (hh : H10 A h) (hL : IslR s 4 A) (hR : RowR s 11 A) (h4 : s 107 4 = (h.length : Nat)) (h8 : ∀ j, j < h.length → s 108 j = h.getD j 0) : Ret (f_Rnd_prepare n s) (fun t => Agr prA s t ∧ RB A h t) := by
  have h10 := hh.1
  unfold f_Rnd_prepare
  refine rt_b1 (e_fill (n := n) (p := 109) (N := 6) (v := 0) (σ := s) (by omega) (by omega)) (fun s1 q1 => ?_)
  rw [lt_u]
  refine rt_w2 (I := fun (z : Int) (u : JSg) => ∃ m : Nat, z = m ∧ m ≤ h.length ∧ Agr prA s u ∧ (∀ w, w < 6 → u 109 w = (orW A h w m : Nat)) ∧ ∀ j, j < m → (u 110 (2 * j) = (pN A h j 0 : Nat) ∧ u 110 (2 * j + 1) = (pN A h j 1 : Nat)) ∧ u 111 (2 * j) = ownA A (h.getD j 0) ∧ u 111 (2 * j + 1) = ownA A (h.getD j 0)) (μ := fun (z : Int) (u : JSg) => ((h.length : Int) - z).toNat) ?_ n _ _ ⟨0, rfl, by omega, fun a j hq => by rw [q1, if_neg (fun q => hq (by unfold prA; omega))], fun w hw => by rw [q1, if_pos ⟨rfl, hw⟩]; rfl, fun j hj => absurd hj (Nat.not_lt_zero _)⟩ (by omega)
  rintro z u ⟨m, rfl, hm, ua, u9, ue⟩ rc hrc
  have e4 : u 107 4 = (h.length : Nat) := (ua 107 4 (by unfold prA; omega)).trans h4
  rw [e4]
  refine rt_ite (fun g => ?_) (fun g => ?_)
  · have ml : m < h.length := by omega
    have o := own_6 hI hW hh.2 ml
    have gh := hh.2.2 m ml
    have p0 := pN_lt hI hh.2 ml (show 0 < 2 by decide)
    have p1 := pN_lt hI hh.2 ml (show 1 < 2 by decide)
    have e8 : u 108 m = h.getD m 0 := (ua 108 m (by unfold prA; omega)).trans (h8 m ml)
    have e12 : u 12 (h.getD m 0).toNat = ownA A (h.getD m 0) := (ua 12 _ (by unfold prA; omega)).trans (hR.2.1 _ gh.1 gh.2).1
    have e6 : u 6 (h.getD m 0).toNat = (pN A h m 0 : Nat) := (ua 6 _ (by unfold prA; omega)).trans ((hL.2.2.2.1 _ gh.1 gh.2).1.trans p0.2.symm)
    have e7 : u 7 (h.getD m 0).toNat = (pN A h m 1 : Nat) := (ua 7 _ (by unfold prA; omega)).trans ((hL.2.2.2.1 _ gh.1 gh.2).2.trans p1.2.symm)
    have ol := orW_lt (A := A) (h := h) (w := (ownA A (h.getD m 0)).toNat) m
    have pm : 2 ^ m ≤ 1024 := Nat.pow_le_pow_right (n := 2) (by decide) (show m ≤ 10 by omega)
    have w2 : w32 (2 * (m : Int)) = 2 * (m : Int) := wi (by omega) (by omega)
    have w3 : w32 (2 * (m : Int) + 1) = 2 * (m : Int) + 1 := wi (by omega) (by omega)
    rw [Int.toNat_natCast, e8, lt_u, e12, w2, w3, u9 _ (by omega), ins_e (by omega) (by omega), show (2 * (m : Int)).toNat = 2 * m by omega, show (2 * (m : Int) + 1).toNat = 2 * m + 1 by omega]
    refine rt_chk (by omega) (rt_chk (by omega) (rt_chk (by omega) (rt_chk (by omega) (rt_lt ?_))))
    simp (disch := omega) only [sp_nq, e6]
    refine rt_chk (by omega) (rt_chk (by omega) (rt_lt ?_))
    simp (disch := omega) only [sp_nq, e7]
    refine rt_chk (by omega) (rt_chk (by omega) (rt_lt ?_))
    simp (disch := omega) only [sp_nq, e12]
    refine rt_chk (by omega) (rt_chk (by omega) (rt_lt ?_))
    simp (disch := omega) only [sp_nq, e12]
    refine rt_chk (by omega) (rt_chk (by omega) (rt_lt ?_))
    rw [lt_u, wi (by omega) (by omega)]
    generalize hv : sp (sp (sp (sp (sp u 109 (ownA A (h.getD m 0)).toNat ((ins (orW A h (ownA A (h.getD m 0)).toNat m) m : Nat) : Int)) 110 (2 * m) ((pN A h m 0 : Nat) : Int)) 110 (2 * m + 1) ((pN A h m 1 : Nat) : Int)) 111 (2 * m) (ownA A (h.getD m 0))) 111 (2 * m + 1) (ownA A (h.getD m 0)) = v
    have vg : ∀ a j, a ≠ 109 → a ≠ 110 → a ≠ 111 → v a j = u a j := by
      intro a j g1 g2 g3
      rw [← hv, sp_nq g3, sp_nq g3, sp_nq g2, sp_nq g2, sp_nq g1]
    have v9 : ∀ j, v 109 j = if j = (ownA A (h.getD m 0)).toNat then ((ins (orW A h (ownA A (h.getD m 0)).toNat m) m : Nat) : Int) else u 109 j := by
      intro j
      rw [← hv, sp_nq (by decide), sp_nq (by decide), sp_nq (by decide), sp_nq (by decide), sp_at, if_pos rfl]
    have v10 : ∀ j, v 110 j = if j = 2 * m + 1 then ((pN A h m 1 : Nat) : Int) else if j = 2 * m then ((pN A h m 0 : Nat) : Int) else u 110 j := by
      intro j
      rw [← hv, sp_nq (by decide), sp_nq (by decide), sp_at, if_pos rfl, sp_at, if_pos rfl, sp_nq (by decide)]
    have v11 : ∀ j, v 111 j = if j = 2 * m + 1 then ownA A (h.getD m 0) else if j = 2 * m then ownA A (h.getD m 0) else u 111 j := by
      intro j
      rw [← hv, sp_at, if_pos rfl, sp_at, if_pos rfl, sp_nq (by decide), sp_nq (by decide), sp_nq (by decide)]
    clear hv
    refine hrc _ _ ⟨m + 1, by push_cast; rfl, by omega, fun a j hq => ?_, fun w hw => ?_, fun j hj => ?_⟩ (by omega)
    · unfold prA at hq
      rw [vg a j (by omega) (by omega) (by omega)]
      exact ua a j (by unfold prA; omega)
    · have er : orW A h w (m + 1) = if ownA A (h.getD m 0) = (w : Int) then ins (orW A h w m) m else orW A h w m := rfl
      rw [v9, er]
      by_cases q : w = (ownA A (h.getD m 0)).toNat
      · rw [if_pos q, if_pos (by omega), q]
      · rw [if_neg q, if_neg (by omega)]; exact u9 w hw
    · rw [v10, v10, v11, v11]
      by_cases q : j = m
      · subst q
        rw [if_neg (by omega), if_pos rfl, if_pos rfl, if_neg (by omega), if_pos rfl, if_pos rfl]
        exact ⟨⟨rfl, rfl⟩, rfl, rfl⟩
      · rw [if_neg (by omega), if_neg (by omega), if_neg (by omega), if_neg (by omega), if_neg (by omega), if_neg (by omega), if_neg (by omega), if_neg (by omega)]
        exact ue j (by omega)
  · have em : m = h.length := by omega
    subst em
    have uR : RowR u 11 A := RowR_ag (fun q j hq => ua q j (by unfold prA; omega)) hR
    have uL : IslR u 4 A := IslR_ag (fun q j hq => ua q j (by unfold prA; omega)) hL
    have rAg : ∀ w : JSg, (∀ a j, a ≠ 110 → a ≠ 111 → w a j = u a j) → RowR w 11 A ∧ IslR w 4 A := fun w hw => ⟨RowR_ag (fun q j hq => hw q j (by omega) (by omega)) uR, IslR_ag (fun q j hq => hw q j (by omega) (by omega)) uL⟩
    rw [e_Row_outer hI hW uL uR (by decide) (by decide), b1_s, lt_u]
    generalize hv1 : sp u 110 20 (outA A 0) = v1
    have g1 : ∀ a j, a ≠ 110 → a ≠ 111 → v1 a j = u a j := fun a j q1 q2 => by rw [← hv1, sp_nq q1]
    rw [e_Row_outer hI hW (rAg v1 g1).2 (rAg v1 g1).1 (by decide) (by decide), b1_s, lt_u]
    generalize hv2 : sp v1 110 21 (outA A 1) = v2
    have g2 : ∀ a j, a ≠ 110 → a ≠ 111 → v2 a j = u a j := fun a j q1 q2 => by rw [← hv2, sp_nq q1]; exact g1 a j q1 q2
    obtain ⟨l0, k1, k2⟩ := e_layAt2 (e := 0) hI hW (rAg v2 g2).1
    rw [k1, b1_s, lt_u]
    generalize hv3 : sp v2 111 20 l0 = v3
    have g3 : ∀ a j, a ≠ 110 → a ≠ 111 → v3 a j = u a j := fun a j q1 q2 => by rw [← hv3, sp_nq q2]; exact g2 a j q1 q2
    obtain ⟨l1, k3, k4⟩ := e_layAt2 (e := 1) hI hW (rAg v3 g3).1
    rw [k3, b1_s, lt_u]
    generalize hv4 : sp v3 111 21 l1 = v4
    have g4 : ∀ a j, a ≠ 110 → a ≠ 111 → v4 a j = u a j := fun a j q1 q2 => by rw [← hv4, sp_nq q2]; exact g3 a j q1 q2
    have e110 : ∀ j, v4 110 j = if j = 21 then outA A 1 else if j = 20 then outA A 0 else u 110 j := by
      intro j
      rw [← hv4, sp_nq (by decide), ← hv3, sp_nq (by decide), ← hv2, sp_at, if_pos rfl, ← hv1, sp_at, if_pos rfl]
    have e111 : ∀ j, v4 111 j = if j = 21 then l1 else if j = 20 then l0 else u 111 j := by
      intro j
      rw [← hv4, sp_at, if_pos rfl, ← hv3, sp_at, if_pos rfl, ← hv2, sp_nq (by decide), ← hv1, sp_nq (by decide)]
    refine rt_some ⟨fun a j hq => ?_, (rAg v4 g4).2, ?_, fun j hj => ?_, fun w hw => ?_, fun j hj => ?_, fun a0 => ?_⟩
    · rw [g4 a j (fun q => hq (by unfold prA; omega)) (fun q => hq (by unfold prA; omega))]
      exact ua a j hq
    · exact (g4 107 4 (by decide) (by decide)).trans e4
    · exact (g4 108 j (by decide) (by decide)).trans ((ua 108 j (by unfold prA; omega)).trans (h8 j hj))
    · exact (g4 109 w (by decide) (by decide)).trans (u9 w hw)
    · rw [e110, e110, e111, e111, if_neg (by omega), if_neg (by omega), if_neg (by omega), if_neg (by omega), if_neg (by omega), if_neg (by omega), if_neg (by omega), if_neg (by omega)]
      exact ue j hj
    · rw [e110, e110, e111, e111]
      exact ⟨rfl, rfl, k2 a0, k4 a0⟩
def waA (a j : Nat) : Prop := a = 103 ∨ (a = 107 ∧ (j = 4 ∨ j = 9 ∨ j = 10)) ∨ (108 ≤ a ∧ a ≤ 112)
def wbA (a j : Nat) : Prop := waA a j ∨ (a = 107 ∧ j = 12) ∨ a = 113
theorem e_findFewest (hn : 1000000 < n) (hI : WfI A) (hW : WfR A) (hL : IslR σ 4 A) (hR : RowR σ 11 A) : Ret (f_Rnd_findFewest n σ) (fun z => (z.1 = -1 ∧ Agr waA σ z.2 ∧ (10 < (hndL A).length ∨ (hn10 A ∧ ∀ w, ¬ rc_ A (hndL A) w x0A))) ∨ (hn10 A ∧ Agr wbA σ z.2 ∧ ∃ (v : Nat) (l : List Nat), z.1 = v ∧ z.2 107 12 = v ∧ isFw A (hndL A) x0A v ∧ wkA A (hndL A) v x0A l ∧ PthP (hndL A) z.2 113 l)) := by
  unfold f_Rnd_findFewest
  refine rt_b2 (e_Row_gather (p := 11) (ip := 4) (q := 108) (Nq := 10) hn hI hL hR (by decide) (by decide)) (fun r s2 hz => ?_)
  obtain ⟨za, zb⟩ := hz
  have za : Agr (fun a _ => a = 108) σ s2 := za
  rw [lt_u, sp_eq]
  have ag3 : Agr waA σ (sp s2 107 4 r) := ag_sp (ag_mono za (fun a j q => Or.inr (Or.inr (by omega)))) (Or.inr (Or.inl ⟨rfl, Or.inl rfl⟩))
  rcases zb with ⟨z1, z2, z3⟩ | ⟨z1, z2⟩
  · have z2 : r = ((hndL A).length : Nat) := z2
    have z3 : ∀ j, j < (hndL A).length → s2 108 j = (hndL A).getD j 0 := z3
    subst z2
    have z10 : hn10 A := z1
    have hh : H10 A (hndL A) := ⟨z10, hnd_ok hI (by show (hndL A).length ≤ 12; omega)⟩
    generalize hs3 : sp s2 107 4 (((hndL A).length : Nat) : Int) = s3 at ag3
    have q4 : s3 107 4 = ((hndL A).length : Nat) := by rw [← hs3, sp_eq]
    have q8 : ∀ j, j < (hndL A).length → s3 108 j = (hndL A).getD j 0 := fun j hj => by rw [← hs3, sp_nq (by decide)]; exact z3 j hj
    clear hs3 z3 za z1
    generalize hndL A = h at *
    have h10 := hh.1
    have p : 2 ^ h.length ≤ 1024 := Nat.pow_le_pow_right (n := 2) (by decide) h10
    have ho : ∀ j, j < h.length → 0 ≤ ownA A (h.getD j 0) ∧ ownA A (h.getD j 0) < 6 := fun j hj => (own_6 hI hW hh.2 hj).2
    have L3 : IslR s3 4 A := IslR_ag (fun q j hq => ag3 q j (by unfold waA; omega)) hL
    have R3 : RowR s3 11 A := RowR_ag (fun q j hq => ag3 q j (by unfold waA; omega)) hR
    rw [if_neg (show ¬ ((h.length : Nat) : Int) = -1 by omega)]
    refine rt_b1 (e_prepare hn hI hW hh L3 R3 q4 q8) (fun s4 h4 => ?_)
    obtain ⟨k1, k2⟩ := h4
    have ag4 : Agr waA σ s4 := ag_tr ag3 (ag_mono k1 (fun a j q => by unfold prA at q; unfold waA; omega))
    have e11 : s4 11 4 = A 151 := (ag4 11 4 (by unfold waA; omega)).trans hR.1
    rw [e11]
    refine rt_c1 (fun v => v = ((wl A 20 : Nat) : Int)) (fun v hv => ?_) (fun j hj => ?_)
    · subst hv
      rw [lt_u]
      refine rt_c1 (fun v => v = ((wr A 20 : Nat) : Int)) (fun v hv => ?_) (fun j hj => ?_)
      · subst hv
        rw [lt_u, show (0 : Int) = ((0 : Nat) : Int) from rfl, e_missing hn hh k2, b1_s]
        refine rt_lt ?_
        have c6 := cntM_le (A := A) (h := h) (U := 0) 6
        refine rt_w1 (I := fun (u : JSg) => ∃ m : Nat, u 107 9 = m ∧ m ≤ 11 ∧ Agr waA σ u ∧ RB A h u ∧ ∀ k, k < m → ¬ rc_ A h k x0A) (μ := fun (u : JSg) => (12 - u 107 9).toNat) ?_ n _ ⟨cntM A h 0 6, sp_eq, by omega, ag_sp ag4 (Or.inr (Or.inl ⟨rfl, Or.inr (Or.inl rfl)⟩)), RB_ag k2 (fun a j hq => ?_), fun k hk q => ?_⟩ (by rw [sp_eq]; omega)
        · rintro u ⟨m, um, m11, ua, uB, uN⟩ rc hrc
          rw [um, uB.2.1]
          refine rt_ite (fun g => ?_) (fun g => ?_)
          · refine rt_some (Or.inl ⟨rfl, ua, Or.inr ⟨z10, fun w q => ?_⟩⟩)
            exact uN _ (by omega) (rc_fit w x0A q)
          · rw [lt_u, sp_nj (show (4 : Nat) ≠ 10 by decide), uB.2.1, full_e (by omega)]
            generalize hv : sp u 107 10 ((0 : Nat) : Int) = v
            have vg : ∀ a j, ¬ (a = 107 ∧ j = 10) → v a j = u a j := by
              intro a j q
              rw [← hv, sp_at]
              by_cases q1 : a = 107
              · rw [if_pos q1, if_neg (fun q2 => q ⟨q1, q2⟩)]
              · rw [if_neg q1]
            have v0 : v 107 10 = 0 := by rw [← hv, sp_eq]; rfl
            clear hv
            rw [e_placeOf (l := 0) (r := 0) p (by decide) (by decide), b1_s]
            have e6 : sr32 ((2 ^ h.length * 1024 + 0 * 32 + 0 : Nat) : Int) 6 = ((2 ^ h.length * 16 : Nat) : Int) := by
              have := sr_n (a := 2 ^ h.length * 1024 + 0 * 32 + 0) (k := 6) (by omega) (by omega)
              rw [Nat.shiftRight_eq_div_pow] at this
              rw [show (6 : Int) = ((6 : Nat) : Int) from rfl, this]
              congr 1
              omega
            rw [e6]
            refine rt_b1 (e_fillR (n := n) (p := 103) (N := 32768) (hi := ((2 ^ h.length * 16 : Nat) : Int)) (v := 0) (s := v) hn (by omega) (by omega)) (fun w hw => ?_)
            have wg : ∀ a j, a ≠ 103 → w a j = v a j := fun a j q => by rw [hw, if_neg (fun q2 => q q2.1)]
            have wB : RB A h w := RB_ag uB (fun a j hq => (wg a j (by omega)).trans (vg a j (by omega)))
            have w9 : w 107 9 = (m : Nat) := (wg 107 9 (by decide)).trans ((vg 107 9 (by omega)).trans um)
            have wT : TI A h w m (pcn h.length x0A.1) := by
              intro y hy he _
              exfalso
              have dy := cdM_lt h10 hy
              have y2 := wl_lt (A := A) dy.2.1
              have y3 := wr_lt (A := A) dy.2.2.1
              unfold En at he
              rw [hw, if_pos ⟨rfl, by unfold cdW; omega⟩, b64_0] at he
              cases he
            have ag5 : Agr waA σ w := fun a j hq => (wg a j (fun q => hq (Or.inl q))).trans ((vg a j (fun q => hq (Or.inr (Or.inl ⟨q.1, Or.inr (Or.inr q.2)⟩)))).trans (ua a j hq))
            have p0 : pcn h.length x0A.1 = 0 := pcn_0 _
            have se := e_search (n := n) hn hI hW hh m11 42 10 x0A w (by omega) wB w9 x0_rdy wT
            rw [p0] at se
            refine rt_b2 (o := f_Rnd_search n ((0 : Nat) : Int) ((wl A 20 : Nat) : Int) ((wr A 20 : Nat) : Int) ((0 : Nat) : Int) w) se (fun r t ht => ?_)
            obtain ⟨t1, t2⟩ := ht
            have t1 : Agr (seA 0) w t := t1
            have ag6 : Agr waA σ t := ag_tr ag5 (ag_mono t1 (fun a j q => by unfold seA at q; unfold waA; omega))
            have t9 : t 107 9 = (m : Nat) := (t1 107 9 (by unfold seA; omega)).trans w9
            rcases t2 with ⟨t2, l, t3, t4⟩ | ⟨t2, t3, t4, t5, t6⟩
            · have t2 : r = 1 := t2
              rw [t2, if_neg (by decide), t9, lt_u, lt_u, acp_ne (show (107 : Nat) ≠ 113 by decide), sp_eq]
              have rm := wk_rc _ _ _ t3
              rw [Nat.sub_zero] at t3 rm
              have fw : isFw A h x0A m := ⟨rm, uN⟩
              have ll := wk_l m x0A l fw t3
              refine rt_some (Or.inr ⟨z10, fun a j hq => ?_, m, l, rfl, ?_, fw, t3, fun j hj => ?_⟩)
              · unfold wbA at hq
                dsimp only
                rw [acp_ne (fun q => hq (Or.inr (Or.inr q))), sp_at]
                by_cases q1 : a = 107
                · rw [if_pos q1, if_neg (fun q2 => hq (Or.inr (Or.inl ⟨q1, q2⟩)))]
                  exact ag6 a j (fun q => hq (Or.inl q))
                · rw [if_neg q1]
                  exact ag6 a j (fun q => hq (Or.inl q))
              · dsimp only
                rw [acp_ne (show (107 : Nat) ≠ 113 by decide), sp_eq]
              · dsimp only
                have m10 : m ≤ 10 := by omega
                rw [acp_z (by omega), sp_nq (show (112 : Nat) ≠ 107 by decide)]
                have := t4 j hj
                rw [Nat.zero_add] at this
                exact this
            · have t2 : r = 0 := t2
              have t3 : Fl A h m (t 107 10) x0A := t3
              obtain ⟨f1, f2⟩ := t3
              rw [p0, Nat.sub_zero] at f1
              rw [t2, if_pos (show (0 : Int) = ((0 : Nat) : Int) from rfl)]
              refine rt_ite (fun g2 => ?_) (fun g2 => ?_)
              · exact rt_some (Or.inl ⟨rfl, ag6, Or.inr ⟨z10, f2 g2⟩⟩)
              · rw [t9, lt_u, wi (by omega) (by omega)]
                refine hrc _ ⟨m + 1, by rw [sp_eq]; push_cast; rfl, by omega, ag_sp ag6 (Or.inr (Or.inl ⟨rfl, Or.inr (Or.inl rfl)⟩)), RB_ag wB (fun a j hq => ?_), fun k hk q => ?_⟩ ?_
                · rw [sp_at]
                  by_cases q1 : a = 107
                  · rw [if_pos q1, if_neg (by omega)]; exact t1 a j (by unfold seA; omega)
                  · rw [if_neg q1]; exact t1 a j (by unfold seA; omega)
                · by_cases q1 : k = m
                  · rw [q1] at q; exact f1 q
                  · exact uN k (by omega) q
                · rw [sp_eq, um]; omega
        · rw [sp_at]
          by_cases q1 : a = 107
          · rw [if_pos q1, if_neg (by omega)]
          · rw [if_neg q1]
        · have := rc_mis ho k x0A q
          unfold x0A at this
          dsimp only at this
          omega
      · unfold wr at hj
        rw [if_pos rfl] at hj
        refine rt_ite (fun g => hj _ (by rw [if_pos g]; rfl)) (fun g => hj _ (by rw [if_neg g]; rfl))
    · unfold wl at hj
      rw [if_pos rfl] at hj
      refine rt_ite (fun g => hj _ (by rw [if_pos g]; rfl)) (fun g => hj _ (by rw [if_neg g]; rfl))
  · have z2 : r = -1 := z2
    subst z2
    rw [if_pos rfl]
    exact rt_some (Or.inl ⟨rfl, ag3, Or.inl z1⟩)
theorem wa_ok {a j : Nat} (q : wbA a j ∨ mbA a j) : lsC a j ∨ scr a j := by
  rcases q with ((rfl | ⟨rfl, q⟩ | q) | ⟨rfl, rfl⟩ | rfl) | ((⟨rfl, q⟩ | rfl | rfl) | ⟨rfl, rfl⟩ | rfl)
  · right; unfold scr; omega
  · right; unfold scr; omega
  · right; unfold scr; omega
  · left; unfold lsC; omega
  · left; unfold lsC; omega
  · right; unfold scr; omega
  · right; unfold scr; omega
  · right; unfold scr; omega
  · left; unfold lsC; omega
  · left; unfold lsC; omega
theorem wa_sc {a j : Nat} (q : waA a j ∨ maA a j) : scr a j := by
  rcases q with (rfl | ⟨rfl, q⟩ | q) | (⟨rfl, q⟩ | rfl | rfl)
  · unfold scr; omega
  · unfold scr; omega
  · unfold scr; omega
  · unfold scr; omega
  · unfold scr; omega
  · unfold scr; omega
theorem op_all : Op_all Inv := by
  intro σ H
  have hI := in_I H
  have hW := in_W H
  obtain ⟨⟨r, σ1⟩, e1, e2⟩ := e_findFewest (n := NN) hNN hI hW (in_L H) (in_R H)
  have w1 : f_W_all NN σ = some (r, σ1) := by
    unfold f_W_all
    rw [e1, b2_s]
  have ag : Agr wbA σ σ1 := by
    rcases e2 with ⟨-, g, -⟩ | ⟨-, g, -⟩
    · exact ag_mono g (fun a j q => Or.inl q)
    · exact g
  have A1 : σ1 181 = σ 181 := funext fun j => ag 181 j (by unfold wbA waA; omega)
  obtain ⟨⟨r2, σ2⟩, f1, f2⟩ := e_M_all (σ := σ1) hNN (by rw [A1]; exact hI) (by rw [A1]; exact hW)
  rw [A1] at f2
  rcases e2 with ⟨e4, e5, e3⟩ | ⟨e3, -, v, l, e4, e5, e6, e7, e8⟩
  · rcases f2 with ⟨f4, f5, -⟩ | ⟨f3, -, v, l, -, -, f6, -⟩
    · have e4 : r = -1 := e4
      have f4 : r2 = -1 := f4
      have e5 : Agr waA σ σ1 := e5
      have f5 : Agr maA σ1 σ2 := f5
      refine ⟨-1, σ1, σ2, by rw [w1, e4], by rw [f1, f4], inv_ag (fun a j hq => ?_) H⟩
      exact (f5 a j (fun q => hq (wa_sc (Or.inr q)))).trans (e5 a j (fun q => hq (wa_sc (Or.inl q))))
    · rcases e3 with e3 | ⟨-, e3⟩
      · have : (hndL (σ 181)).length ≤ 10 := f3
        omega
      · exact absurd f6.1 (e3 v)
  · rcases f2 with ⟨-, -, f3⟩ | ⟨f3, g, v', l', f4, f5, f6, f7, f8, f9⟩
    · rcases f3 with f3 | ⟨-, f3⟩
      · have : (hndL (σ 181)).length ≤ 10 := e3
        omega
      · exact absurd e6.1 (f3 v)
    · have := fw_u e6 f6
      subst this
      have := wk_u _ _ _ _ e7 f7
      subst this
      have e4 : r = (v : Int) := e4
      have f4 : r2 = (v : Int) := f4
      have ll := wk_l _ _ _ e6 e7
      have g : Agr mbA σ1 σ2 := g
      have e5 : σ1 107 12 = (v : Int) := e5
      have f5 : σ2 179 32 = (v : Int) := f5
      have e8 : PthP (hndL (σ 181)) σ1 113 l := e8
      have f8 : PthP (hndL (σ 181)) σ2 194 l := f8
      have all : ∀ a j, ¬ (wbA a j ∨ mbA a j) → σ2 a j = σ a j := fun a j hq => (g a j (fun q => hq (Or.inr q))).trans (ag a j (fun q => hq (Or.inl q)))
      refine ⟨(v : Int), σ1, σ2, by rw [w1, e4], by rw [f1, f4], inv_lst H (fun a j hq => all a j (fun q => hq (wa_ok q))) ?_⟩
      obtain ⟨z1, z2, z3, z4, z5, z6⟩ := in_Z H
      unfold wbA waA mbA maA at all
      refine ⟨?_, ?_, ⟨?_, ?_, fun i i0 i1 => ?_⟩, ?_, ?_, ?_⟩
      · rw [all 2 12 (by omega), all 179 10 (by omega)]; exact z1
      · have q106 : σ2 106 = σ 106 := funext fun j => all 106 j (by omega)
        have q191 : σ2 191 = σ 191 := funext fun j => all 191 j (by omega)
        rw [q106, q191, all 104 6 (by omega), all 179 28 (by omega)]; exact z2
      · rw [f5, g 107 12 (by unfold mbA maA; omega), e5]
      · rw [f5]; omega
      · rw [f5] at i1
        rw [f8 i.toNat (by omega), g 113 _ (by unfold mbA maA; omega), e8 i.toNat (by omega)]
      · rw [all 114 7 (by omega), all 179 36 (by omega)]; exact z4
      · have q201 : σ2 201 = σ 201 := funext fun j => all 201 j (by omega)
        rw [q201, all 121 2 (by omega), all 121 4 (by omega), all 121 5 (by omega), all 121 6 (by omega)]; exact z5
      · have q122 : σ2 122 = σ 122 := funext fun j => all 122 j (by omega)
        have q196 : σ2 196 = σ 196 := funext fun j => all 196 j (by omega)
        rw [q122, q196, all 0 18 (by omega), all 179 39 (by omega)]; exact z6
end
