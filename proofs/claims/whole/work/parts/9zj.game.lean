/-! LAYER 3zb4: the GAME of two: the class -/
section
variable {A : JA} {h : List Int} {a b : Int} {x y : Stt} {t : Nat} {s σ : JSg} {n : Nat}
def wgC (c j : Nat) : Prop := gaC c j ∨ c = 103 ∨ (c = 114 ∧ j = 7)
theorem cpl_0 {N : Nat} : cplG N 0 = 2 ^ N - 1 := Nat.xor_zero _
theorem e_judge (hn : 1000000 < n) (hI : WfI A) (hW : WfR A) (ha : 0 ≤ a) (hb : 0 ≤ b) (hab : a ≠ b) (h0 : A 151 ≠ 0) (hL : IslR s 4 A) (hR : RowR s 11 A) : Ret (f_Mat_judge n a b s) (fun z => (z.1 = -2 ∧ 10 < (gmL A a b).length ∧ Agr gaC s z.2) ∨ ((gmL A a b).length ≤ 10 ∧ Agr wgC s z.2 ∧ z.1 = VV A (gmL A a b) a b (x0G A) 0 ∧ FsP A (gmL A a b) a b (z.2 114 7))) := by
  unfold f_Mat_judge
  refine rt_b2 (e_gatherM hn hI ha hb hL hR) (fun r s2 hz => ?_)
  obtain ⟨g1, g2⟩ := hz
  have g1 : Agr gaC s s2 := g1
  rcases g2 with ⟨g2, g3⟩ | ⟨g2, g3, g4⟩
  · have g2 : r = 0 := g2
    rw [if_pos g2]
    exact rt_some (Or.inl ⟨rfl, g3, g1⟩)
  · have g2 : r = 1 := g2
    have g4 : WG A (gmL A a b) a b s2 := g4
    rw [g2, if_neg (show ¬ (1 : Int) = 0 by decide), lt_u]
    have hh := gml_ok (a := a) (b := b) hI g3
    have ho : ∀ i, i < (gmL A a b).length → ownA A ((gmL A a b).getD i 0) = a ∨ ownA A ((gmL A a b).getD i 0) = b := fun i hi => gml_own hI hi
    generalize gmL A a b = h at *
    have h10 := hh.1
    have p : 2 ^ h.length ≤ 1024 := Nat.pow_le_pow_right (n := 2) (by decide) h10
    have p1 := Nat.two_pow_pos h.length
    generalize hv : sp s2 114 7 (-1) = v
    have v7 : v 114 7 = -1 := by rw [← hv, sp_eq]
    have vg : ∀ c j, ¬ (c = 114 ∧ j = 7) → v c j = s2 c j := by
      intro c j q
      rw [← hv, sp_at]
      by_cases q1 : c = 114
      · rw [if_pos q1, if_neg (fun q2 => q ⟨q1, q2⟩)]
      · rw [if_neg q1]
    clear hv
    have vW : WG A h a b v := WG_ag g4 (fun c j hq => vg c j (by omega))
    have vA : Agr wgC s v := fun c j hq => (vg c j (fun q => hq (Or.inr (Or.inr q)))).trans (g1 c j (fun q => hq (Or.inl q)))
    have vL : IslR v 4 A := vW.1
    have vR : RowR v 11 A := RowR_ag (fun q j hq => vA q j (by unfold wgC gaC; omega)) hR
    obtain ⟨x0r, x0l, x0rr⟩ := x0G_rd (h := h) hI hW h0
    have e4 : sl32 ((2 ^ h.length : Nat) : Int) 2 = ((2 ^ h.length * 4 : Nat) : Int) := by
      have := sl_n (a := 2 ^ h.length) (k := 2) (by rw [Nat.shiftLeft_eq]; omega) (by omega)
      rw [Nat.shiftLeft_eq] at this
      exact this
    rw [vW.2.1, full_e (by omega), e4, wi (by omega) (by omega), show ((2 ^ h.length : Nat) : Int) - 1 = ((cplG h.length 0 : Nat) : Int) by rw [cpl_0]; omega, lt_u, e_Row_outer hI hW vL vR (by decide) (by decide), b1_s, lt_u, e_Row_outer hI hW vL vR (by decide) (by decide), b1_s, lt_u, x0l, x0rr]
    refine rt_b1 (e_fillR (n := n) (p := 103) (N := 32768) (hi := ((2 ^ h.length * 4 : Nat) : Int)) (v := 0) (s := v) hn (by omega) (by omega)) (fun w hw => ?_)
    have wg : ∀ c j, c ≠ 103 → w c j = v c j := fun c j q => by rw [hw, if_neg (fun q2 => q q2.1)]
    have wW : WG A h a b w := WG_ag vW (fun c j hq => wg c j (by omega))
    have wA : Agr wgC s w := fun c j hq => (wg c j (fun q => hq (Or.inr (Or.inl q)))).trans (vA c j hq)
    have w7 : w 114 7 = -1 := (wg 114 7 (by decide)).trans v7
    have wT : TG A h a b w := by
      intro y t hy ht
      left
      have cl := cpl_lt hy.1
      have y1 := hy.2.1
      have y2 := hy.2.2
      have k : sW h.length y t / 32 < 2 ^ h.length * 4 := by unfold sW; omega
      unfold Fq
      rw [hw, if_pos ⟨rfl, by omega⟩, b64_0, b64_0]
      rfl
    clear hw wg
    have pn : pcn h.length (x0G A).1 = 0 := pcn_0 _
    obtain ⟨ma1, ma2⟩ := mk_own (A := A) (h := h) (S := 0) h10 p1 ha
    obtain ⟨mb1, mb2⟩ := mk_own (A := A) (h := h) (S := 0) h10 p1 hb
    have full : ∀ w : Int, 0 ≤ w → MkP A h 0 w (orW A h w.toNat h.length) := fun w hw => ⟨orW_lt _, fun i hi => by
      have o := orW_b (A := A) (h := h) (w := w.toNat) (j := i) h.length
      rw [show ((w.toNat : Nat) : Int) = w by omega] at o
      by_cases c : ownA A (h.getD i 0) = w
      · rw [o.mpr ⟨hi, c⟩, decide_eq_true c, Nat.zero_testBit]; rfl
      · rw [b_ff (fun q => c (o.mp q).2), decide_eq_false c, Bool.false_and]⟩
    have fin : FsP A h a b (-1) → Ret (bd2 (f_Mat_value n ((cplG h.length 0 : Nat) : Int) (((x0G A).2.1 : Nat) : Int) (((x0G A).2.2 : Nat) : Int) 0 0 w) fun r11 s12 => some (r11, s12)) (fun z => (z.1 = -2 ∧ 10 < h.length ∧ Agr gaC s z.2) ∨ (h.length ≤ 10 ∧ Agr wgC s z.2 ∧ z.1 = VV A h a b (x0G A) 0 ∧ FsP A h a b (z.2 114 7))) := by
      intro hf
      have P := e_value hn hI hW hh ha hb hab ho 10 9 (x0G A) 0 0 w (by omega) x0r (by decide) wW wT (by omega) (fun _ => by omega)
      refine rt_b2 (o := f_Mat_value n ((cplG h.length 0 : Nat) : Int) (((x0G A).2.1 : Nat) : Int) (((x0G A).2.2 : Nat) : Int) 0 0 w) P (fun r q hq => ?_)
      obtain ⟨q1, q2, q3⟩ := hq
      have q1 : Agr (fun a _ => a = 103) w q := q1
      refine rt_some (Or.inr ⟨g3, ag_tr wA (ag_mono q1 (fun c j z => Or.inr (Or.inl z))), q3, ?_⟩)
      dsimp only
      rw [q1 114 7 (by decide), w7]
      exact hf
    have za := mk_0 (full a ha)
    have zb := mk_0 (full b hb)
    rw [j0_s, wW.2.2.1, wW.2.2.2.1]
    refine rt_ite (fun q => fin (Or.inr ⟨Or.inl (Or.inl (za.mp (by omega))), rfl⟩)) (fun qa => ?_)
    refine rt_ite (fun q => fin (Or.inr ⟨Or.inl (Or.inr (zb.mp (by omega))), rfl⟩)) (fun qb => ?_)
    have na : ¬ ovB A h 0 a = true := fun q => qa (by rw [za.mpr q]; rfl)
    have nb : ¬ ovB A h 0 b = true := fun q => qb (by rw [zb.mpr q]; rfl)
    rw [w_canLay hn hI hh wW x0r (full a ha), b1_s]
    by_cases l1 : lyB A h (x0G A) a = true
    · rw [l1, if_neg (show ¬ bi true = 0 by decide), lt_u, lt_u]
      have V := VV_eq (a := a) (b := b) (t := 0) hI hh.2 x0r
      rw [if_neg (show ¬ ovB A h (x0G A).1 a = true from na), if_neg (show ¬ ovB A h (x0G A).1 b = true from nb), if_pos (show lyB A h (x0G A) (wtG a b 0) = true from l1)] at V
      have s1 : sgT 0 = 1 := rfl
      refine rt_w3 (I := fun (v z : Int) (u : JSg) => ∃ m : Nat, z = m ∧ m ≤ 2 * h.length ∧ v = mxG (gmG A h a b (x0G A) 0) 0 m ∧ Agr wgC s u ∧ WG A h a b u ∧ TG A h a b u ∧ ((∀ c, c < m → gmG A h a b (x0G A) 0 c = none) ∨ ∃ c v', isMv (gmG A h a b (x0G A) 0) 0 m c v' ∧ u 114 7 = codeC h c)) (μ := fun (v z : Int) (u : JSg) => (2 * (h.length : Int) - z).toNat) ?_ n _ _ _ ⟨0, rfl, by omega, rfl, wA, wW, wT, Or.inl (fun c hc => absurd hc (Nat.not_lt_zero _))⟩ (by omega)
      rintro v z u ⟨m, rfl, hm, rfl, ua, uW, uT, ub⟩ rc hrc
      have bd := mx_bd (t := 0) (gm_bd (A := A) (h := h) (a := a) (b := b) (x := x0G A) (t := 0)) m
      have fin2 : mxG (gmG A h a b (x0G A) 0) 0 m = mxG (gmG A h a b (x0G A) 0) 0 (2 * h.length) → (m = 2 * h.length ∨ 1 ≤ mxG (gmG A h a b (x0G A) 0) 0 m) → Ret (some (mxG (gmG A h a b (x0G A) 0) 0 m, u)) (fun z => (z.1 = -2 ∧ 10 < h.length ∧ Agr gaC s z.2) ∨ (h.length ≤ 10 ∧ Agr wgC s z.2 ∧ z.1 = VV A h a b (x0G A) 0 ∧ FsP A h a b (z.2 114 7))) := by
        intro q1 q2
        refine rt_some (Or.inr ⟨g3, ua, ?_, Or.inl ⟨fun z => ?_, l1, ?_⟩⟩)
        · dsimp only
          rw [V, s1, ← q1]; omega
        · rcases z with z | z
          · exact na z
          · exact nb z
        · rcases ub with ub | ⟨c, v', k1, k2⟩
          · exfalso
            obtain ⟨c, y, hc, e⟩ := ly_nx (show lyB A h (x0G A) (wtG a b 0) = true from l1)
            have ge : gmG A h a b (x0G A) 0 c = some (VV A h a b y (1 - 0)) := by
              unfold gmG
              rw [e]
              rfl
            rcases q2 with q2 | q2
            · rw [ub c (by omega)] at ge; cases ge
            · have z : ∀ k, k ≤ m → mxG (gmG A h a b (x0G A) 0) 0 k = -2 := by
                intro k
                induction k with
                | zero => intro _; rfl
                | succ k ih =>
                  intro hk
                  rw [mx_no (ub k (by omega))]
                  exact ih (by omega)
              rw [z m (Nat.le_refl _)] at q2
              omega
          · exact ⟨c, v', ⟨by have := k1.1; omega, k1.2.1, by rw [k1.2.2.1]; exact q1, k1.2.2.2⟩, k2⟩
      rw [uW.2.1, wi (x := 2 * ((h.length : Nat) : Int)) (by omega) (by omega)]
      refine rt_ite (fun g => ?_) (fun g => fin2 (by rw [show m = 2 * h.length by omega]) (Or.inl (by omega)))
      refine rt_ite (fun g2 => ?_) (fun g2 => fin2 ?_ (Or.inr (by omega)))
      · have hi : m / 2 < h.length := by omega
        have ml2 := (full a ha).2 _ hi
        rw [Nat.zero_testBit] at ml2
        have ol := orW_lt (A := A) (h := h) (w := a.toNat) h.length
        refine rt_c2 (fun v u => v = mxG (gmG A h a b (x0G A) 0) 0 (m + 1) ∧ Agr wgC s u ∧ WG A h a b u ∧ TG A h a b u ∧ ((∀ c, c < m + 1 → gmG A h a b (x0G A) 0 c = none) ∨ ∃ c v', isMv (gmG A h a b (x0G A) 0) 0 (m + 1) c v' ∧ u 114 7 = codeC h c)) (fun v u hu => ?_) (fun j hj => ?_)
        · rw [lt_u, wi (by omega) (by omega)]
          exact hrc _ _ _ ⟨m + 1, by push_cast; rfl, by omega, hu⟩ (by omega)
        · have skip : ∀ u' : JSg, Agr (fun a _ => a = 103) u u' → TG A h a b u' → gmG A h a b (x0G A) 0 m = none → Ret (j (mxG (gmG A h a b (x0G A) 0) 0 m) u') (fun z => (z.1 = -2 ∧ 10 < h.length ∧ Agr gaC s z.2) ∨ (h.length ≤ 10 ∧ Agr wgC s z.2 ∧ z.1 = VV A h a b (x0G A) 0 ∧ FsP A h a b (z.2 114 7))) := by
            intro u' u1 u2 q
            refine hj _ _ ⟨(mx_no q).symm, ag_tr ua (ag_mono u1 (fun c j z => Or.inr (Or.inl z))), WG_ag uW (fun c j hq => u1 c j (by omega)), u2, ?_⟩
            rcases ub with ub | ⟨c, v', k1, k2⟩
            · refine Or.inl (fun c hc => ?_)
              by_cases e : c = m
              · rw [e]; exact q
              · exact ub c (by omega)
            · exact Or.inr ⟨c, v', mv_skip k1 q, (u1 114 7 (by decide)).trans k2⟩
          rw [sr1_n (by omega), an1_n (by omega), uW.2.2.1, has_n (by omega) (by omega), ml2]
          by_cases k : ownA A (h.getD (m / 2) 0) = a
          · rw [decide_eq_true k, if_pos (show (true && !false) = true from rfl), if_neg (show ¬ (1 : Int) = 0 by decide)]
            have B := e_bstep (n := n) (gB := (fg_Mat_valueBehind n 63).1) (gV := (fg_Mat_valueBehind n 63).2.1) (gR := (fg_Mat_valueBehind n 63).2.2) (dep := 0) (t := 0) (c := m) hI hh x0r (by decide) uW uT (by omega) (by omega) k (Nat.zero_testBit _) (fun y hy => by
              have r := nx_rd hI hh.2 x0r (show m < 2 * h.length by omega) hy
              exact e_value hn hI hW hh ha hb hab ho 10 8 y 1 1 u (by omega) r.1 (by decide) uW uT (by omega) (fun _ => by omega))
            refine rt_b2 (o := f_Mat_valueBehind n ((cplG h.length 0 : Nat) : Int) (((x0G A).2.1 : Nat) : Int) (((x0G A).2.2 : Nat) : Int) (m : Int) 0 0 u) B (fun r q hq => ?_)
            obtain ⟨q1, q2, q3⟩ := hq
            have q1 : Agr (fun a _ => a = 103) u q := q1
            have q2 : TG A h a b q := q2
            have q3 : r = oG (gmG A h a b (x0G A) 0 m) := q3
            have qW : WG A h a b q := WG_ag uW (fun c j hq => q1 c j (by omega))
            have qA : Agr wgC s q := ag_tr ua (ag_mono q1 (fun c j z => Or.inr (Or.inl z)))
            rw [lt_u]
            cases e : gmG A h a b (x0G A) 0 m with
            | none =>
              rw [e] at q3
              have q3 : r = -2 := q3
              rw [if_neg (show ¬ mxG (gmG A h a b (x0G A) 0) 0 m < r by omega)]
              exact skip q q1 q2 e
            | some vv =>
              rw [e] at q3
              have q3 : r = vv := q3
              subst q3
              have vb := gm_bd m r e
              refine rt_ite (fun g5 => ?_) (fun g5 => ?_)
              · have ci := code_in hI hh.2 hi
                have gh := hh.2.2 _ hi
                have b28 := hI.2.1
                have e1 : w32 (2 * h.getD (m / 2) 0) = 2 * h.getD (m / 2) 0 := wi (by omega) (by omega)
                have e2 : w32 (2 * h.getD (m / 2) 0 + ((m % 2 : Nat) : Int)) = codeC h m := wi (by omega) (by omega)
                rw [lt_u, Int.toNat_natCast, qW.2.2.2.2 _ hi, e1, e2]
                refine rt_chk (by omega) (rt_lt (hj _ _ ⟨?_, ag_sp qA (Or.inr (Or.inr ⟨rfl, rfl⟩)), WG_ag qW (fun c j hq => ?_), fun y t hy ht => ?_, Or.inr ⟨m, r, ?_, sp_eq⟩⟩))
                · rw [mx_so e, s1, Int.max_eq_right (by omega)]; omega
                · rw [sp_at]
                  by_cases z : c = 114
                  · rw [if_pos z, if_neg (by omega)]
                  · rw [if_neg z]
                · have eF : Fq (sp q 114 7 (codeC h m)) (sW h.length y t) = Fq q (sW h.length y t) := by
                    unfold Fq
                    rw [sp_nq (show (103 : Nat) ≠ 114 by decide)]
                  rw [eF]
                  exact q2 y t hy ht
                · rcases ub with ub | ⟨c, v', k1, k2⟩
                  · exact mv_fst vb ub e
                  · have k3 := k1.2.2.1
                    refine mv_new gm_bd k1 e ?_
                    rw [k3, s1]; omega
              · rcases ub with ub | ⟨c, v', k1, k2⟩
                · exfalso
                  have z : ∀ k, k ≤ m → mxG (gmG A h a b (x0G A) 0) 0 k = -2 := by
                    intro k
                    induction k with
                    | zero => intro _; rfl
                    | succ k ih =>
                      intro hk
                      rw [mx_no (ub k (by omega))]
                      exact ih (by omega)
                  rw [z m (Nat.le_refl _)] at g5
                  omega
                · have k3 := k1.2.2.1
                  refine hj _ _ ⟨?_, qA, qW, q2, Or.inr ⟨c, v', mv_keep k1 e ?_, (q1 114 7 (by decide)).trans k2⟩⟩
                  · rw [mx_so e, s1, Int.max_eq_left (by omega)]
                  · rw [k3, s1]; omega
          · rw [decide_eq_false k, if_neg (show ¬ ((false && !false) = true) by decide), if_pos rfl]
            refine skip u (fun _ _ _ => rfl) uT ?_
            unfold gmG nxG
            rw [if_neg (fun q => k q.1)]
            rfl
      · have e1 := mx_end (t := 0) (m := m) (k := 2 * h.length - m) (gm_bd (A := A) (h := h) (a := a) (b := b) (x := x0G A) (t := 0)) (by omega)
        rw [show m + (2 * h.length - m) = 2 * h.length by omega] at e1
        omega
    · rw [b_ff l1, if_pos (show bi false = 0 from rfl)]
      exact fin (Or.inr ⟨Or.inr l1, rfl⟩)
end
