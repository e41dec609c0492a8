/-! LAYER 3za11: dealings, whose -/
section
variable {A : JA} {σ s t : JSg} {n : Nat}
theorem e_sums (hn : 1000000 < n) (hI : WfI A) (hM : WfM A) (hB : DwB A s) : Ret (f_Dlr_sums n s) (fun z => Agr (fun a _ => a = 119) s z.2 ∧ z.1 = (scN (dN A) (WN A) : Nat) ∧ ∀ w, w < WN A → z.2 119 w = (scN (dN A) w : Nat)) := by
  have W6 := w6 hI
  unfold f_Dlr_sums
  refine rt_lt (rt_lt ?_)
  refine rt_w3 (I := fun (x y : Int) (u : JSg) => ∃ m : Nat, x = (scN (dN A) m : Nat) ∧ y = m ∧ m ≤ WN A ∧ Agr (fun a _ => a = 119) s u ∧ ∀ w, w < m → u 119 w = (scN (dN A) w : Nat)) (μ := fun (x y : Int) (u : JSg) => (6 - y).toNat) ?_ n _ _ _ ⟨0, rfl, rfl, by omega, ag_refl, fun w hw => absurd hw (Nat.not_lt_zero _)⟩ (by omega)
  rintro x y u ⟨m, rfl, rfl, hm, ua, uw⟩ rc hrc
  have hBu : DwB A u := DwB_ag hB (fun a j hq => ua a j (by omega))
  have e41 : u 4 1 = ((WN A : Nat) : Int) := hBu.1.1.trans W6.2
  rw [e41]
  refine rt_ite (fun g => ?_) (fun g => ?_)
  · obtain ⟨d1, d2, -, -⟩ := dw_n hI hM hBu (show m < 6 by omega)
    have d8 : ∀ w, w < WN A → dN A w < 8 := fun w hw => (dw_n hI hM hBu (show w < 6 by omega)).2.1
    have sb : scN (dN A) m ≤ 8 ^ m := sc_bb m (by omega) (fun w hw => d8 w (by omega))
    have p8 : 8 ^ m ≤ 8 ^ 6 := Nat.pow_le_pow_right (by decide) (by omega)
    have sb2 : scN (dN A) m ≤ 262144 := by have : 8 ^ 6 = 262144 := rfl; omega
    have mul8 : scN (dN A) m * (dN A m + 1) ≤ 262144 * 8 := Nat.mul_le_mul sb2 (by omega)
    have ec : ((scN (dN A) m : Nat) : Int) * (((dN A m : Nat) : Int) + 1) = ((scN (dN A) m * (dN A m + 1) : Nat) : Int) := by push_cast; rfl
    rw [Int.toNat_natCast, lt_u, sp_nq (show (19 : Nat) ≠ 119 by decide), d1, wi (x := ((dN A m : Nat) : Int) + 1) (by omega) (by omega), ec, wi (x := ((scN (dN A) m * (dN A m + 1) : Nat) : Int)) (by omega) (by omega), wi (x := (m : Int) + 1) (by omega) (by omega)]
    refine rt_chk (by omega) (rt_chk (by omega) (rt_lt (rt_lt (hrc _ _ _ ⟨m + 1, rfl, by push_cast; rfl, by omega, ag_sp ua rfl, fun w hw => ?_⟩ (by omega)))))
    by_cases e : w = m
    · subst e; rw [sp_eq]
    · rw [sp_nj e]; exact uw w (by omega)
  · obtain rfl : m = WN A := by omega
    exact rt_some ⟨ua, rfl, uw⟩
theorem e_giveOneMore {k : Nat} (hn : 1000000 < n) (hI : WfI A) (hM : WfM A) (hB : DwB A s) (hg : ∀ w, w < WN A → s 120 w = (dgN (dN A) k w : Nat)) : Ret (f_Dlr_giveOneMore n s) (fun z => Agr (fun a _ => a = 120) s z.2 ∧ z.1 = (sumN (dgN (dN A) (k + 1)) (WN A) : Nat) ∧ ∀ w, w < WN A → z.2 120 w = (dgN (dN A) (k + 1) w : Nat)) := by
  have W6 := w6 hI
  unfold f_Dlr_giveOneMore
  refine rt_lt (rt_lt (rt_lt ?_))
  refine rt_w4 (I := fun (x y z : Int) (u : JSg) => ∃ m : Nat, (x = 1 ∧ scN (dN A) m ∣ k + 1 ∨ x = 0 ∧ ¬ scN (dN A) m ∣ k + 1) ∧ y = (sumN (dgN (dN A) (k + 1)) m : Nat) ∧ z = m ∧ m ≤ WN A ∧ Agr (fun a _ => a = 120) s u ∧ (∀ w, w < m → u 120 w = (dgN (dN A) (k + 1) w : Nat)) ∧ ∀ w, m ≤ w → w < WN A → u 120 w = (dgN (dN A) k w : Nat)) (μ := fun (x y z : Int) (u : JSg) => (6 - z).toNat) ?_ n _ _ _ _ ⟨0, Or.inl ⟨rfl, Nat.one_dvd _⟩, rfl, rfl, by omega, ag_refl, fun w hw => absurd hw (Nat.not_lt_zero _), fun w _ hw => hg w hw⟩ (by omega)
  rintro x y z u ⟨m, hx, rfl, rfl, hm, ua, u1, u2⟩ rc hrc
  have hBu : DwB A u := DwB_ag hB (fun a j hq => ua a j (by omega))
  have e41 : u 4 1 = ((WN A : Nat) : Int) := hBu.1.1.trans W6.2
  rw [e41]
  refine rt_ite (fun g => ?_) (fun g => ?_)
  · obtain ⟨d1, d2, -, -⟩ := dw_n hI hM hBu (show m < 6 by omega)
    have um := u2 m (by omega) (by omega)
    have dl := dg_le (d := dN A) (k := k) (w := m)
    have od := dg_odo (d := dN A) (k := k) (w := m)
    have dv := dvd_odo (d := dN A) (k := k) (w := m)
    have cap := sum_cap (f := dgN (dN A) (k + 1)) (b := 7) m (fun w hw => by
      have := (dw_n hI hM hBu (show w < 6 by omega)).2.1
      have := dg_le (d := dN A) (k := k + 1) (w := w)
      omega)
    have m42 : m * 7 ≤ 42 := by omega
    /- behind the new digit -/
    have go : ∀ (c : Int) (v : JSg), (c = 1 ∧ scN (dN A) (m + 1) ∣ k + 1 ∨ c = 0 ∧ ¬ scN (dN A) (m + 1) ∣ k + 1) → Agr (fun a j => a = 120 ∧ j = m) u v → v 120 m = (dgN (dN A) (k + 1) m : Nat) → Ret (chk (0 ≤ (m : Int) ∧ (m : Int) < 6) <| rc c (w32 (((sumN (dgN (dN A) (k + 1)) m : Nat) : Int) + (v 120 m))) (w32 ((m : Int) + 1)) v) (fun z => Agr (fun a _ => a = 120) s z.2 ∧ z.1 = (sumN (dgN (dN A) (k + 1)) (WN A) : Nat) ∧ ∀ w, w < WN A → z.2 120 w = (dgN (dN A) (k + 1) w : Nat)) := by
      intro c v hc v1 v2
      have := dg_le (d := dN A) (k := k + 1) (w := m)
      rw [v2, wi (by omega) (by omega), wi (by omega) (by omega)]
      refine rt_chk (by omega) (hrc _ _ _ _ ⟨m + 1, hc, by show _ = ((sumN (dgN (dN A) (k + 1)) m + dgN (dN A) (k + 1) m : Nat) : Int); push_cast; rfl, by push_cast; rfl, by omega, ag_tr ua (ag_mono v1 (fun a j q => q.1)), fun w hw => ?_, fun w w1 w2 => ?_⟩ (by omega))
      · by_cases e : w = m
        · rw [e]; exact v2
        · rw [v1 120 w (by omega)]; exact u1 w (by omega)
      · rw [v1 120 w (by omega)]; exact u2 w (by omega) w2
    rw [j2_s, Int.toNat_natCast]
    simp only [lt_u, j1_s]
    rw [um, d1]
    rcases hx with ⟨rfl, hd⟩ | ⟨rfl, hd⟩
    · rw [if_pos hd] at od
      rw [if_neg (by decide)]
      refine rt_chk (by omega) (rt_chk (by omega) ?_)
      by_cases e : dgN (dN A) k m = dN A m
      · rw [if_pos e] at od
        rw [if_pos (show ((dgN (dN A) k m : Nat) : Int) = ((dN A m : Nat) : Int) by omega), if_neg (by decide)]
        refine rt_chk (by omega) ?_
        have := go 1 (sp u 120 m 0) (Or.inl ⟨rfl, dv.mpr ⟨hd, e⟩⟩) (ag_sp ag_refl ⟨rfl, rfl⟩) (by rw [sp_eq, od]; rfl)
        exact this
      · rw [if_neg e] at od
        rw [if_neg (show ¬ ((dgN (dN A) k m : Nat) : Int) = ((dN A m : Nat) : Int) by omega), if_pos trivial, wi (x := ((dgN (dN A) k m : Nat) : Int) + 1) (by omega) (by omega)]
        refine rt_chk (by omega) (rt_chk (by omega) ?_)
        have := go 0 (sp u 120 m (((dgN (dN A) k m : Nat) : Int) + 1)) (Or.inr ⟨rfl, fun q => e (dv.mp q).2⟩) (ag_sp ag_refl ⟨rfl, rfl⟩) (by rw [sp_eq, od]; push_cast; rfl)
        exact this
    · rw [if_neg hd] at od
      rw [if_pos rfl]
      have := go 0 u (Or.inr ⟨rfl, fun q => hd (dv.mp q).1⟩) ag_refl (by rw [um, od])
      rw [um] at this
      exact this
  · obtain rfl : m = WN A := by omega
    exact rt_some ⟨ua, rfl, u1⟩
theorem sum_mo {f : Nat → Nat} {m : Nat} : ∀ W : Nat, m ≤ W → sumN f m ≤ sumN f W := by
  intro W
  induction W with
  | zero => intro h; rw [show m = 0 by omega]; exact Nat.le_refl _
  | succ W ih =>
    intro h
    by_cases e : m = W + 1
    · rw [e]; exact Nat.le_refl _
    · have := ih (by omega)
      show _ ≤ sumN f W + f W
      omega
theorem e_countWays {T : Nat} {al : Nat → Nat → Bool} (hn : 1000000 < n) (hI : WfI A) (hM : WfM A) (hB : DwB A s) (hT : T ≤ 28) (hs : sumN (dN A) (WN A) = T) (h5 : s 116 5 = (T : Nat)) (hA : AlP A T al s) (h9 : ∀ w, w < WN A → s 119 w = (scN (dN A) w : Nat)) : Ret (f_Dlr_countWays n ((scN (dN A) (WN A) : Nat) : Int) s) (fun z => Agr (fun a _ => a = 103 ∨ a = 120) s z.2 ∧ z.1 = (CV (WN A) al T (dN A) : Nat)) := by
  have W6 := w6 hI
  have d8 : ∀ w, w < WN A → dN A w < 8 := fun w hw => (dw_n hI hM hB (show w < 6 by omega)).2.1
  have hS := sc_b W6.1 d8 (by omega)
  have sp0 := sc_pos (d := dN A) (WN A)
  have dle : ∀ k, sumN (dgN (dN A) k) (WN A) ≤ T := fun k => by rw [← hs]; exact sum_le _ (fun w _ => dg_le)
  unfold f_Dlr_countWays
  rw [if_neg (by omega), if_neg (by omega)]
  obtain ⟨s1, e1, e2⟩ := e_fill (n := n) (p := 120) (N := 6) (v := 0) (σ := s) (by omega) (by omega)
  rw [e1, b1_s]
  refine rt_lt (rt_lt ?_)
  generalize hSS : scN (dN A) (WN A) = S at *
  refine rt_w2 (I := fun (x : Int) (u : JSg) => ∃ k : Nat, x = ((k + 1 : Nat) : Int) ∧ k + 1 ≤ S ∧ Agr (fun a _ => a = 103 ∨ a = 120) s u ∧ (∀ j, j < k + 1 → u 103 j = (CV (WN A) al (sumN (dgN (dN A) j) (WN A)) (dgN (dN A) j) : Nat)) ∧ ∀ w, w < WN A → u 120 w = (dgN (dN A) k w : Nat)) (μ := fun (x : Int) (u : JSg) => ((S : Int) - x).toNat) ?_ n _ _ ⟨0, rfl, by omega, ag_sp (fun a j ha => by rw [e2, if_neg (by omega)]) (Or.inl rfl), fun j hj => ?_, fun w hw => ?_⟩ (by omega)
  · rintro x u ⟨k, rfl, hk, ua, ut, ug⟩ rc hrc
    refine rt_ite (fun g => ?_) (fun g => ?_)
    · have hBu : DwB A u := DwB_ag hB (fun a j hq => ua a j (by omega))
      refine rt_b2 (e_giveOneMore hn hI hM hBu ug) (fun r v hv => ?_)
      obtain ⟨v1, v2, v3⟩ := hv
      have v2 : r = (sumN (dgN (dN A) (k + 1)) (WN A) : Nat) := v2
      subst v2
      have v1 : Agr (fun a _ => a = 120) u v := v1
      have v3 : ∀ w, w < WN A → v 120 w = (dgN (dN A) (k + 1) w : Nat) := v3
      have va : Agr (fun a _ => a = 103 ∨ a = 120) s v := ag_tr ua (ag_mono v1 (fun a j q => Or.inr q))
      have dl := dle (k + 1)
      have pos : 0 < sumN (dgN (dN A) (k + 1)) (WN A) := by
        rcases Nat.eq_zero_or_pos (sumN (dgN (dN A) (k + 1)) (WN A)) with q | q
        · have := dg_nil (d := dN A) (WN A) (k + 1) (by rw [hSS]; omega) ((sum_0 _).mp q)
          omega
        · exact q
      obtain ⟨L, hL⟩ : ∃ L, sumN (dgN (dN A) (k + 1)) (WN A) = L + 1 := ⟨sumN (dgN (dN A) (k + 1)) (WN A) - 1, by omega⟩
      rw [hL, wi (x := ((L + 1 : Nat) : Int) - 1) (by omega) (by omega), show ((L + 1 : Nat) : Int) - 1 = (L : Int) by omega]
      refine rt_lt (rt_lt (rt_lt ?_))
      have cvb := cv_b (W := WN A) (al := al) (t := L + 1) (v := dgN (dN A) (k + 1)) W6.1 (by omega)
      have full : CV (WN A) al (L + 1) (dgN (dN A) (k + 1)) = sumN (fun w => if al L w = true ∧ 0 < dgN (dN A) (k + 1) w then CV (WN A) al L (dec (dgN (dN A) (k + 1)) w) else 0) (WN A) := rfl
      rw [full] at cvb
      refine rt_w2 (I := fun (x y : Int) => ∃ m : Nat, x = (sumN (fun w => if al L w = true ∧ 0 < dgN (dN A) (k + 1) w then CV (WN A) al L (dec (dgN (dN A) (k + 1)) w) else 0) m : Nat) ∧ y = m ∧ m ≤ WN A) (μ := fun (x y : Int) => (6 - y).toNat) ?_ n _ _ ⟨0, rfl, rfl, by omega⟩ (by omega)
      rintro x y ⟨m, rfl, rfl, hm⟩ rc2 hrc2
      have e41 : v 4 1 = ((WN A : Nat) : Int) := (va 4 1 (by omega)).trans (hB.1.1.trans W6.2)
      have v5 : v 116 5 = (T : Nat) := (va 116 5 (by omega)).trans h5
      have em : sumN (fun w => if al L w = true ∧ 0 < dgN (dN A) (k + 1) w then CV (WN A) al L (dec (dgN (dN A) (k + 1)) w) else 0) (m + 1) = sumN (fun w => if al L w = true ∧ 0 < dgN (dN A) (k + 1) w then CV (WN A) al L (dec (dgN (dN A) (k + 1)) w) else 0) m + (if al L m = true ∧ 0 < dgN (dN A) (k + 1) m then CV (WN A) al L (dec (dgN (dN A) (k + 1)) m) else 0) := rfl
      rw [e41, j0_s]
      refine rt_ite (fun g2 => ?_) (fun g2 => ?_)
      · have mo := sum_mo (f := fun w => if al L w = true ∧ 0 < dgN (dN A) (k + 1) w then CV (WN A) al L (dec (dgN (dN A) (k + 1)) w) else 0) (m := m + 1) (WN A) (by omega)
        rw [em] at mo
        generalize sumN (fun w => if al L w = true ∧ 0 < dgN (dN A) (k + 1) w then CV (WN A) al L (dec (dgN (dN A) (k + 1)) w) else 0) m = acc at *
        have skip : ¬ (al L m = true ∧ 0 < dgN (dN A) (k + 1) m) → Ret (rc2 ((acc : Nat) : Int) (w32 ((m : Int) + 1))) (fun z => Agr (fun a _ => a = 103 ∨ a = 120) s z.2 ∧ z.1 = (CV (WN A) al T (dN A) : Nat)) := by
          intro no
          rw [if_neg no] at em
          rw [wi (by omega) (by omega)]
          exact hrc2 _ _ ⟨m + 1, by rw [em]; rfl, by push_cast; rfl, by omega⟩ (by omega)
        obtain ⟨Y, y1, y2, y3⟩ := hA L (by omega)
        have v118 : v 118 L = (Y : Nat) := (va 118 L (by omega)).trans y2
        rw [if_neg (by omega), v5, if_pos (by omega), j1_s, Int.toNat_natCast, v3 m (by omega), Int.toNat_natCast, v118, has_n (by omega) (by omega), y3 m, decide_eq_true (show m < WN A by omega), Bool.true_and]
        simp only [lt_u]
        refine rt_chk (by omega) (rt_ite (fun g3 => ?_) (fun g3 => skip (fun q => g3 (by omega))))
        have ds := dg_sub (d := dN A) (k := k + 1) (w := m) (by omega)
        have v119 : v 119 m = (scN (dN A) m : Nat) := (va 119 m (by omega)).trans (h9 m (by omega))
        refine rt_chk (by omega) (rt_ite (fun g4 => absurd g4 (by rw [v119]; omega)) (fun _ => ?_))
        refine rt_chk (by omega) ?_
        cases ha : al L m
        · rw [if_pos (show (if false = true then (1 : Int) else 0) = 0 by decide)]
          exact skip (fun q => by rw [ha] at q; cases q.1)
        · have c : al L m = true ∧ 0 < dgN (dN A) (k + 1) m := ⟨ha, by omega⟩
          rw [if_pos c] at em mo
          have sm := sc_mo (d := dN A) (W := WN A) (w := m) (by omega)
          have spm := sc_pos (d := dN A) m
          have e103 : v 103 (k + 1 - scN (dN A) m) = (CV (WN A) al L (dec (dgN (dN A) (k + 1)) m) : Nat) := by
            rw [v1 103 _ (fun (e : (103 : Nat) = 120) => absurd e (by decide)), ut _ (by omega)]
            have x1 : ∀ u, u < WN A → dgN (dN A) (k + 1 - scN (dN A) m) u = dec (dgN (dN A) (k + 1)) m u := fun u _ => dg_dec c.2
            have x2 := dec_sum (v := dgN (dN A) (k + 1)) (w := m) (W := WN A) (by omega) c.2
            rw [cv_cg _ _ _ x1, sum_cg _ x1, show sumN (dec (dgN (dN A) (k + 1)) m) (WN A) = L by omega]
          rw [if_pos rfl, if_neg (by decide), v119, wi (x := ((k + 1 : Nat) : Int) - ((scN (dN A) m : Nat) : Int)) (by omega) (by omega), show (((k + 1 : Nat) : Int) - ((scN (dN A) m : Nat) : Int)).toNat = k + 1 - scN (dN A) m by omega, e103, wj (by omega) (by omega), wi (x := (m : Int) + 1) (by omega) (by omega)]
          refine rt_chk (by omega) (rt_chk (by omega) (hrc2 _ _ ⟨m + 1, by rw [em]; push_cast; rfl, by push_cast; rfl, by omega⟩ (by omega)))
      · obtain rfl : m = WN A := by omega
        rw [Int.toNat_natCast, lt_u, lt_u, wi (by omega) (by omega)]
        refine rt_chk (by omega) (hrc _ _ ⟨k + 1, by push_cast; rfl, by omega, ag_sp va (Or.inl rfl), fun j hj => ?_, fun w hw => ?_⟩ (by omega))
        · by_cases e : j = k + 1
          · subst e
            rw [sp_eq, hL, full]
          · rw [sp_nj e, v1 103 j (fun (e : (103 : Nat) = 120) => absurd e (by decide))]
            exact ut j (by omega)
        · rw [sp_nq (by decide)]
          exact v3 w hw
    · have ek : k + 1 = S := by omega
      rw [wi (by omega) (by omega), show (((S : Nat) : Int) - 1).toNat = S - 1 by omega, ut (S - 1) (by omega)]
      refine rt_chk (by omega) (rt_some ⟨ua, ?_⟩)
      show ((CV (WN A) al (sumN (dgN (dN A) (S - 1)) (WN A)) (dgN (dN A) (S - 1)) : Nat) : Int) = _
      have x1 : ∀ u, u < WN A → dgN (dN A) (S - 1) u = dN A u := fun u hu => by rw [← hSS]; exact dg_top _ _ hu
      rw [cv_cg _ _ _ x1, sum_cg _ x1, hs]
  · obtain rfl : j = 0 := by omega
    have z : sumN (dgN (dN A) 0) (WN A) = 0 := (sum_0 _).mpr (fun w _ => dg_0)
    rw [sp_eq, z]
    show (1 : Int) = (((if sumN (dgN (dN A) 0) (WN A) = 0 then 1 else 0) : Nat) : Int)
    rw [if_pos z]
    rfl
  · rw [sp_nq (by decide), e2, if_pos (by omega), dg_0]
    rfl
theorem e_ways {s0 w0 : Int} (hn : 1000000 < n) (hI : WfI A) (hM : WfM A) (hB : DwB A s) (h0 : s0 = -1 ∨ (0 ≤ w0 ∧ w0 < A 0)) : Ret (f_Dlr_ways n s0 w0 s) (fun z => Agr (fun a j => (a = 116 ∧ j = 5) ∨ a = 103 ∨ a = 117 ∨ a = 118 ∨ a = 119 ∨ a = 120) s z.2 ∧ z.1 = (dealV A s0 w0 : Nat)) := by
  have W6 := w6 hI
  have u28 := un28 hI
  unfold f_Dlr_ways
  refine rt_b2 (e_gather hn hI hM hB) (fun r u hu => ?_)
  obtain ⟨u1, ⟨u2, u2'⟩, u3, u4⟩ := hu
  have u4 : r = bi (decide (sumN (dN A) (WN A) = (unL A).length)) := u4
  subst u4
  have u1 : Agr (fun a j => (a = 116 ∧ j = 5) ∨ a = 117 ∨ a = 118) s u := u1
  have u2 : u 116 5 = ((unL A).length : Nat) := u2
  have u2' : ∀ j, j < (unL A).length → u 117 j = (unL A).getD j 0 := u2'
  have u3 : AlP A (unL A).length (alB A) u := u3
  unfold dealV
  by_cases hs : sumN (dN A) (WN A) = (unL A).length
  · rw [decide_eq_true hs, if_neg bn0, if_pos hs]
    refine rt_lt ?_
    refine rt_w2 (I := fun (x : Int) (v : JSg) => ∃ j : Nat, x = j ∧ j ≤ (unL A).length ∧ Agr (fun a _ => a = 118) u v ∧ (∀ i, i < j → ∃ Y : Nat, Y < 64 ∧ v 118 i = Y ∧ ∀ w, Y.testBit w = (decide (w < WN A) && alA A s0 w0 i w)) ∧ ∀ i, j ≤ i → v 118 i = u 118 i) (μ := fun (x : Int) (v : JSg) => (28 - x).toNat) ?_ n _ _ ⟨0, rfl, by omega, ag_refl, fun i hi => absurd hi (Nat.not_lt_zero _), fun i _ => rfl⟩ (by omega)
    rintro x v ⟨j, rfl, hj, va, v1, v2⟩ rc hrc
    have v5 : v 116 5 = ((unL A).length : Nat) := (va 116 5 (fun (e : (116 : Nat) = 118) => absurd e (by decide))).trans u2
    rw [v5]
    refine rt_ite (fun g => ?_) (fun g => ?_)
    · obtain ⟨Y, y1, y2, y3⟩ := u3 j (by omega)
      have vj : v 118 j = (Y : Int) := (v2 j (by omega)).trans y2
      have v117 : v 117 j = (unL A).getD j 0 := (va 117 j (fun (e : (117 : Nat) = 118) => absurd e (by decide))).trans (u2' j (by omega))
      rw [j1_s, Int.toNat_natCast, v117, vj, wi (by omega) (by omega)]
      simp only [lt_u]
      refine rt_chk (by omega) (rt_ite (fun e => ?_) (fun e => ?_))
      · have hg := hdL_g (P := unP A) (k := (A 1).toNat) (i := j) (by unfold unL at g; omega)
        have w00 : 0 ≤ w0 ∧ w0 < A 0 := by
          rcases h0 with q | q
          · have h1 := hg.1
            have : (unL A).getD j 0 = (hdL (unP A) (A 1).toNat).getD j 0 := rfl
            omega
          · exact q
        obtain ⟨b, hb⟩ : ∃ b : Nat, w0 = b := ⟨w0.toNat, by omega⟩
        have one : ∀ c : Nat, c < 7 → sl32 1 (c : Int) = ((1 <<< c : Nat) : Int) ∧ 1 <<< c < 128 := by decide +kernel
        have ob := one b (by omega)
        have es : sl32 1 w0 = ((1 <<< b : Nat) : Int) := by rw [hb]; exact ob.1
        rw [es, an_n (by omega)]
        refine rt_chk (by omega) (rt_chk (by omega) (hrc _ _ ⟨j + 1, by push_cast; rfl, by omega, ag_sp va rfl, fun i hi => ?_, fun i hi => ?_⟩ (by omega)))
        rotate_left
        · rw [sp_nj (show i ≠ j by omega)]; exact v2 i (by omega)
        by_cases c : i = j
        · subst c
          refine ⟨Y &&& 1 <<< b, Nat.lt_of_le_of_lt Nat.and_le_left y1, by rw [sp_eq], fun w => ?_⟩
          rw [Nat.testBit_and, y3, bit_one]
          unfold alA alS alB
          rw [decide_eq_false (show ¬ (unL A).getD i 0 ≠ s0 from fun q => q e), Bool.false_or, Bool.and_assoc]
          congr 2
          rw [hb]
          by_cases c : b = w
          · rw [decide_eq_true c, decide_eq_true (show (w : Int) = (b : Int) by omega)]
          · rw [decide_eq_false c, decide_eq_false (show ¬ (w : Int) = (b : Int) by omega)]
        · rw [sp_nj c]
          exact v1 i (by omega)
      · refine hrc _ _ ⟨j + 1, by push_cast; rfl, by omega, va, fun i hi => ?_, fun i hi => v2 i (by omega)⟩ (by omega)
        by_cases c : i = j
        · subst c
          refine ⟨Y, y1, vj, fun w => ?_⟩
          rw [y3]
          unfold alA alS alB
          rw [decide_eq_true (show (unL A).getD i 0 ≠ s0 from e), Bool.true_or, Bool.and_true]
        · exact v1 i (by omega)
    · obtain rfl : j = (unL A).length := by omega
      have sa : ∀ a j, ¬ ((a = 116 ∧ j = 5) ∨ a = 117 ∨ a = 118) → v a j = s a j := fun a j hq => (va a j (by omega)).trans (u1 a j hq)
      have hBv : DwB A v := DwB_ag hB (fun a j hq => sa a j (by omega))
      refine rt_b2 (e_sums hn hI hM hBv) (fun r w hw => ?_)
      obtain ⟨w1, w2, w3⟩ := hw
      have w2 : r = (scN (dN A) (WN A) : Nat) := w2
      subst w2
      have w1 : Agr (fun a _ => a = 119) v w := w1
      have w3 : ∀ x, x < WN A → w 119 x = (scN (dN A) x : Nat) := w3
      have hBw : DwB A w := DwB_ag hBv (fun a j hq => w1 a j (by omega))
      refine rt_b2 (e_countWays (T := (unL A).length) (al := alA A s0 w0) hn hI hM hBw u28 hs ((w1 116 5 (fun (e : (116 : Nat) = 119) => absurd e (by decide))).trans v5) (fun i hi => ?_) w3) (fun r x hx => ?_)
      · rw [w1 118 i (fun (e : (118 : Nat) = 119) => absurd e (by decide))]
        exact v1 i hi
      · obtain ⟨x1, x2⟩ := hx
        have x1 : Agr (fun a _ => a = 103 ∨ a = 120) w x := x1
        refine rt_some ⟨fun a j hq => ?_, x2⟩
        exact (x1 a j (by omega)).trans ((w1 a j (by omega)).trans (sa a j (by omega)))
  · rw [decide_eq_false hs, if_pos by0, if_neg hs]
    exact rt_some ⟨ag_mono u1 (fun a j q => by omega), rfl⟩
end
def dwC (a j : Nat) : Prop := (a = 116 ∧ j = 5) ∨ a = 103 ∨ a = 117 ∨ a = 118 ∨ a = 119 ∨ a = 120
theorem dw_sc {a j : Nat} (h : dwC a j) : scr a j := by
  rcases h with ⟨rfl, rfl⟩ | rfl | rfl | rfl | rfl | rfl <;> (unfold scr; omega)
def dmC (a j : Nat) : Prop := (a = 179 ∧ j = 0) ∨ a = 198 ∨ a = 199 ∨ a = 200
theorem dm_sc {a j : Nat} (h : dmC a j) : scr a j := by
  rcases h with ⟨rfl, rfl⟩ | rfl | rfl | rfl <;> (unfold scr; omega)
theorem op_dealings : Op_dealings Inv := by
  intro σ H
  obtain ⟨⟨r, σ1⟩, e1, e2, e3⟩ := e_ways (n := NN) (s := σ) (s0 := -1) (w0 := -1) hNN (in_I H) (in_M H) ⟨in_L H, in_Y H⟩ (Or.inl rfl)
  have e2 : Agr dwC σ σ1 := e2
  have e3 : r = (dealV (σ 181) (-1) (-1) : Nat) := e3
  have A1 : σ1 181 = σ 181 := funext fun j => e2 181 j (by unfold dwC; omega)
  obtain ⟨⟨r2, σ2⟩, f1, f2, f3⟩ := e_M_deal (n := NN) (A := σ 181) (s := sp σ1 179 0 0) (s0 := -1) (w0 := -1) hNN (in_I H) (in_M H) (by rw [th_A, A1]) (Or.inl rfl)
  have f3 : r2 = (dealV (σ 181) (-1) (-1) : Nat) := f3
  have f2 : Agr dmC σ1 σ2 := ag_tr (ag_sp ag_refl (Or.inl ⟨rfl, rfl⟩)) (ag_mono f2 (fun a j q => Or.inr q))
  refine ⟨r, σ1, σ2, ?_, ?_, inv_ag (fun a j hq => ?_) H⟩
  · unfold f_W_dealings
    rw [e1, b2_s]
  · unfold f_M_dealings
    rw [lt_u, f1, b2_s, e3, f3]
  · exact (f2 a j (fun q => hq (dm_sc q))).trans (e2 a j (fun q => hq (dw_sc q)))
theorem op_whose : Op_whose Inv := by
  intro σ H a b ha hb
  have hI := in_I H
  have hM := in_M H
  have b28 := hI.2.1
  have b193 := hM.1
  by_cases g : (0 ≤ a ∧ a < σ 181 1) ∧ (0 ≤ b ∧ b < σ 181 0)
  · have seen : f_Mem_hasSeen 18 a σ = some (bi (bt (σ 181 193) a.toNat)) := by
      unfold f_Mem_hasSeen
      rw [(in_Y H).2.1]
      exact an_bi (by omega) (by omega) rfl
    cases hs : bt (σ 181 193) a.toNat
    · obtain ⟨⟨r, σ1⟩, e1, e2, e3⟩ := e_ways (n := NN) (s := σ) (s0 := a) (w0 := b) hNN hI hM ⟨in_L H, in_Y H⟩ (Or.inr g.2)
      have e2 : Agr dwC σ σ1 := e2
      have e3 : r = (dealV (σ 181) a b : Nat) := e3
      have A1 : σ1 181 = σ 181 := funext fun j => e2 181 j (by unfold dwC; omega)
      obtain ⟨⟨r2, σ2⟩, f1, f2, f3⟩ := e_M_deal (n := NN) (A := σ 181) (s := sp σ1 179 0 0) (s0 := a) (w0 := b) hNN hI hM (by rw [th_A, A1]) (Or.inr g.2.1)
      have f3 : r2 = (dealV (σ 181) a b : Nat) := f3
      have f2 : Agr dmC σ1 σ2 := ag_tr (ag_sp ag_refl (Or.inl ⟨rfl, rfl⟩)) (ag_mono f2 (fun a j q => Or.inr q))
      refine ⟨r, σ1, σ2, ?_, ?_, inv_ag (fun a j hq => ?_) H⟩
      · unfold f_W_whose
        rw [e_W_isStone (in_L H), b1_s, decide_eq_true g.1, j0_s, if_neg bn0, e_W_isWidow (in_L H), b1_s, decide_eq_true g.2, if_neg bn0, seen, b1_s, hs, if_pos by0, e1, b2_s]
      · unfold f_M_whose
        rw [lt_u, e_M_isStone, th_A, A1, b1_s, decide_eq_true g.1, j0_s, if_neg bn0, e_M_isWidow, th_A, A1, b1_s, decide_eq_true g.2, if_neg bn0, e_M_has (by omega) (by omega), b1_s, hs, if_pos by0, f1, b2_s, e3, f3]
      · exact (f2 a j (fun q => hq (dm_sc q))).trans (e2 a j (fun q => hq (dw_sc q)))
    · refine ⟨0, σ, sp σ 179 0 0, ?_, ?_, inv_thr H⟩
      · unfold f_W_whose
        rw [e_W_isStone (in_L H), b1_s, decide_eq_true g.1, j0_s, if_neg bn0, e_W_isWidow (in_L H), b1_s, decide_eq_true g.2, if_neg bn0, seen, b1_s, hs, if_neg bn0]
      · unfold f_M_whose
        rw [lt_u, e_M_isStone, th_A, b1_s, decide_eq_true g.1, j0_s, if_neg bn0, e_M_isWidow, th_A, b1_s, decide_eq_true g.2, if_neg bn0, e_M_has (by omega) (by omega), b1_s, hs, if_neg bn0]
  · refine ⟨-1, σ, sp σ 179 0 0, ?_, ?_, inv_thr H⟩
    · unfold f_W_whose
      rw [e_W_isStone (in_L H), b1_s, j0_s]
      by_cases g1 : 0 ≤ a ∧ a < σ 181 1
      · rw [decide_eq_true g1, if_neg bn0, e_W_isWidow (in_L H), b1_s, decide_eq_false (fun q => g ⟨g1, q⟩), if_pos by0]
      · rw [decide_eq_false g1, if_pos by0]
    · unfold f_M_whose
      rw [lt_u, e_M_isStone, th_A, b1_s, j0_s]
      by_cases g1 : 0 ≤ a ∧ a < σ 181 1
      · rw [decide_eq_true g1, if_neg bn0, e_M_isWidow, th_A, b1_s, decide_eq_false (fun q => g ⟨g1, q⟩), if_pos by0]
      · rw [decide_eq_false g1, if_pos by0]
