/-! LAYER 3o: feed, end -/
def sg8 (x : Int) : Int := if x < 128 then x else x - 256
def app4 (c : JA) (L a : Int) : JA := fun i => if L ≤ (i : Int) ∧ (i : Int) < L + 4 then an32 (ur32 a (24 - 8 * ((i : Int) - L))) 255 else c i
def WTape (σ : JSg) (L : Int) (c : JA) : Prop := σ 0 1 = L ∧ ∀ i : Nat, (i : Int) < L → σ 1 i = sg8 (c i)
def MTape (σ : JSg) (L : Int) (c : JA) : Prop := σ 179 2 = L ∧ ∀ i : Nat, (i : Int) < L → σ 180 i = c i
def wtC (a j : Nat) : Prop := (a = 0 ∧ j = 1) ∨ a = 1
def mtC (a j : Nat) : Prop := (a = 179 ∧ j = 2) ∨ a = 180
section
variable {σ : JSg} {n : Nat} {L a : Int} {c : JA}
theorem e_W_four (hn : 1000000 < n) (ha : okI a) (h0 : 0 ≤ L ∧ L ≤ 936) (h : WTape σ L c) : Ret (f_W_feedFour n a σ) (fun τ => WTape τ (L + 4) (app4 c L a) ∧ Agr wtC σ τ) := by
  unfold f_W_feedFour
  refine rt_lt ?_
  refine rt_w2 (I := fun x u => ∃ k : Nat, k ≤ 4 ∧ x = 24 - 8 * (k : Int) ∧ u 0 1 = L + k ∧ (∀ i : Nat, (i : Int) < L + k → u 1 i = sg8 (app4 c L a i)) ∧ Agr wtC σ u) (μ := fun x u => (x + 8).toNat) ?_ n _ _ ⟨0, by omega, by omega, by rw [h.1]; omega, fun i hi => ?_, ag_refl⟩ (by omega)
  · rintro x u ⟨k, k4, hx, u1, u2, u3⟩ rc hrc
    refine rt_ite (fun g => ?_) (fun g => ?_)
    · have : k = 4 := by omega
      subst this
      exact rt_some ⟨⟨u1, u2⟩, u3⟩
    · rw [u1]
      refine rt_ite (fun g2 => ?_) (fun g2 => absurd (show L + k < 940 by omega) g2)
      refine rt_chk (by omega) (rt_lt ?_)
      rw [sp_nq (q := 0) (p := 1) (by decide), u1, wi (x := L + k + 1) (by omega) (by omega), wi (x := x + -8) (by omega) (by omega)]
      refine (rt_lt (rt_lt (hrc _ _ ⟨k + 1, by omega, by omega, by rw [sp_eq]; omega, fun i hi => ?_, ag_sp (ag_sp u3 (by unfold wtC; omega)) (by unfold wtC; omega)⟩ (by omega))))
      rw [sp_nq (by decide), sp_at, if_pos rfl]
      by_cases e : i = (L + k).toNat
      · rw [if_pos e]
        have e5 : app4 c L a i = an32 (ur32 a x) 255 := by
          unfold app4
          rw [if_pos (by omega), show 24 - 8 * ((i : Int) - L) = x by omega]
        rw [e5]
        have := byt_e (a := a) (k := x.toNat) ha (by omega)
        rw [show ((x.toNat : Nat) : Int) = x by omega] at this
        exact this.1
      · rw [if_neg e]
        exact u2 i (by omega)
  · unfold app4
    rw [if_neg (by omega)]
    exact h.2 i (by omega)
theorem e_M_come (hn : 1000000 < n) (h0 : 0 ≤ L ∧ L ≤ 936) (h : MTape σ L c) : Ret (f_M_come n a σ) (fun τ => MTape τ (L + 4) (app4 c L a) ∧ Agr mtC σ τ) := by
  unfold f_M_come
  refine rt_lt ?_
  refine rt_w2 (I := fun x u => ∃ k : Nat, k ≤ 4 ∧ x = 24 - 8 * (k : Int) ∧ u 179 2 = L + k ∧ (∀ i : Nat, (i : Int) < L + k → u 180 i = app4 c L a i) ∧ Agr mtC σ u) (μ := fun x u => (x + 8).toNat) ?_ n _ _ ⟨0, by omega, by omega, by rw [h.1]; omega, fun i hi => ?_, ag_refl⟩ (by omega)
  · rintro x u ⟨k, k4, hx, u1, u2, u3⟩ rc hrc
    refine rt_ite (fun g => ?_) (fun g => ?_)
    · have : k = 4 := by omega
      subst this
      exact rt_some ⟨⟨u1, u2⟩, u3⟩
    · rw [u1]
      refine rt_chk (by omega) (rt_lt ?_)
      rw [sp_nq (q := 179) (p := 180) (by decide), u1, wi (x := L + k + 1) (by omega) (by omega), wi (x := x + -8) (by omega) (by omega)]
      refine (rt_lt (rt_lt (hrc _ _ ⟨k + 1, by omega, by omega, by rw [sp_eq]; omega, fun i hi => ?_, ag_sp (ag_sp u3 (by unfold mtC; omega)) (by unfold mtC; omega)⟩ (by omega))))
      rw [sp_nq (by decide), sp_at, if_pos rfl]
      by_cases e : i = (L + k).toNat
      · rw [if_pos e]
        unfold app4
        rw [if_pos (by omega), show 24 - 8 * ((i : Int) - L) = x by omega]
      · rw [if_neg e]
        exact u2 i (by omega)
  · unfold app4
    rw [if_neg (by omega)]
    exact h.2 i (by omega)
theorem app4_by (ha : okI a) (hc : ∀ i : Nat, (i : Int) < L → 0 ≤ c i ∧ c i < 256) : ∀ i : Nat, (i : Int) < L + 4 → 0 ≤ app4 c L a i ∧ app4 c L a i < 256 := by
  intro i hi
  unfold app4
  by_cases h : L ≤ (i : Int) ∧ (i : Int) < L + 4
  · rw [if_pos h]
    have := byt_e (a := a) (k := (24 - 8 * ((i : Int) - L)).toNat) ha (by omega)
    rw [show (((24 - 8 * ((i : Int) - L)).toNat : Nat) : Int) = 24 - 8 * ((i : Int) - L) by omega] at this
    exact this.2
  · rw [if_neg h]
    exact hc i (by omega)
end
theorem inv_tape {σ τ : JSg} (H : Inv σ) (h : ∀ a j, ¬ (wtC a j ∨ mtC a j ∨ scr a j) → τ a j = σ a j) (hT : TapR τ) : Inv τ := by
  unfold wtC mtC scr at h
  have e1 : τ 181 = σ 181 := funext fun j => h _ _ (by omega)
  have e2 : τ 185 = σ 185 := funext fun j => h _ _ (by omega)
  have e3 : pwA τ = pwA σ := by
    unfold pwA
    rw [e1, h 179 23 (by omega)]
  obtain ⟨h1, h2, h3, h4, h5, h6, h7⟩ := H
  unfold Inv
  rw [e1, e2, e3, h 179 23 (by omega)]
  refine ⟨h1, WorR_ag (fun q j hq => h q j ?_) h2, hT, h4, ⟨ImgR_ag (fun q j hq => h q j ?_) h5.1, ImgR_ag (fun q j hq => h q j ?_) h5.2⟩, PasR_ag (fun q j hq => h q j (by omega)) h6, LstR_ag (fun q j hq => h q j (by omega)) h7⟩
  · unfold worC at hq
    omega
  · unfold worC at hq
    omega
  · unfold worC at hq
    omega
theorem tap_of {σ : JSg} {L : Int} {c : JA} (h0 : 0 ≤ L ∧ L ≤ 940) (hW : WTape σ L c) (hM : MTape σ L c) (hc : ∀ i : Nat, (i : Int) < L → 0 ≤ c i ∧ c i < 256) : TapR σ := by
  refine ⟨by rw [hW.1, hM.1], by rw [hM.1]; exact h0, fun i i0 i1 => ?_⟩
  rw [hM.1] at i1
  have a := hW.2 i.toNat (by omega)
  have b := hM.2 i.toNat (by omega)
  have d := hc i.toNat (by omega)
  rw [a, b]
  exact ⟨d, rfl⟩
theorem op_feed : Op_feed Inv := by
  intro σ H a b c d e ha hb hc hd he
  have H1 := inv_thr (x := 0) H
  obtain ⟨t1, t2, t3⟩ := in_T H
  by_cases h : 920 < σ 179 2
  · refine ⟨-1, σ, _, ?_, ?_, H1⟩
    · unfold f_W_feed
      rw [t1, if_pos h]
    · unfold f_M_feed
      rw [lt_u, th_j (by decide), wi (by omega) (by omega), if_pos (by omega)]
  · generalize hL : σ 179 2 = L at *
    have w0 : WTape σ L (σ 180) := ⟨t1, fun i hi => (t3 i (by omega) hi).2⟩
    have y0 : ∀ i : Nat, (i : Int) < L → 0 ≤ σ 180 i ∧ σ 180 i < 256 := fun i hi => (t3 i (by omega) hi).1
    obtain ⟨s1, e1, w1, a1⟩ := e_W_four hNN ha (by omega) w0
    obtain ⟨s2, e2, w2, a2⟩ := e_W_four hNN hb (by omega) w1
    obtain ⟨s3, e3, w3, a3⟩ := e_W_four hNN hc (by omega) w2
    obtain ⟨s4, e4, w4, a4⟩ := e_W_four hNN hd (by omega) w3
    obtain ⟨s5, e5, w5, a5⟩ := e_W_four hNN he (by omega) w4
    have aW : Agr wtC σ s5 := ag_tr a1 (ag_tr a2 (ag_tr a3 (ag_tr a4 a5)))
    have m0 : MTape (sp s5 179 0 0) L (σ 180) := by
      refine ⟨?_, fun i hi => ?_⟩
      · rw [sp_nj (by decide), aW 179 2 (by unfold wtC; omega), hL]
      · rw [sp_nq (by decide), aW 180 i (by unfold wtC; omega)]
    obtain ⟨r1, f1, m1, c1⟩ := e_M_come (a := a) hNN (by omega) m0
    obtain ⟨r2, f2, m2, c2⟩ := e_M_come (a := b) hNN (by omega) m1
    obtain ⟨r3, f3, m3, c3⟩ := e_M_come (a := c) hNN (by omega) m2
    obtain ⟨r4, f4, m4, c4⟩ := e_M_come (a := d) hNN (by omega) m3
    obtain ⟨r5, f5, m5, c5⟩ := e_M_come (a := e) hNN (by omega) m4
    have aM : Agr mtC (sp s5 179 0 0) r5 := ag_tr c1 (ag_tr c2 (ag_tr c3 (ag_tr c4 c5)))
    have hc5 := app4_by he (app4_by hd (app4_by hc (app4_by hb (app4_by ha y0))))
    refine ⟨L + 4 + 4 + 4 + 4 + 4, s5, r5, ?_, ?_, inv_tape H (fun x j hx => ?_) (tap_of (by omega) ⟨?_, fun i hi => ?_⟩ m5 hc5)⟩
    · unfold f_W_feed
      rw [t1, if_neg h, e1, b1_s, e2, b1_s, e3, b1_s, e4, b1_s, e5, b1_s, w5.1]
    · unfold f_M_feed
      rw [lt_u, m0.1, wi (by omega) (by omega), if_neg (by omega), f1, b1_s, f2, b1_s, f3, b1_s, f4, b1_s, f5, b1_s, m5.1]
    · rw [aM x j (fun q => hx (by simp [q])), sp_at]
      by_cases q : x = 179
      · by_cases q2 : j = 0
        · subst q
          subst q2
          exact absurd (Or.inr (Or.inr (show scr 179 0 by unfold scr; omega))) hx
        · rw [if_pos q, if_neg q2]
          exact aW x j (fun q => hx (by simp [q]))
      · rw [if_neg q]
        exact aW x j (fun q => hx (by simp [q]))
    · rw [aM 0 1 (by unfold mtC; omega), sp_nq (by decide), w5.1]
    · rw [aM 1 i (by unfold mtC; omega), sp_nq (by decide)]
      exact w5.2 i hi
theorem op_end : Op_end Inv := by
  intro σ H a _
  have H1 := inv_thr (x := 0) H
  obtain ⟨t1, t2, t3⟩ := in_T H
  by_cases h0 : a < 0
  · refine ⟨0, σ, _, ?_, ?_, H1⟩
    · unfold f_W_end
      rw [if_pos h0]
    · unfold f_M_end
      rw [lt_u, if_pos h0]
  · by_cases h1 : σ 179 2 < a
    · refine ⟨0, σ, _, ?_, ?_, H1⟩
      · unfold f_W_end
        rw [if_neg h0, t1, if_pos h1]
      · unfold f_M_end
        rw [lt_u, if_neg h0, th_j (by decide), if_pos h1]
    · refine ⟨1, sp σ 0 1 a, sp (sp (sp σ 0 1 a) 179 0 0) 179 2 a, ?_, ?_, ?_⟩
      · unfold f_W_end
        rw [if_neg h0, t1, if_neg h1]
        rfl
      · unfold f_M_end
        rw [lt_u, if_neg h0, th_j (by decide), sp_nq (by decide), if_neg h1]
        rfl
      · refine inv_tape H (fun x j hx => ?_) ⟨?_, ?_, fun i i0 i1 => ?_⟩
        · unfold wtC mtC at hx
          rw [sp_at, sp_at, sp_at]
          by_cases q : x = 179
          · by_cases q2 : j = 0
            · subst q
              subst q2
              exact absurd (Or.inr (Or.inr (show scr 179 0 by unfold scr; omega))) hx
            · rw [if_pos q, if_neg (by omega), if_pos q, if_neg q2, if_neg (by omega)]
          · rw [if_neg q, if_neg q]
            by_cases q3 : x = 0
            · rw [if_pos q3, if_neg (by omega)]
            · rw [if_neg q3]
        · rw [sp_nq (by decide), sp_nq (by decide), sp_eq, sp_eq]
        · rw [sp_eq]; omega
        · rw [sp_eq] at i1
          rw [sp_nq (by decide), sp_nq (by decide), sp_nq (by decide), sp_nq (by decide), sp_nq (by decide), sp_nq (by decide)]
          exact t3 i i0 (by omega)
