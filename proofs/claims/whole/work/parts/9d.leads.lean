/-! LAYER 3za2: leads, the class -/
section
variable {A : JA} {h : List Int} {st : Nat} {σ s t : JSg} {n : Nat}
theorem fit_sym (hS : symQ A) {x y : Int} (hx : 0 ≤ x ∧ x < 7) (hy : 0 ≤ y ∧ y < 7) : fitB A x y = fitB A y x := by
  unfold fitB
  rw [hS x y hx.1 hx.2 hy.1 hy.2]
  generalize bt (A (4 + y).toNat) x.toNat = b
  generalize bt (A 2) x.toNat = c
  generalize bt (A 2) y.toNat = d
  by_cases e : x = y
  · subst e
    rw [decide_eq_true rfl]
    cases b <;> cases c <;> cases d <;> rfl
  · rw [decide_eq_false e, decide_eq_false (fun q => e q.symm)]
    cases b <;> cases c <;> cases d <;> rfl
/-- behind pips st, ahead of pips m, in k STONES -/
def ledP (A : JA) (h : List Int) (st m k : Nat) : Prop := ∃ U p, rch A h st k U p ∧ fitB A p m = true
def ledV (A : JA) (h : List Int) (st m : Nat) (v : Int) : Prop := (v = -1 ∧ ∀ k, ¬ ledP A h st m k) ∨ ∃ k : Nat, v = k ∧ ledP A h st m k ∧ ∀ j, j < k → ¬ ledP A h st m j
theorem led_u {m : Nat} {v w : Int} (h1 : ledV A h st m v) (h2 : ledV A h st m w) : v = w := by
  rcases h1 with ⟨e1, n1⟩ | ⟨k, e1, l1, m1⟩ <;> rcases h2 with ⟨e2, n2⟩ | ⟨j, e2, l2, m2⟩
  · rw [e1, e2]
  · exact absurd l2 (n1 j)
  · exact absurd l1 (n2 k)
  · rcases Nat.lt_trichotomy k j with g | g | g
    · exact absurd l1 (m2 k g)
    · rw [e1, e2, g]
    · exact absurd l2 (m1 j g)
theorem e_fewestBetween {st m : Nat} (hn : 1000000 < n) (hI : WfI A) (hS : symQ A) (hL : IslR σ 4 A) (hR : RowR σ 11 A) (hs : st < 7) (hm : m < 7) : Ret (f_Chn_fewestBetween n (st : Int) (m : Int) σ) (fun z => Agr (fun a j => a = 103 ∨ a = 105 ∨ (a = 104 ∧ j = 4)) σ z.2 ∧ ((12 < (hndL A).length ∧ z.1 = -1) ∨ (hn12 A ∧ ledV A (hndL A) st m z.1))) := by
  unfold f_Chn_fewestBetween
  refine rt_b2 (e_Row_gather hn hI hL hR (by decide) (by decide)) (fun r s2 hz => ?_)
  obtain ⟨za, zb⟩ := hz
  have za : Agr (fun a _ => a = 105) σ s2 := za
  rw [lt_u, sp_eq]
  have a3 : ∀ a j, ¬ (a = 105 ∨ (a = 104 ∧ j = 4)) → sp s2 104 4 r a j = σ a j := by
    intro a j hq
    rw [sp_at]
    by_cases e : a = 104
    · rw [if_pos e, if_neg (by omega)]; exact za a j (by omega)
    · rw [if_neg e]; exact za a j (by omega)
  rcases zb with ⟨z1, z2, z3⟩ | ⟨z1, z2⟩
  · have z2 : r = ((hndL A).length : Nat) := z2
    have z3 : ∀ j : Nat, j < (hndL A).length → s2 105 j = (hndL A).getD j 0 := z3
    subst z2
    rw [if_neg (by omega)]
    have z12 : hn12 A := z1
    have hh := hnd_ok hI z1
    generalize hs3 : sp s2 104 4 (((hndL A).length : Nat) : Int) = s3 at *
    have hB : ChB A (hndL A) s3 := ⟨IslR_ag (fun q j hq => a3 q j (by omega)) hL, by rw [← hs3, sp_eq], fun j hj => by rw [← hs3, sp_nq (by decide)]; exact z3 j hj⟩
    clear hs3 z3 za
    generalize hndL A = h at *
    have l12 := hh.1
    have p12 := pw12 l12
    have p0 := Nat.two_pow_pos h.length
    refine rt_b1 (e_spread hn hI hh hB (by omega)) (fun u hu => ?_)
    obtain ⟨t1, t2⟩ := hu
    have hBu : ChB A h u := ChB_ag hB (fun a j hq => t1 a j (by omega))
    refine rt_lt (rt_lt ?_)
    refine rt_w2 (I := fun (v x : Int) => ∃ U : Nat, x = U ∧ U ≤ 2 ^ h.length ∧ ((v = -1 ∧ ∀ V k p, V < U → rch A h st k V p → fitB A p m = false) ∨ ∃ k : Nat, v = k ∧ k ≤ 12 ∧ ledP A h st m k ∧ ∀ V j p, V < U → rch A h st j V p → fitB A p m = true → k ≤ j)) (μ := fun (v x : Int) => (((2 ^ h.length : Nat) : Int) - x).toNat) ?_ n _ _ ⟨0, rfl, by omega, Or.inl ⟨rfl, fun V k p hV => absurd hV (Nat.not_lt_zero _)⟩⟩ (by omega)
    rintro v x ⟨U, rfl, hU, hv⟩ rc hrc
    rw [hBu.2.1, full_e (by omega)]
    refine rt_ite (fun g => ?_) (fun g => ?_)
    · obtain ⟨w1, w2⟩ := t2 U (by omega)
      rw [bc_e (by omega), b1_s, lt_u, j1_s, Int.toNat_natCast, Int.toNat_natCast, wi (x := (U : Int) + 1) (by omega) (by omega)]
      simp only [lt_u, j0_s]
      refine rt_chk (by omega) (rt_chk (by omega) ?_)
      have hF := hBu.1.2.2.2.2 m (by omega) (by omega)
      rw [Int.toNat_natCast] at hF
      have hF1 : 0 ≤ u 10 m ∧ u 10 m < 128 := hF.1
      have hF2 : ∀ q : Int, 0 ≤ q → q < 7 → bt (u 10 m) q.toNat = fitB A m q := hF.2
      obtain ⟨F, hFe⟩ : ∃ F : Nat, u 10 m = F := ⟨(u 10 m).toNat, by omega⟩
      have cW : u 103 U = ((u 103 U).toNat : Int) ∧ (u 103 U).toNat < 256 := by omega
      have hit : cmpL (an64 (u 103 U) (u 10 m)) 0 = 0 ↔ ¬ ∃ k p, rch A h st k U p ∧ fitB A p m = true := by
        rw [cmpL_0, hFe, cW.1, an_n64 (by omega)]
        have z := and0_iff (a := (u 103 U).toNat) (b := F) (by omega)
        constructor
        · rintro e ⟨k, p, r, f⟩
          have p8 := rch_8 hI hh (show st < 8 by omega) r
          have p7 : p < 7 := by
            cases k with
            | zero => rw [r.2]; exact hs
            | succ k =>
              obtain ⟨-, g, -⟩ := rch_s _ _ _ r
              obtain ⟨i, d, h1, h2, rfl⟩ := g (by omega)
              exact (pN_lt hI hh h1 (show 1 - d < 2 by omega)).1
          refine z.mp (by omega) ⟨p, p8, (w2 p).mpr ⟨k, r⟩, ?_⟩
          have := hF2 p (by omega) (by omega)
          rw [hFe, Int.toNat_natCast, bt_n (by omega)] at this
          rw [this, fit_sym hS (by omega) (by omega)]
          exact f
        · intro e
          have := z.mpr (fun ⟨p, q1, q2, q3⟩ => by
            obtain ⟨k, r⟩ := (w2 p).mp q2
            have p7 : p < 7 := by
              rcases Nat.lt_or_ge p 7 with g | g
              · exact g
              · have := Nat.testBit_lt_two_pow (i := p) (x := F) (Nat.lt_of_lt_of_le (show F < 128 by omega) (Nat.pow_le_pow_right (n := 2) (by decide) g))
                rw [this] at q3
                cases q3
            have := hF2 p (by omega) (by omega)
            rw [hFe, Int.toNat_natCast, bt_n (by omega), q3, fit_sym hS (by omega) (by omega)] at this
            exact e ⟨k, p, r, this.symm⟩)
          omega
      have miss : (¬ ∃ k p, rch A h st k U p ∧ fitB A p m = true) → (v = -1 ∧ ∀ V k p, V < U + 1 → rch A h st k V p → fitB A p m = false) ∨ ∃ k : Nat, v = k ∧ k ≤ 12 ∧ ledP A h st m k ∧ ∀ V j p, V < U + 1 → rch A h st j V p → fitB A p m = true → k ≤ j := by
        intro no
        rcases hv with ⟨e1, e2⟩ | ⟨k, e1, e2, e3, e4⟩
        · refine Or.inl ⟨e1, fun V k p hV r => ?_⟩
          by_cases e : V = U
          · subst e
            cases c : fitB A p m
            · rfl
            · exact absurd ⟨k, p, r, c⟩ no
          · exact e2 V k p (by omega) r
        · refine Or.inr ⟨k, e1, e2, e3, fun V j p hV r f => ?_⟩
          by_cases e : V = U
          · subst e
            exact absurd ⟨j, p, r, f⟩ no
          · exact e4 V j p (by omega) r f
      refine rt_ite (fun z => ?_) (fun z => ?_)
      · exact hrc _ _ ⟨U + 1, by push_cast; rfl, by omega, miss (hit.mp z)⟩ (by omega)
      · have ⟨k, p, r, f⟩ : ∃ k p, rch A h st k U p ∧ fitB A p m = true := Classical.byContradiction fun q => z (hit.mpr q)
        have pk := (rch_s _ _ _ r).2.2 l12
        have p12' := pcn_le (U := U) 12
        have put : (∀ V j q, V < U → rch A h st j V q → fitB A q m = true → k ≤ j) → Ret (rc ((pcn 12 U : Nat) : Int) ((U : Int) + 1)) (fun z => Agr (fun a j => a = 103 ∨ a = 105 ∨ (a = 104 ∧ j = 4)) σ z.2 ∧ ((12 < h.length ∧ z.1 = -1) ∨ (hn12 A ∧ ledV A h st m z.1))) := by
          intro hl
          refine hrc _ _ ⟨U + 1, by push_cast; rfl, by omega, Or.inr ⟨pcn 12 U, rfl, by omega, ⟨U, p, by rw [pk]; exact r, f⟩, fun V j q hV r' f' => ?_⟩⟩ (by omega)
          by_cases e : V = U
          · subst e
            have := (rch_s _ _ _ r').2.2 l12
            omega
          · have := hl V j q (by omega) r' f'
            omega
        rcases hv with ⟨e1, e2⟩ | ⟨k2, e1, e2, e3, e4⟩
        · rw [if_pos e1]
          refine put (fun V j q hV r' f' => ?_)
          have := e2 V j q hV r'
          rw [f'] at this
          cases this
        · rw [if_neg (by omega)]
          refine rt_ite (fun c => ?_) (fun c => ?_)
          · exact put (fun V j q hV r' f' => by have := e4 V j q hV r' f'; omega)
          · refine hrc _ _ ⟨U + 1, by push_cast; rfl, by omega, Or.inr ⟨k2, e1, e2, e3, fun V j q hV r' f' => ?_⟩⟩ (by omega)
            by_cases e : V = U
            · subst e
              have := (rch_s _ _ _ r').2.2 l12
              omega
            · exact e4 V j q (by omega) r' f'
    · have eU : U = 2 ^ h.length := by omega
      subst eU
      refine rt_some ⟨fun a j hq => (t1 a j (by omega)).trans (a3 a j (by omega)), Or.inr ⟨z12, ?_⟩⟩
      rcases hv with ⟨e1, e2⟩ | ⟨k, e1, -, e3, e4⟩
      · refine Or.inl ⟨e1, fun k ⟨V, p, r, f⟩ => ?_⟩
        rw [e2 V k p (rch_s _ _ _ r).1 r] at f
        cases f
      · refine Or.inr ⟨k, e1, e3, fun j hj ⟨V, p, r, f⟩ => ?_⟩
        have := e4 V j p (rch_s _ _ _ r).1 r f
        omega
  · have z2 : r = -1 := z2
    rw [if_pos z2]
    exact rt_some ⟨fun a j hq => a3 a j (by omega), Or.inl ⟨z1, rfl⟩⟩
end
