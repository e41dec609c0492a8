/-! LAYER 3zw: spread to its end -/
section
variable {A : JA} {h : List Int} {st : Nat} {σ s : JSg} {n p : Nat}
theorem e_fillR {N : Nat} {hi v : Int} (hn : 1000000 < n) (hN : 0 ≤ hi ∧ hi ≤ N) (h6 : N < 1000000) : Ret (f_JArr_fill_bad5a n p N 0 hi v s) (fun t => ∀ a j, t a j = if a = p ∧ (j : Int) < hi then v else s a j) := by
  unfold f_JArr_fill_bad5a f_JArr_rangeCheck_23922
  rw [if_neg (show ¬ hi < 0 by omega), if_neg (show ¬ (0 : Int) < 0 by decide), if_neg (show ¬ (N : Int) < hi by omega), b1_s]
  refine rt_lt ?_
  refine rt_w2 (I := fun (x : Int) (u : JSg) => (0 ≤ x ∧ x ≤ hi) ∧ ∀ a j, u a j = if a = p ∧ (j : Int) < x then v else s a j) (μ := fun (x : Int) (u : JSg) => (hi - x).toNat) ?_ n _ _ ⟨by omega, fun a j => by rw [if_neg (by omega)]⟩ (by omega)
  rintro x u ⟨x01, ua⟩ rc hrc
  refine rt_ite (fun g => ?_) (fun g => rt_some (fun a j => ?_))
  · refine rt_chk (by omega) (rt_lt (rt_lt ?_))
    rw [wi (by omega) (by omega)]
    refine hrc _ _ ⟨by omega, fun a j => ?_⟩ (by omega)
    rw [sp_at, ua]
    by_cases c1 : a = p
    · subst c1
      by_cases c2 : j = x.toNat
      · rw [if_pos rfl, if_pos c2, if_pos (by omega)]
      · rw [if_pos rfl, if_neg c2]
        by_cases c3 : (j : Int) < x
        · rw [if_pos ⟨rfl, c3⟩, if_pos (by omega)]
        · rw [if_neg (by omega), if_neg (by omega)]
    · rw [if_neg c1, if_neg (by omega), if_neg (by omega)]
  · rw [ua]
    by_cases c1 : a = p ∧ (j : Int) < hi
    · rw [if_pos c1, if_pos (by omega)]
    · rw [if_neg c1, if_neg (by omega)]
/-- the table says just what can be reached -/
def SprP (A : JA) (h : List Int) (st : Nat) (t : JSg) : Prop := ∀ W, W < 2 ^ h.length → (0 ≤ t 103 W ∧ t 103 W < 256) ∧ ∀ p, tbb t W p = true ↔ ∃ k, rch A h st k W p
theorem rch_8 (hI : WfI A) (hh : Hnd A h) (hs : st < 8) {k U p : Nat} (r : rch A h st k U p) : p < 8 := by
  cases k with
  | zero => rw [r.2]; exact hs
  | succ k =>
    obtain ⟨-, g, -⟩ := rch_s _ _ _ r
    obtain ⟨i, d, h1, h2, rfl⟩ := g (by omega)
    have := (pN_lt hI hh h1 (show 1 - d < 2 by omega)).1
    omega
theorem e_spread (hn : 1000000 < n) (hI : WfI A) (hh : Hnd A h) (hB : ChB A h s) (hs : st < 8) : Ret (f_Chn_spread n (st : Int) s) (fun t => Agr (fun a _ => a = 103) s t ∧ SprP A h st t) := by
  have l12 := hh.1
  have p12 := pw12 l12
  have p0 := Nat.two_pow_pos h.length
  unfold f_Chn_spread
  rw [hB.2.1, full_e (by omega)]
  refine rt_b1 (e_fillR (p := 103) (N := 32768) (hi := ((2 ^ h.length : Nat) : Int)) (v := 0) hn (by omega) (by omega)) (fun t ht => ?_)
  generalize hN : 2 ^ h.length = N at *
  rw [sl1_64 st hs]
  refine rt_lt (rt_lt ?_)
  have b1 := sl1_b st hs
  have t0 : ∀ W, W < N → sp t 103 0 ((1 <<< st : Nat) : Int) 103 W = if W = 0 then ((1 <<< st : Nat) : Int) else 0 := by
    intro W hW
    by_cases e : W = 0
    · subst e; rw [sp_eq, if_pos rfl]
    · rw [sp_nj e, ht, if_pos (by omega), if_neg e]
  have ta : Agr (fun a _ => a = 103) s (sp t 103 0 ((1 <<< st : Nat) : Int)) := ag_sp (fun a j ha => by rw [ht, if_neg (fun q => ha q.1)]) rfl
  generalize sp t 103 0 ((1 <<< st : Nat) : Int) = t' at *
  /- what holds all along -/
  let S : JSg → Prop := fun u => Agr (fun a _ => a = 103) s u ∧ (∀ W, W < N → 0 ≤ u 103 W ∧ u 103 W < 256) ∧ (∀ W p, W < N → tbb u W p = true → ∃ k, rch A h st k W p) ∧ tbb u 0 st = true
  let C : JSg → Nat → Nat → Prop := fun u V m => ∀ i d q k, i < m → rch A h st k V q → edg A h V q i d → tbb u (ins V i) (pN A h i (1 - d)) = true
  have S0 : S t' := by
    refine ⟨ta, fun W hW => ?_, fun W p hW hp => ?_, ?_⟩
    · rw [t0 W hW]
      split
      · exact ⟨Int.natCast_nonneg _, Int.ofNat_lt.mpr b1⟩
      · decide
    · unfold tbb at hp
      rw [t0 W hW] at hp
      by_cases e : W = 0
      · rw [if_pos e, Int.toNat_natCast, bit_one, decide_eq_true_eq] at hp
        exact ⟨0, e, hp.symm⟩
      · rw [if_neg e] at hp
        simp at hp
    · unfold tbb
      rw [t0 0 p0, if_pos rfl, Int.toNat_natCast, bit_one, decide_eq_true rfl]
  have full : ∀ (u : JSg) (U : Nat), S u → (∀ V, V < U → C u V h.length) → U < N → ∀ p k, rch A h st k U p → tbb u U p = true := by
    intro u U hS hC hU p k r
    cases k with
    | zero => rw [r.1, r.2]; exact hS.2.2.2
    | succ k =>
      obtain ⟨V, q, i, d, r1, e, rfl, rfl⟩ := r
      exact hC V (ins_gt e.2.2.1) i d q k e.1 r1 e
  refine rt_w2 (I := fun (x : Int) (u : JSg) => ∃ U : Nat, x = U ∧ U ≤ N ∧ S u ∧ ∀ V, V < U → C u V h.length) (μ := fun (x : Int) (u : JSg) => (N - x).toNat) ?_ n _ _ ⟨0, rfl, by omega, S0, fun V hV => absurd hV (Nat.not_lt_zero _)⟩ (by omega)
  clear S0 t0 ta
  rintro x u ⟨U, rfl, hU, hS, hC⟩ rc hrc
  have u4 : u 104 4 = (h.length : Nat) := (hS.1 104 4 (by decide)).trans hB.2.1
  rw [u4, full_e (by omega), hN]
  refine rt_ite (fun g => ?_) (fun g => ?_)
  · have nxt : ∀ v : JSg, S v → (∀ V, V < U → C v V h.length) → C v U h.length → Ret (rc (w32 ((U : Int) + 1)) v) (fun t => Agr (fun a _ => a = 103) s t ∧ SprP A h st t) := by
      intro v v1 v2 v3
      rw [wi (by omega) (by omega)]
      refine hrc _ _ ⟨U + 1, by push_cast; rfl, by omega, v1, fun V hV => ?_⟩ (by omega)
      by_cases e : V = U
      · rw [e]; exact v3
      · exact v2 V (by omega)
    refine rt_lt ?_
    refine rt_w2 (I := fun (y : Int) (v : JSg) => ∃ m : Nat, y = m ∧ m ≤ h.length ∧ S v ∧ (∀ V, V < U → C v V h.length) ∧ C v U m) (μ := fun (y : Int) (v : JSg) => (h.length - y).toNat) ?_ n _ _ ⟨0, rfl, by omega, hS, hC, fun i d q k hi => absurd hi (Nat.not_lt_zero _)⟩ (by omega)
    clear hS hC hrc u4
    rintro y v ⟨m, rfl, hm, hS, hC, hCU⟩ rc2 hrc2
    have v4 : v 104 4 = (h.length : Nat) := (hS.1 104 4 (by decide)).trans hB.2.1
    have hBv : ChB A h v := ChB_ag hB (fun a j hq => hS.1 a j (by omega))
    rw [v4, j0_s]
    refine rt_ite (fun g2 => ?_) (fun g2 => rt_lt (nxt v hS hC (by rwa [show h.length = m by omega])))
    refine rt_chk (by omega) ?_
    rw [Int.toNat_natCast]
    refine rt_ite (fun z => rt_lt (nxt v hS hC ?_)) (fun z => ?_)
    · rw [cmpL_0] at z
      intro i d q k hi r e
      have := full v U hS hC (by omega) q k r
      unfold tbb at this
      rw [z] at this
      simp at this
    · rw [j1_s, has_n (by omega) (by omega), wi (by omega) (by omega)]
      simp only [lt_u]
      by_cases hb : U.testBit m = true
      · rw [if_pos hb, if_neg (by decide)]
        refine hrc2 _ _ ⟨m + 1, by push_cast; rfl, by omega, hS, hC, fun i d q k hi r e => ?_⟩ (by omega)
        by_cases e1 : i = m
        · have := e.2.2.1
          rw [e1, hb] at this
          cases this
        · exact hCU i d q k (by omega) r e
      · have hb : U.testBit m = false := by
          cases c : U.testBit m
          · rfl
          · exact absurd c hb
        rw [if_neg (show ¬ U.testBit m = true by rw [hb]; decide), if_pos rfl]
        refine rt_b1 (e_spreadOver hI hh hBv (by omega) (by omega) hb (by rw [hN]; exact hS.2.1)) (fun w hw => ?_)
        rw [hN] at hw
        obtain ⟨w1, w2, w3⟩ := hw
        have up : ∀ W p, W < N → tbb v W p = true → tbb w W p = true := fun W p hW q => (w3 W p hW).mpr (Or.inl q)
        have vl : ∀ V i, V < N → i < h.length → ins V i < N := fun V i hV hi => by rw [← hN] at hV ⊢; exact ins_lt hV hi
        refine hrc2 _ _ ⟨m + 1, by push_cast; rfl, by omega, ⟨ag_tr hS.1 w1, w2, fun W p hW q => ?_, up _ _ (by omega) hS.2.2.2⟩, fun V hV i d q k hi r e => up _ _ (vl V i (by omega) hi) (hC V hV i d q k hi r e), fun i d q k hi r e => ?_⟩ (by omega)
        · rcases (w3 W p hW).mp q with q | ⟨rfl, d, d2, ⟨q', q1, q2, q3⟩, rfl⟩
          · exact hS.2.2.1 W p hW q
          · obtain ⟨k, r⟩ := hS.2.2.1 U q' (by omega) q2
            exact ⟨k + 1, U, q', m, d, r, ⟨by omega, d2, hb, q3⟩, rfl, rfl⟩
        · by_cases e1 : i = m
          · subst e1
            refine (w3 _ _ (vl U i (by omega) e.1)).mpr (Or.inr ⟨rfl, d, e.2.1, ⟨q, rch_8 hI hh hs r, full v U hS hC (by omega) q k r, e.2.2.2⟩, rfl⟩)
          · exact up _ _ (vl U i (by omega) (by omega)) (hCU i d q k (by omega) r e)
  · have eU : U = N := by omega
    subst eU
    refine rt_some ⟨hS.1, fun W hW => ?_⟩
    rw [hN] at hW
    exact ⟨hS.2.1 W hW, fun p => ⟨hS.2.2.1 W p hW, fun ⟨k, r⟩ => full u W hS (fun V hV => hC V (by omega)) hW p k r⟩⟩
end
