/-! LAYER 3zy: the class's longest -/
section
variable {A : JA} {h : List Int} {st : Nat} {σ s t : JSg} {n p : Nat}
theorem sr1_n {c : Nat} (hc : c < 2147483648) : sr32 (c : Int) 1 = ((c / 2 : Nat) : Int) := by
  have := sr_n (a := c) (k := 1) hc (by decide)
  rw [Nat.shiftRight_eq_div_pow] at this
  exact this
theorem an1_n {c : Nat} (hc : c < 2147483648) : an32 (c : Int) 1 = ((c % 2 : Nat) : Int) := by
  have := an_n (a := c) (b := 1) hc
  rw [Nat.and_one_is_mod] at this
  exact this
def codeC (h : List Int) (c : Nat) : Int := 2 * h.getD (c / 2) 0 + ((c % 2 : Nat) : Int)
theorem e_firstUseful {L U p k : Nat} (hn : 1000000 < n) (hI : WfI A) (hh : Hnd A h) (hB : ChB A h s) (hs : st < 8) (hF : ∀ V, V < 2 ^ h.length → UsfP A h st L s V) (r : rch A h st k U p) (hk : k < L) (c0 : can A h (L - k) U p) : Ret (f_Chn_firstUseful n (U : Int) (p : Int) s) (fun z => ∃ c : Nat, z = c ∧ c < 2 * h.length ∧ fstC A h (L - (k + 1)) U p c) := by
  have l12 := hh.1
  have p12 := pw12 l12
  obtain ⟨hU, -, pk⟩ := rch_s _ _ _ r
  have pk := pk l12
  have p8 := rch_8 hI hh hs r
  rw [show L - k = (L - (k + 1)) + 1 by omega] at c0
  obtain ⟨i0, d0, e0, c0⟩ := c0
  have ex : nxtC A h (L - (k + 1)) U p (2 * i0 + d0) := by
    have d2 := e0.2.1
    unfold nxtC
    rw [show (2 * i0 + d0) / 2 = i0 by omega, show (2 * i0 + d0) % 2 = d0 by omega]
    exact ⟨e0, c0⟩
  have exl : 2 * i0 + d0 < 2 * h.length := by
    have := e0.1
    have := e0.2.1
    omega
  unfold f_Chn_firstUseful
  refine rt_lt ?_
  refine rt_w1 (I := fun (x : Int) => ∃ c : Nat, x = c ∧ c ≤ 2 * h.length ∧ ∀ e, e < c → ¬ nxtC A h (L - (k + 1)) U p e) (μ := fun (x : Int) => (2 * (h.length : Int) - x).toNat) ?_ n _ ⟨0, rfl, by omega, fun e he => absurd he (Nat.not_lt_zero _)⟩ (by omega)
  rintro x ⟨c, rfl, hc, hm⟩ rc hrc
  rw [hB.2.1, wi (by omega) (by omega)]
  refine rt_ite (fun g => ?_) (fun g => absurd ex (hm _ (by omega)))
  rw [sr1_n (by omega), an1_n (by omega), lt_u, j1_s]
  simp only [lt_u, Int.toNat_natCast]
  have hi : c / 2 < h.length := by omega
  obtain ⟨q1, q2, q3, q4⟩ := hand_6 hI hh hB hi
  have xd := pN_lt hI hh hi (show c % 2 < 2 by omega)
  have xo := pN_lt hI hh hi (show 1 - c % 2 < 2 by omega)
  have tg := e_Isl_together hI hB.1 (hh.2 _ hi).1 (hh.2 _ hi).2
  have body : ∀ y : Int, y = (pN A h (c / 2) (c % 2) : Nat) → Ret (chk (0 ≤ ((c / 2 : Nat) : Int) ∧ ((c / 2 : Nat) : Int) < 12) <| bd1 (f_Isl_together 4 (s 105 (c / 2)) s) fun r8 => jn0 (rc (w32 ((c : Int) + 1))) fun j10 => if (an32 (sr32 (U : Int) ((c / 2 : Nat) : Int)) 1) = 0 then (bd1 (f_Chn_ahead y s) fun r12 => if (cmpL (an64 (sr64 r12 (p : Int)) 1) 0) = 0 then (j10) else (chk (0 ≤ (w32 (4096 + (or32 (U : Int) (sl32 1 ((c / 2 : Nat) : Int))))) ∧ (w32 (4096 + (or32 (U : Int) (sl32 1 ((c / 2 : Nat) : Int))))) < 32768) <| if (cmpL (an64 (sr64 (s 103 (w32 (4096 + (or32 (U : Int) (sl32 1 ((c / 2 : Nat) : Int))))).toNat) (w32 (r8 - y))) 1) 0) = 0 then (j10) else (some (c : Int)))) else (j10)) (fun z => ∃ c : Nat, z = c ∧ c < 2 * h.length ∧ fstC A h (L - (k + 1)) U p c) := by
    rintro y rfl
    have out : w32 (pipA A (h.getD (c / 2) 0) 0 + pipA A (h.getD (c / 2) 0) 1 - (pN A h (c / 2) (c % 2) : Nat)) = (pN A h (c / 2) (1 - c % 2) : Nat) := by
      have y0 := pN_lt hI hh hi (show 0 < 2 by decide)
      have y1 := pN_lt hI hh hi (show 1 < 2 by decide)
      rw [← Int.ofNat_eq_natCast] at y0 y1
      have z0 : pipA A (h.getD (c / 2) 0) 0 = (pN A h (c / 2) 0 : Nat) := y0.2.symm
      have z1 : pipA A (h.getD (c / 2) 0) 1 = (pN A h (c / 2) 1 : Nat) := y1.2.symm
      have : c % 2 = 0 ∨ c % 2 = 1 := by omega
      rcases this with e | e
      · rw [e, z0, z1, wi (by omega) (by omega), show 1 - 0 = 1 from rfl]
        omega
      · rw [e, z0, z1, wi (by omega) (by omega), show 1 - 1 = 0 from rfl]
        omega
    have miss : ¬ nxtC A h (L - (k + 1)) U p c → Ret (rc (w32 ((c : Int) + 1))) (fun z => ∃ c : Nat, z = c ∧ c < 2 * h.length ∧ fstC A h (L - (k + 1)) U p c) := by
      intro hx
      rw [wi (by omega) (by omega)]
      refine hrc _ ⟨c + 1, by push_cast; rfl, by omega, fun e he => ?_⟩ (by omega)
      by_cases q : e = c
      · rw [q]; exact hx
      · exact hm e (by omega)
    rw [q1, tg, b1_s, out, j0_s, has_n (by omega) (by omega)]
    refine rt_chk (by omega) ?_
    by_cases hb : U.testBit (c / 2) = true
    · rw [if_pos hb, if_neg (by decide)]
      refine miss (fun q => ?_)
      have := q.1.2.2.1
      rw [hb] at this
      cases this
    · have hb' : U.testBit (c / 2) = false := by
        cases c : U.testBit (c / 2)
        · rfl
        · exact absurd c hb
      rw [if_neg hb, if_pos rfl]
      obtain ⟨G, a1, a2, a3⟩ := e_ahead hB.1 xd.1
      rw [a1, b1_s]
      have hv := ins_lt hU hi
      refine rt_ite (fun z => ?_) (fun z => ?_)
      · refine miss (fun q => ?_)
        have q := q.1.2.2.2
        rw [← a3 p p8] at q
        exact (sr_bit a2 (by omega)).mp z q
      · have ok : okp A (pN A h (c / 2) (c % 2)) p = true := by
          rw [← a3 p p8]
          exact Classical.byContradiction fun q => z ((sr_bit a2 (by omega)).mpr q)
        have ed : edg A h U p (c / 2) (c % 2) := ⟨hi, by omega, hb', ok⟩
        rw [ins_e (by omega) (by omega), wi (by omega) (by omega), show ((4096 : Int) + ((ins U (c / 2) : Nat) : Int)).toNat = 4096 + ins U (c / 2) by omega]
        refine rt_chk (by omega) ?_
        have uI := hF _ hv
        have rk : rch A h st (k + 1) (ins U (c / 2)) (pN A h (c / 2) (1 - c % 2)) := ⟨U, p, _, _, r, ed, rfl, rfl⟩
        refine rt_ite (fun z2 => ?_) (fun z2 => ?_)
        · refine miss (fun q => ?_)
          exact (sr_cell uI.1 (by omega)).mp z2 ((uI.2 _).mpr ⟨k + 1, rk, q.2⟩)
        · have tb : tbb s (4096 + ins U (c / 2)) (pN A h (c / 2) (1 - c % 2)) = true := Classical.byContradiction fun q => z2 ((sr_cell uI.1 (by omega)).mpr q)
          obtain ⟨k', r', c'⟩ := (uI.2 _).mp tb
          have e1 := (rch_s _ _ _ r').2.2 l12
          have e2 := (rch_s _ _ _ rk).2.2 l12
          have : k' = k + 1 := by omega
          subst this
          exact rt_some ⟨c, rfl, by omega, ⟨ed, c'⟩, hm⟩
  refine rt_ite (fun z => ?_) (fun z => ?_)
  · refine rt_chk (by omega) (rt_chk (by rw [q1]; omega) (body _ ?_))
    rw [q1, q3, show c % 2 = 0 by omega]
  · refine rt_chk (by omega) (rt_chk (by rw [q1]; omega) (body _ ?_))
    rw [q1, q4, show c % 2 = 1 by omega]
def PthP (h : List Int) (s : JSg) (a : Nat) (l : List Nat) : Prop := ∀ j, j < l.length → s a j = codeC h (l.getD j 0)
theorem pth_s {a c : Nat} {l : List Nat} {x : Int} (hp : PthP h s a l) (hx : x = codeC h c) : PthP h (sp s a l.length x) a (l ++ [c]) := by
  intro j hj
  rw [List.length_append] at hj
  have hj : j < l.length + 1 := hj
  rw [List.getD_eq_getElem?_getD]
  by_cases e : j < l.length
  · rw [sp_nj (by omega), hp j e, List.getElem?_append_left e, List.getD_eq_getElem?_getD]
  · obtain rfl : j = l.length := by omega
    rw [sp_eq, hx, List.getElem?_append_right (Nat.le_refl _), Nat.sub_self]
    rfl
theorem code_in (hI : WfI A) (hh : Hnd A h) {c : Nat} (hc : c / 2 < h.length) : 0 ≤ codeC h c ∧ codeC h c < 56 := by
  have := hh.2 _ hc
  have := hI.2.1
  unfold codeC
  omega
theorem e_walk {L : Nat} (hn : 1000000 < n) (hI : WfI A) (hh : Hnd A h) (hB : ChB A h s) (hs : st < 8) (hF : ∀ V, V < 2 ^ h.length → UsfP A h st L s V) (h6 : s 104 6 = (L : Nat)) (hL : isLg A h 0 st L) : Ret (f_Chn_walk n (st : Int) s) (fun t => Agr (fun a _ => a = 106) s t ∧ ∃ l, wlkP A h L 0 st l ∧ PthP h t 106 l) := by
  have l12 := hh.1
  have p12 := pw12 l12
  have L12 : L ≤ h.length := by have := can_fit _ _ _ hL.1; omega
  unfold f_Chn_walk
  refine rt_lt (rt_lt (rt_lt ?_))
  refine rt_w4 (I := fun (x y z : Int) (u : JSg) => ∃ (U p k : Nat) (l : List Nat), x = U ∧ y = p ∧ z = k ∧ rch A h st k U p ∧ can A h (L - k) U p ∧ k ≤ L ∧ l.length = k ∧ Agr (fun a _ => a = 106) s u ∧ PthP h u 106 l ∧ ∀ m, wlkP A h (L - k) U p m → wlkP A h L 0 st (l ++ m)) (μ := fun (x y z : Int) (u : JSg) => (L - z).toNat) ?_ n _ _ _ _ ⟨0, st, 0, [], rfl, rfl, rfl, ⟨rfl, rfl⟩, hL.1, by omega, rfl, ag_refl, fun j hj => absurd hj (Nat.not_lt_zero _), fun m q => q⟩ (by omega)
  rintro x y z u ⟨U, p, k, l, rfl, rfl, rfl, r, c, hk, hl, ua, up, uw⟩ rc hrc
  have u6 : u 104 6 = (L : Nat) := (ua 104 6 (by decide)).trans h6
  have hBu : ChB A h u := ChB_ag hB (fun a j hq => ua a j (by omega))
  rw [u6]
  refine rt_ite (fun g => ?_) (fun g => ?_)
  · refine rt_b1 (e_firstUseful hn hI hh hBu hs (fun V hV => by
      have := hF V hV
      unfold UsfP tbb at this ⊢
      rw [ua 103 _ (show ¬ (103 : Nat) = 106 by decide)]
      exact this) r (by omega) c) ?_
    rintro w ⟨cc, rfl, hc, hf⟩
    obtain ⟨hU, -, -⟩ := rch_s _ _ _ r
    have hi : cc / 2 < h.length := by omega
    obtain ⟨q1, q2, q3, q4⟩ := hand_6 hI hh hBu hi
    have ci := code_in hI hh hi
    have e1 : w32 (2 * h.getD (cc / 2) 0) = 2 * h.getD (cc / 2) 0 := wi (by omega) (by omega)
    have e2 : w32 (2 * h.getD (cc / 2) 0 + ((cc % 2 : Nat) : Int)) = codeC h cc := wi (by omega) (by omega)
    rw [lt_u, sr1_n (by omega), an1_n (by omega), Int.toNat_natCast, Int.toNat_natCast, q1, lt_u, e1, e2, ins_e (by omega) (by omega), wi (x := (k : Int) + 1) (by omega) (by omega)]
    simp only [lt_u, j1_s]
    have q6 : (sp u 106 k (codeC h cc)) 6 (h.getD (cc / 2) 0).toNat = (pN A h (cc / 2) 0 : Nat) := by rw [sp_nq (by decide)]; exact q3
    have q7 : (sp u 106 k (codeC h cc)) 7 (h.getD (cc / 2) 0).toNat = (pN A h (cc / 2) 1 : Nat) := by rw [sp_nq (by decide)]; exact q4
    rw [q6, q7]
    refine rt_chk (by omega) (rt_chk (by omega) ?_)
    have go : Ret (rc ((ins U (cc / 2) : Nat) : Int) ((pN A h (cc / 2) (1 - cc % 2) : Nat) : Int) ((k : Int) + 1) (sp u 106 k (codeC h cc))) (fun t => Agr (fun a _ => a = 106) s t ∧ ∃ l, wlkP A h L 0 st l ∧ PthP h t 106 l) := by
      refine hrc _ _ _ _ ⟨ins U (cc / 2), pN A h (cc / 2) (1 - cc % 2), k + 1, l ++ [cc], rfl, rfl, by push_cast; rfl, ⟨U, p, _, _, r, hf.1.1, rfl, rfl⟩, hf.1.2, by omega, by rw [List.length_append, hl]; rfl, ag_sp ua rfl, ?_, fun m hm => ?_⟩ (by omega)
      · have := pth_s (c := cc) up rfl
        rwa [hl] at this
      · have := uw (cc :: m) (by
          rw [show L - k = (L - (k + 1)) + 1 by omega]
          exact ⟨cc, m, rfl, hf, hm⟩)
        rwa [List.append_assoc]
    refine rt_ite (fun z => ?_) (fun z => ?_)
    · refine rt_chk (by omega) ?_
      have := go
      rw [show 1 - cc % 2 = 1 by omega] at this
      exact this
    · refine rt_chk (by omega) ?_
      have := go
      rw [show 1 - cc % 2 = 0 by omega] at this
      exact this
  · obtain rfl : k = L := by omega
    refine rt_some ⟨ua, l, ?_, up⟩
    have := uw [] (by rw [Nat.sub_self]; rfl)
    rwa [List.append_nil] at this
def hn12 (A : JA) : Prop := (hndL A).length ≤ 12
theorem hnd_ok (hI : WfI A) (h12 : hn12 A) : Hnd A (hndL A) := by
  refine ⟨h12, fun i hi => ?_⟩
  have := hdL_g (P := hldP A) hi
  have b := hI.2.1
  refine ⟨this.1, ?_⟩
  have := this.2.1
  show (hdL (hldP A) (A 1).toNat).getD i 0 < A 1
  omega
def stA (A : JA) : Nat := if A 151 = 0 then 7 else (outA A 1).toNat
theorem stA_8 (hI : WfI A) (hW : WfR A) : stA A < 8 := by
  unfold stA
  split
  · decide
  · rename_i g
    have := outA_in hI hW g (show (0 : Int) ≤ 1 by decide) (show (1 : Int) ≤ 1 by decide)
    omega
def chC (a j : Nat) : Prop := a = 103 ∨ (a = 104 ∧ (j = 4 ∨ j = 6)) ∨ a = 105 ∨ a = 106
theorem e_findLongest (hn : 1000000 < n) (hI : WfI A) (hW : WfR A) (hL : IslR σ 4 A) (hR : RowR σ 11 A) : Ret (f_Chn_findLongest n σ) (fun z => (12 < (hndL A).length ∧ z.1 = -1 ∧ Agr (fun a j => chC a j ∧ ¬ (a = 104 ∧ j = 6) ∧ a ≠ 106) σ z.2) ∨ (hn12 A ∧ Agr chC σ z.2 ∧ ∃ (L : Nat) (l : List Nat), z.1 = L ∧ z.2 104 6 = L ∧ isLg A (hndL A) 0 (stA A) L ∧ wlkP A (hndL A) L 0 (stA A) l ∧ PthP (hndL A) z.2 106 l)) := by
  unfold f_Chn_findLongest
  refine rt_b2 (e_Row_gather hn hI hL hR (by decide) (by decide)) (fun r s2 hz => ?_)
  obtain ⟨za, zb⟩ := hz
  have za : Agr (fun a _ => a = 105) σ s2 := za
  rw [lt_u, sp_eq]
  rcases zb with ⟨z1, z2, z3⟩ | ⟨z1, z2⟩
  · have z2 : r = ((hndL A).length : Nat) := z2
    have z3 : ∀ j : Nat, j < (hndL A).length → s2 105 j = (hndL A).getD j 0 := z3
    subst z2
    rw [if_neg (by omega), j1_s]
    have z12 : hn12 A := z1
    have hh := hnd_ok hI z1
    have s8 := stA_8 hI hW
    generalize hs3 : sp s2 104 4 (((hndL A).length : Nat) : Int) = s3
    have a3 : ∀ a j, ¬ (a = 105 ∨ (a = 104 ∧ j = 4)) → s3 a j = σ a j := by
      intro a j hq
      rw [← hs3, sp_at]
      by_cases e : a = 104
      · rw [if_pos e, if_neg (by omega)]; exact za a j (by omega)
      · rw [if_neg e]; exact za a j (by omega)
    have hB : ChB A (hndL A) s3 := ⟨IslR_ag (fun q j hq => a3 q j (by omega)) hL, by rw [← hs3, sp_eq], fun j hj => by rw [← hs3, sp_nq (by decide)]; exact z3 j hj⟩
    have hR3 : RowR s3 11 A := RowR_ag (fun q j hq => a3 q j (by omega)) hR
    clear hs3 z3 za
    generalize hndL A = h at *
    have l12 := hh.1
    have p12 := pw12 l12
    have p0 := Nat.two_pow_pos h.length
    have main : Ret (lt_ ((stA A : Nat) : Int) fun v6 => bd1 (f_Chn_spread n v6 s3) fun s7 => lt_ (sp s7 104 6 0) fun s8 => lt_ 0 fun v9 => wh2 n (fun rc10 (x11 : Int) (s12 : JSg) => if x11 < (sl32 1 (s12 104 4)) then (chk (0 ≤ x11 ∧ x11 < 32768) <| jn1 (fun  (s16 : JSg) => lt_ (w32 (x11 + 1)) fun v17 => rc10 v17 s16) fun j15 => if (cmpL (s12 103 x11.toNat) 0) = 0 then (j15 s12) else (bd1 (f_JInt_bitCount_0f7a4 x11 s12) fun r18 => lt_ (sp s12 104 6 (max (s12 104 6) r18)) fun s19 => j15 s19)) else (bd1 (f_Chn_markUseful n s12) fun s13 => bd1 (f_Chn_walk n v6 s13) fun s14 => some (s14 104 6, s14))) v9 s8) (fun z => (12 < h.length ∧ z.1 = -1 ∧ Agr (fun a j => chC a j ∧ ¬ (a = 104 ∧ j = 6) ∧ a ≠ 106) σ z.2) ∨ (hn12 A ∧ Agr chC σ z.2 ∧ ∃ (L : Nat) (l : List Nat), z.1 = L ∧ z.2 104 6 = L ∧ isLg A h 0 (stA A) L ∧ wlkP A h L 0 (stA A) l ∧ PthP h z.2 106 l)) := by
      rw [lt_u]
      refine rt_b1 (e_spread hn hI hh hB s8) (fun s7 h7 => ?_)
      obtain ⟨t1, t2⟩ := h7
      rw [lt_u, lt_u]
      have e8 : ∀ a j, ¬ (a = 104 ∧ j = 6) → sp s7 104 6 0 a j = s7 a j := by
        intro a j hq
        rw [sp_at]
        by_cases e : a = 104
        · rw [if_pos e, if_neg (by omega)]
        · rw [if_neg e]
      refine rt_w2 (I := fun (x : Int) (u : JSg) => ∃ U L : Nat, x = U ∧ U ≤ 2 ^ h.length ∧ u 104 6 = L ∧ (∀ V p k, V < U → rch A h (stA A) k V p → k ≤ L) ∧ (L = 0 ∨ ∃ V p, rch A h (stA A) L V p) ∧ ∀ a j, ¬ (a = 104 ∧ j = 6) → u a j = s7 a j) (μ := fun (x : Int) (u : JSg) => (((2 ^ h.length : Nat) : Int) - x).toNat) ?_ n _ _ ⟨0, 0, rfl, by omega, sp_eq, fun V p k hV => absurd hV (Nat.not_lt_zero _), Or.inl rfl, e8⟩ (by omega)
      rintro x u ⟨U, L, rfl, hU, u6, uk, uL, ue⟩ rc hrc
      have u4 : u 104 4 = (h.length : Nat) := (ue 104 4 (by omega)).trans ((t1 104 4 (by decide)).trans hB.2.1)
      rw [u4, full_e (by omega)]
      refine rt_ite (fun g => ?_) (fun g => ?_)
      · obtain ⟨w1, w2⟩ := t2 U (by omega)
        rw [j1_s, Int.toNat_natCast, ue 103 U (by omega), bc_e (by omega), wi (x := (U : Int) + 1) (by omega) (by omega)]
        simp only [lt_u]
        refine rt_chk (by omega) (rt_ite (fun z => ?_) (fun z => ?_))
        · refine hrc _ _ ⟨U + 1, L, by push_cast; rfl, by omega, u6, fun V p k hV r => ?_, uL, ue⟩ (by omega)
          by_cases e : V = U
          · subst e
            have := (w2 p).mpr ⟨k, r⟩
            unfold tbb at this
            rw [cmpL_0.mp z] at this
            simp at this
          · exact uk V p k (by omega) r
        · have nz : (s7 103 U).toNat ≠ 0 := fun q => z (cmpL_0.mpr (by omega))
          obtain ⟨p, hp⟩ := Nat.exists_testBit_of_ne_zero nz
          obtain ⟨k, r⟩ := (w2 p).mp hp
          have pk := (rch_s _ _ _ r).2.2 l12
          rw [u6, b1_s]
          have mx : max (L : Int) ((pcn 12 U : Nat) : Int) = ((max L k : Nat) : Int) := by omega
          rw [mx]
          refine hrc _ _ ⟨U + 1, max L k, by push_cast; rfl, by omega, sp_eq, fun V p' k' hV r' => ?_, ?_, fun a j hq => ?_⟩ (by omega)
          · by_cases e : V = U
            · subst e
              have := (rch_s _ _ _ r').2.2 l12
              omega
            · have := uk V p' k' (by omega) r'
              omega
          · by_cases e : L ≤ k
            · exact Or.inr ⟨U, p, by rw [Nat.max_eq_right e]; exact r⟩
            · rw [Nat.max_eq_left (by omega)]; exact uL
          · rw [sp_at]
            by_cases e : a = 104
            · rw [if_pos e, if_neg (by omega)]; exact ue a j hq
            · rw [if_neg e]; exact ue a j hq
      · have eU : U = 2 ^ h.length := by omega
        subst eU
        have hLg : isLg A h 0 (stA A) L := by
          constructor
          · rcases uL with e | ⟨V, p, r⟩
            · rw [e]; trivial
            · exact rch_can L V p 0 r trivial
          · intro c
            obtain ⟨V, q, r⟩ := can_rch (L + 1) 0 0 (stA A) ⟨rfl, rfl⟩ c
            have hV := (rch_s _ _ _ r).1
            have := uk V q _ hV r
            omega
        have hBu : ChB A h u := ChB_ag hB (fun a j hq => (ue a j (by omega)).trans (t1 a j (by omega)))
        have hSu : SprP A h (stA A) u := fun W hW => by
          have := t2 W hW
          unfold tbb at this ⊢
          rw [ue 103 _ (by omega)]
          exact this
        refine rt_b1 (e_markUseful hn hI hh hBu s8 hSu u6 hLg) (fun v hv => ?_)
        obtain ⟨v1, v2⟩ := hv
        have hBv : ChB A h v := ChB_ag hBu (fun a j hq => v1 a j (by omega))
        have v6 : v 104 6 = (L : Nat) := (v1 104 6 (by omega)).trans u6
        refine rt_b1 (e_walk hn hI hh hBv s8 v2 v6 hLg) (fun w hw => ?_)
        obtain ⟨w1, l, w2, w3⟩ := hw
        have w6 : w 104 6 = (L : Nat) := (w1 104 6 (by decide)).trans v6
        refine rt_some (Or.inr ⟨z12, fun a j hq => ?_, L, l, w6, w6, hLg, w2, w3⟩)
        unfold chC at hq
        exact (w1 a j (by omega)).trans ((v1 a j (by omega)).trans ((ue a j (by omega)).trans ((t1 a j (by omega)).trans (a3 a j (by omega)))))
    rw [hR3.1]
    refine rt_ite (fun g => ?_) (fun g => ?_)
    · have e : stA A = 7 := if_pos g
      rw [show ((stA A : Nat) : Int) = 7 by rw [e]; rfl] at main
      exact main
    · have o := outA_in hI hW g (show (0 : Int) ≤ 1 by decide) (show (1 : Int) ≤ 1 by decide)
      have e : ((stA A : Nat) : Int) = outA A 1 := by
        unfold stA
        rw [if_neg g]
        omega
      rw [e_Row_outer hI hW hB.1 hR3 (by decide) (by decide), b1_s, ← e]
      exact main
  · have z2 : r = -1 := z2
    rw [if_pos z2]
    refine rt_some (Or.inl ⟨z1, rfl, fun a j hq => ?_⟩)
    unfold chC at hq
    show sp s2 104 4 r a j = _
    rw [sp_at]
    by_cases e : a = 104
    · rw [if_pos e, if_neg (by omega)]; exact za a j (by omega)
    · rw [if_neg e]; exact za a j (by omega)
end
