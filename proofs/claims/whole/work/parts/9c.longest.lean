/-! LAYER 3za1: longest -/
section
variable {A : JA} {h : List Int} {st : Nat} {σ s t : JSg} {n : Nat}
theorem e_M_wlk {L : Nat} (hn : 1000000 < n) (hI : WfI A) (hh : Hnd A h) (hB : MhB A h s) (hM : ∀ V p, V < 2 ^ h.length → p < 7 → MorP A h s V p) (hs : st < 8) (hL : isLg A h 0 st L) : Ret (lt_ (L : Int) fun v16 => lt_ 0 fun v17 => lt_ (sp s 179 28 0) fun s18 => wh4 n (fun rc19 (x20 : Int) (x21 : Int) (x22 : Int) (s23 : JSg) => if 0 < x20 then (lt_ 0 fun v24 => wh1 n (fun rc25 (x26 : Int) => bd1 (f_M_isNext x26 x22 x21 x20 s23) fun r27 => if r27 = 0 then (lt_ (w32 (x26 + 1)) fun v35 => rc25 v35) else (lt_ (dv32 x26 2) fun v28 => chk (0 ≤ v28 ∧ v28 < 28) <| bd1 (f_M_pip (s23 189 v28.toNat) (w32 (1 - (rm32 x26 2))) s23) fun r29 => lt_ r29 fun v30 => lt_ (or32 x22 (sl32 1 v28)) fun v31 => lt_ (w32 (x20 + (-1))) fun v32 => chk (0 ≤ v28 ∧ v28 < 28) <| chk (0 ≤ (s23 179 28) ∧ (s23 179 28) < 12) <| lt_ (sp s23 191 (s23 179 28).toNat (w32 ((w32 (2 * (s23 189 v28.toNat))) + (rm32 x26 2)))) fun s33 => lt_ (sp s33 179 28 (w32 ((s33 179 28) + 1))) fun s34 => rc19 v32 v30 v31 s34)) v24) else (some (v16, s23))) (L : Int) (mpi st) v17 s18) (fun z => z.1 = L ∧ z.2 179 28 = L ∧ Agr (fun a j => (a = 179 ∧ j = 28) ∨ a = 191) s z.2 ∧ ∃ l, wlkP A h L 0 st l ∧ PthP h z.2 191 l) := by
  have l12 := hh.1
  have p12 := pw12 l12
  have L12 : L ≤ h.length := by have := can_fit _ _ _ hL.1; omega
  refine rt_lt (rt_lt (rt_lt ?_))
  refine rt_w4 (I := fun (x y z : Int) (u : JSg) => ∃ (U p k : Nat) (l : List Nat), x = ((L - k : Nat) : Int) ∧ y = mpi p ∧ z = U ∧ rch A h st k U p ∧ isLg A h U p (L - k) ∧ k ≤ L ∧ l.length = k ∧ Agr (fun a j => (a = 179 ∧ j = 28) ∨ a = 191) s u ∧ u 179 28 = k ∧ PthP h u 191 l ∧ ∀ m, wlkP A h (L - k) U p m → wlkP A h L 0 st (l ++ m)) (μ := fun (x y z : Int) (u : JSg) => x.toNat) ?_ n _ _ _ _ ⟨0, st, 0, [], rfl, rfl, rfl, ⟨rfl, rfl⟩, hL, by omega, rfl, ag_sp ag_refl (by omega), sp_eq, fun j hj => absurd hj (Nat.not_lt_zero _), fun m q => q⟩ (by omega)
  rintro x y z u ⟨U, p, k, l, rfl, rfl, rfl, r, lg, hk, hl, ua, u28, up, uw⟩ rc hrc
  have hBu : MhB A h u := MhB_ag hB (fun a j hq => ua a j (by omega))
  have p8 := rch_8 hI hh hs r
  obtain ⟨hU, -, -⟩ := rch_s _ _ _ r
  have hMu : ∀ V p, V < 2 ^ h.length → p < 7 → MorP A h u V p := fun V q w1 w2 => by
    obtain ⟨v, v1, v2⟩ := hM V q w1 w2
    exact ⟨v, by rw [ua 190 _ (by omega)]; exact v1, v2⟩
  refine rt_ite (fun g => ?_) (fun g => ?_)
  · have eL : L - k = (L - (k + 1)) + 1 := by omega
    rw [eL] at lg
    obtain ⟨i0, d0, e0, c0⟩ := lg.1
    have ex : nxtC A h (L - (k + 1)) U p (2 * i0 + d0) := by
      have d2 := e0.2.1
      unfold nxtC
      rw [show (2 * i0 + d0) / 2 = i0 by omega, show (2 * i0 + d0) % 2 = d0 by omega]
      exact ⟨e0, c0⟩
    have exl : 2 * i0 + d0 < 2 * h.length := by
      have := e0.1
      have := e0.2.1
      omega
    refine rt_lt ?_
    refine rt_w1 (I := fun (x : Int) => ∃ c : Nat, x = c ∧ c ≤ 2 * i0 + d0 ∧ ∀ e, e < c → ¬ nxtC A h (L - (k + 1)) U p e) (μ := fun (x : Int) => (2 * (h.length : Int) - x).toNat) ?_ n _ ⟨0, rfl, by omega, fun e he => absurd he (Nat.not_lt_zero _)⟩ (by omega)
    rintro x ⟨c, rfl, hc, hm⟩ rc2 hrc2
    obtain ⟨b, b1, b2⟩ := e_isNext (c := c) hI hh hBu hMu hU p8 (by omega) lg
    rw [eL, b1, b1_s]
    cases b
    · rw [if_pos by0, lt_u, wi (by omega) (by omega)]
      have no : ¬ nxtC A h (L - (k + 1)) U p c := fun q => by have := b2.mpr q; cases this
      refine hrc2 _ ⟨c + 1, by push_cast; rfl, ?_, fun e he => ?_⟩ (by omega)
      · rcases Nat.lt_or_ge c (2 * i0 + d0) with q | q
        · omega
        · have : c = 2 * i0 + d0 := by omega
          rw [this] at no
          exact absurd ex no
      · by_cases q : e = c
        · rw [q]; exact no
        · exact hm e (by omega)
    · have yes := b2.mp rfl
      have hi := yes.1.1
      have xo := pN_lt hI hh hi (show 1 - c % 2 < 2 by omega)
      have ci := code_in hI hh hi
      have gh := hh.2 _ hi
      have b28 := hI.2.1
      have hv := ins_lt hU hi
      have e1 : w32 (2 * h.getD (c / 2) 0) = 2 * h.getD (c / 2) 0 := wi (by omega) (by omega)
      have e2 : w32 (2 * h.getD (c / 2) 0 + ((c % 2 : Nat) : Int)) = codeC h c := wi (by omega) (by omega)
      rw [if_neg bn0, dv_p (by omega) (by omega) (by omega) (by omega), rm_p (by omega) (by omega) (by omega) (by omega), show (c : Int) / 2 = ((c / 2 : Nat) : Int) by omega, show (c : Int) % 2 = ((c % 2 : Nat) : Int) by omega, lt_u, Int.toNat_natCast, wi (x := 1 - ((c % 2 : Nat) : Int)) (by omega) (by omega), show (1 : Int) - ((c % 2 : Nat) : Int) = ((1 - c % 2 : Nat) : Int) by omega, m_pip hI hh hBu hi (by omega), b1_s]
      rw [ins_e (by omega) (by omega), hBu.2 _ hi, e1, e2, u28, Int.toNat_natCast, wi (x := ((L - (k + 1) + 1 : Nat) : Int) + -1) (by omega) (by omega)]
      simp only [lt_u]
      rw [sp_nq (show (179 : Nat) ≠ 191 by decide), u28, wi (x := (k : Int) + 1) (by omega) (by omega)]
      have sg : ∀ a j, ¬ ((a = 179 ∧ j = 28) ∨ (a = 191 ∧ j = k)) → sp (sp u 191 k (codeC h c)) 179 28 ((k : Int) + 1) a j = u a j := by
        intro a j hq
        simp only [sp_at]
        repeat' split
        all_goals first | omega | rfl
      refine rt_chk (by omega) (rt_chk (by omega) (rt_chk (by omega) (hrc _ _ _ _ ⟨ins U (c / 2), pN A h (c / 2) (1 - c % 2), k + 1, l ++ [c], by omega, (if_neg (by omega)).symm, rfl, ⟨U, p, _, _, r, yes.1, rfl, rfl⟩, ⟨yes.2, fun q => lg.2 ⟨_, _, yes.1, q⟩⟩, by omega, by rw [List.length_append, hl]; rfl, ag_tr ua (fun a j hq => sg a j (by omega)), by rw [sp_eq]; push_cast; rfl, ?_, fun m hm2 => ?_⟩ (by omega))))
      · have := pth_s (c := c) up rfl
        rw [hl] at this
        intro j hj
        rw [sp_nq (show (191 : Nat) ≠ 179 by decide)]
        exact this j hj
      · have := uw (c :: m) (by
          rw [eL]
          exact ⟨c, m, rfl, ⟨yes, hm⟩, hm2⟩)
        rwa [List.append_assoc]
  · obtain rfl : k = L := by omega
    refine rt_some ⟨rfl, u28, ua, l, ?_, up⟩
    have := uw [] (by rw [Nat.sub_self]; rfl)
    rwa [List.append_nil] at this
def mlC (a j : Nat) : Prop := (a = 179 ∧ (j = 0 ∨ j = 28)) ∨ a = 189 ∨ a = 190 ∨ a = 191
theorem e_M_longest (hn : 1000000 < n) (hI : WfI (σ 181)) (hW : WfR (σ 181)) : Ret (f_M_longest n σ) (fun z => (12 < (hndL (σ 181)).length ∧ z.1 = -1 ∧ Agr (fun a j => (a = 179 ∧ j = 0) ∨ a = 189) σ z.2) ∨ (hn12 (σ 181) ∧ Agr mlC σ z.2 ∧ ∃ (L : Nat) (l : List Nat), z.1 = L ∧ z.2 179 28 = L ∧ isLg (σ 181) (hndL (σ 181)) 0 (stA (σ 181)) L ∧ wlkP (σ 181) (hndL (σ 181)) L 0 (stA (σ 181)) l ∧ PthP (hndL (σ 181)) z.2 191 l)) := by
  unfold f_M_longest
  generalize hA : σ 181 = A at *
  have sA : sp σ 179 0 0 181 = A := by rw [th_A, hA]
  refine rt_lt (rt_b2 (e_M_layHand hn (by rw [sA]; exact hI)) (fun r s3 hz => ?_))
  obtain ⟨za, zb, zc⟩ := hz
  rw [sA] at zb zc
  have zb : r = ((hndL A).length : Nat) := zb
  subst zb
  have za' : Agr (fun a j => (a = 179 ∧ j = 0) ∨ a = 189) σ s3 := ag_tr (ag_sp ag_refl (Or.inl ⟨rfl, rfl⟩)) (ag_mono za (fun a j q => Or.inr q))
  have s3A : s3 181 = A := (funext fun j => za' 181 j (by omega)).trans hA
  rw [lt_u]
  refine rt_ite (fun g => rt_some (Or.inl ⟨by omega, rfl, za'⟩)) (fun g => ?_)
  have z12 : hn12 A := by show (hndL A).length ≤ 12; omega
  have hh := hnd_ok hI z12
  have s8 := stA_8 hI hW
  have hB3 : MhB A (hndL A) s3 := ⟨s3A, zc⟩
  clear zc za
  generalize hndL A = h at *
  have l12 := hh.1
  have p12 := pw12 l12
  have p0 := Nat.two_pow_pos h.length
  refine rt_b1 (e_layLongest hn hI hh hB3) (fun s5 h5 => ?_)
  obtain ⟨t1, t2⟩ := h5
  have hB5 : MhB A h s5 := MhB_ag hB3 (fun a j hq => t1 a j (by omega))
  have s5A := hB5.1
  have e8 : outA A 1 = mpi (stA A) := by
    unfold mpi stA
    by_cases g : A 151 = 0
    · rw [if_pos g, if_pos rfl]
      unfold outA
      rw [if_pos g]
    · have o := outA_in hI hW g (show (0 : Int) ≤ 1 by decide) (show (1 : Int) ≤ 1 by decide)
      rw [if_neg g, if_neg (by omega)]
      omega
  rw [lt_u, e_M_pipsAt (by rw [s5A]; exact hI) (by rw [s5A]; exact hW) (by decide) (by decide), b1_s, s5A, e8, lt_u, j1_s]
  have fin : ∀ L : Nat, isLg A h 0 (stA A) L → Ret (lt_ (L : Int) fun v16 => lt_ 0 fun v17 => lt_ (sp s5 179 28 0) fun s18 => wh4 n (fun rc19 (x20 : Int) (x21 : Int) (x22 : Int) (s23 : JSg) => if 0 < x20 then (lt_ 0 fun v24 => wh1 n (fun rc25 (x26 : Int) => bd1 (f_M_isNext x26 x22 x21 x20 s23) fun r27 => if r27 = 0 then (lt_ (w32 (x26 + 1)) fun v35 => rc25 v35) else (lt_ (dv32 x26 2) fun v28 => chk (0 ≤ v28 ∧ v28 < 28) <| bd1 (f_M_pip (s23 189 v28.toNat) (w32 (1 - (rm32 x26 2))) s23) fun r29 => lt_ r29 fun v30 => lt_ (or32 x22 (sl32 1 v28)) fun v31 => lt_ (w32 (x20 + (-1))) fun v32 => chk (0 ≤ v28 ∧ v28 < 28) <| chk (0 ≤ (s23 179 28) ∧ (s23 179 28) < 12) <| lt_ (sp s23 191 (s23 179 28).toNat (w32 ((w32 (2 * (s23 189 v28.toNat))) + (rm32 x26 2)))) fun s33 => lt_ (sp s33 179 28 (w32 ((s33 179 28) + 1))) fun s34 => rc19 v32 v30 v31 s34)) v24) else (some (v16, s23))) (L : Int) (mpi (stA A)) v17 s18) (fun z => (12 < h.length ∧ z.1 = -1 ∧ Agr (fun a j => (a = 179 ∧ j = 0) ∨ a = 189) σ z.2) ∨ (hn12 A ∧ Agr mlC σ z.2 ∧ ∃ (L : Nat) (l : List Nat), z.1 = L ∧ z.2 179 28 = L ∧ isLg A h 0 (stA A) L ∧ wlkP A h L 0 (stA A) l ∧ PthP h z.2 191 l)) := by
    intro L hL
    refine rt_mono (e_M_wlk hn hI hh hB5 t2 s8 hL) ?_
    rintro z ⟨z1, z2, z3, l, z4, z5⟩
    refine Or.inr ⟨z12, fun a j hq => ?_, L, l, z1, z2, hL, z4, z5⟩
    unfold mlC at hq
    exact (z3 a j (by omega)).trans ((t1 a j (by omega)).trans (za' a j (by omega)))
  by_cases e7 : stA A = 7
  · rw [e7] at fin ⊢
    rw [show mpi 7 = -1 from rfl] at fin ⊢
    rw [if_pos rfl]
    refine rt_lt ?_
    refine rt_w2 (I := fun (b z : Int) => ∃ (b' m : Nat), b = b' ∧ z = m ∧ m ≤ h.length ∧ b' ≤ 20 ∧ isBst A h 0 7 b' (fun i d => i < m)) (μ := fun (b z : Int) => ((h.length : Int) - z).toNat) ?_ n _ _ ⟨0, 0, rfl, rfl, by omega, by omega, Or.inl rfl, fun i d v f => absurd f (Nat.not_lt_zero _)⟩ (by omega)
    rintro b z ⟨b, m, rfl, rfl, hm, hb20, hb⟩ rc3 hrc3
    have wx : ∀ i d, edg A h 0 7 i d → ins 0 i < 2 ^ h.length ∧ pN A h i (1 - d) < 7 := by
      intro i d e
      exact ⟨ins_lt p0 e.1, (pN_lt hI hh e.1 (show 1 - d < 2 by omega)).1⟩
    rw [j0_s]
    refine rt_ite (fun g3 => ?_) (fun g3 => ?_)
    · rw [if_pos rfl, lt_u]
      refine rt_w2 (I := fun (b z : Int) => ∃ (b' d : Nat), b = b' ∧ z = d ∧ d ≤ 2 ∧ b' ≤ 20 ∧ isBst A h 0 7 b' (fun i d' => i < m ∨ (i = m ∧ d' < d))) (μ := fun (b z : Int) => ((2 : Int) - z).toNat) ?_ n _ _ ⟨b, 0, rfl, rfl, by omega, hb20, hb.1, fun i d v f => hb.2 i d v (by omega)⟩ (by omega)
      rintro b z ⟨b, d, rfl, rfl, hd, hb20, hb⟩ rc4 hrc4
      refine rt_ite (fun g4 => ?_) (fun g4 => ?_)
      · have x1 := pN_lt hI hh (show m < h.length by omega) (show 1 - d < 2 by omega)
        have ed : edg A h 0 7 m d := ⟨by omega, by omega, Nat.zero_testBit _, rfl⟩
        obtain ⟨w1, w3⟩ := wx m d ed
        obtain ⟨k, k1, k2⟩ := t2 (ins 0 m) (pN A h m (1 - d)) w1 w3
        have k12 := lg_12 hh k2
        have e0 : sl32 1 (m : Int) = ((ins 0 m : Nat) : Int) := by
          unfold ins
          rw [Nat.zero_or]
          have := full_e (k := m) (by omega)
          rw [this, Nat.one_shiftLeft]
        rw [Int.toNat_natCast, wi (x := 1 - (d : Int)) (by omega) (by omega), show (1 : Int) - (d : Int) = ((1 - d : Nat) : Int) by omega, m_pip hI hh hB5 (by omega) (by omega), b1_s, e0, wi (x := 7 * ((ins 0 m : Nat) : Int)) (by omega) (by omega), wi (x := 7 * ((ins 0 m : Nat) : Int) + _) (by omega) (by omega), show (7 * ((ins 0 m : Nat) : Int) + ((pN A h m (1 - d) : Nat) : Int)).toNat = 7 * ins 0 m + pN A h m (1 - d) by omega, k1, wi (x := 1 + (k : Int)) (by omega) (by omega), e_M_most, b1_s, lt_u, lt_u, wi (x := (d : Int) + 1) (by omega) (by omega), show max (b : Int) (1 + (k : Int)) = ((max b (k + 1) : Nat) : Int) by omega]
        refine rt_chk (by omega) (rt_chk (by omega) (hrc4 _ _ ⟨max b (k + 1), d + 1, rfl, by push_cast; rfl, by omega, by omega, ?_⟩ (by omega)))
        exact bst_put hb (fun i' d' q => by omega) ed k2
      · rw [lt_u, wi (by omega) (by omega)]
        refine hrc3 _ _ ⟨b, m + 1, rfl, by push_cast; rfl, by omega, hb20, hb.1, fun i d' v f e hv => hb.2 i d' v ?_ e hv⟩ (by omega)
        have := e.2.1
        omega
    · have lg := bst_end hb (fun i d hi _ => by omega) (fun i d e => by
        obtain ⟨w1, w2⟩ := wx i d e
        obtain ⟨k, -, k2⟩ := t2 _ _ w1 w2
        exact ⟨k, k2⟩)
      exact fin b lg
  · have em : mpi (stA A) = ((stA A : Nat) : Int) := if_neg e7
    obtain ⟨k, k1, k2⟩ := t2 0 (stA A) p0 (by omega)
    rw [Nat.mul_zero, Nat.zero_add] at k1
    have f := fin k k2
    rw [em] at f ⊢
    rw [if_neg (by omega), Int.toNat_natCast, k1, lt_u]
    refine rt_chk (by omega) ?_
    refine rt_w2 (I := fun (b z : Int) => b = k ∧ z = 0) (μ := fun (b z : Int) => 0) ?_ n _ _ ⟨rfl, rfl⟩ (by omega)
    rintro b z ⟨rfl, rfl⟩ rc3 hrc3
    rw [j0_s, if_neg (show ¬ ((stA A : Nat) : Int) = -1 by omega), ite_self]
    exact f
end
theorem ch_ok {a j : Nat} (q : chC a j ∨ mlC a j) : lsC a j ∨ scr a j := by
  rcases q with (rfl | ⟨rfl, rfl | rfl⟩ | rfl | rfl) | (⟨rfl, rfl | rfl⟩ | rfl | rfl | rfl)
  · right; unfold scr; omega
  · right; unfold scr; omega
  · left; unfold lsC; omega
  · right; unfold scr; omega
  · left; unfold lsC; omega
  · right; unfold scr; omega
  · left; unfold lsC; omega
  · right; unfold scr; omega
  · right; unfold scr; omega
  · left; unfold lsC; omega
theorem op_longest : Op_longest Inv := by
  intro σ H
  have hI := in_I H
  have hW := in_W H
  obtain ⟨⟨r, σ1⟩, e1, e2⟩ := e_findLongest (n := NN) hNN hI hW (in_L H) (in_R H)
  have w1 : f_W_longest NN σ = some (r, σ1) := by
    unfold f_W_longest
    rw [e1, b2_s]
  have ag : Agr chC σ σ1 := by
    rcases e2 with ⟨-, -, g⟩ | ⟨-, g, -⟩
    · exact ag_mono g (fun a j q => q.1)
    · exact g
  have A1 : σ1 181 = σ 181 := funext fun j => ag 181 j (by unfold chC; omega)
  obtain ⟨⟨r2, σ2⟩, f1, f2⟩ := e_M_longest (σ := σ1) hNN (by rw [A1]; exact hI) (by rw [A1]; exact hW)
  rw [A1] at f2
  rcases e2 with ⟨e3, e4, e5⟩ | ⟨e3, -, L, l, e4, e5, e6, e7, e8⟩
  · rcases f2 with ⟨f3, f4, f5⟩ | ⟨f3, -⟩
    · have e4 : r = -1 := e4
      have f4 : r2 = -1 := f4
      refine ⟨-1, σ1, σ2, by rw [w1, e4], by rw [f1, f4], inv_ag (fun a j hq => ?_) H⟩
      have e5 : Agr (fun a j => chC a j ∧ ¬ (a = 104 ∧ j = 6) ∧ a ≠ 106) σ σ1 := e5
      have f5 : Agr (fun a j => (a = 179 ∧ j = 0) ∨ a = 189) σ1 σ2 := f5
      unfold chC at e5
      unfold scr at hq
      rw [f5 a j (by omega), e5 a j (by omega)]
    · have : (hndL (σ 181)).length ≤ 12 := f3
      omega
  · rcases f2 with ⟨f3, -⟩ | ⟨f3, g, L', l', f4, f5, f6, f7, f8⟩
    · have : (hndL (σ 181)).length ≤ 12 := e3
      omega
    · have := isLg_u e6 f6
      subst this
      have := wlk_u _ _ _ _ _ e7 f7
      subst this
      have e4 : r = (L : Int) := e4
      have f4 : r2 = (L : Int) := f4
      have ll := wlk_l _ _ _ _ e7
      have hh := hnd_ok hI e3
      have l12 := hh.1
      have L12 : L ≤ (hndL (σ 181)).length := by have := can_fit _ _ _ e6.1; omega
      have g : Agr mlC σ1 σ2 := g
      have e5 : σ1 104 6 = (L : Int) := e5
      have f5 : σ2 179 28 = (L : Int) := f5
      have e8 : PthP (hndL (σ 181)) σ1 106 l := e8
      have f8 : PthP (hndL (σ 181)) σ2 191 l := f8
      have all : ∀ a j, ¬ (chC a j ∨ mlC a j) → σ2 a j = σ a j := fun a j hq => (g a j (fun q => hq (Or.inr q))).trans (ag a j (fun q => hq (Or.inl q)))
      refine ⟨(L : Int), σ1, σ2, by rw [w1, e4], by rw [f1, f4], inv_lst H (fun a j hq => all a j (fun q => hq ?_)) ?_⟩
      · exact ch_ok q
      · obtain ⟨z1, z2, z3, z4, z5, z6⟩ := in_Z H
        unfold chC mlC at all
        refine ⟨?_, ⟨?_, ?_, fun i i0 i1 => ?_⟩, ?_, ?_, ?_, ?_⟩
        · rw [all 2 12 (by omega), all 179 10 (by omega)]; exact z1
        · rw [f5, g 104 6 (by unfold mlC; omega), e5]
        · rw [f5]; omega
        · rw [f5] at i1
          rw [f8 i.toNat (by omega), g 106 _ (by unfold mlC; omega), e8 i.toNat (by omega)]
        · have q113 : σ2 113 = σ 113 := funext fun j => all 113 j (by omega)
          have q194 : σ2 194 = σ 194 := funext fun j => all 194 j (by omega)
          rw [q113, q194, all 107 12 (by omega), all 179 32 (by omega)]; exact z3
        · rw [all 114 7 (by omega), all 179 36 (by omega)]; exact z4
        · have q201 : σ2 201 = σ 201 := funext fun j => all 201 j (by omega)
          rw [q201, all 121 2 (by omega), all 121 4 (by omega), all 121 5 (by omega), all 121 6 (by omega)]; exact z5
        · have q122 : σ2 122 = σ 122 := funext fun j => all 122 j (by omega)
          have q196 : σ2 196 = σ 196 := funext fun j => all 196 j (by omega)
          rw [q122, q196, all 0 18 (by omega), all 179 39 (by omega)]; exact z6
