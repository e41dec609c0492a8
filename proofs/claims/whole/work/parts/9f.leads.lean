/-! LAYER 3za4: leads -/
section
variable {A : JA} {h : List Int} {st m : Nat} {σ s t u : JSg} {n : Nat}
theorem rch_7 (hI : WfI A) (hh : Hnd A h) (hs : st < 7) {k U p : Nat} (r : rch A h st k U p) : p < 7 := by
  cases k with
  | zero => rw [r.2]; exact hs
  | succ k =>
    obtain ⟨-, g, -⟩ := rch_s _ _ _ r
    obtain ⟨i, d, h1, h2, rfl⟩ := g (by omega)
    exact (pN_lt hI hh h1 (show 1 - d < 2 by omega)).1
theorem bf_Q {Q at_ : Nat} {F : Nat → Nat → Prop} (hB : BfP A h st m Q at_ u F) : Q ≤ 7 * 2 ^ h.length := by
  obtain ⟨b1, b2, b3, b4, b5, b6, b7, b8, b9⟩ := hB
  have b := cnt_bd (P := mkd u) (N := 7 * ((2 ^ h.length : Nat) : Int)) _ 0 0 rfl
  omega
set_option maxRecDepth 100000 in
theorem e_bfs (hn : 1000000 < n) (hI : WfI A) (hh : Hnd A h) (hB : MhB A h s) (hs : st < 7) (hm : m < 7) (h0 : BfP A h st m 1 0 s (fun _ _ => False)) : Ret (wh3 n (fun rc15 (x16 : Int) (x17 : Int) (s18 : JSg) => if x17 < x16 then (chk (0 ≤ x17 ∧ x17 < 28672) <| lt_ (dv32 (s18 192 x17.toNat) 7) fun v19 => chk (0 ≤ x17 ∧ x17 < 28672) <| lt_ (rm32 (s18 192 x17.toNat) 7) fun v20 => bd1 (f_M_fit v20 (m : Int) s18) fun r21 => if r21 = 0 then (lt_ 0 fun v22 => wh3 n (fun rc23 (x24 : Int) (x25 : Int) (s26 : JSg) => if x25 < ((h.length : Nat) : Int) then (lt_ 0 fun v28 => wh3 n (fun rc29 (x30 : Int) (x31 : Int) (s32 : JSg) => if x31 < 2 then (chk (0 ≤ x25 ∧ x25 < 28) <| bd1 (f_M_pip (s32 189 x25.toNat) (w32 (1 - x31)) s32) fun r34 => lt_ (w32 ((w32 (7 * (or32 v19 (sl32 1 x25)))) + r34)) fun v35 => bd1 (f_M_has v19 x25 s32) fun r36 => jn2 (fun (y38 : Int) (s39 : JSg) => lt_ (w32 (x31 + 1)) fun v40 => rc29 y38 v40 s39) fun j37 => if r36 = 0 then (chk (0 ≤ x25 ∧ x25 < 28) <| bd1 (f_M_pip (s32 189 x25.toNat) x31 s32) fun r41 => bd1 (f_M_fit r41 v20 s32) fun r42 => if r42 = 0 then (j37 x30 s32) else (chk (0 ≤ v35 ∧ v35 < 28672) <| if (s32 190 v35.toNat) = (-1) then (chk (0 ≤ x17 ∧ x17 < 28672) <| chk (0 ≤ (s32 192 x17.toNat) ∧ (s32 192 x17.toNat) < 28672) <| chk (0 ≤ v35 ∧ v35 < 28672) <| lt_ (sp s32 190 v35.toNat (w32 ((s32 190 (s32 192 x17.toNat).toNat) + 1))) fun s43 => chk (0 ≤ x30 ∧ x30 < 28672) <| lt_ (sp s43 192 x30.toNat v35) fun s44 => lt_ (w32 (x30 + 1)) fun v45 => j37 v45 s44) else (j37 x30 s32))) else (j37 x30 s32)) else (lt_ (w32 (x25 + 1)) fun v33 => rc23 x30 v33 s32)) x24 v28 s26) else (lt_ (w32 (x17 + 1)) fun v27 => rc15 x24 v27 s26)) x16 v22 s18) else (chk (0 ≤ x17 ∧ x17 < 28672) <| chk (0 ≤ (s18 192 x17.toNat) ∧ (s18 192 x17.toNat) < 28672) <| some (s18 190 (s18 192 x17.toNat).toNat, s18))) else (some ((-1), s18))) 1 0 s) (fun z => Agr (fun a _ => a = 190 ∨ a = 192) s z.2 ∧ ledV A h st m z.1) := by
  have l12 := hh.1
  have p12 := pw12 l12
  refine rt_w3 (I := fun (x y : Int) (u : JSg) => ∃ Q at_ : Nat, x = Q ∧ y = at_ ∧ Agr (fun a _ => a = 190 ∨ a = 192) s u ∧ BfP A h st m Q at_ u (fun _ _ => False)) (μ := fun (x y : Int) (u : JSg) => (28673 - y).toNat) ?_ n _ _ _ ⟨1, 0, rfl, rfl, ag_refl, h0⟩ (by omega)
  rintro x y u ⟨Q, at_, rfl, rfl, ua, hb⟩ rc hrc
  have hQ := bf_Q hb
  have b1 := hb.1
  refine rt_ite (fun g => ?_) (fun g => ?_)
  · obtain ⟨U, p, hU, hp, hj, hr, hv⟩ := hb.2.1 at_ (by omega)
    have hBu : MhB A h u := MhB_ag hB (fun a j hq => ua a j (by omega))
    have cU : cod U p < 28672 := by unfold cod; omega
    have d1 : ((cod U p : Nat) : Int) / 7 = (U : Int) := by unfold cod; omega
    have d2 : ((cod U p : Nat) : Int) % 7 = (p : Int) := by unfold cod; omega
    rw [Int.toNat_natCast, hj, dv_p (by omega) (by omega) (by omega) (by omega), rm_p (by omega) (by omega) (by omega) (by omega), d1, d2, lt_u, lt_u, e_M_fit (by omega) (by omega) (by omega) (by omega), hBu.1, b1_s]
    refine rt_chk (by omega) (rt_chk (by omega) ?_)
    cases hf : fitB A (p : Int) (m : Int)
    · rw [if_pos by0]
      refine rt_lt ?_
      refine rt_w3 (I := fun (x y : Int) (v : JSg) => ∃ Q i : Nat, x = Q ∧ y = i ∧ i ≤ h.length ∧ at_ < Q ∧ v 192 at_ = ((cod U p : Nat) : Int) ∧ Agr (fun a _ => a = 190 ∨ a = 192) s v ∧ BfP A h st m Q at_ v (fun i' d' => i' < i)) (μ := fun (x y : Int) (v : JSg) => ((h.length : Int) - y).toNat) ?_ n _ _ _ ⟨Q, 0, rfl, rfl, by omega, by omega, hj, ua, ?_⟩ (by omega)
      · clear hj hr hv ua hb hBu b1 hQ g
        rintro x y v ⟨Q, i, rfl, rfl, hi, ha, hj, va, hb⟩ rc2 hrc2
        refine rt_ite (fun g => ?_) (fun g => ?_)
        · refine rt_lt ?_
          refine rt_w3 (I := fun (x y : Int) (v : JSg) => ∃ Q d : Nat, x = Q ∧ y = d ∧ d ≤ 2 ∧ at_ < Q ∧ v 192 at_ = ((cod U p : Nat) : Int) ∧ Agr (fun a _ => a = 190 ∨ a = 192) s v ∧ BfP A h st m Q at_ v (fun i' d' => i' < i ∨ (i' = i ∧ d' < d))) (μ := fun (x y : Int) (v : JSg) => ((2 : Int) - y).toNat) ?_ n _ _ _ ⟨Q, 0, rfl, rfl, by omega, ha, hj, va, ?_⟩ (by omega)
          · clear hj va hb ha
            rintro x y v ⟨Q, d, rfl, rfl, hd, ha, hj, va, hb⟩ rc3 hrc3
            have hBv : MhB A h v := MhB_ag hB (fun a j hq => va a j (by omega))
            refine rt_ite (fun g2 => ?_) (fun g2 => ?_)
            · have x0 := pN_lt hI hh (show i < h.length by omega) (show d < 2 by omega)
              have x1 := pN_lt hI hh (show i < h.length by omega) (show 1 - d < 2 by omega)
              have hV := ins_lt hU (show i < h.length by omega)
              have eC : 7 * ((ins U i : Nat) : Int) + ((pN A h i (1 - d) : Nat) : Int) = ((cod (ins U i) (pN A h i (1 - d)) : Nat) : Int) := by unfold cod; push_cast; rfl
              have cV : cod (ins U i) (pN A h i (1 - d)) < 28672 := by unfold cod; omega
              rw [Int.toNat_natCast, Int.toNat_natCast, wi (x := 1 - (d : Int)) (by omega) (by omega), show (1 : Int) - (d : Int) = ((1 - d : Nat) : Int) by omega, m_pip hI hh hBv (by omega) (by omega), b1_s, ins_e (by omega) (by omega), wi (x := 7 * ((ins U i : Nat) : Int)) (by omega) (by omega), eC, wi (by omega) (by omega), lt_u, Int.toNat_natCast, e_M_has (by omega) (by omega), b1_s, Int.toNat_natCast, bt_n (by omega), j2_s, m_pip hI hh hBv (by omega) (by omega), b1_s, m_fit hBv x0.1 (by omega), b1_s, hj, Int.toNat_natCast, wi (x := (d : Int) + 1) (by omega) (by omega)]
              simp only [lt_u]
              refine rt_chk (by omega) ?_
              have skip : (edg A h U p i d → v 190 (cod (ins U i) (pN A h i (1 - d))) ≠ -1) → Ret (rc3 (Q : Int) ((d : Int) + 1) v) (fun z => Agr (fun a _ => a = 190 ∨ a = 192) s z.2 ∧ ledV A h st m z.1) := by
                intro ne
                exact hrc3 _ _ _ ⟨Q, d + 1, rfl, by push_cast; rfl, by omega, ha, hj, va, bf_skip hb hp hj (fun i' d' q => by omega) ne⟩ (by omega)
              by_cases hbt : U.testBit i = true
              · rw [hbt, if_neg bn0]
                refine skip (fun e => ?_)
                have := e.2.2.1
                rw [hbt] at this
                cases this
              · have hbt' : U.testBit i = false := by
                  cases c : U.testBit i
                  · rfl
                  · exact absurd c hbt
                rw [hbt', if_pos by0]
                refine rt_chk (by omega) ?_
                by_cases ok : okp A (pN A h i d) p = true
                · rw [ok, if_neg bn0]
                  have ed : edg A h U p i d := ⟨by omega, by omega, hbt', ok⟩
                  refine rt_chk (by omega) (rt_ite (fun z => ?_) (fun z => skip (fun _ => z)))
                  obtain ⟨pQ, pB⟩ := bf_put (G := fun i' d' => i' < i ∨ (i' = i ∧ d' < d + 1)) hI hh hs hb ha hU hp hj (fun i' d' q => by omega) ed z
                  obtain ⟨U', p', c1, c2, c3, c4, c5⟩ := hb.2.1 at_ ha
                  rw [hj] at c3
                  obtain ⟨rfl, rfl⟩ := cod_u (U := U) (V := U') hp c2 (by omega)
                  have pc12 := pcn_le (U := U) 12
                  rw [wi (x := v 190 (cod U p) + 1) (by omega) (by omega), wi (x := (Q : Int) + 1) (by omega) (by omega)]
                  refine rt_chk (by omega) (rt_chk (by omega) (rt_chk (by omega) (rt_chk (by omega) (hrc3 _ _ _ ⟨Q + 1, d + 1, by push_cast; rfl, by push_cast; rfl, by omega, by omega, ?_, ag_sp (ag_sp va (Or.inl rfl)) (Or.inr rfl), pB⟩ (by omega)))))
                  rw [sp_nj (by omega), sp_nq (by decide)]
                  exact hj
                · have ok' : okp A (pN A h i d) p = false := by
                    cases c : okp A (pN A h i d) p
                    · rfl
                    · exact absurd c ok
                  rw [ok', if_pos by0]
                  exact skip (fun e => absurd e.2.2.2 ok)
            · rw [lt_u, wi (by omega) (by omega)]
              refine hrc2 _ _ _ ⟨Q, i + 1, rfl, by push_cast; rfl, by omega, ha, hj, va, ?_⟩ (by omega)
              obtain ⟨c1, c2, c3, c4, c5, c6, c7, c8, c9⟩ := hb
              refine ⟨c1, c2, c3, c4, c5, c6, c7, c8, fun V q hv hq ha' i' d' g' e' => c9 V q hv hq ha' i' d' ?_ e'⟩
              have := e'.2.1
              omega
          · obtain ⟨c1, c2, c3, c4, c5, c6, c7, c8, c9⟩ := hb
            exact ⟨c1, c2, c3, c4, c5, c6, c7, c8, fun V q hv hq ha' i' d' g' e' => c9 V q hv hq ha' i' d' (by omega) e'⟩
        · have hQ := bf_Q hb
          rw [lt_u, wi (by omega) (by omega)]
          exact hrc _ _ _ ⟨Q, at_ + 1, rfl, by push_cast; rfl, va, bf_next hb ha hp hj (fun i' d' hi' _ => by omega) hf⟩ (by omega)
      · obtain ⟨c1, c2, c3, c4, c5, c6, c7, c8, c9⟩ := hb
        exact ⟨c1, c2, c3, c4, c5, c6, c7, c8, fun V q hv hq ha' i' d' g' e' => absurd g' (Nat.not_lt_zero _)⟩
    · rw [if_neg bn0]
      refine rt_chk (by omega) (rt_chk (by omega) (rt_some ⟨ua, Or.inr ⟨pcn 12 U, ?_, ⟨U, p, hr, hf⟩, fun k hk ⟨V, q, r, f⟩ => ?_⟩⟩))
      · show u 190 ((cod U p : Nat) : Int).toNat = _
        rw [Int.toNat_natCast]; exact hv
      · have := bf_near hI hh hs hb (pcn 12 U) (Or.inl ⟨by omega, (pq_e hp hj).symm⟩) k V q r (by omega)
        obtain ⟨j, j1, j2⟩ := this.2 hk
        have := (hb.2.2.2.2.2.1 j V q j1 j2 (rch_7 hI hh hs r)).1
        rw [f] at this
        cases this
  · refine rt_some ⟨ua, Or.inl ⟨rfl, fun k ⟨V, q, r, f⟩ => ?_⟩⟩
    have pk := (rch_s _ _ _ r).2.2 l12
    have pc12 := pcn_le (U := V) 12
    have := bf_near hI hh hs hb 20 (Or.inr ⟨by omega, by omega⟩) k V q r (by omega)
    obtain ⟨j, j1, j2⟩ := this.2 (by omega)
    have := (hb.2.2.2.2.2.1 j V q j1 j2 (rch_7 hI hh hs r)).1
    rw [f] at this
    cases this
def mdC (a j : Nat) : Prop := (a = 179 ∧ j = 0) ∨ a = 189 ∨ a = 190 ∨ a = 192
theorem sh7 : ∀ k : Nat, k ≤ 12 → sl32 7 (k : Int) = ((7 * 2 ^ k : Nat) : Int) := by decide +kernel
set_option maxRecDepth 100000 in
theorem e_M_leads (hn : 1000000 < n) (hI : WfI (σ 181)) (hW : WfR (σ 181)) (hs : st < 7) (hm : m < 7) : Ret (f_M_leads n (st : Int) (m : Int) σ) (fun z => Agr mdC σ z.2 ∧ ((12 < (hndL (σ 181)).length ∧ z.1 = -1) ∨ (hn12 (σ 181) ∧ ledV (σ 181) (hndL (σ 181)) st m z.1))) := by
  unfold f_M_leads
  generalize hA : σ 181 = A at *
  have sA : sp σ 179 0 0 181 = A := by rw [th_A, hA]
  rw [lt_u, e_M_isIn, b1_s, decide_eq_true (by omega), if_neg bn0, e_M_isIn, b1_s, decide_eq_true (by omega), if_neg bn0]
  refine rt_b2 (e_M_layHand hn (by rw [sA]; exact hI)) (fun r s3 hz => ?_)
  obtain ⟨za, zb, zc⟩ := hz
  rw [sA] at zb zc
  have zb : r = ((hndL A).length : Nat) := zb
  subst zb
  have za' : Agr (fun a j => (a = 179 ∧ j = 0) ∨ a = 189) σ s3 := ag_tr (ag_sp ag_refl (Or.inl ⟨rfl, rfl⟩)) (ag_mono za (fun a j q => Or.inr q))
  have s3A : s3 181 = A := (funext fun j => za' 181 j (by omega)).trans hA
  rw [lt_u]
  refine rt_ite (fun g => rt_some ⟨ag_mono za' (fun a j q => by unfold mdC; omega), Or.inl ⟨by omega, rfl⟩⟩) (fun g => ?_)
  have z12 : hn12 A := by show (hndL A).length ≤ 12; omega
  have hh := hnd_ok hI z12
  have hB3 : MhB A (hndL A) s3 := ⟨s3A, zc⟩
  clear zc za
  generalize hndL A = h at *
  have l12 := hh.1
  have p12 := pw12 l12
  have p0 := Nat.two_pow_pos h.length
  refine rt_lt ?_
  refine rt_w2 (I := fun (x : Int) (u : JSg) => ∃ k : Nat, x = k ∧ k ≤ 7 * 2 ^ h.length ∧ ∀ a j, u a j = if a = 190 ∧ j < k then -1 else s3 a j) (μ := fun (x : Int) (u : JSg) => (((7 * 2 ^ h.length : Nat) : Int) - x).toNat) ?_ n _ _ ⟨0, rfl, by omega, fun a j => by rw [if_neg (by omega)]⟩ (by omega)
  rintro x u ⟨k, rfl, hk, ua⟩ rc hrc
  rw [sh7 _ l12]
  refine rt_ite (fun g2 => ?_) (fun g2 => ?_)
  · rw [Int.toNat_natCast, wi (by omega) (by omega)]
    refine rt_chk (by omega) (rt_lt (rt_lt (hrc _ _ ⟨k + 1, by push_cast; rfl, by omega, fun a j => ?_⟩ (by omega))))
    rw [sp_at, ua]
    by_cases c1 : a = 190
    · subst c1
      by_cases c2 : j = k
      · rw [if_pos rfl, if_pos c2, if_pos (by omega)]
      · rw [if_pos rfl, if_neg c2]
        by_cases c3 : j < k
        · rw [if_pos ⟨rfl, c3⟩, if_pos (by omega)]
        · rw [if_neg (by omega), if_neg (by omega)]
    · rw [if_neg c1, if_neg (by omega), if_neg (by omega)]
  · have ek : k = 7 * 2 ^ h.length := by omega
    rw [Int.toNat_natCast]
    refine rt_chk (by omega) (rt_lt (rt_lt (rt_lt (rt_lt ?_))))
    generalize hv : sp (sp u 190 st 0) 192 0 (st : Int) = v
    have v0 : v 192 0 = (st : Int) := by rw [← hv, sp_eq]
    have vst : v 190 st = 0 := by rw [← hv, sp_nq (by decide), sp_eq]
    have vk : ∀ j, j ≠ st → j < 7 * 2 ^ h.length → v 190 j = -1 := fun j j1 j2 => by rw [← hv, sp_nq (by decide), sp_nj j1, ua, if_pos (by omega)]
    have va : Agr (fun a _ => a = 190 ∨ a = 192) s3 v := fun a j hq => by
      rw [← hv, sp_nq (by omega), sp_nq (by omega), ua, if_neg (by omega)]
    clear hv
    have c0 : cod 0 st = st := by unfold cod; omega
    have pst : pcn 12 0 = 0 := pcn_0 12
    have h0 : BfP A h st m 1 0 v (fun _ _ => False) := by
      refine ⟨by omega, fun j hj => ⟨0, st, p0, hs, ?_, ?_, ?_⟩, fun U p hU hp nz => ?_, fun i j hij hj => ?_, fun _ j hj => ?_, fun j U p hj => absurd hj (Nat.not_lt_zero _), by omega, ?_, fun U p _ _ _ i d g => g.elim⟩
      · obtain rfl : j = 0 := by omega
        rw [v0, c0]
      · rw [pst]; exact ⟨rfl, rfl⟩
      · rw [c0, vst, pst]; rfl
      · have e : cod U p = st := Classical.byContradiction fun q => nz (vk _ q (by unfold cod; omega))
        exact ⟨0, by omega, by rw [v0, e]⟩
      · obtain rfl : i = 0 := by omega
        obtain rfl : j = 0 := by omega
        exact Nat.le_refl _
      · obtain rfl : j = 0 := by omega
        omega
      · have := cnt_put (P := fun _ => false) (Q := mkd v) (N := 7 * ((2 ^ h.length : Nat) : Int)) (x := (st : Int)) (by omega) rfl (by unfold mkd; rw [Int.toNat_natCast, vst]; rfl) (fun y y0 y1 hy => ?_)
        · rw [this, cnt_none _ 0 0 rfl (fun _ _ _ => rfl)]
          rfl
        · unfold mkd
          rw [vk y.toNat (by omega) (by omega)]
          rfl
    have hBv : MhB A h v := MhB_ag hB3 (fun a j hq => va a j (by omega))
    refine rt_mono (e_bfs hn hI hh hBv hs hm h0) ?_
    rintro z ⟨q1, q2⟩
    refine ⟨fun a j hq => ?_, Or.inr ⟨z12, q2⟩⟩
    unfold mdC at hq
    exact (q1 a j (by omega)).trans ((va a j (by omega)).trans (za' a j (by omega)))
end
theorem op_leads : Op_leads Inv := by
  intro σ H a b ha hb
  have hI := in_I H
  have hW := in_W H
  have hS := (in_M H).2.2.2
  by_cases g : (0 ≤ a ∧ a ≤ 6) ∧ (0 ≤ b ∧ b ≤ 6)
  · obtain ⟨st, rfl⟩ : ∃ k : Nat, a = k := ⟨a.toNat, by omega⟩
    obtain ⟨m, rfl⟩ : ∃ k : Nat, b = k := ⟨b.toNat, by omega⟩
    obtain ⟨⟨r, σ1⟩, e1, e2, e3⟩ := e_fewestBetween (n := NN) (st := st) (m := m) hNN hI hS (in_L H) (in_R H) (by omega) (by omega)
    have e2 : Agr (fun a j => a = 103 ∨ a = 105 ∨ (a = 104 ∧ j = 4)) σ σ1 := e2
    have A1 : σ1 181 = σ 181 := funext fun j => e2 181 j (by omega)
    obtain ⟨⟨r2, σ2⟩, f1, f2, f3⟩ := e_M_leads (n := NN) (st := st) (m := m) (σ := σ1) hNN (by rw [A1]; exact hI) (by rw [A1]; exact hW) (by omega) (by omega)
    rw [A1] at f3
    have f2 : Agr mdC σ1 σ2 := f2
    have er : r = r2 := by
      rcases e3 with ⟨c1, c2⟩ | ⟨c1, c2⟩ <;> rcases f3 with ⟨d1, d2⟩ | ⟨d1, d2⟩
      · exact (show r = -1 from c2).trans (show r2 = -1 from d2).symm
      · have : (hndL (σ 181)).length ≤ 12 := d1
        omega
      · have : (hndL (σ 181)).length ≤ 12 := c1
        omega
      · exact led_u c2 d2
    refine ⟨r, σ1, σ2, ?_, by rw [f1, er], inv_ag (fun a j hq => ?_) H⟩
    · unfold f_W_leads
      rw [e_W_isPips, b1_s, decide_eq_true g.1, if_neg bn0, e_W_isPips, b1_s, decide_eq_true g.2, if_neg bn0, e1, b2_s]
    · unfold mdC at f2
      have : ¬ (a = 103 ∨ a = 105 ∨ (a = 104 ∧ j = 4)) := by
        rintro (rfl | rfl | ⟨rfl, rfl⟩) <;> (apply hq; unfold scr; omega)
      have h2 : ¬ ((a = 179 ∧ j = 0) ∨ a = 189 ∨ a = 190 ∨ a = 192) := by
        rintro (⟨rfl, rfl⟩ | rfl | rfl | rfl) <;> (apply hq; unfold scr; omega)
      exact (f2 a j h2).trans (e2 a j this)
  · refine ⟨-1, σ, sp σ 179 0 0, ?_, ?_, inv_thr H⟩
    · unfold f_W_leads
      rw [e_W_isPips, b1_s]
      by_cases g1 : 0 ≤ a ∧ a ≤ 6
      · rw [decide_eq_true g1, if_neg bn0, e_W_isPips, b1_s, decide_eq_false (fun q => g ⟨g1, q⟩), if_pos by0]
      · rw [decide_eq_false g1, if_pos by0]
    · unfold f_M_leads
      rw [lt_u, e_M_isIn, b1_s]
      by_cases g1 : 0 ≤ a ∧ a ≤ 6
      · rw [decide_eq_true g1, if_neg bn0, e_M_isIn, b1_s, decide_eq_false (fun q => g ⟨g1, q⟩), if_pos by0]
      · rw [decide_eq_false g1, if_pos by0]
