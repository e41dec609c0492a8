/-! LAYER 3zm: MEMORY -/
section
variable {σ τ ρ s z : JSg} {n p : Nat} {c : JA} {size lim q : Int}
def wmC (a j : Nat) : Prop := wrM a j ∨ a = 41
def mmF (a j : Nat) : Prop := mrM a j ∨ a = 197
def mmC (a j : Nat) : Prop := mmF a j ∨ (a = 181 ∧ 192 ≤ j ∧ j < 206)
theorem MemP_ag' {σ τ s t : JSg} (h : MemP σ τ) (h1 : ∀ a j, (a = 41 ∧ (j = 1 ∨ j = 3)) ∨ a = 42 ∨ a = 43 ∨ (a = 2 ∧ j = 12) → s a j = σ a j) (h2 : ∀ a j, (a = 181 ∧ j = 1) ∨ (a = 197 ∧ 1 ≤ j) ∨ (a = 179 ∧ (j = 41 ∨ j = 10)) → t a j = τ a j) : MemP s t := by
  obtain ⟨a1, a2, a3, a4, a5⟩ := h
  refine ⟨?_, ?_, fun d d0 => ?_, fun w w0 w1 => ?_, ?_⟩
  · rw [h1 _ _ (by omega), h2 _ _ (by omega)]; exact a1
  · rw [h1 _ _ (by omega), h2 _ _ (by omega)]; exact a2
  · rw [h2 181 1 (by omega)] at d0
    rw [h2 _ _ (by omega)]; exact a3 d d0
  · rw [h1 _ _ (by omega), h1 _ _ (by omega), h2 _ _ (by omega), h2 _ _ (by omega)]; exact a4 w w0 w1
  · rw [h1 _ _ (by omega), h2 _ _ (by omega)]; exact a5
/-- what a MEMORY's text leaves on both sides -/
def MeQ (σ τ : JSg) (z y : Int × JSg) : Prop := Agr wmC σ z.2 ∧ ((z.1 = 0 ∧ y.1 = w32 (-1 - y.2 179 11) ∧ FR z.2 y.2 ∧ Agr mmF τ y.2) ∨ (z.1 = 1 ∧ y.1 = z.2 41 0 ∧ MemP z.2 y.2 ∧ y.2 197 0 = z.2 41 0 ∧ (∀ k : Nat, k < 14 → y.2 181 (192 + k) = y.2 197 k) ∧ Agr mmC τ y.2))
theorem s_mall (hn : 1000000 < n) (h : TR c size 400 0 σ τ) (hB : BkP σ τ) (hf : σ 2 12 = τ 179 10) : Sm (f_Mem_readAll n 41 4 σ) (lt_ 0 fun v2 => wh2 n (fun rc3 (x4 : Int) (s5 : JSg) => if x4 < 14 then (chk (0 ≤ x4 ∧ x4 < 14) <| lt_ (sp s5 197 x4.toNat 0) fun s35 => lt_ (w32 (x4 + 1)) fun v36 => rc3 v36 s35) else (lt_ (sp s5 179 41 0) fun s6 => wh1 n (fun rc7  (s8 : JSg) => if (s8 179 7) = 0 then (lt_ 0 fun v9 => wh2 n (fun rc10 (x11 : Int) (s12 : JSg) => if x11 < 14 then (chk (0 ≤ x11 ∧ x11 < 14) <| chk (0 ≤ (w32 (192 + x11)) ∧ (w32 (192 + x11)) < 448) <| lt_ (sp s12 181 (w32 (192 + x11)).toNat (s12 197 x11.toNat)) fun s13 => lt_ (w32 (x11 + 1)) fun v14 => rc10 v14 s13) else (some (s12 197 0, s12))) v9 s8) else (bd1 (f_M_isWord 5 s8) fun r15 => jn2 (fun (u18 : Int) (s17 : JSg) => lt_ u18 fun v19 => jn1 (fun  (s21 : JSg) => some (w32 ((-1) - (s21 179 11)), s21)) fun j20 => if v19 = 0 then (j20 s17) else (bd2 (f_M_readEnd n s17) fun r22 s23 => if r22 = 0 then (j20 s23) else (lt_ (sp s23 197 0 (w32 ((s23 197 0) + 1))) fun s24 => rc7 s24))) fun j16 => if r15 = 0 then (bd1 (f_M_isWord 6 s8) fun r25 => if r25 = 0 then (bd1 (f_M_isWord 7 s8) fun r26 => if r26 = 0 then (bd2 (f_M_bad 1 s8) fun r27 s28 => j16 r27 s28) else (bd2 (f_M_readPassed n s8) fun r29 s30 => j16 r29 s30)) else (bd2 (f_M_readSeen n s8) fun r31 s32 => j16 r31 s32)) else (bd2 (f_M_readDeal n s8) fun r33 s34 => j16 r33 s34))) s6)) v2 τ) (MeQ σ τ) := by
  rw [lt_u]
  refine sm_r2 (I := fun (x : Int) (t : JSg) => (0 ≤ x ∧ x ≤ 14) ∧ ∀ a j, t a j = if a = 197 ∧ (j : Int) < x then 0 else τ a j) (μ := fun (x : Int) (t : JSg) => (14 - x).toNat) ?_ n _ _ ⟨by omega, fun a j => by rw [if_neg (by omega)]⟩ (by omega)
  rintro x t ⟨x01, ta⟩ rc hrc
  by_cases hx : x < 14
  · rw [if_pos hx]
    refine sm_cr (by omega) ?_
    rw [lt_u, lt_u, wi (by omega) (by omega)]
    refine hrc _ _ ⟨by omega, fun a j => ?_⟩ (by omega)
    rw [sp_at, ta]
    by_cases c1 : a = 197
    · subst c1
      by_cases c2 : j = x.toNat
      · rw [if_pos rfl, if_pos c2, if_pos (by omega)]
      · rw [if_pos rfl, if_neg c2]
        by_cases c3 : (j : Int) < x
        · rw [if_pos ⟨rfl, c3⟩, if_pos (by omega)]
        · rw [if_neg (by omega), if_neg (by omega)]
    · rw [if_neg c1, if_neg (by omega), if_neg (by omega)]
  · rw [if_neg hx]
    clear hrc rc
    obtain rfl : x = 14 := by omega
    rw [lt_u]
    generalize ht' : sp t 179 41 0 = t'
    have tA : ∀ k : Nat, k < 14 → t' 197 k = 0 := by
      intro k hk
      rw [← ht', sp_nq (by decide), ta, if_pos (by omega)]
    have t41 : t' 179 41 = 0 := by rw [← ht', sp_eq]
    have tg : ∀ a j, ¬ ((a = 197 ∧ j < 14) ∨ (a = 179 ∧ j = 41)) → t' a j = τ a j := by
      intro a j hh
      rw [← ht', sp_at]
      by_cases c1 : a = 179
      · rw [if_pos c1, if_neg (by omega), ta, if_neg (by omega)]
      · rw [if_neg c1, ta, if_neg (by omega)]
    clear ht' ta
    unfold f_Mem_readAll f_Mem_clear
    simp only [lt_u]
    obtain ⟨s1, e1, e2⟩ := e_fill (n := n) (p := 41 + 1) (N := 6) (v := 0) (σ := sp (sp (sp σ 41 0 0) 41 1 0) 41 3 0) (by omega) (by omega)
    rw [e1, b1_s]
    obtain ⟨s', e3, e4⟩ := e_fill (n := n) (p := 41 + 2) (N := 6) (v := 0) (σ := s1) (by omega) (by omega)
    rw [e3, b1_s, b1_s]
    have sA : s' 41 0 = 0 ∧ s' 41 1 = 0 ∧ s' 41 3 = 0 := by
      refine ⟨?_, ?_, ?_⟩
      all_goals
        rw [e4, if_neg (by omega), e2, if_neg (by omega)]
        simp (disch := omega) only [sp_eq, sp_nj]
    have s42 : ∀ j : Nat, j < 6 → s' 42 j = 0 := fun j hj => by rw [e4, if_neg (by omega), e2, if_pos ⟨rfl, hj⟩]
    have s43 : ∀ j : Nat, j < 6 → s' 43 j = 0 := fun j hj => by rw [e4, if_pos ⟨rfl, hj⟩]
    have sg : ∀ a j, ¬ (a = 41 ∨ a = 42 ∨ a = 43) → s' a j = σ a j := by
      intro a j hh
      rw [e4, if_neg (by omega), e2, if_neg (by omega)]
      simp (disch := omega) only [sp_nq]
    clear e1 e2 e3 e4
    have P0 : MemP s' t' := by
      refine ⟨⟨by rw [t41, sA.2.1], by omega, by omega⟩, ⟨by rw [tA 1 (by omega), sA.2.2], by rw [tA 1 (by omega)]; omega, by rw [tA 1 (by omega)]; omega⟩, fun d d0 => by rw [tA 1 (by omega), bt_0], fun w w0 w1 => ?_, by rw [sg _ _ (by omega), tg _ _ (by omega)]; exact hf⟩
      rw [tA _ (by omega), tA _ (by omega), s42 _ (by omega), s43 _ (by omega)]
      omega
    have T0 : TR c size 400 0 s' t' := tr_ag h (fun a j hh => sg a j (by omega)) (fun a j hh => tg a j (by omega))
    have B0 : BkP s' t' := BkP_ag hB (fun a j hh => sg a j (by omega)) (fun a j hh => tg a j (by omega))
    refine sm_w11 (I := fun (s : JSg) (t : JSg) => t 197 0 = s 41 0 ∧ 0 ≤ s 41 0 ∧ (∃ p, TR c size 400 p s t ∧ 2 * s 41 0 ≤ p ∧ p ≤ 400) ∧ MemP s t ∧ BkP s t ∧ Agr wmC σ s ∧ Agr mmF τ t) (μ := fun (s : JSg) => (1000 - s 41 0).toNat) ?_ n n s' t' ⟨by rw [sA.1, tA 0 (by omega)], by omega, ⟨0, T0, by omega, by omega⟩, P0, B0, fun a j hh => sg a j (by unfold wmC wrM at hh; omega), fun a j hh => tg a j (by unfold mmF mrM at hh; omega)⟩ (by rw [sA.1]; omega) (by rw [sA.1]; omega)
    clear sA s42 s43 sg P0 T0 B0 tA t41 tg h hf hB
    rintro s t ⟨hx, x0, ⟨p, hT, hp, hp4⟩, hP, hB, ws, mt⟩ rc rd hrc
    have nx := tr_nx hT
    have kd := tr_kd hT
    rw [if_pos (by omega)]
    refine sm_ite (by omega) (fun g1 g2 => ?_) (fun g1 g2 => ?_)
    · refine sm_ret ?_
      refine rt_lt ?_
      refine rt_w2 (I := fun (k : Int) (u : JSg) => (0 ≤ k ∧ k ≤ 14) ∧ ∀ a j, u a j = if a = 181 ∧ 192 ≤ j ∧ (j : Int) < 192 + k then t 197 (j - 192) else t a j) (μ := fun (k : Int) (u : JSg) => (14 - k).toNat) ?_ n _ _ ⟨by omega, fun a j => by rw [if_neg (by omega)]⟩ (by omega)
      rintro k u ⟨k01, ua⟩ rc1 hrc1
      refine rt_ite (fun hk => ?_) (fun hk => ?_)
      · rw [wi (x := 192 + k) (by omega) (by omega), wi (x := k + 1) (by omega) (by omega)]
        refine rt_chk (by omega) (rt_chk (by omega) (rt_lt (rt_lt (hrc1 _ _ ⟨by omega, fun a j => ?_⟩ (by omega)))))
        rw [sp_at, ua 197 k.toNat, if_neg (show ¬ ((197 : Nat) = 181 ∧ 192 ≤ k.toNat ∧ (k.toNat : Int) < 192 + k) by omega), ua]
        by_cases c1 : a = 181
        · subst c1
          by_cases c2 : j = (192 + k).toNat
          · rw [if_pos rfl, if_pos c2, if_pos (show (181 : Nat) = 181 ∧ 192 ≤ j ∧ (j : Int) < 192 + (k + 1) by omega), show k.toNat = j - 192 by omega]
          · rw [if_pos rfl, if_neg c2]
            by_cases c3 : 192 ≤ j ∧ (j : Int) < 192 + k
            · rw [if_pos ⟨rfl, c3⟩, if_pos (by omega)]
            · rw [if_neg (by omega), if_neg (by omega)]
        · rw [if_neg c1, if_neg (by omega), if_neg (by omega)]
      · have e197 : ∀ j, u 197 j = t 197 j := fun j => by rw [ua, if_neg (by omega)]
        refine rt_some ⟨ws, Or.inr ⟨rfl, ?_, ?_, ?_, fun k k1 => ?_, ?_⟩⟩
        · show u 197 0 = s 41 0
          rw [e197]; exact hx
        · refine MemP_ag' hP (fun _ _ _ => rfl) (fun a j hh => ?_)
          show u a j = t a j
          rw [ua, if_neg (by omega)]
        · show u 197 0 = s 41 0
          rw [e197]; exact hx
        · show u 181 (192 + k) = u 197 k
          rw [e197, ua, if_pos (by omega), show 192 + k - 192 = k by omega]
        · refine ag_tr (ag_mono mt (fun a j q => Or.inl q)) (fun a j hh => ?_)
          unfold mmC at hh
          show u a j = t a j
          rw [ua, if_neg (by omega)]
    · simp only [lt_u, j1_s, j2_s]
      refine s_mline hn hT hB hP (fun s1 t1 c1 c2 c3 => sm_some ⟨ag_tr ws (ag_mono c1 (fun a j q => Or.inl q)), Or.inl ⟨rfl, rfl, c3, ag_tr mt (ag_mono c2 (fun a j q => Or.inl q))⟩⟩) (fun s1 t1 p' c1 c2 c3 c4 c5 c6 c7 => ?_)
      have w0 : s1 41 0 = s 41 0 := c1 41 0 (by unfold wrM; omega)
      have t0 : t1 197 0 = t 197 0 := c2 197 0 (by unfold mrM; omega)
      have lt := nx.2.2.2.1 (by omega) (by omega)
      rw [w0, t0, hx, wi (by omega) (by omega)]
      refine hrc _ _ ⟨by rw [sp_eq, sp_eq], by rw [sp_eq]; omega, ⟨p', tr_ag c4 (fun a j hh => by rw [sp_nq (by omega)]) (fun a j hh => by rw [sp_nq (by omega)]), by rw [sp_eq]; omega, c6⟩, MemP_ag c3 (fun a j hh => by
          rw [sp_at]
          by_cases e : a = 41
          · rw [if_pos e, if_neg (by omega)]
          · rw [if_neg e]) (fun a j hh => by
          rw [sp_at]
          by_cases e : a = 197
          · rw [if_pos e, if_neg (by omega)]
          · rw [if_neg e]), BkP_ag hB (fun a j hh => by rw [sp_nq (by omega)]; exact c1 a j (by unfold wrM; omega)) (fun a j hh => by rw [sp_nq (by omega)]; exact c2 a j (by unfold mrM; omega)), ag_sp (ag_tr ws (ag_mono c1 (fun a j q => Or.inl q))) (Or.inr rfl), ag_sp (ag_tr mt (ag_mono c2 (fun a j q => Or.inl q))) (Or.inr rfl)⟩ ?_
      rw [sp_eq]
      omega
/-- what stands then -/
def MFin (z y : JSg) : Prop := z 18 0 = y 181 192 ∧ z 18 3 = y 181 193 ∧ (0 ≤ y 181 193 ∧ y 181 193 < 268435456) ∧ (∀ s : Int, y 181 1 ≤ s → bt (y 181 193) s.toNat = false) ∧ (∀ w : Int, 0 ≤ w → w < 6 → (z 19 w.toNat = y 181 (194 + w).toNat ∧ 0 ≤ y 181 (194 + w).toNat ∧ y 181 (194 + w).toNat ≤ 7) ∧ (z 20 w.toNat = y 181 (200 + w).toNat ∧ 0 ≤ y 181 (200 + w).toNat ∧ y 181 (200 + w).toNat < 128)) ∧ z 2 12 = y 179 10
def wmD (a j : Nat) : Prop := wmC a j ∨ (18 ≤ a ∧ a ≤ 20)
def MeR (σ τ : JSg) (z y : Int × JSg) : Prop := z.1 = y.1 ∧ ∃ s0 t0, BgP 400 σ τ s0 t0 ∧ ((FR z.2 y.2 ∧ Agr wmC s0 z.2 ∧ Agr mmF t0 y.2) ∨ (MFin z.2 y.2 ∧ Agr wmD s0 z.2 ∧ Agr mmC t0 y.2))
theorem s_memory (hn : 1000000 < n) (h23 : τ 179 23 = 0 ∨ τ 179 23 = 1) (h1 : σ 0 1 = τ 179 2) (h2 : 0 ≤ τ 179 2 ∧ τ 179 2 ≤ 940) (h3 : ∀ i : Int, 0 ≤ i → i < τ 179 2 → (0 ≤ τ 180 i.toNat ∧ τ 180 i.toNat < 256) ∧ σ 1 i.toNat = if τ 180 i.toNat < 128 then τ 180 i.toNat else τ 180 i.toNat - 256) (hB : BkP σ τ) : Sm (f_W_memory n σ) (f_M_memory n τ) (MeR σ τ) := by
  unfold f_W_memory f_M_memory
  refine sm_b11 (s_take hn h23 h1 h2 h3) (fun s0 t0 hG => ?_)
  have hB0 : BkP s0 t0 := by
    obtain ⟨b1, b2, b3⟩ := hB
    have w8 := hG.2.2.2.2.2.2.2.1
    have m8 := hG.2.2.2.2.2.2.2.2
    have ek : ∀ k : Nat, k < 67 → k ≠ 3 → t0 181 k = τ 181 k := fun k _ hk => m8 181 k (by unfold bmC; omega)
    refine ⟨WfI_cg ek b1, IslR_cg b1.2.1.2 ek (IslR_ag (fun q j hq => w8 q j (by unfold bwC; omega)) b2), fun w w0 w1 => ?_⟩
    rw [ek 0 (by omega) (by omega)] at w1
    rw [w8 5 _ (by unfold bwC; omega), m8 185 _ (by unfold bmC; omega)]; exact b3 w w0 w1
  obtain ⟨⟨z0, zs⟩, ⟨y0, ys⟩, e1, e2, e3, e4⟩ := s_mall hn hG.1 hB0 (hG.2.2.2.1.trans hG.2.2.2.2.1.symm)
  have e3 : Agr wmC s0 zs := e3
  rw [e1, e2, b2_s]
  rcases e4 with ⟨a1, a2, a3, a4⟩ | ⟨a1, a2, a3, a4, a5, a6⟩
  · have a1 : z0 = 0 := a1
    have a2 : y0 = w32 (-1 - ys 179 11) := a2
    have a3 : FR zs ys := a3
    rw [if_pos a1]
    refine sm_some ⟨?_, s0, t0, hG, Or.inl ⟨a3, e3, a4⟩⟩
    show w32 (-1 - zs 2 13) = y0
    rw [a2, a3.2]
  · have a1 : z0 = 1 := a1
    have a2 : y0 = zs 41 0 := a2
    have a3 : MemP zs ys := a3
    have a4 : ys 197 0 = zs 41 0 := a4
    have a5 : ∀ k : Nat, k < 14 → ys 181 (192 + k) = ys 197 k := a5
    have a6 : Agr mmC t0 ys := a6
    rw [if_neg (by omega)]
    unfold f_Mem_copyFrom
    simp only [lt_u, b1_s]
    generalize hs' : acp (acp (sp (sp (sp zs 18 0 (zs 41 0)) 18 1 (sp zs 18 0 (zs 41 0) 41 1)) 18 3 (sp (sp zs 18 0 (zs 41 0)) 18 1 (sp zs 18 0 (zs 41 0) 41 1) 41 3)) (41 + 1) 0 (18 + 1) 0 6) (41 + 2) 0 (18 + 2) 0 6 = s'
    have sA : s' 18 0 = zs 41 0 ∧ s' 18 3 = zs 41 3 := by
      rw [← hs']
      constructor
      · rw [acp_at, if_neg (by omega), acp_at, if_neg (by omega), sp_nj (by decide), sp_nj (by decide), sp_eq]
      · rw [acp_at, if_neg (by omega), acp_at, if_neg (by omega), sp_eq, sp_nq (by decide), sp_nq (by decide)]
    have sB : ∀ j : Nat, j < 6 → s' 19 j = zs 42 j ∧ s' 20 j = zs 43 j := by
      intro j hj
      rw [← hs']
      constructor
      · rw [acp_at, if_neg (by omega), acp_at, if_pos (by omega), sp_nq (by decide), sp_nq (by decide), sp_nq (by decide)]
        congr 1; omega
      · rw [acp_at, if_pos (by omega), acp_at, if_neg (by omega), sp_nq (by decide), sp_nq (by decide), sp_nq (by decide)]
        congr 1; omega
    have sC : ∀ a j, ¬ (18 ≤ a ∧ a ≤ 20) → s' a j = zs a j := by
      intro a j hh
      rw [← hs', acp_at, if_neg (by omega), acp_at, if_neg (by omega), sp_nq (by omega), sp_nq (by omega), sp_nq (by omega)]
    clear hs'
    obtain ⟨p1, p2, p3, p4, p5⟩ := a3
    refine sm_some ⟨?_, s0, t0, hG, Or.inr ⟨?_, ag_tr (ag_mono e3 (fun a j q => Or.inl q)) (fun a j hh => sC a j (fun q => hh (Or.inr q))), a6⟩⟩
    · show s' 18 0 = y0
      rw [sA.1, a2]
    · have q1 := a5 1 (by omega)
      have q0 := a5 0 (by omega)
      have qw : ∀ w : Int, 0 ≤ w → w < 6 → ys 181 (194 + w).toNat = ys 197 (2 + w).toNat ∧ ys 181 (200 + w).toNat = ys 197 (8 + w).toNat := by
        intro w w0 w1
        have e1 := a5 (2 + w.toNat) (by omega)
        have e2 := a5 (8 + w.toNat) (by omega)
        rw [show (194 + w).toNat = 192 + (2 + w.toNat) by omega, show (200 + w).toNat = 192 + (8 + w.toNat) by omega, show (2 + w).toNat = 2 + w.toNat by omega, show (8 + w).toNat = 8 + w.toNat by omega]
        exact ⟨e1, e2⟩
      show MFin s' ys
      refine ⟨by rw [sA.1, ← a4]; exact q0.symm, by rw [sA.2, p2.1]; exact q1.symm, by rw [show ys 181 193 = ys 197 1 from q1]; exact p2.2, fun e e0 => by rw [show ys 181 193 = ys 197 1 from q1]; exact p3 e e0, fun w w0 w1 => ?_, by rw [sC _ _ (by omega)]; exact p5⟩
      rw [(qw w w0 w1).1, (qw w w0 w1).2, (sB _ (by omega)).1, (sB _ (by omega)).2]
      exact p4 w w0 w1
theorem PasR_lo (h : ∀ q j, (q = 0 ∧ (j = 8 ∨ j = 9)) ∨ (123 ≤ q ∧ q ≤ 178) ∨ (q = 179 ∧ j = 22) ∨ q = 184 → s q j = ρ q j) (h2 : ∀ k, k < 192 → s 181 k = ρ 181 k) (hb : ρ 181 0 ≤ 6 ∧ ρ 181 1 ≤ 28) (H : PasR ρ) : PasR s := by
  have e2 : s 184 = ρ 184 := funext fun j => h _ _ (by omega)
  have ep : pasP s = pasP ρ := by
    funext j
    unfold pasP
    rw [h 0 8 (by omega), h 0 9 (by omega)]
  have ea : ∀ (i : Int) (k : Nat), k < 192 → pasA s i k = pasA ρ i k := by
    intro i k hk
    unfold pasA ovl
    rw [e2, h2 k hk]
  unfold PasR at *
  rw [ep, h 0 8 (by omega), h 0 9 (by omega), h 179 22 (by omega)]
  refine ⟨H.1, H.2.1, H.2.2.1, fun j j0 j1 => ?_⟩
  obtain ⟨g1, g2⟩ := H.2.2.2 j j0 j1
  have x0 : pasA ρ j 0 = ρ 181 0 := rfl
  have x1 : pasA ρ j 1 = ρ 181 1 := rfl
  have gr := g1.2.1
  refine ⟨WfR_cg (by omega) (fun k hk => ea j k (by omega)) g1, RowR_cg (by omega) (fun k hk => ea j k (by omega)) (RowR_ag (fun q i hq => h q i ?_) g2)⟩
  unfold pasP at hq
  omega
def meC (a j : Nat) : Prop := scr a j ∨ tpC a j ∨ (18 ≤ a ∧ a ≤ 20) ∨ (a = 181 ∧ 192 ≤ j ∧ j < 206)
theorem inv_mem (H : Inv ρ) (h : Agr meC ρ s) (t1 : s 0 1 = 0) (t2 : s 179 2 = 0) (hz : ∀ a j, a < 179 → s a j = z a j) (hF : MFin z s) : Inv s := by
  obtain ⟨f1, f2, f3, f4, f5, f6⟩ := hF
  unfold Agr meC scr tpC at h
  have e1 : ∀ k : Nat, ¬ (192 ≤ k ∧ k < 206) → s 181 k = ρ 181 k := fun k hk => h _ _ (by omega)
  have e2 : s 185 = ρ 185 := funext fun j => h _ _ (by omega)
  have e3 : pwA s = pwA ρ := by
    unfold pwA
    rw [e1 3 (by omega), h 179 23 (by omega)]
  obtain ⟨⟨h1a, h1b, h1c⟩, ⟨h2a, h2b, h2c, h2d, h2e⟩, h3, h4, h5, h6, h7⟩ := H
  have b1 := h1a.1
  have b2 := h1a.2.1
  have b3 := h1b.2.1
  have ws : ∀ q j, worC 3 q j → ¬ (18 ≤ q ∧ q ≤ 20) → s q j = ρ q j := fun q j hq hh => h q j (by unfold worC at hq; omega)
  unfold Inv
  rw [e2, e3, h 179 23 (by omega)]
  refine ⟨⟨WfI_cg (fun k hk _ => e1 k (by omega)) h1a, WfR_cg (by omega) (fun k hk => e1 k (by omega)) h1b, ⟨f3, f4, fun w w0 w1 => ⟨(f5 w w0 w1).1.2, (f5 w w0 w1).2.2⟩, fun a b a0 a1 b0 b1 => ?_⟩⟩, ⟨?_, ?_, ?_, ⟨?_, ?_, fun w w0 w1 => ?_⟩, ?_⟩, ⟨by omega, by omega, fun i i0 i1 => by omega⟩, h4, ⟨ImgR_ag (fun q j hq => h q j ?_) h5.1, ImgR_ag (fun q j hq => h q j ?_) h5.2⟩, PasR_lo (fun q j hq => h q j (by omega)) (fun k hk => e1 k (by omega)) (by omega) h6, LstR_tp (fun q j hq => h q j (by omega)) (by rw [hz _ _ (by omega)]; exact f6) h7⟩
  · rw [e1 _ (by omega), e1 _ (by omega)]; exact h1c.2.2.2 a b a0 a1 b0 b1
  · exact IslR_cg (by omega) (fun k hk _ => e1 k (by omega)) (IslR_ag (fun q j hq => ws q j (by unfold worC; omega) (by omega)) h2a)
  · exact IslX_cg (fun k hk _ => e1 k (by omega)) (IslX_ag (fun q j hq => ws q j (by unfold worC; omega) (by omega)) h2b)
  · exact RowR_cg (by omega) (fun k hk => e1 k (by omega)) (RowR_ag (fun q j hq => ws q j (by unfold worC; omega) (by omega)) h2c)
  · rw [hz _ _ (by omega)]; exact f1
  · rw [hz _ _ (by omega)]; exact f2
  · rw [hz (3 + 15 + 1) _ (by omega), hz (3 + 15 + 2) _ (by omega)]; exact ⟨(f5 w w0 w1).1.1, (f5 w w0 w1).2.1⟩
  · have e4 : s 22 = ρ 22 := funext fun j => h _ _ (by omega)
    have e5 : s 23 = ρ 23 := funext fun j => h _ _ (by omega)
    have e6 : s 24 = ρ 24 := funext fun j => h _ _ (by omega)
    show senR (s 21 0) (s 21 1) (s 22) (s 23) (s 24) (s 181)
    rw [e4, e5, e6, h 21 0 (by omega), h 21 1 (by omega)]
    exact senR_cg (fun k k0 k1 => e1 k (by omega)) h2e
  · unfold worC at hq
    omega
  · unfold worC at hq
    omega
theorem wm_sc {a j : Nat} (h : wmC a j) : scr a j ∨ tpC a j := by
  unfold wmC wrM at h
  rcases h with (h | h | h | h) | h
  · by_cases c : j = 12
    · exact Or.inr (Or.inr (Or.inl ⟨h.1, c⟩))
    · exact Or.inl (Or.inl ⟨h.1, c⟩)
  all_goals exact Or.inl (Or.inr (Or.inr (Or.inr (Or.inl ⟨by omega, by omega⟩))))
theorem sc_197 {j : Nat} : scr 197 j := by
  unfold scr
  omega
theorem mm_sc {a j : Nat} (h : mmF a j) : scr a j ∨ tpC a j := by
  unfold mmF mrM at h
  rcases h with (⟨rfl, h⟩ | ⟨rfl, h⟩) | rfl
  · by_cases c : j = 10
    · exact Or.inr (Or.inr (Or.inr ⟨rfl, Or.inr c⟩))
    · exact Or.inl (sc_179 (by omega))
  · exact Or.inl sc_197
  · exact Or.inl sc_197
theorem me_1 {a j : Nat} (h : scr a j ∨ tpC a j) : meC a j := by
  rcases h with h | h
  · exact Or.inl h
  · exact Or.inr (Or.inl h)
theorem wd_me {a j : Nat} (h : wmD a j) : meC a j := by
  rcases h with h | h
  · exact me_1 (wm_sc h)
  · exact Or.inr (Or.inr (Or.inl h))
theorem mc_me {a j : Nat} (h : mmC a j) : meC a j := by
  rcases h with h | h
  · exact me_1 (mm_sc h)
  · exact Or.inr (Or.inr (Or.inr h))
theorem op_memory : Op_memory Inv := by
  intro σ H
  obtain ⟨t1, t2, t3⟩ := in_T H
  obtain ⟨⟨r, σ1⟩, y0, e1, -, -, s0, t0, hB, hc⟩ := s_memory (σ := σ) (τ := σ) hNN (in_b H) t1 t2 t3 ⟨in_I H, in_L H, (in_X H).2.2.2.2⟩
  have hc1 : Agr wmD s0 σ1 := by
    rcases hc with ⟨-, c2, -⟩ | ⟨-, c2, -⟩
    · exact ag_mono c2 (fun a j q => Or.inl q)
    · exact c2
  have up : ∀ a j, 179 ≤ a → σ1 a j = σ a j := fun a j h => (hc1 a j (by unfold wmD wmC wrM; omega)).trans (hB.2.2.2.2.2.2.2.1 a j (by unfold bwC; omega))
  clear hc hc1 hB s0 t0
  have u180 : σ1 180 = σ 180 := funext fun j => up 180 j (by omega)
  have u181 : σ1 181 = σ 181 := funext fun j => up 181 j (by omega)
  have u185 : σ1 185 = σ 185 := funext fun j => up 185 j (by omega)
  have upw : pwA σ1 = pwA σ := by
    unfold pwA
    rw [up _ _ (by omega), up _ _ (by omega)]
  obtain ⟨z, ⟨r2, σ2⟩, g1, g2, g3, s0, t0, hB, hc⟩ := s_memory (σ := σ) (τ := σ1) hNN (by rw [up _ _ (by omega)]; exact in_b H) (by rw [up _ _ (by omega)]; exact t1) (by rw [up _ _ (by omega)]; exact t2) (by rw [u180, up _ _ (by omega)]; exact t3) (by unfold BkP; rw [u181, u185]; exact ⟨in_I H, in_L H, (in_X H).2.2.2.2⟩)
  rw [e1] at g1
  cases g1
  have g3 : r = r2 := g3
  subst g3
  refine ⟨r, σ1, σ2, e1, g2, ?_⟩
  obtain ⟨ρ, -, u2, u3, u4, u5, u6⟩ := inv_layAll H
  obtain ⟨-, b1, b2, b3, b4, b5, b6, b7, b8⟩ := hB
  rcases hc with ⟨c1, c2, c3⟩ | ⟨c1, c2, c3⟩
  · have lo : ∀ a j, a < 179 → σ2 a j = σ1 a j := fun a j h => (c3 a j (by unfold mmF mrM; omega)).trans (b8 a j (by unfold bmC; omega))
    refine inv_tape0 u2 (fun a j hh => ?_) ?_ ?_ ?_
    · by_cases q1 : a = 179 ∧ j = 23
      · rw [q1.1, q1.2, u3]
        exact (c3 179 23 (by unfold mmF mrM; omega)).trans b5
      · by_cases q2 : a = 181 ∧ j = 3
        · rw [q2.1, q2.2, u4, ← upw]
          exact (c3 181 3 (by unfold mmF mrM; omega)).trans b6
        · rw [u6 a j (fun q => by rcases q with q | q; exact q1 q; exact q2 q)]
          by_cases q3 : a < 179
          · exact (lo a j q3).trans ((c2 a j (fun q => hh (wm_sc q))).trans (b7 a j (fun q => hh (bw_sc q))))
          · exact ((c3 a j (fun q => hh (mm_sc q))).trans (b8 a j (fun q => hh (bm_sc q q1 q2)))).trans (up a j (Nat.le_of_not_lt q3))
    · exact (lo 0 1 (by omega)).trans ((c2 0 1 (by unfold wmC wrM; omega)).trans b1)
    · exact (c3 179 2 (by unfold mmF mrM; omega)).trans b2
    · exact (lo 2 12 (by omega)).trans c1.1
  · have lo : ∀ a j, a < 179 → σ2 a j = σ1 a j := fun a j h => (c3 a j (by unfold mmC mmF mrM; omega)).trans (b8 a j (by unfold bmC; omega))
    refine inv_mem (z := σ1) u2 (fun a j hh => ?_) ?_ ?_ lo c1
    · by_cases q1 : a = 179 ∧ j = 23
      · rw [q1.1, q1.2, u3]
        exact (c3 179 23 (by unfold mmC mmF mrM; omega)).trans b5
      · by_cases q2 : a = 181 ∧ j = 3
        · rw [q2.1, q2.2, u4, ← upw]
          exact (c3 181 3 (by unfold mmC mmF mrM; omega)).trans b6
        · rw [u6 a j (fun q => by rcases q with q | q; exact q1 q; exact q2 q)]
          by_cases q3 : a < 179
          · exact (lo a j q3).trans ((c2 a j (fun q => hh (wd_me q))).trans (b7 a j (fun q => hh (me_1 (bw_sc q)))))
          · exact ((c3 a j (fun q => hh (mc_me q))).trans (b8 a j (fun q => hh (me_1 (bm_sc q q1 q2))))).trans (up a j (Nat.le_of_not_lt q3))
    · exact (lo 0 1 (by omega)).trans ((c2 0 1 (by unfold wmD wmC wrM; omega)).trans b1)
    · exact (c3 179 2 (by unfold mmC mmF mrM; omega)).trans b2
end
