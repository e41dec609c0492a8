/-! LAYER 3zr: SENTENCE -/
section
variable {σ τ ρ s z : JSg} {n p : Nat} {c : JA} {size lim q : Int}
def wsD (a j : Nat) : Prop := wrS a j ∨ (21 ≤ a ∧ a ≤ 24)
def msD (a j : Nat) : Prop := mrS a j ∨ (a = 181 ∧ 206 ≤ j ∧ j < 448)
def SFin (z y : JSg) : Prop := senR (z 21 0) (z 21 1) (z 22) (z 23) (z 24) (y 181) ∧ z 2 12 = y 179 10
def SeR (σ τ : JSg) (z y : Int × JSg) : Prop := z.1 = y.1 ∧ ∃ s0 t0, BgP 200 σ τ s0 t0 ∧ ((FR z.2 y.2 ∧ Agr wrS s0 z.2 ∧ Agr mrS t0 y.2) ∨ (SFin z.2 y.2 ∧ Agr wsD s0 z.2 ∧ Agr msD t0 y.2))
theorem s_sentence (hn : 1000000 < n) (h23 : τ 179 23 = 0 ∨ τ 179 23 = 1) (h1 : σ 0 1 = τ 179 2) (h2 : 0 ≤ τ 179 2 ∧ τ 179 2 ≤ 940) (h3 : ∀ i : Int, 0 ≤ i → i < τ 179 2 → (0 ≤ τ 180 i.toNat ∧ τ 180 i.toNat < 256) ∧ σ 1 i.toNat = if τ 180 i.toNat < 128 then τ 180 i.toNat else τ 180 i.toNat - 256) (hB : BkP σ τ) : Sm (f_W_sentence n σ) (f_M_sentence n τ) (SeR σ τ) := by
  unfold f_W_sentence f_M_sentence
  refine sm_b11 (s_take hn h23 h1 h2 h3) (fun s0 t0 hG => ?_)
  have hB0 : BkP s0 t0 := by
    obtain ⟨b1, b2, b3⟩ := hB
    have w8 := hG.2.2.2.2.2.2.2.1
    have m8 := hG.2.2.2.2.2.2.2.2
    have ek : ∀ k : Nat, k < 67 → k ≠ 3 → t0 181 k = τ 181 k := fun k _ hk => m8 181 k (by unfold bmC; omega)
    refine ⟨WfI_cg ek b1, IslR_cg b1.2.1.2 ek (IslR_ag (fun q j hq => w8 q j (by unfold bwC; omega)) b2), fun w w0 w1 => ?_⟩
    rw [ek 0 (by omega) (by omega)] at w1
    rw [w8 5 _ (by unfold bwC; omega), m8 185 _ (by unfold bmC; omega)]; exact b3 w w0 w1
  unfold f_Sen_readAll f_Sen_clear
  simp only [lt_u, b1_s, j1_s]
  generalize hs1 : sp (sp s0 44 0 0) 44 1 0 = s1
  generalize ht1 : sp (sp (sp t0 179 48 0) 179 49 0) 179 50 0 = t1
  have sA : s1 44 0 = 0 ∧ s1 44 1 = 0 := by
    rw [← hs1]
    exact ⟨by rw [sp_nj (by decide), sp_eq], sp_eq⟩
  have tA : t1 179 48 = 0 ∧ t1 179 49 = 0 ∧ t1 179 50 = 0 := by
    rw [← ht1]
    refine ⟨?_, ?_, sp_eq⟩
    · rw [sp_nj (by decide), sp_nj (by decide), sp_eq]
    · rw [sp_nj (by decide), sp_eq]
  have sg : ∀ a j, ¬ (a = 44 ∧ j ≤ 1) → s1 a j = s0 a j := by
    intro a j hh
    rw [← hs1]
    simp only [sp_at]
    repeat' split
    all_goals first | omega | rfl
  have tg : ∀ a j, ¬ (a = 179 ∧ 48 ≤ j ∧ j ≤ 50) → t1 a j = t0 a j := by
    intro a j hh
    rw [← ht1]
    simp only [sp_at]
    repeat' split
    all_goals first | omega | rfl
  clear hs1 ht1
  have hT : TR (τ 180) (τ 179 2) 200 0 s1 t1 := tr_ag hG.1 (fun a j hh => sg a j (by omega)) (fun a j hh => tg a j (by omega))
  have hB1 : BkP s1 t1 := BkP_ag hB0 (fun a j hh => sg a j (by omega)) (fun a j hh => tg a j (by omega))
  have hS1 : SnP 8 s1 t1 := ⟨⟨by omega, by omega⟩, by omega, by omega, by omega, by rw [sg _ _ (by omega), tg _ _ (by omega)]; exact hG.2.2.2.1.trans hG.2.2.2.2.1.symm⟩
  have key := (st_all hn 8 (by omega)).2 64 64 (by omega) (by omega) _ _ _ _ s1 t1 hT hB1 hS1
  rw [show (8 : Int) - ((8 : Nat) : Int) = 0 from rfl] at key
  obtain ⟨⟨r, zs⟩, ⟨r', ys⟩, e1, e2, c1, c2, c3⟩ := key
  have c1 : Agr wrS s1 zs := c1
  have c2 : Agr mrS t1 ys := c2
  have w0 : Agr wrS s0 zs := ag_tr (fun a j hh => sg a j (by unfold wrS at hh; omega)) c1
  have m0 : Agr mrS t0 ys := ag_tr (fun a j hh => tg a j (by unfold mrS at hh; omega)) c2
  rw [show f_Sen_readEither n 44 4 0 s1 = some (r, zs) from e1, show f_M_readOr n t1 = some (r', ys) from e2, b2_s, b2_s]
  rcases c3 with ⟨b1, b2, b3⟩ | ⟨b1, b2, ⟨L, b3⟩, p', b4⟩
  · have b1 : r = 0 := b1
    have b2 : r' = 0 := b2
    have b3 : FR zs ys := b3
    rw [if_pos b1, if_pos b2, b2_s, if_pos rfl]
    exact sm_some ⟨by show w32 (-1 - zs 2 13) = w32 (-1 - ys 179 11); rw [b3.2], s0, t0, hG, Or.inl ⟨b3, w0, m0⟩⟩
  · have b1 : r = 1 := b1
    have b2 : r' = 1 := b2
    have b3 : GrP s1 t1 zs ys L (ys 179 51) := b3
    have b4 : TR (τ 180) (τ 179 2) 200 p' zs ys := b4
    have kd := tr_kd b4
    rw [if_neg (show ¬ r = 0 by omega), if_neg (show ¬ r' = 0 by omega)]
    by_cases g : zs 2 4 = 0
    · obtain ⟨g1, ⟨o1, o2, o3, o4, o5⟩, g3, g4, g5⟩ := id b3
      obtain ⟨q1, q2, q3, q4, q5⟩ := g1
      rw [if_pos g, if_pos (show ys 179 7 = 0 by omega), b2_s, if_neg n10]
      unfold f_Sen_copyFrom
      simp only [lt_u, b1_s]
      generalize hz : acp (acp (acp (sp (sp zs 21 0 (zs 44 0)) 21 1 (sp zs 21 0 (zs 44 0) 44 1)) (44 + 1) 0 (21 + 1) 0 40) (44 + 2) 0 (21 + 2) 0 40) (44 + 3) 0 (21 + 3) 0 40 = z'
      have zA : z' 21 0 = zs 44 0 ∧ z' 21 1 = zs 44 1 := by
        rw [← hz]
        constructor
        · rw [acp_at, if_neg (by omega), acp_at, if_neg (by omega), acp_at, if_neg (by omega), sp_nj (by decide), sp_eq]
        · rw [acp_at, if_neg (by omega), acp_at, if_neg (by omega), acp_at, if_neg (by omega), sp_eq, sp_nq (by decide)]
      have zB : ∀ j : Nat, j < 40 → z' 22 j = zs 45 j ∧ z' 23 j = zs 46 j ∧ z' 24 j = zs 47 j := by
        intro j hj
        rw [← hz]
        refine ⟨?_, ?_, ?_⟩
        · rw [acp_at, if_neg (by omega), acp_at, if_neg (by omega), acp_at, if_pos (by omega), sp_nq (by decide), sp_nq (by decide)]
          congr 1; omega
        · rw [acp_at, if_neg (by omega), acp_at, if_pos (by omega), acp_at, if_neg (by omega), sp_nq (by decide), sp_nq (by decide)]
          congr 1; omega
        · rw [acp_at, if_pos (by omega), acp_at, if_neg (by omega), acp_at, if_neg (by omega), sp_nq (by decide), sp_nq (by decide)]
          congr 1; omega
      have zC : ∀ a j, ¬ (21 ≤ a ∧ a ≤ 24) → z' a j = zs a j := by
        intro a j hh
        rw [← hz, acp_at, if_neg (by omega), acp_at, if_neg (by omega), acp_at, if_neg (by omega), sp_nq (by omega), sp_nq (by omega)]
      clear hz
      refine sm_ret ?_
      generalize hy : sp (sp ys 181 206 1) 181 207 (sp ys 181 206 1 179 51) = y'
      have yA : y' 181 206 = 1 ∧ y' 181 207 = ys 179 51 := by
        rw [← hy]
        exact ⟨by rw [sp_nj (by decide), sp_eq], by rw [sp_eq, sp_nq (by decide)]⟩
      have yg : ∀ a j, ¬ (a = 181 ∧ (j = 206 ∨ j = 207)) → y' a j = ys a j := by
        intro a j hh
        rw [← hy]
        simp only [sp_at]
        repeat' split
        all_goals first | omega | rfl
      clear hy
      refine rt_w2 (I := fun (k : Int) (u : JSg) => (0 ≤ k ∧ k ≤ 240) ∧ ∀ a j, u a j = if a = 181 ∧ 208 ≤ j ∧ (j : Int) < 208 + k then ys 202 (j - 208) else y' a j) (μ := fun (k : Int) (u : JSg) => (240 - k).toNat) ?_ n _ _ ⟨by omega, fun a j => by rw [if_neg (by omega)]⟩ (by omega)
      rintro k u ⟨k01, ua⟩ rc1 hrc1
      refine rt_ite (fun hk => ?_) (fun hk => ?_)
      · rw [wi (x := 208 + k) (by omega) (by omega), wi (x := k + 1) (by omega) (by omega)]
        refine rt_chk (by omega) (rt_chk (by omega) (hrc1 _ _ ⟨by omega, fun a j => ?_⟩ (by omega)))
        rw [sp_at, ua 202 k.toNat, if_neg (show ¬ ((202 : Nat) = 181 ∧ 208 ≤ k.toNat ∧ (k.toNat : Int) < 208 + k) by omega), yg 202 _ (by omega), ua]
        by_cases c1 : a = 181
        · subst c1
          by_cases c2 : j = (208 + k).toNat
          · rw [if_pos rfl, if_pos c2, if_pos (show (181 : Nat) = 181 ∧ 208 ≤ j ∧ (j : Int) < 208 + (k + 1) by omega), show k.toNat = j - 208 by omega]
          · rw [if_pos rfl, if_neg c2]
            by_cases c3 : 208 ≤ j ∧ (j : Int) < 208 + k
            · rw [if_pos ⟨rfl, c3⟩, if_pos (by omega)]
            · rw [if_neg (by omega), if_neg (by omega)]
        · rw [if_neg c1, if_neg (by omega), if_neg (by omega)]
      · have u202 : ∀ j : Nat, j < 240 → u 181 (208 + j) = ys 202 j := fun j hj => by
          rw [ua, if_pos (by omega), show 208 + j - 208 = j by omega]
        have u1 : u 181 206 = 1 := by rw [ua, if_neg (by omega)]; exact yA.1
        have u2 : u 181 207 = ys 179 51 := by rw [ua, if_neg (by omega)]; exact yA.2
        have uo : ∀ a j, ¬ (a = 181 ∧ 206 ≤ j ∧ j < 448) → u a j = ys a j := fun a j hh => by
          rw [ua, if_neg (by omega), yg a j (by omega)]
        refine rt_some ⟨?_, s0, t0, hG, Or.inr ⟨⟨Or.inr ⟨u1, ?_, L, ?_, by omega, ?_, by omega, fun i x hx => ?_⟩, ?_⟩, ?_, ?_⟩⟩
        · show z' 21 0 = u 179 49
          rw [zA.1, uo 179 49 (by omega)]; exact o1
        · show z' 21 0 ≠ 0
          rw [zA.1]; omega
        · show flat (u 181) 60 (u 181 207) = some L
          rw [u2]
          obtain ⟨f, f1, f2⟩ := g4
          exact flat_le f 60 _ _ (by omega) (f2 (u 181) (fun j hj => u202 j (by omega)))
        · show z' 21 1 = L.length
          rw [zA.2]; omega
        · have hi : i < L.length := by
            rw [List.getElem?_eq_some_iff] at hx
            exact hx.1
          have := q3 i x hx
          rw [sA.2, show (0 : Int).toNat + i = i by omega] at this
          show z' 22 i = x.1 ∧ z' 23 i = x.2.1 ∧ z' 24 i = x.2.2
          rw [(zB i (by omega)).1, (zB i (by omega)).2.1, (zB i (by omega)).2.2]
          exact this
        · show z' 2 12 = u 179 10
          rw [zC 2 12 (by omega), uo 179 10 (by omega)]; exact g5
        · exact ag_tr (ag_mono w0 (fun a j q => Or.inl q)) (fun a j hh => zC a j (fun q => hh (Or.inr q)))
        · exact ag_tr (ag_mono m0 (fun a j q => Or.inl q)) (fun a j hh => uo a j (fun q => hh (Or.inr q)))
    · obtain ⟨s', t', f1, f2, f3, f4, f5⟩ := tr_fail b4 (k := 1) (Or.inl rfl)
      rw [if_neg g, if_neg (show ¬ ys 179 7 = 0 by omega), f1, f2, b2_s, b2_s, if_pos rfl, b2_s, if_pos rfl]
      exact sm_some ⟨by show w32 (-1 - s' 2 13) = w32 (-1 - t' 179 11); rw [f3.2], s0, t0, hG, Or.inl ⟨f3, zs_f w0 f4, zm_f m0 f5⟩⟩
def seS (a j : Nat) : Prop := scr a j ∨ tpC a j ∨ (21 ≤ a ∧ a ≤ 24) ∨ (a = 181 ∧ 206 ≤ j ∧ j < 448)
theorem inv_sen (H : Inv ρ) (h : Agr seS ρ s) (t1 : s 0 1 = 0) (t2 : s 179 2 = 0) (hz : ∀ a j, a < 179 → s a j = z a j) (hF : SFin z s) : Inv s := by
  obtain ⟨f1, f6⟩ := hF
  unfold Agr seS scr tpC at h
  have e1 : ∀ k : Nat, ¬ (206 ≤ k ∧ k < 448) → s 181 k = ρ 181 k := fun k hk => h _ _ (by omega)
  have e2 : s 185 = ρ 185 := funext fun j => h _ _ (by omega)
  have e3 : pwA s = pwA ρ := by
    unfold pwA
    rw [e1 3 (by omega), h 179 23 (by omega)]
  obtain ⟨⟨h1a, h1b, h1c⟩, ⟨h2a, h2b, h2c, h2d, h2e⟩, h3, h4, h5, h6, h7⟩ := H
  have b1 := h1a.1
  have b2 := h1a.2.1
  have b3 := h1b.2.1
  have ws : ∀ q j, worC 3 q j → ¬ (21 ≤ q ∧ q ≤ 24) → s q j = ρ q j := fun q j hq hh => h q j (by unfold worC at hq; omega)
  unfold Inv
  rw [e2, e3, h 179 23 (by omega)]
  refine ⟨⟨WfI_cg (fun k hk _ => e1 k (by omega)) h1a, WfR_cg (by omega) (fun k hk => e1 k (by omega)) h1b, WfM_cg (e1 1 (by omega)) (fun k k0 k1 => e1 k (by omega)) (fun k k0 k1 => e1 k (by omega)) h1c⟩, ⟨?_, ?_, ?_, ?_, ?_⟩, ⟨by omega, by omega, fun i i0 i1 => by omega⟩, h4, ⟨ImgR_ag (fun q j hq => h q j ?_) h5.1, ImgR_ag (fun q j hq => h q j ?_) h5.2⟩, PasR_lo (fun q j hq => h q j (by omega)) (fun k hk => e1 k (by omega)) (by omega) h6, LstR_tp (fun q j hq => h q j (by omega)) (by rw [hz _ _ (by omega)]; exact f6) h7⟩
  · exact IslR_cg (by omega) (fun k hk _ => e1 k (by omega)) (IslR_ag (fun q j hq => ws q j (by unfold worC; omega) (by omega)) h2a)
  · exact IslX_cg (fun k hk _ => e1 k (by omega)) (IslX_ag (fun q j hq => ws q j (by unfold worC; omega) (by omega)) h2b)
  · exact RowR_cg (by omega) (fun k hk => e1 k (by omega)) (RowR_ag (fun q j hq => ws q j (by unfold worC; omega) (by omega)) h2c)
  · exact MemR_cg (fun k k0 k1 => e1 k (by omega)) (MemR_ag (fun q j hq => ws q j (by unfold worC; omega) (by omega)) h2d)
  · have e4 : s 22 = z 22 := funext fun j => hz _ _ (by omega)
    have e5 : s 23 = z 23 := funext fun j => hz _ _ (by omega)
    have e6 : s 24 = z 24 := funext fun j => hz _ _ (by omega)
    show senR (s 21 0) (s 21 1) (s 22) (s 23) (s 24) (s 181)
    rw [e4, e5, e6, hz 21 0 (by omega), hz 21 1 (by omega)]
    exact f1
  · unfold worC at hq
    omega
  · unfold worC at hq
    omega
theorem zw_sc {a j : Nat} (h : wrS a j) : scr a j ∨ tpC a j := by
  unfold wrS at h
  rcases h with h | h | h | h | h
  · by_cases c : j = 12
    · exact Or.inr (Or.inr (Or.inl ⟨h.1, c⟩))
    · exact Or.inl (Or.inl ⟨h.1, c⟩)
  all_goals exact Or.inl (Or.inr (Or.inr (Or.inr (Or.inl ⟨by omega, by omega⟩))))
theorem sc_202 {j : Nat} : scr 202 j := by
  unfold scr
  omega
theorem zm_sc {a j : Nat} (h : mrS a j) : scr a j ∨ tpC a j := by
  unfold mrS at h
  rcases h with ⟨rfl, h⟩ | rfl
  · by_cases c : j = 10
    · exact Or.inr (Or.inr (Or.inr ⟨rfl, Or.inr c⟩))
    · exact Or.inl (sc_179 (by omega))
  · exact Or.inl sc_202
theorem ss_1 {a j : Nat} (h : scr a j ∨ tpC a j) : seS a j := by
  rcases h with h | h
  · exact Or.inl h
  · exact Or.inr (Or.inl h)
theorem wd_se {a j : Nat} (h : wsD a j) : seS a j := by
  rcases h with h | h
  · exact ss_1 (zw_sc h)
  · exact Or.inr (Or.inr (Or.inl h))
theorem md_se {a j : Nat} (h : msD a j) : seS a j := by
  rcases h with h | h
  · exact ss_1 (zm_sc h)
  · exact Or.inr (Or.inr (Or.inr h))
theorem op_sentence : Op_sentence Inv := by
  intro σ H
  obtain ⟨t1, t2, t3⟩ := in_T H
  obtain ⟨⟨r, σ1⟩, y0, e1, -, -, s0, t0, hB, hc⟩ := s_sentence (σ := σ) (τ := σ) hNN (in_b H) t1 t2 t3 ⟨in_I H, in_L H, (in_X H).2.2.2.2⟩
  have hc1 : Agr wsD s0 σ1 := by
    rcases hc with ⟨-, c2, -⟩ | ⟨-, c2, -⟩
    · exact ag_mono c2 (fun a j q => Or.inl q)
    · exact c2
  have up : ∀ a j, 179 ≤ a → σ1 a j = σ a j := fun a j h => (hc1 a j (by unfold wsD wrS; omega)).trans (hB.2.2.2.2.2.2.2.1 a j (by unfold bwC; omega))
  clear hc hc1 hB s0 t0
  have u180 : σ1 180 = σ 180 := funext fun j => up 180 j (by omega)
  have u181 : σ1 181 = σ 181 := funext fun j => up 181 j (by omega)
  have u185 : σ1 185 = σ 185 := funext fun j => up 185 j (by omega)
  have upw : pwA σ1 = pwA σ := by
    unfold pwA
    rw [up _ _ (by omega), up _ _ (by omega)]
  obtain ⟨z, ⟨r2, σ2⟩, g1, g2, g3, s0, t0, hB, hc⟩ := s_sentence (σ := σ) (τ := σ1) hNN (by rw [up _ _ (by omega)]; exact in_b H) (by rw [up _ _ (by omega)]; exact t1) (by rw [up _ _ (by omega)]; exact t2) (by rw [u180, up _ _ (by omega)]; exact t3) (by unfold BkP; rw [u181, u185]; exact ⟨in_I H, in_L H, (in_X H).2.2.2.2⟩)
  rw [e1] at g1
  cases g1
  have g3 : r = r2 := g3
  subst g3
  refine ⟨r, σ1, σ2, e1, g2, ?_⟩
  obtain ⟨ρ, -, u2, u3, u4, u5, u6⟩ := inv_layAll H
  obtain ⟨-, b1, b2, b3, b4, b5, b6, b7, b8⟩ := hB
  rcases hc with ⟨c1, c2, c3⟩ | ⟨c1, c2, c3⟩
  · have lo : ∀ a j, a < 179 → σ2 a j = σ1 a j := fun a j h => (c3 a j (by unfold mrS; omega)).trans (b8 a j (by unfold bmC; omega))
    refine inv_tape0 u2 (fun a j hh => ?_) ?_ ?_ ?_
    · by_cases q1 : a = 179 ∧ j = 23
      · rw [q1.1, q1.2, u3]
        exact (c3 179 23 (by unfold mrS; omega)).trans b5
      · by_cases q2 : a = 181 ∧ j = 3
        · rw [q2.1, q2.2, u4, ← upw]
          exact (c3 181 3 (by unfold mrS; omega)).trans b6
        · rw [u6 a j (fun q => by rcases q with q | q; exact q1 q; exact q2 q)]
          by_cases q3 : a < 179
          · exact (lo a j q3).trans ((c2 a j (fun q => hh (zw_sc q))).trans (b7 a j (fun q => hh (bw_sc q))))
          · exact ((c3 a j (fun q => hh (zm_sc q))).trans (b8 a j (fun q => hh (bm_sc q q1 q2)))).trans (up a j (Nat.le_of_not_lt q3))
    · exact (lo 0 1 (by omega)).trans ((c2 0 1 (by unfold wrS; omega)).trans b1)
    · exact (c3 179 2 (by unfold mrS; omega)).trans b2
    · exact (lo 2 12 (by omega)).trans c1.1
  · have lo : ∀ a j, a < 179 → σ2 a j = σ1 a j := fun a j h => (c3 a j (by unfold msD mrS; omega)).trans (b8 a j (by unfold bmC; omega))
    refine inv_sen (z := σ1) u2 (fun a j hh => ?_) ?_ ?_ lo c1
    · by_cases q1 : a = 179 ∧ j = 23
      · rw [q1.1, q1.2, u3]
        exact (c3 179 23 (by unfold msD mrS; omega)).trans b5
      · by_cases q2 : a = 181 ∧ j = 3
        · rw [q2.1, q2.2, u4, ← upw]
          exact (c3 181 3 (by unfold msD mrS; omega)).trans b6
        · rw [u6 a j (fun q => by rcases q with q | q; exact q1 q; exact q2 q)]
          by_cases q3 : a < 179
          · exact (lo a j q3).trans ((c2 a j (fun q => hh (wd_se q))).trans (b7 a j (fun q => hh (ss_1 (bw_sc q)))))
          · exact ((c3 a j (fun q => hh (md_se q))).trans (b8 a j (fun q => hh (ss_1 (bm_sc q q1 q2))))).trans (up a j (Nat.le_of_not_lt q3))
    · exact (lo 0 1 (by omega)).trans ((c2 0 1 (by unfold wsD wrS; omega)).trans b1)
    · exact (c3 179 2 (by unfold msD mrS; omega)).trans b2
end
