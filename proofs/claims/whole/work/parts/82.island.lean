/-! LAYER 3zg: an ISLAND's LINES to their end -/
section
theorem sm_r2 {B0 B1 Z Y : Type} {o1 : Option Z} {G : (B0 → B1 → Option Y) → B0 → B1 → Option Y} {Q : Z → Y → Prop} (I : B0 → B1 → Prop) (μ : B0 → B1 → Nat) (hs : ∀ (x0 : B0) (x1 : B1), I x0 x1 → ∀ rc, (∀ (y0 : B0) (y1 : B1), I y0 y1 → μ y0 y1 < μ x0 x1 → Sm o1 (rc y0 y1) Q) → Sm o1 (G rc x0 x1) Q) : ∀ (n : Nat) (x0 : B0) (x1 : B1), I x0 x1 → μ x0 x1 < n → Sm o1 (wh2 n G x0 x1) Q := by
  intro n
  induction n with
  | zero => intro x0 x1 _ h; omega
  | succ n ih =>
    intro x0 x1 hI hm
    exact hs x0 x1 hI _ (fun y0 y1 h1 h2 => ih y0 y1 h1 (by omega))
theorem sm_ret {Z Y : Type} {z : Z} {o : Option Y} {Q : Z → Y → Prop} (h : Ret o (Q z)) : Sm (some z) o Q := by
  obtain ⟨y, e, q⟩ := h
  exact ⟨z, y, rfl, e, q⟩
variable {σ τ : JSg} {n p : Nat} {c : JA} {size lim q : Int}
theorem e_fill {N : Nat} {v : Int} (hn : N < n) (hN : N < 1000000) : Ret (f_JArr_fill_53178 n p N v σ) (fun s => ∀ a j, s a j = if a = p ∧ j < N then v else σ a j) := by
  unfold f_JArr_fill_53178
  refine rt_lt (rt_lt ?_)
  refine rt_w2 (I := fun (x : Int) (s : JSg) => (0 ≤ x ∧ x ≤ N) ∧ ∀ a j, s a j = if a = p ∧ (j : Int) < x then v else σ a j) (μ := fun (x : Int) (s : JSg) => (N - x).toNat) ?_ n _ _ ⟨by omega, fun a j => by rw [if_neg (by omega)]⟩ (by omega)
  rintro x s ⟨x01, sa⟩ rc hrc
  refine rt_ite (fun h => ?_) (fun h => rt_some (fun a j => ?_))
  · refine rt_chk (by omega) (rt_lt (rt_lt ?_))
    rw [wi (by omega) (by omega)]
    refine hrc _ _ ⟨by omega, fun a j => ?_⟩ (by omega)
    rw [sp_at, sa]
    by_cases c1 : a = p
    · subst c1
      by_cases c2 : j = x.toNat
      · rw [if_pos rfl, if_pos c2, if_pos (by omega)]
      · rw [if_pos rfl, if_neg c2]
        by_cases c3 : (j : Int) < x
        · rw [if_pos ⟨rfl, c3⟩, if_pos (by omega)]
        · rw [if_neg (by omega), if_neg (by omega)]
    · rw [if_neg c1, if_neg (by omega), if_neg (by omega)]
  · rw [sa]
    by_cases c1 : a = p ∧ j < N
    · rw [if_pos c1, if_pos (by omega)]
    · rw [if_neg c1, if_neg (by omega)]
def wxC (a j : Nat) : Prop := wrC a j ∨ a = 27
theorem wx_r {σ s t : JSg} (h : Agr wxC σ s) (g : Agr wrC s t) : Agr wxC σ t := ag_tr h (ag_mono g (fun a j q => Or.inl q))
def mxC (a j : Nat) : Prop := mrC a j ∨ a = 181 ∨ a = 185 ∨ (a = 179 ∧ j = 22)
/-- what an ISLAND's text leaves on both sides -/
def IsQ (σ τ : JSg) (z y : Int × JSg) : Prop := Agr wxC σ z.2 ∧ ((z.1 = 0 ∧ y.1 = w32 (-1 - y.2 179 11) ∧ FR z.2 y.2 ∧ Agr mrC τ y.2) ∨ (z.1 = 1 ∧ y.1 = z.2 27 0 ∧ IslP z.2 y.2 ∧ (∀ w : Int, 0 ≤ w → w < 7 → fitD z.2 27 (y.2 182) w) ∧ (∀ k : Nat, k < 448 → y.2 181 k = if k < 192 then y.2 182 k else 0) ∧ (∀ k : Nat, k < 6 → y.2 185 k = y.2 186 k) ∧ y.2 179 22 = 0 ∧ Agr mxC τ y.2))
theorem s_all (hn : 1000000 < n) (h : TR c size 900 0 σ τ) (hf : σ 2 12 = τ 179 10) : Sm (f_Isl_readAll n 27 σ) (lt_ 0 fun v2 => wh2 n (fun rc3 (x4 : Int) (s5 : JSg) => if x4 < 192 then (chk (0 ≤ x4 ∧ x4 < 192) <| lt_ (sp s5 182 x4.toNat 0) fun s30 => lt_ (w32 (x4 + 1)) fun v31 => rc3 v31 s30) else (lt_ (sp s5 182 3 5) fun s6 => lt_ (sp s6 179 24 0) fun s7 => lt_ 0 fun v8 => wh2 n (fun rc9 (x10 : Int) (s11 : JSg) => if (s11 179 7) = 0 then (lt_ 0 fun v12 => wh2 n (fun rc13 (x14 : Int) (s15 : JSg) => if x14 < 448 then (jn1 (fun (u24 : Int) => chk (0 ≤ x14 ∧ x14 < 448) <| lt_ (sp s15 181 x14.toNat u24) fun s25 => lt_ (w32 (x14 + 1)) fun v26 => rc13 v26 s25) fun j23 => if x14 < 192 then (chk (0 ≤ x14 ∧ x14 < 192) <| j23 (s15 182 x14.toNat)) else (j23 0)) else (lt_ 0 fun v16 => wh2 n (fun rc17 (x18 : Int) (s19 : JSg) => if x18 < 6 then (chk (0 ≤ x18 ∧ x18 < 6) <| chk (0 ≤ x18 ∧ x18 < 6) <| lt_ (sp s19 185 x18.toNat (s19 186 x18.toNat)) fun s21 => lt_ (w32 (x18 + 1)) fun v22 => rc17 v22 s21) else (lt_ (sp s19 179 22 0) fun s20 => some (x10, s20))) v16 s15)) v12 s11) else (bd2 (f_M_readLine n s11) fun r27 s28 => if r27 = 0 then (some (w32 ((-1) - (s28 179 11)), s28)) else (lt_ (w32 (x10 + 1)) fun v29 => rc9 v29 s28))) v8 s7)) v2 τ) (IsQ σ τ) := by
  rw [lt_u]
  refine sm_r2 (I := fun (x : Int) (t : JSg) => (0 ≤ x ∧ x ≤ 192) ∧ ∀ a j, t a j = if a = 182 ∧ (j : Int) < x then 0 else τ a j) (μ := fun (x : Int) (t : JSg) => (192 - x).toNat) ?_ n _ _ ⟨by omega, fun a j => by rw [if_neg (by omega)]⟩ (by omega)
  rintro x t ⟨x01, ta⟩ rc hrc
  by_cases hx : x < 192
  · rw [if_pos hx]
    refine sm_cr (by omega) ?_
    rw [lt_u, lt_u, wi (by omega) (by omega)]
    refine hrc _ _ ⟨by omega, fun a j => ?_⟩ (by omega)
    rw [sp_at, ta]
    by_cases c1 : a = 182
    · subst c1
      by_cases c2 : j = x.toNat
      · rw [if_pos rfl, if_pos c2, if_pos (by omega)]
      · rw [if_pos rfl, if_neg c2]
        by_cases c3 : (j : Int) < x
        · rw [if_pos ⟨rfl, c3⟩, if_pos (by omega)]
        · rw [if_neg (by omega), if_neg (by omega)]
    · rw [if_neg c1, if_neg (by omega), if_neg (by omega)]
  · rw [if_neg hx]
    clear hrc rc
    obtain rfl : x = 192 := by omega
    rw [lt_u, lt_u, lt_u]
    generalize ht' : sp (sp t 182 3 5) 179 24 0 = t'
    have tA : ∀ k : Nat, k < 192 → t' 182 k = if k = 3 then 5 else 0 := by
      intro k hk
      rw [← ht', sp_nq (by decide)]
      by_cases e : k = 3
      · rw [e, sp_eq, if_pos rfl]
      · rw [sp_nj e, ta, if_pos (by omega), if_neg e]
    have t24 : t' 179 24 = 0 := by rw [← ht', sp_eq]
    have tg : ∀ a j, ¬ (a = 182 ∨ (a = 179 ∧ j = 24)) → t' a j = τ a j := by
      intro a j hh
      rw [← ht']
      simp only [sp_at]
      repeat' split
      all_goals first | omega | (rw [ta, if_neg (by omega)])
    clear ht' ta
    unfold f_Isl_readAll f_Isl_clear
    simp only [lt_u]
    obtain ⟨s', e1, e2⟩ := e_fill (n := n) (p := 27 + 5) (N := 7) (v := 0) (σ := sp (sp (sp (sp (sp (sp (sp σ 27 0 0) 27 1 0) 27 2 0) 27 3 0) 27 4 0) 27 5 5) 27 6 0) (by omega) (by omega)
    rw [e1, b1_s, b1_s]
    have sA : s' 27 0 = 0 ∧ s' 27 1 = 0 ∧ s' 27 2 = 0 ∧ s' 27 3 = 0 ∧ s' 27 4 = 0 ∧ s' 27 5 = 5 ∧ s' 27 6 = 0 := by
      refine ⟨?_, ?_, ?_, ?_, ?_, ?_, ?_⟩
      all_goals
        rw [e2, if_neg (by omega)]
        simp (disch := omega) only [sp_eq, sp_nj]
    have s32 : ∀ j : Nat, j < 7 → s' 32 j = 0 := fun j hj => by rw [e2, if_pos ⟨rfl, hj⟩]
    have sg : ∀ a j, ¬ (a = 27 ∨ a = 32) → s' a j = σ a j := by
      intro a j hh
      rw [e2, if_neg (by omega)]
      simp (disch := omega) only [sp_nq]
    clear e1 e2
    have c0 : cntQ (t' 182) = 0 := (cntQ_cg (A := fun _ => 0) (fun k k0 k1 => by rw [tA k (by omega), if_neg k1])).trans (by decide +kernel)
    have tz : ∀ k : Nat, k < 192 → k ≠ 3 → t' 182 k = 0 := fun k k0 k1 => by rw [tA k k0, if_neg k1]
    have P0 : IslP s' t' := by
      have e0 := tz 0 (by omega) (by omega)
      have e1 := tz 1 (by omega) (by omega)
      refine ⟨⟨by omega, by omega, by rw [tz 2 (by omega) (by omega)]; omega, fun v v0 v1 => by rw [tz _ (by omega) (by omega)]; omega, fun d i d0 d1 => by omega⟩, fun a b a0 a1 b0 b1 => by rw [tz _ (by omega) (by omega), tz _ (by omega) (by omega), bt_0, bt_0], ⟨by rw [e0, sA.2.1], by rw [e1, sA.2.2.1], by rw [tz 2 (by omega) (by omega), sA.2.2.2.1], by rw [c0, sA.2.2.2.2.1], by rw [tA 3 (by omega), sA.2.2.2.2.2.1]; rfl, by rw [t24, sA.2.2.2.2.2.2]⟩, Or.inl sA.2.2.2.2.2.2, fun w w0 w1 => by omega, fun d d0 d1 => by omega, fun w w0 w1 => by rw [tz _ (by omega) (by omega)]; exact s32 _ (by omega), fun k k0 k1 => tz k (by omega) (by omega), by rw [sg _ _ (by omega), tg _ _ (by omega)]; exact hf⟩
    have T0 : TR c size 900 0 s' t' := tr_ag h (fun a j hh => sg a j (by omega)) (fun a j hh => tg a j (by omega))
    refine sm_w12 (I := fun (s : JSg) (x : Int) (t : JSg) => x = s 27 0 ∧ 0 ≤ x ∧ (∃ p, TR c size 900 p s t ∧ 2 * x ≤ p) ∧ IslP s t ∧ Agr wxC σ s ∧ Agr mrC τ t) (μ := fun (s : JSg) => (1000 - s 27 0).toNat) ?_ n n s' 0 t' ⟨sA.1.symm, by omega, ⟨0, T0, by omega⟩, P0, fun a j hh => sg a j (by unfold wxC wrC at hh; omega), fun a j hh => tg a j (by unfold mrC at hh; omega)⟩ (by rw [sA.1]; omega) (by rw [sA.1]; omega)
    clear sA s32 sg c0 tz P0 T0 tA t24 tg h hf
    rintro s x t ⟨hx, x0, ⟨p, hT, hp⟩, hP, ws, mt⟩ rc rd hrc
    have nx := tr_nx hT
    have kd := tr_kd hT
    have z940 := hT.1.1.2.1
    rw [j0_s, if_pos (by omega)]
    refine sm_ite (by omega) (fun g1 g2 => ?_) (fun g1 g2 => ?_)
    · obtain ⟨p1, p2, ⟨p3, p3a, p3b, p3c⟩, p4, p5, p6, p7, p8, p9⟩ := id hP
      obtain ⟨s5, f1, f2, f3⟩ := e_fit (n := n) (p := 27) (A := t 182) (σ := s) (by omega) p7 p3b
      rw [f1, b1_s]
      refine sm_ret ?_
      refine rt_lt ?_
      refine rt_w2 (I := fun (k : Int) (u : JSg) => (0 ≤ k ∧ k ≤ 448) ∧ ∀ a j, u a j = if a = 181 ∧ (j : Int) < k then (if j < 192 then t 182 j else 0) else t a j) (μ := fun (k : Int) (u : JSg) => (448 - k).toNat) ?_ n _ _ ⟨by omega, fun a j => by rw [if_neg (by omega)]⟩ (by omega)
      rintro k u ⟨k01, ua⟩ rc1 hrc1
      refine rt_ite (fun hk => ?_) (fun hk => ?_)
      · have nxt : ∀ v : Int, v = (if k.toNat < 192 then t 182 k.toNat else 0) → Ret (rc1 (k + 1) (sp u 181 k.toNat v)) (IsQ σ τ (1, s5)) := by
          intro v hv
          refine hrc1 _ _ ⟨by omega, fun a j => ?_⟩ (by omega)
          rw [sp_at, ua]
          by_cases c1 : a = 181
          · subst c1
            by_cases c2 : j = k.toNat
            · rw [if_pos rfl, if_pos c2, if_pos (show (181 : Nat) = 181 ∧ (j : Int) < k + 1 by omega), c2]; exact hv
            · rw [if_pos rfl, if_neg c2]
              by_cases c3 : (j : Int) < k
              · rw [if_pos ⟨rfl, c3⟩, if_pos (show (181 : Nat) = 181 ∧ (j : Int) < k + 1 by omega)]
              · rw [if_neg (by omega), if_neg (by omega)]
          · rw [if_neg c1, if_neg (by omega), if_neg (by omega)]
        rw [j1_s]
        simp only [lt_u]
        rw [wi (by omega) (by omega)]
        refine rt_ite (fun h1 => ?_) (fun h1 => ?_)
        · refine rt_chk (by omega) (rt_chk (by omega) (nxt _ ?_))
          rw [ua, if_neg (by omega), if_pos (by omega)]
        · refine rt_chk (by omega) (nxt _ ?_)
          rw [if_neg (by omega)]
      · clear hrc1 rc1
        refine rt_lt ?_
        refine rt_w2 (I := fun (k : Int) (v : JSg) => (0 ≤ k ∧ k ≤ 6) ∧ ∀ a j, v a j = if a = 185 ∧ (j : Int) < k then t 186 j else u a j) (μ := fun (k : Int) (u : JSg) => (6 - k).toNat) ?_ n _ _ ⟨by omega, fun a j => by rw [if_neg (by omega)]⟩ (by omega)
        rintro i v ⟨i01, va⟩ rc1 hrc1
        refine rt_ite (fun hi => ?_) (fun hi => ?_)
        · refine rt_chk (by omega) (rt_chk (by omega) (rt_lt (rt_lt ?_)))
          rw [wi (by omega) (by omega)]
          refine hrc1 _ _ ⟨by omega, fun a j => ?_⟩ (by omega)
          rw [sp_at, va, va]
          by_cases c1 : a = 185
          · subst c1
            by_cases c2 : j = i.toNat
            · rw [if_pos rfl, if_pos c2, if_neg (by omega), if_pos (by omega), ua, if_neg (by omega), c2]
            · rw [if_pos rfl, if_neg c2]
              by_cases c3 : (j : Int) < i
              · rw [if_pos ⟨rfl, c3⟩, if_pos (by omega)]
              · rw [if_neg (by omega), if_neg (by omega)]
          · rw [if_neg c1, if_neg (by omega), if_neg (by omega)]
        · refine rt_lt (rt_some ?_)
          have vt : ∀ a j, ¬ (a = 181 ∨ a = 185 ∨ (a = 179 ∧ j = 22)) → sp v 179 22 0 a j = t a j := by
            intro a j hh
            rw [sp_at]
            by_cases c1 : a = 179
            · rw [if_pos c1, if_neg (by omega), va, if_neg (by omega), ua, if_neg (by omega)]
            · rw [if_neg c1, va, if_neg (by omega), ua, if_neg (by omega)]
          refine ⟨?_, Or.inr ⟨rfl, ?_, ?_, ?_, ?_, ?_, (show sp v 179 22 0 179 22 = 0 from sp_eq), ?_⟩⟩
          · exact ag_tr ws (ag_mono f2 (fun a j q => by unfold fitC at q; unfold wxC wrC; omega))
          · show x = s5 27 0
            rw [f2 _ _ (by unfold fitC; omega)]; exact hx
          · exact IslP_ag hP (fun a j q => f2 a j (by unfold fitC; omega)) (fun a j q => vt a j (by omega))
          · intro w w0 w1
            have e : sp v 179 22 0 182 = t 182 := funext fun j => vt 182 j (by omega)
            show fitD s5 27 (sp v 179 22 0 182) w
            rw [e]; exact f3 w w0 w1
          · intro k k1
            show sp v 179 22 0 181 k = if k < 192 then sp v 179 22 0 182 k else 0
            rw [vt 182 k (by omega), sp_nq (by decide), va, if_neg (by omega), ua, if_pos (by omega)]
          · intro k k1
            show sp v 179 22 0 185 k = sp v 179 22 0 186 k
            rw [vt 186 k (by omega), sp_nq (by decide), va, if_pos (by omega)]
          · exact ag_tr (ag_mono mt (fun a j q => Or.inl q)) (fun a j hh => vt a j (by unfold mxC at hh; omega))
    · rw [b2_wl]
      refine sm_b22 (s_line hn hT hP) ?_
      rintro r s1 r' t1 ⟨c1, c2, c3⟩
      rcases c3 with ⟨d1, d2, d3⟩ | ⟨d1, d2, d3, d4, p', d5, d6⟩
      · have d1 : r = 0 := d1
        have d2 : r' = 0 := d2
        rw [if_pos d1, if_pos d2]
        exact sm_some ⟨wx_r ws c1, Or.inl ⟨rfl, rfl, d3, ag_tr mt c2⟩⟩
      · have d1 : r = 1 := d1
        have d2 : r' = 1 := d2
        have w0 : s1 27 0 = s 27 0 := c1 27 0 (by unfold wrC; omega)
        rw [if_neg (by omega), if_neg (by omega), w0, ← hx, wi (by omega) (by omega)]
        have lt := nx.2.2.2.1 (by omega) (by omega)
        refine hrc _ _ _ ⟨sp_eq.symm, by omega, ⟨p', tr_ag d5 (fun a j hh => by rw [sp_nq (by omega)]) (fun _ _ _ => rfl), by omega⟩, IslP_ag d4 (fun a j hh => by
          rw [sp_at]
          by_cases e : a = 27
          · rw [if_pos e, if_neg (by omega)]
          · rw [if_neg e]) (fun _ _ _ => rfl), ag_sp (wx_r ws c1) (by unfold wxC; omega), ag_tr mt c2⟩ ?_
        rw [sp_eq]
        omega
end
