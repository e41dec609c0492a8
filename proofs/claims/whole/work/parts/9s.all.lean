/-! LAYER 3zam: the shortest ROUND: the reference -/
section
variable {A : JA} {h : List Int} {s t σ : JSg} {n : Nat} {x y : Stt}
def x0A : Stt := (0, 20, 20)
theorem x0_rdy : rdy A h x0A := ⟨Nat.two_pow_pos _, Or.inl rfl, Or.inl rfl, fun _ => ⟨⟨fun _ => rfl, fun _ => rfl⟩, ⟨fun _ => rfl, fun _ => rfl⟩⟩⟩
theorem sl484 : ∀ k : Nat, k < 11 → sl32 484 (k : Int) = ((484 * 2 ^ k : Nat) : Int) := by decide +kernel
theorem fw_step {L : Nat} (g : isFw A h x (L + 1)) : ¬ goA A h x.1 ∧ (∃ c y, c < 2 * h.length ∧ mv A h x c = some y ∧ rc_ A h L y) ∧ ∀ c y, c < 2 * h.length → mv A h x c = some y → rc_ A h L y → isFw A h y L := by
  have ng : ¬ goA A h x.1 := g.2 0 (by omega)
  refine ⟨ng, ?_, fun c y h1 h2 h3 => ⟨h3, fun w hw q => g.2 (w + 1) (by omega) (Or.inr ⟨c, y, h1, h2, q⟩)⟩⟩
  rcases g.1 with q | q
  · exact absurd q ng
  · exact q
def awC (a j : Nat) : Prop := (a = 179 ∧ j = 32) ∨ a = 193 ∨ a = 194
theorem e_M_walk {v : Nat} (hn : 1000000 < n) (hI : WfI A) (hW : WfR A) (hh : H10 A h) (hB : MhB A h s) (hG : GS A h s) (hM : MF A h s) (hv : isFw A h x0A v) (v10 : v ≤ 10) : Ret (lt_ (sp s 179 32 0) fun s19 => lt_ (v : Int) fun v20 => wh3 n (fun rc21 (x22 : Int) (x23 : Int) (s24 : JSg) => if 0 < x23 then (lt_ 0 fun v25 => wh2 n (fun rc26 (x27 : Int) (s28 : JSg) => bd1 (f_M_moved x22 (dv32 x27 2) (rm32 x27 2) s28) fun r29 => jn1 (fun  (s31 : JSg) => lt_ (w32 (x27 + 1)) fun v32 => rc26 v32 s31) fun j30 => if r29 = (-1) then (j30 s28) else (bd1 (f_M_moved x22 (dv32 x27 2) (rm32 x27 2) s28) fun r33 => bd2 (f_M_fewestFrom n r33 ((h.length : Nat) : Int) s28) fun r34 s35 => if r34 = (w32 (x23 - 1)) then (bd1 (f_M_moved x22 (dv32 x27 2) (rm32 x27 2) s35) fun r36 => lt_ r36 fun v37 => chk (0 ≤ (dv32 x27 2) ∧ (dv32 x27 2) < 28) <| chk (0 ≤ (s35 179 32) ∧ (s35 179 32) < 10) <| lt_ (sp s35 194 (s35 179 32).toNat (w32 ((w32 (2 * (s35 189 (dv32 x27 2).toNat))) + (rm32 x27 2)))) fun s38 => lt_ (sp s38 179 32 (w32 ((s38 179 32) + 1))) fun s39 => lt_ (w32 (x23 + (-1))) fun v40 => rc21 v37 v40 s39) else (j30 s35))) v25 s24) else (some ((v : Int), s24))) ((cdM x0A : Nat) : Int) v20 s19) (fun z => z.1 = v ∧ z.2 179 32 = v ∧ Agr awC s z.2 ∧ ∃ l, wkA A h v x0A l ∧ PthP h z.2 194 l) := by
  have h10 := hh.1
  refine rt_lt (rt_lt ?_)
  refine rt_w3 (I := fun (a b : Int) (u : JSg) => ∃ (x : Stt) (k : Nat) (l : List Nat), a = (cdM x : Nat) ∧ b = ((v - k : Nat) : Int) ∧ rdy A h x ∧ isFw A h x (v - k) ∧ k ≤ v ∧ l.length = k ∧ Agr awC s u ∧ MF A h u ∧ u 179 32 = k ∧ PthP h u 194 l ∧ ∀ m, wkA A h (v - k) x m → wkA A h v x0A (l ++ m)) (μ := fun (a b : Int) (u : JSg) => b.toNat) ?_ n _ _ _ ⟨x0A, 0, [], rfl, rfl, x0_rdy, hv, by omega, rfl, ag_sp ag_refl (Or.inl ⟨rfl, rfl⟩), fun y hy => by rw [sp_nq (by decide)]; exact hM y hy, sp_eq, fun j hj => absurd hj (Nat.not_lt_zero _), fun m q => q⟩ (by omega)
  rintro a b u ⟨x, k, l, rfl, rfl, hx, fw, hk, hl, ua, uM, u32, up, uw⟩ rc hrc
  obtain ⟨c1, c2, c3, c4, c5⟩ := cdM_lt h10 hx
  refine rt_ite (fun g => ?_) (fun g => ?_)
  · obtain ⟨L, eL⟩ : ∃ L, v - k = L + 1 := ⟨v - k - 1, by omega⟩
    rw [eL] at fw uw
    obtain ⟨ng, ⟨c0, y0, q1, q2, q3⟩, fwn⟩ := fw_step fw
    refine rt_lt ?_
    refine rt_w2 (I := fun (a : Int) (w : JSg) => ∃ c : Nat, a = c ∧ c ≤ c0 ∧ (∀ e, e < c → ∀ z, mv A h x e = some z → ¬ rc_ A h L z) ∧ Agr (fun a _ => a = 193) u w ∧ MF A h w) (μ := fun (a : Int) (w : JSg) => (2 * (h.length : Int) - a).toNat) ?_ n _ _ ⟨0, rfl, by omega, fun e he => absurd he (Nat.not_lt_zero _), fun _ _ _ => rfl, uM⟩ (by omega)
    rintro a w ⟨c, rfl, hc, hm, wa, wM⟩ rc2 hrc2
    have bw : ∀ w' : JSg, Agr (fun a _ => a = 193) u w' → MhB A h w' ∧ GS A h w' := by
      intro w' w1
      refine ⟨MhB_ag hB (fun a j hq => (w1 a j (by omega)).trans (ua a j (by unfold awC; omega))), ?_⟩
      exact ((w1 179 33 (by decide)).trans (ua 179 33 (by unfold awC; omega))).trans hG
    obtain ⟨hBw, hGw⟩ := bw w wa
    have em : 2 * (c / 2) + c % 2 = c := by omega
    have mo : ∀ w' : JSg, Agr (fun a _ => a = 193) u w' → f_M_moved ((cdM x : Nat) : Int) (dv32 (c : Int) 2) (rm32 (c : Int) 2) w' = some (omv (mv A h x c)) := by
      intro w' w1
      have := e_moved (s := w') (i := c / 2) (d := c % 2) hI hW hh (bw w' w1).1 hx (by omega) (by omega)
      rw [em] at this
      rw [dv_p (by omega) (by omega) (by omega) (by omega), rm_p (by omega) (by omega) (by omega) (by omega), ← this]
      push_cast
      rfl
    rw [mo w wa, b1_s]
    refine rt_c1 (fun (t : JSg) => (∀ z, mv A h x c = some z → ¬ rc_ A h L z) ∧ Agr (fun a _ => a = 193) u t ∧ MF A h t) (fun t ht => ?_) (fun j hj => ?_)
    · obtain ⟨t0, t1, t2⟩ := ht
      have ne : c ≠ c0 := fun q => t0 y0 (by rw [q]; exact q2) q3
      rw [lt_u, wi (by omega) (by omega)]
      refine hrc2 _ _ ⟨c + 1, by push_cast; rfl, by omega, fun e he z hz => ?_, t1, t2⟩ (by omega)
      by_cases q : e = c
      · rw [q] at hz; exact t0 z hz
      · exact hm e (by omega) z hz
    · cases e : mv A h x c with
      | none =>
        rw [if_pos (show omv none = -1 from rfl)]
        rw [e] at hj
        exact hj _ ⟨fun z hz => (by cases hz), wa, wM⟩
      | some y =>
        have r := mv_rdy h10 hx (c := c) (by omega) e
        have pl := pcn_le (U := y.1) h.length
        have cy := cdM_lt h10 r.1
        rw [e] at hj mo
        rw [if_neg (show ¬ omv (some y) = -1 by show ¬ ((cdM y : Nat) : Int) = -1; omega), b1_s]
        show Ret (bd2 (fg_M_fewestFrom n 64 ((cdM y : Nat) : Int) ((h.length : Nat) : Int) w) _) _
        refine rt_b2 (e_fewest hn hI hW hh 64 y w (by omega) r.1 hBw hGw wM) (fun v1 t ht => ?_)
        obtain ⟨t1, t2, v2, t3, t4⟩ := ht
        have t3 : v1 = ((v2 : Nat) : Int) := t3
        subst t3
        have t1 : Agr (fun a _ => a = 193) w t := t1
        have t2 : MF A h t := t2
        have ta := ag_tr wa t1
        rw [eL, wi (by omega) (by omega)]
        refine rt_ite (fun g4 => ?_) (fun g4 => hj _ ⟨fun z hz q => ?_, ta, t2⟩)
        · have e2 : v2 = L := by omega
          subst e2
          have yfw : isFw A h y v2 := by
            rcases t4 with ⟨q, -⟩ | ⟨q, -⟩
            · exact q
            · omega
          have ta2 : Agr awC s t := fun a j hq => (ta a j (by unfold awC at hq; omega)).trans (ua a j hq)
          have t32 : t 179 32 = k := (ta 179 32 (by decide)).trans u32
          have hi : c / 2 < h.length := by omega
          have ci := code_in hI hh.2 hi
          have gh := hh.2.2 _ hi
          have b28 := hI.2.1
          have e1 : w32 (2 * h.getD (c / 2) 0) = 2 * h.getD (c / 2) 0 := wi (by omega) (by omega)
          have e2 : w32 (2 * h.getD (c / 2) 0 + ((c % 2 : Nat) : Int)) = codeC h c := wi (by omega) (by omega)
          rw [mo t ta, b1_s, lt_u, dv_p (by omega) (by omega) (by omega) (by omega), rm_p (by omega) (by omega) (by omega) (by omega), show (c : Int) / 2 = ((c / 2 : Nat) : Int) by omega, show (c : Int) % 2 = ((c % 2 : Nat) : Int) by omega, Int.toNat_natCast, (bw t ta).1.2 _ hi, e1, e2, t32, Int.toNat_natCast, wi (x := ((v2 + 1 : Nat) : Int) + -1) (by omega) (by omega)]
          simp only [lt_u]
          rw [sp_nq (show (179 : Nat) ≠ 194 by decide), t32, wi (x := (k : Int) + 1) (by omega) (by omega)]
          have sg : ∀ a j, ¬ ((a = 179 ∧ j = 32) ∨ (a = 194 ∧ j = k)) → sp (sp t 194 k (codeC h c)) 179 32 ((k : Int) + 1) a j = t a j := by
            intro a j hq
            simp only [sp_at]
            repeat' split
            all_goals first | omega | rfl
          refine rt_chk (by omega) (rt_chk (by omega) (hrc _ _ _ ⟨y, k + 1, l ++ [c], rfl, by omega, r.1, ?_, by omega, by rw [List.length_append, hl]; rfl, ag_tr ta2 (fun a j hq => sg a j (by unfold awC at hq; omega)), fun z hz => by rw [sg _ _ (by omega)]; exact t2 z hz, by rw [sp_eq]; push_cast; rfl, ?_, fun m hm2 => ?_⟩ (by omega)))
          · rw [show v - (k + 1) = v2 by omega]; exact yfw
          · have up2 : PthP h t 194 l := fun j hj => by rw [ta 194 j (show ¬ ((194 : Nat) = 193) by decide)]; exact up j hj
            have := pth_s (c := c) up2 rfl
            rw [hl] at this
            intro j hj
            rw [sp_nq (show (194 : Nat) ≠ 179 by decide)]
            exact this j hj
          · rw [show v - (k + 1) = v2 by omega] at hm2
            have := uw (c :: m) (Or.inr ⟨ng, c, m, y, rfl, by omega, e, yfw.1, hm, hm2⟩)
            rwa [List.append_assoc]
        · cases hz
          have q2 := fwn c y (by omega) e q
          rcases t4 with ⟨q4, -⟩ | ⟨-, q4⟩
          · have := fw_u q2 q4
            omega
          · exact q4 L q
  · have : k = v := by omega
    subst this
    refine rt_some ⟨rfl, u32, ua, l, ?_, up⟩
    have := uw [] (by
      rw [Nat.sub_self] at fw ⊢
      exact ⟨fw.1, rfl⟩)
    rwa [List.append_nil] at this
def maA (a j : Nat) : Prop := (a = 179 ∧ (j = 0 ∨ j = 33)) ∨ a = 189 ∨ a = 193
def mbA (a j : Nat) : Prop := maA a j ∨ (a = 179 ∧ j = 32) ∨ a = 194
def hn10 (A : JA) : Prop := (hndL A).length ≤ 10
theorem e_M_all (hn : 1000000 < n) (hI : WfI (σ 181)) (hW : WfR (σ 181)) : Ret (f_M_all n σ) (fun z => (z.1 = -1 ∧ Agr maA σ z.2 ∧ (10 < (hndL (σ 181)).length ∨ (hn10 (σ 181) ∧ ∀ w, ¬ rc_ (σ 181) (hndL (σ 181)) w x0A))) ∨ (hn10 (σ 181) ∧ Agr mbA σ z.2 ∧ ∃ (v : Nat) (l : List Nat), z.1 = v ∧ z.2 179 32 = v ∧ isFw (σ 181) (hndL (σ 181)) x0A v ∧ wkA (σ 181) (hndL (σ 181)) v x0A l ∧ PthP (hndL (σ 181)) z.2 194 l ∧ v ≤ 10)) := by
  unfold f_M_all
  generalize hA : σ 181 = A at *
  have sA : sp σ 179 0 0 181 = A := by rw [th_A, hA]
  refine rt_lt (rt_b2 (e_M_layHand hn (by rw [sA]; exact hI)) (fun r s3 hz => ?_))
  obtain ⟨za, zb, zc⟩ := hz
  rw [sA] at zb zc
  have zb : r = ((hndL A).length : Nat) := zb
  subst zb
  have za' : Agr maA σ s3 := ag_tr (ag_sp ag_refl (Or.inl ⟨rfl, Or.inl rfl⟩)) (ag_mono za (fun a j q => Or.inr (Or.inl q)))
  have s3A : s3 181 = A := (funext fun j => za' 181 j (by unfold maA; omega)).trans hA
  rw [lt_u]
  refine rt_ite (fun g => rt_some (Or.inl ⟨rfl, za', Or.inl (by omega)⟩)) (fun g => ?_)
  have z10 : hn10 A := by show (hndL A).length ≤ 10; omega
  have hh : H10 A (hndL A) := ⟨z10, hnd_ok hI (by show (hndL A).length ≤ 12; omega)⟩
  have hB3 : MhB A (hndL A) s3 := ⟨s3A, zc⟩
  clear zc za
  generalize hndL A = h at *
  have h10 := hh.1
  have p : 2 ^ h.length ≤ 1024 := Nat.pow_le_pow_right (n := 2) (by decide) h10
  have ho6 : ∀ j, j < h.length → (ownA A (h.getD j 0)).toNat < 6 := fun j hj => by have := own_6 hI hW hh.2 hj; omega
  refine rt_lt (rt_lt ?_)
  refine rt_w2 (I := fun (z : Int) (u : JSg) => ∃ m : Nat, z = m ∧ m ≤ h.length ∧ Agr maA σ u ∧ (∀ j, u 189 j = s3 189 j) ∧ u 179 33 = (orN A h (fun _ => true) m : Nat)) (μ := fun (z : Int) (u : JSg) => ((h.length : Int) - z).toNat) ?_ n _ _ ⟨0, rfl, by omega, ag_sp za' (Or.inl ⟨rfl, Or.inr rfl⟩), fun j => by rw [sp_nq (by decide)], sp_eq⟩ (by omega)
  rintro z u ⟨m, rfl, hm, ua, u9, u3⟩ rc hrc
  have uB : MhB A h u := ⟨(funext fun j => ua 181 j (by unfold maA; omega)).trans hA, fun j hj => (u9 j).trans (hB3.2 j hj)⟩
  refine rt_ite (fun g1 => ?_) (fun g1 => ?_)
  · have ml : m < h.length := by omega
    have o := own_6 hI hW hh.2 ml
    have l6 := orN_lt (P := fun _ => true) ho6 m (by omega)
    have e2 := ins_e (U := orN A h (fun _ => true) m) (i := (ownA A (h.getD m 0)).toNat) (by omega) (by omega)
    rw [show (((ownA A (h.getD m 0)).toNat : Nat) : Int) = A (67 + h.getD m 0).toNat by rw [show A (67 + h.getD m 0).toNat = ownA A (h.getD m 0) from rfl]; omega] at e2
    rw [Int.toNat_natCast, uB.2 m ml, wi (x := 67 + h.getD m 0) (by omega) (by omega), uB.1, u3, e2]
    refine rt_chk (by omega) (rt_chk (by omega) (rt_lt (rt_lt ?_)))
    rw [lt_u, wi (by omega) (by omega)]
    refine hrc _ _ ⟨m + 1, by push_cast; rfl, by omega, ag_sp ua (Or.inl ⟨rfl, Or.inr rfl⟩), fun j => by rw [sp_nq (by decide)]; exact u9 j, ?_⟩ (by omega)
    rw [sp_eq]
    rfl
  · have em : m = h.length := by omega
    subst em
    rw [sl484 _ (by omega), lt_u]
    refine rt_w2 (I := fun (z : Int) (w : JSg) => ∃ k : Nat, z = k ∧ k ≤ 484 * 2 ^ h.length ∧ Agr (fun a _ => a = 193) u w ∧ ∀ j, j < k → w 193 j = -2) (μ := fun (z : Int) (w : JSg) => (((484 * 2 ^ h.length : Nat) : Int) - z).toNat) ?_ n _ _ ⟨0, rfl, by omega, fun _ _ _ => rfl, fun j hj => absurd hj (Nat.not_lt_zero _)⟩ (by omega)
    rintro z w ⟨k, rfl, hk, wa, w1⟩ rc2 hrc2
    refine rt_ite (fun g2 => ?_) (fun g2 => ?_)
    · rw [Int.toNat_natCast]
      refine rt_chk (by omega) (rt_lt ?_)
      rw [lt_u, wi (by omega) (by omega)]
      refine hrc2 _ _ ⟨k + 1, by push_cast; rfl, by omega, ag_sp wa rfl, fun j hj => ?_⟩ (by omega)
      by_cases q : j = k
      · rw [q, sp_eq]
      · rw [sp_nj q]; exact w1 j (by omega)
    · have wB : MhB A h w := MhB_ag uB (fun a j hq => wa a j (by omega))
      have wG : GS A h w := (wa 179 33 (by decide)).trans u3
      have wM : MF A h w := fun x hx => Or.inl (w1 _ (by have := (cdM_lt h10 hx).1; omega))
      have wA : Agr maA σ w := ag_tr ua (ag_mono wa (fun a j q => Or.inr (Or.inr q)))
      rw [show f_M_stateOf 0 20 20 w = some ((cdM x0A : Nat) : Int) from rfl, b1_s, lt_u]
      show Ret (bd2 (fg_M_fewestFrom n 64 ((cdM x0A : Nat) : Int) ((h.length : Nat) : Int) w) _) _
      refine rt_b2 (e_fewest hn hI hW hh 64 x0A w (by omega) x0_rdy wB wG wM) (fun v1 t ht => ?_)
      obtain ⟨t1, t2, v, t3, t4⟩ := ht
      have t3 : v1 = ((v : Nat) : Int) := t3
      subst t3
      have t1 : Agr (fun a _ => a = 193) w t := t1
      have t2 : MF A h t := t2
      have tA : Agr maA σ t := ag_tr wA (ag_mono t1 (fun a j q => Or.inr (Or.inr q)))
      rw [lt_u]
      rcases t4 with ⟨q1, q2⟩ | ⟨q1, q2⟩
      · rw [if_pos (show (v : Int) < 99 by omega)]
        refine rt_mono (e_M_walk hn hI hW hh (MhB_ag wB (fun a j hq => t1 a j (by omega))) ((t1 179 33 (by decide)).trans wG) t2 q1 q2) ?_
        rintro z ⟨z1, z2, z3, l, z4, z5⟩
        refine Or.inr ⟨z10, fun a j hq => ?_, v, l, z1, z2, q1, z4, z5, q2⟩
        unfold mbA maA at hq
        exact (z3 a j (by unfold awC; omega)).trans (tA a j (by unfold maA; omega))
      · rw [if_neg (show ¬ (v : Int) < 99 by omega)]
        exact rt_some (Or.inl ⟨rfl, tA, Or.inr ⟨z10, q2⟩⟩)
end
