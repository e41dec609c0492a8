/-! LAYER 3zaw: the GAME of two: the reference -/
section
variable {A : JA} {h : List Int} {a b : Int} {x y : Stt} {t : Nat} {s σ : JSg} {n : Nat}
def gmP (A : JA) (a b : Int) (s : Int) : Bool := decide (whrA A s = 0 ∧ (ownA A s = a ∨ ownA A s = b))
def gmL (A : JA) (a b : Int) : List Int := hdL (gmP A a b) (A 1).toNat
theorem gml_ok (hI : WfI A) (h10 : (gmL A a b).length ≤ 10) : H10 A (gmL A a b) := by
  refine ⟨h10, by omega, fun i hi => ?_⟩
  have := hdL_g (P := gmP A a b) (k := (A 1).toNat) (i := i) hi
  have b1 := hI.2.1
  unfold gmL
  omega
def x0G (A : JA) : Stt := (0, (outA A 0).toNat, (outA A 1).toNat)
theorem x0G_rd (hI : WfI A) (hW : WfR A) (h0 : A 151 ≠ 0) : rdG h (x0G A) ∧ outA A 0 = (((x0G A).2.1 : Nat) : Int) ∧ outA A 1 = (((x0G A).2.2 : Nat) : Int) := by
  have a0 := outA_in hI hW h0 (e := 0) (by decide) (by decide)
  have a1 := outA_in hI hW h0 (e := 1) (by decide) (by decide)
  unfold x0G rdG
  refine ⟨⟨Nat.two_pow_pos _, ?_, ?_⟩, ?_, ?_⟩ <;> dsimp only <;> omega
theorem x0G_pre {t : Nat} : preG A h a b (x0G A) t := fun _ => Or.inl rfl
def FsP (A : JA) (h : List Int) (a b : Int) (f : Int) : Prop := (¬ (ovB A h 0 a = true ∨ ovB A h 0 b = true) ∧ lyB A h (x0G A) a = true ∧ ∃ c v, isMv (gmG A h a b (x0G A) 0) 0 (2 * h.length) c v ∧ f = codeC h c) ∨ (((ovB A h 0 a = true ∨ ovB A h 0 b = true) ∨ ¬ lyB A h (x0G A) a = true) ∧ f = -1)
theorem fs_u {f g : Int} (h1 : FsP A h a b f) (h2 : FsP A h a b g) : f = g := by
  rcases h1 with ⟨q1, q2, c, v, q3, q4⟩ | ⟨q1, q2⟩ <;> rcases h2 with ⟨r1, r2, d, w, r3, r4⟩ | ⟨r1, r2⟩
  · obtain ⟨rfl, rfl⟩ := isMv_u q3 r3
    rw [q4, r4]
  · rcases r1 with r1 | r1
    · exact absurd r1 q1
    · exact absurd q2 r1
  · rcases q1 with q1 | q1
    · exact absurd q1 r1
    · exact absurd r2 q1
  · rw [q2, r2]
theorem sl98 : ∀ k : Nat, k < 11 → sl32 98 (k : Int) = ((98 * 2 ^ k : Nat) : Int) := by decide +kernel
theorem cdG_lt (hx : rdG h x) (ht : t < 2) : cdG x t < 98 * 2 ^ h.length := by
  obtain ⟨h1, h2, h3⟩ := hx
  unfold cdG
  omega
def gmC (a j : Nat) : Prop := (a = 179 ∧ (j = 0 ∨ j = 34 ∨ j = 35 ∨ j = 36)) ∨ a = 189 ∨ a = 193
def gbC (a j : Nat) : Prop := (a = 179 ∧ j = 0) ∨ a = 189
def GOK (A : JA) (a b : Int) : Prop := (0 ≤ a ∧ a < A 0) ∧ (0 ≤ b ∧ b < A 0) ∧ a ≠ b ∧ A 151 ≠ 0 ∧ (gmL A a b).length ≤ 10
theorem e_M_game (hn : 1000000 < n) (hI : WfI (σ 181)) (hW : WfR (σ 181)) : Ret (f_M_game n a b σ) (fun z => (z.1 = -2 ∧ ¬ GOK (σ 181) a b ∧ Agr gbC σ z.2) ∨ (GOK (σ 181) a b ∧ Agr gmC σ z.2 ∧ z.1 = VV (σ 181) (gmL (σ 181) a b) a b (x0G (σ 181)) 0 ∧ FsP (σ 181) (gmL (σ 181) a b) a b (z.2 179 36))) := by
  unfold f_M_game
  generalize hA : σ 181 = A at *
  generalize hs1 : sp σ 179 0 0 = s1
  have sA : s1 181 = A := by rw [← hs1, th_A, hA]
  have ag1 : Agr gbC σ s1 := by rw [← hs1]; exact ag_sp ag_refl (Or.inl ⟨rfl, rfl⟩)
  clear hs1
  have b28 := hI.2.1
  refine rt_lt ?_
  rw [e_M_isWidow, b1_s, e_M_isWidow, sA]
  refine rt_ite (fun g => rt_some (Or.inl ⟨rfl, fun q => ?_, ag1⟩)) (fun g1 => ?_)
  · rw [bi_0, decide_eq_false_iff_not] at g
    exact g q.1
  rw [b1_s]
  refine rt_ite (fun g => rt_some (Or.inl ⟨rfl, fun q => ?_, ag1⟩)) (fun g2 => ?_)
  · rw [bi_0, decide_eq_false_iff_not] at g
    exact g q.2.1
  refine rt_ite (fun g => rt_some (Or.inl ⟨rfl, fun q => q.2.2.1 g, ag1⟩)) (fun g3 => ?_)
  rw [show f_M_rowMany s1 = some (s1 181 151) from rfl, b1_s, sA]
  refine rt_ite (fun g => rt_some (Or.inl ⟨rfl, fun q => q.2.2.2.1 g, ag1⟩)) (fun g4 => ?_)
  have w1 : 0 ≤ a ∧ a < A 0 := by
    rw [bi_0, decide_eq_false_iff_not, Classical.not_not] at g1; exact g1
  have w2 : 0 ≤ b ∧ b < A 0 := by
    rw [bi_0, decide_eq_false_iff_not, Classical.not_not] at g2; exact g2
  rw [lt_u, lt_u]
  refine rt_w3 (I := fun (x z : Int) (u : JSg) => ∃ k : Nat, z = k ∧ (k : Int) ≤ A 1 ∧ x = ((hdL (gmP A a b) k).length : Nat) ∧ (hdL (gmP A a b) k).length ≤ 10 ∧ Agr gbC σ u ∧ u 181 = A ∧ ∀ j : Nat, j < (hdL (gmP A a b) k).length → u 189 j = (hdL (gmP A a b) k).getD j 0) (μ := fun (x z : Int) (u : JSg) => (A 1 - z).toNat) ?_ n _ _ _ ⟨0, rfl, by omega, rfl, by unfold hdL; exact Nat.zero_le _, ag1, sA, fun j hj => absurd hj (by unfold hdL; exact Nat.not_lt_zero _)⟩ (by omega)
  rintro xx z u ⟨k, rfl, hk, rfl, hl, ua, uA, ue⟩ rc hrc
  rw [show f_M_stones u = some (u 181 1) from rfl, b1_s, uA]
  refine rt_ite (fun g => ?_) (fun g => ?_)
  · rw [e_M_isHeld (by omega) (by omega), b1_s, uA]
    have e67 : A (67 + (k : Int)).toNat = ownA A k := rfl
    refine rt_c2 (fun (x : Int) (u : JSg) => x = ((hdL (gmP A a b) (k + 1)).length : Nat) ∧ (hdL (gmP A a b) (k + 1)).length ≤ 10 ∧ Agr gbC σ u ∧ u 181 = A ∧ ∀ j : Nat, j < (hdL (gmP A a b) (k + 1)).length → u 189 j = (hdL (gmP A a b) (k + 1)).getD j 0) (fun v w hw => ?_) (fun j hj => ?_)
    · rw [lt_u, wi (by omega) (by omega)]
      exact hrc _ _ _ ⟨k + 1, by push_cast; rfl, by omega, hw⟩ (by omega)
    · have no : gmP A a b (k : Int) = false → Ret (j (((hdL (gmP A a b) k).length : Nat) : Int) u) (fun z => (z.1 = -2 ∧ ¬ GOK A a b ∧ Agr gbC σ z.2) ∨ (GOK A a b ∧ Agr gmC σ z.2 ∧ z.1 = VV A (gmL A a b) a b (x0G A) 0 ∧ FsP A (gmL A a b) a b (z.2 179 36))) := by
        intro q
        refine hj _ _ ?_
        rw [hdL_s, q, if_neg (by decide)]
        exact ⟨rfl, hl, ua, uA, ue⟩
      have yes : gmP A a b (k : Int) = true → Ret (if (((hdL (gmP A a b) k).length : Nat) : Int) = 10 then (some ((-2), u)) else (chk (0 ≤ (((hdL (gmP A a b) k).length : Nat) : Int) ∧ (((hdL (gmP A a b) k).length : Nat) : Int) < 28) <| lt_ (sp u 189 (((hdL (gmP A a b) k).length : Nat) : Int).toNat (k : Int)) fun s46 => lt_ (w32 ((((hdL (gmP A a b) k).length : Nat) : Int) + 1)) fun v47 => j v47 s46)) (fun z => (z.1 = -2 ∧ ¬ GOK A a b ∧ Agr gbC σ z.2) ∨ (GOK A a b ∧ Agr gmC σ z.2 ∧ z.1 = VV A (gmL A a b) a b (x0G A) 0 ∧ FsP A (gmL A a b) a b (z.2 179 36))) := by
        intro q
        have es : hdL (gmP A a b) (k + 1) = hdL (gmP A a b) k ++ [(k : Int)] := by rw [hdL_s, q, if_pos rfl]
        have el : (hdL (gmP A a b) (k + 1)).length = (hdL (gmP A a b) k).length + 1 := by rw [es, List.length_append]; rfl
        refine rt_ite (fun q2 => rt_some (Or.inl ⟨rfl, fun ok => ?_, ua⟩)) (fun q2 => ?_)
        · have := hdL_mo (P := gmP A a b) ((A 1).toNat - (k + 1)) (k + 1)
          rw [show k + 1 + ((A 1).toNat - (k + 1)) = (A 1).toNat by omega] at this
          have l10 : (hdL (gmP A a b) (A 1).toNat).length ≤ 10 := ok.2.2.2.2
          omega
        · rw [Int.toNat_natCast]
          refine rt_chk (by omega) (rt_lt ?_)
          rw [lt_u, wi (by omega) (by omega)]
          refine hj _ _ ⟨by rw [el]; push_cast; rfl, by omega, ag_sp ua (Or.inr rfl), by rw [sp_nq (by decide)]; exact uA, fun i hi => ?_⟩
          rw [es]
          by_cases q3 : i = (hdL (gmP A a b) k).length
          · rw [q3, sp_eq]
            rw [List.getD_eq_getElem?_getD, List.getElem?_append_right (Nat.le_refl _), Nat.sub_self]
            rfl
          · rw [sp_nj q3, List.getD_eq_getElem?_getD, List.getElem?_append_left (by omega), ← List.getD_eq_getElem?_getD]
            exact ue i (by omega)
      rw [wi (x := 67 + (k : Int)) (by omega) (by omega), e67]
      refine rt_ite (fun q => no ?_) (fun q => ?_)
      · rw [bi_0, decide_eq_false_iff_not] at q
        exact decide_eq_false (fun z => q z.1)
      · rw [bi_0, decide_eq_false_iff_not, Classical.not_not] at q
        refine rt_chk (by omega) ?_
        rw [j0_s]
        refine rt_ite (fun q2 => yes (decide_eq_true ⟨q, Or.inl q2⟩)) (fun q2 => rt_chk (by omega) (rt_ite (fun q3 => yes (decide_eq_true ⟨q, Or.inr q3⟩)) (fun q3 => no (decide_eq_false (fun z => ?_)))))
        rcases z.2 with z | z
        · exact q2 z
        · exact q3 z
  · have ek : k = (A 1).toNat := by omega
    subst ek
    have l10 : (gmL A a b).length ≤ 10 := hl
    have hok : GOK A a b := ⟨w1, w2, g3, g4, l10⟩
    have hh := gml_ok (a := a) (b := b) hI l10
    have ue : ∀ j : Nat, j < (gmL A a b).length → u 189 j = (gmL A a b).getD j 0 := ue
    rw [show hdL (gmP A a b) (A 1).toNat = gmL A a b from rfl]
    generalize gmL A a b = h at *
    have h10 := hh.1
    have p : 2 ^ h.length ≤ 1024 := Nat.pow_le_pow_right (n := 2) (by decide) h10
    rw [lt_u, lt_u, lt_u, sl98 _ (by omega)]
    generalize hs3 : sp (sp u 179 34 a) 179 35 b = s3
    have e34 : s3 179 34 = a := by rw [← hs3, sp_nj (by decide), sp_eq]
    have e35 : s3 179 35 = b := by rw [← hs3, sp_eq]
    have s3g : ∀ c j, c ≠ 179 → s3 c j = u c j := fun c j q => by rw [← hs3, sp_nq q, sp_nq q]
    have s3A : Agr gmC σ s3 := by
      rw [← hs3]
      exact ag_sp (ag_sp (ag_mono ua (fun c j q => by unfold gbC at q; unfold gmC; omega)) (by unfold gmC; omega)) (by unfold gmC; omega)
    clear hs3
    refine rt_w2 (I := fun (z : Int) (w : JSg) => ∃ k : Nat, z = k ∧ k ≤ 98 * 2 ^ h.length ∧ Agr (fun a _ => a = 193) s3 w ∧ ∀ j, j < k → w 193 j = -2) (μ := fun (z : Int) (w : JSg) => (((98 * 2 ^ h.length : Nat) : Int) - z).toNat) ?_ n _ _ ⟨0, rfl, by omega, fun _ _ _ => rfl, fun j hj => absurd hj (Nat.not_lt_zero _)⟩ (by omega)
    rintro z w ⟨k, rfl, hk, wa, w1'⟩ rc2 hrc2
    refine rt_ite (fun g2 => ?_) (fun g2 => ?_)
    · rw [Int.toNat_natCast]
      refine rt_chk (by omega) (rt_lt ?_)
      rw [lt_u, wi (by omega) (by omega)]
      refine hrc2 _ _ ⟨k + 1, by push_cast; rfl, by omega, ag_sp wa rfl, fun j hj => ?_⟩ (by omega)
      by_cases q : j = k
      · rw [q, sp_eq]
      · rw [sp_nj q]; exact w1' j (by omega)
    · have wB : MhB A h w := ⟨(funext fun j => (wa 181 j (show ¬ ((181 : Nat) = 193) by decide)).trans (s3g 181 j (by decide))).trans uA, fun j hj => ((wa 189 j (show ¬ ((189 : Nat) = 193) by decide)).trans (s3g 189 j (by decide))).trans (ue j hj)⟩
      have wIA : w 181 = A := wB.1
      obtain ⟨x0r, x0l, x0rr⟩ := x0G_rd (h := h) hI hW g4
      rw [e_M_pipsAt (by rw [wIA]; exact hI) (by rw [wIA]; exact hW) (by decide) (by decide), b1_s, lt_u, e_M_pipsAt (by rw [wIA]; exact hI) (by rw [wIA]; exact hW) (by decide) (by decide), b1_s, lt_u, lt_u, wIA, x0l, x0rr]
      generalize hv : sp w 179 36 (-1) = v
      have v36 : v 179 36 = -1 := by rw [← hv, sp_eq]
      have vg : ∀ c j, ¬ (c = 179 ∧ j = 36) → v c j = w c j := by
        intro c j q
        rw [← hv, sp_at]
        by_cases q1 : c = 179
        · rw [if_pos q1, if_neg (fun q2 => q ⟨q1, q2⟩)]
        · rw [if_neg q1]
      clear hv
      have vC : CG A h a b v := ⟨MhB_ag wB (fun c j hq => vg c j (by omega)), (vg 179 34 (by omega)).trans ((wa 179 34 (by decide)).trans e34), (vg 179 35 (by omega)).trans ((wa 179 35 (by decide)).trans e35)⟩
      have vM : MG A h a b v := fun y t hy ht => Or.inl (by rw [vg 193 _ (by omega)]; exact w1' _ (by have := cdG_lt hy ht; omega))
      have vA : Agr gmC σ v := fun c j hq => (vg c j (fun q => hq (by unfold gmC; omega))).trans ((wa c j (fun q => hq (Or.inr (Or.inr q)))).trans (s3A c j hq))
      have mo : ∀ w' : Int, f_M_isOver n 0 ((h.length : Nat) : Int) w' v = some (bi (ovB A h 0 w')) := fun w' => m_ov (S := 0) hn hI hW hh vC.1 (Nat.two_pow_pos _)
      rw [mo, b1_s]
      have fin : ∀ y : JSg, Agr gmC σ y → CG A h a b y → MG A h a b y → FsP A h a b (y 179 36) → Ret (bd2 (f_M_play n 0 (((x0G A).2.1 : Nat) : Int) (((x0G A).2.2 : Nat) : Int) 0 ((h.length : Nat) : Int) y) fun r29 s30 => some (r29, s30)) (fun z => (z.1 = -2 ∧ ¬ GOK A a b ∧ Agr gbC σ z.2) ∨ (GOK A a b ∧ Agr gmC σ z.2 ∧ z.1 = VV A h a b (x0G A) 0 ∧ FsP A h a b (z.2 179 36))) := by
        intro y ya yC yM yF
        have P := e_play hn hI hW hh g3 10 31 (x0G A) 0 y (by omega) x0r (by decide) yC yM x0G_pre
        refine rt_b2 (o := f_M_play n 0 (((x0G A).2.1 : Nat) : Int) (((x0G A).2.2 : Nat) : Int) 0 ((h.length : Nat) : Int) y) P (fun r q hq => ?_)
        obtain ⟨q1, q2, q3⟩ := hq
        have q1 : Agr (fun a _ => a = 193) y q := q1
        refine rt_some (Or.inr ⟨hok, ag_tr ya (ag_mono q1 (fun c j z => Or.inr (Or.inr z))), q3, ?_⟩)
        dsimp only
        rw [q1 179 36 (by decide)]
        exact yF
      refine rt_c1 (fun v => v = bi (ovB A h 0 a || ovB A h 0 b)) (fun ov hov => ?_) (fun j hj => ?_)
      · subst hov
        rw [lt_u, j1_s]
        by_cases o : ovB A h 0 a = true ∨ ovB A h 0 b = true
        · rw [if_neg (show ¬ bi (ovB A h 0 a || ovB A h 0 b) = 0 by rw [(Bool.or_eq_true _ _).mpr o]; decide)]
          exact fin v vA vC vM (Or.inr ⟨Or.inl o, v36⟩)
        · rw [if_pos (show bi (ovB A h 0 a || ovB A h 0 b) = 0 by rw [b_ff (fun q => o ((Bool.or_eq_true _ _).mp q))]; rfl)]
          have L := m_ly (w := a) hn hI hW hh vC.1 x0r
          rw [show f_M_canLay n 0 (((x0G A).2.1 : Nat) : Int) (((x0G A).2.2 : Nat) : Int) a ((h.length : Nat) : Int) v = some (bi (lyB A h (x0G A) a)) from L, b1_s]
          by_cases l1 : lyB A h (x0G A) a = true
          · rw [l1, if_neg (show ¬ bi true = 0 by decide)]
            have na : ¬ ovB A h (x0G A).1 a = true := fun q => o (Or.inl q)
            have Bo := e_bestOf (t := 0) (gb := (fg_M_bestOf n 63).1) (gp := (fg_M_bestOf n 63).2) hn hI hW hh g3 x0r (by decide) vC vM na l1 (fun y u hy py hp2 uC uM => e_play hn hI hW hh g3 10 30 y 1 u (by omega) hy (by decide) uC uM hp2)
            refine rt_b2 (o := f_M_bestOf n 0 (((x0G A).2.1 : Nat) : Int) (((x0G A).2.2 : Nat) : Int) 0 ((h.length : Nat) : Int) v) Bo (fun r q hq => ?_)
            obtain ⟨q1, q2, c, v', q3, q4⟩ := hq
            have q1 : Agr (fun a _ => a = 193) v q := q1
            have q2 : MG A h a b q := q2
            have q3 : r = 100 * (v' + 1) + ((c : Nat) : Int) := q3
            have vb := gm_bd c v' q4.2.1
            have cl := q4.1
            have hi : c / 2 < h.length := by omega
            have ci := code_in hI hh.2 hi
            have gh := hh.2.2 _ hi
            have er : rm32 r 100 = (c : Int) := by
              rw [rm_p (by omega) (by omega) (by omega) (by omega)]
              omega
            have qC := CG_ag vC q1
            have e1 : w32 (2 * h.getD (c / 2) 0) = 2 * h.getD (c / 2) 0 := wi (by omega) (by omega)
            have e2 : w32 (2 * h.getD (c / 2) 0 + ((c % 2 : Nat) : Int)) = codeC h c := wi (by omega) (by omega)
            rw [er, lt_u, dv_p (by omega) (by omega) (by omega) (by omega), rm_p (by omega) (by omega) (by omega) (by omega), show (c : Int) / 2 = ((c / 2 : Nat) : Int) by omega, show (c : Int) % 2 = ((c % 2 : Nat) : Int) by omega, Int.toNat_natCast, qC.1.2 _ hi, e1, e2]
            refine rt_chk (by omega) (rt_lt ?_)
            have qg : ∀ c' j, ¬ (c' = 179 ∧ j = 36) → sp q 179 36 (codeC h c) c' j = q c' j := by
              intro c' j z
              rw [sp_at]
              by_cases z1 : c' = 179
              · rw [if_pos z1, if_neg (fun z2 => z ⟨z1, z2⟩)]
              · rw [if_neg z1]
            refine fin _ (fun c' j z => (qg c' j (fun z2 => z (by unfold gmC; omega))).trans ((q1 c' j (fun z2 => z (Or.inr (Or.inr z2)))).trans (vA c' j z))) ⟨MhB_ag qC.1 (fun c' j hq => qg c' j (by omega)), (qg 179 34 (by omega)).trans qC.2.1, (qg 179 35 (by omega)).trans qC.2.2⟩ (fun y t hy ht => by rw [qg 193 _ (by omega)]; exact q2 y t hy ht) ?_
            rw [sp_eq]
            exact Or.inl ⟨o, l1, c, v', q4, rfl⟩
          · rw [b_ff l1, if_pos (show bi false = 0 from rfl)]
            exact fin v vA vC vM (Or.inr ⟨Or.inr l1, v36⟩)
      · rw [j0_s]
        cases oa : ovB A h 0 a
        · rw [if_pos (show bi false = 0 from rfl), mo, b1_s]
          rw [oa, Bool.false_or] at hj
          refine rt_ite (fun q => hj _ ?_) (fun q => hj _ ?_)
          · rw [q]
          · cases ob : ovB A h 0 b
            · rw [ob] at q; exact absurd rfl q
            · rfl
        · rw [if_neg (show ¬ bi true = 0 by decide)]
          rw [oa, Bool.true_or] at hj
          exact hj _ rfl
end
