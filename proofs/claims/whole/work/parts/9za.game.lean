/-! LAYER 3zau: the GAME of two: the reference's play -/
section
variable {A : JA} {h : List Int} {a b : Int} {x y : Stt} {t : Nat} {s : JSg} {n : Nat}
theorem mx_no {g : Nat → Option Int} {m : Nat} (e : g m = none) : mxG g t (m + 1) = mxG g t m := by
  rw [mxG, e]
theorem mx_so {g : Nat → Option Int} {m : Nat} {u : Int} (e : g m = some u) : mxG g t (m + 1) = max (mxG g t m) (sgT t * u) := by
  rw [mxG, e]
theorem mv_skip {g : Nat → Option Int} {m c : Nat} {v : Int} (H : isMv g t m c v) (e : g m = none) : isMv g t (m + 1) c v := by
  obtain ⟨h1, h2, h3, h4⟩ := H
  refine ⟨by omega, h2, ?_, h4⟩
  rw [h3, mx_no e]
theorem mv_keep {g : Nat → Option Int} {m c : Nat} {v u : Int} (H : isMv g t m c v) (e : g m = some u) (q : sgT t * u ≤ sgT t * v) : isMv g t (m + 1) c v := by
  obtain ⟨h1, h2, h3, h4⟩ := H
  refine ⟨by omega, h2, ?_, h4⟩
  rw [mx_so e, h3, Int.max_eq_left (by omega)]
theorem mv_new {g : Nat → Option Int} {m c : Nat} {v u : Int} (hg : ∀ c u, g c = some u → -1 ≤ u ∧ u ≤ 1) (H : isMv g t m c v) (e : g m = some u) (q : sgT t * v < sgT t * u) : isMv g t (m + 1) m u := by
  obtain ⟨h1, h2, h3, h4⟩ := H
  have bd := (mx_bd (t := t) hg m).2.2
  refine ⟨by omega, e, ?_, fun d hd w hw => ?_⟩
  · rw [mx_so e, Int.max_eq_right (by omega)]
  · have := (bd d w hd hw).1
    omega
theorem mv_fst {g : Nat → Option Int} {m : Nat} {u : Int} (hu : -1 ≤ u ∧ u ≤ 1) (H : ∀ c, c < m → g c = none) (e : g m = some u) : isMv g t (m + 1) m u := by
  have z : ∀ k, k ≤ m → mxG g t k = -2 := by
    intro k
    induction k with
    | zero => intro _; rfl
    | succ k ih =>
      intro hk
      rw [mx_no (H k (by omega))]
      exact ih (by omega)
  have := sg_mul t hu.1 hu.2
  refine ⟨by omega, e, ?_, fun d hd w hw => ?_⟩
  · rw [mx_so e, z m (Nat.le_refl _), Int.max_eq_right (by omega)]
  · rw [H d hd] at hw; cases hw
theorem gm_bd : ∀ c u, gmG A h a b x t c = some u → -1 ≤ u ∧ u ≤ 1 := by
  intro c u hu
  unfold gmG at hu
  cases q : nxG A h (wtG a b t) x c with
  | none => rw [q] at hu; cases hu
  | some y => rw [q] at hu; cases hu; exact VV_bd
def cdG (x : Stt) (t : Nat) : Nat := ((x.1 * 7 + x.2.1) * 7 + x.2.2) * 2 + t
theorem cdG_inj (h1 : rdG h x) (h2 : rdG h y) {u : Nat} (ht : t < 2) (hu : u < 2) (e : cdG x t = cdG y u) : x = y ∧ t = u := by
  obtain ⟨-, q1, q2⟩ := h1
  obtain ⟨-, q3, q4⟩ := h2
  unfold cdG at e
  obtain ⟨x1, x2, x3⟩ := x
  obtain ⟨y1, y2, y3⟩ := y
  dsimp only at *
  have r1 : x1 = y1 := by omega
  have r2 : x2 = y2 := by omega
  have r3 : x3 = y3 := by omega
  rw [r1, r2, r3]
  exact ⟨rfl, by omega⟩
def MG (A : JA) (h : List Int) (a b : Int) (s : JSg) : Prop := ∀ x t, rdG h x → t < 2 → s 193 (cdG x t) = -2 ∨ s 193 (cdG x t) = VV A h a b x t
def CG (A : JA) (h : List Int) (a b : Int) (s : JSg) : Prop := MhB A h s ∧ s 179 34 = a ∧ s 179 35 = b
theorem CG_ag {u : JSg} (H : CG A h a b s) (g : Agr (fun a _ => a = 193) s u) : CG A h a b u := ⟨MhB_ag H.1 (fun a j hq => g a j (by omega)), (g 179 34 (by decide)).trans H.2.1, (g 179 35 (by decide)).trans H.2.2⟩
def preG (A : JA) (h : List Int) (a b : Int) (x : Stt) (t : Nat) : Prop := ovB A h x.1 a = true → x.1 = 0 ∨ t = 1 ∨ ¬ ovB A h x.1 b = true
theorem pre_nx (hab : a ≠ b) (na : ¬ ovB A h x.1 a = true) {c : Nat} (ht : t < 2) (g : nxG A h (wtG a b t) x c = some y) : preG A h a b y (1 - t) := by
  obtain ⟨q1, q2, q3, rfl⟩ := nx_some g
  intro o
  rcases (show t = 0 ∨ t = 1 by omega) with rfl | rfl
  · exact Or.inr (Or.inl rfl)
  · exfalso
    apply na
    rw [ov_iff] at o ⊢
    intro i hi ho
    have := o i hi ho
    dsimp only at this
    rw [ins_b, Bool.or_eq_true, decide_eq_true_iff] at this
    rcases this with z | z
    · exact z
    · subst z
      have q1 : ownA A (h.getD (c / 2) 0) = b := q1
      omega
def PLs (A : JA) (h : List Int) (a b : Int) (x : Stt) (t : Nat) (s : JSg) (z : Int × JSg) : Prop := Agr (fun a _ => a = 193) s z.2 ∧ MG A h a b z.2 ∧ z.1 = VV A h a b x t
theorem e_bestOf {gb gp : Int → Int → Int → Int → Int → JSg → Option (Int × JSg)} (hn : 1000000 < n) (hI : WfI A) (hW : WfR A) (hh : H10 A h) (hab : a ≠ b) (hx : rdG h x) (ht : t < 2) (hC : CG A h a b s) (hM : MG A h a b s) (na : ¬ ovB A h x.1 a = true) (ly : lyB A h x (wtG a b t) = true) (IH : ∀ y u, rdG h y → pcn h.length y.1 = pcn h.length x.1 + 1 → preG A h a b y (1 - t) → CG A h a b u → MG A h a b u → Ret (gp (y.1 : Int) (y.2.1 : Int) (y.2.2 : Int) ((1 - t : Nat) : Int) ((h.length : Nat) : Int) u) (PLs A h a b y (1 - t) u)) : Ret (f_M_bestOf_s n gb gp (x.1 : Int) (x.2.1 : Int) (x.2.2 : Int) (t : Int) ((h.length : Nat) : Int) s) (fun z => Agr (fun a _ => a = 193) s z.2 ∧ MG A h a b z.2 ∧ ∃ c v, z.1 = 100 * (v + 1) + ((c : Nat) : Int) ∧ isMv (gmG A h a b x t) t (2 * h.length) c v) := by
  have h10 := hh.1
  have p : 2 ^ h.length ≤ 1024 := Nat.pow_le_pow_right (n := 2) (by decide) h10
  have hS := hx.1
  unfold f_M_bestOf_s
  refine rt_c1 (fun u => u = wtG a b t) (fun u hu => ?_) (fun j hj => ?_)
  · subst hu
    refine rt_lt (rt_lt (rt_lt (rt_lt ?_)))
    refine rt_w4 (I := fun (be wo z : Int) (u : JSg) => ∃ m : Nat, z = m ∧ m ≤ 2 * h.length ∧ Agr (fun a _ => a = 193) s u ∧ MG A h a b u ∧ ((be = -1 ∧ wo = 0 ∧ ∀ c, c < m → gmG A h a b x t c = none) ∨ ∃ c : Nat, be = c ∧ isMv (gmG A h a b x t) t m c wo)) (μ := fun (be wo z : Int) (u : JSg) => (2 * (h.length : Int) - z).toNat) ?_ n _ _ _ _ ⟨0, rfl, by omega, fun _ _ _ => rfl, hM, Or.inl ⟨rfl, rfl, fun c hc => absurd hc (Nat.not_lt_zero _)⟩⟩ (by omega)
    rintro be wo z u ⟨m, rfl, hm, ua, uM, ub⟩ rc hrc
    have uC := CG_ag hC ua
    have wb : (-1 ≤ wo ∧ wo ≤ 1) ∧ -1 ≤ be ∧ be ≤ 20 := by
      rcases ub with ⟨q1, q2, -⟩ | ⟨c, q1, q2⟩
      · omega
      · have := gm_bd c wo q2.2.1
        have := q2.1
        omega
    rw [wi (x := 2 * ((h.length : Nat) : Int)) (by omega) (by omega)]
    refine rt_ite (fun g => ?_) (fun g => ?_)
    · have ml : m / 2 < h.length := by omega
      have o := own_6 hI hW hh.2 ml
      have hB := uC.1
      rw [dv_p (by omega) (by omega) (by omega) (by omega), rm_p (by omega) (by omega) (by omega) (by omega), show (m : Int) / 2 = ((m / 2 : Nat) : Int) by omega, show (m : Int) % 2 = ((m % 2 : Nat) : Int) by omega, lt_u, Int.toNat_natCast, hB.2 _ ml, wi (x := 67 + h.getD (m / 2) 0) (by omega) (by omega), hB.1, show A (67 + h.getD (m / 2) 0).toNat = ownA A (h.getD (m / 2) 0) from rfl]
      refine rt_chk (by omega) (rt_chk (by omega) ?_)
      refine rt_c3 (fun be wo u => Agr (fun a _ => a = 193) s u ∧ MG A h a b u ∧ ((be = -1 ∧ wo = 0 ∧ ∀ c, c < m + 1 → gmG A h a b x t c = none) ∨ ∃ c : Nat, be = c ∧ isMv (gmG A h a b x t) t (m + 1) c wo)) (fun be wo u hu => ?_) (fun j hj => ?_)
      · rw [lt_u, wi (by omega) (by omega)]
        exact hrc _ _ _ _ ⟨m + 1, by push_cast; rfl, by omega, hu⟩ (by omega)
      · have skip : gmG A h a b x t m = none → Ret (j be wo u) (fun z => Agr (fun a _ => a = 193) s z.2 ∧ MG A h a b z.2 ∧ ∃ c v, z.1 = 100 * (v + 1) + ((c : Nat) : Int) ∧ isMv (gmG A h a b x t) t (2 * h.length) c v) := by
          intro q
          refine hj _ _ _ ⟨ua, uM, ?_⟩
          rcases ub with ⟨q1, q2, q3⟩ | ⟨c, q1, q2⟩
          · refine Or.inl ⟨q1, q2, fun c hc => ?_⟩
            by_cases e : c = m
            · rw [e]; exact q
            · exact q3 c (by omega)
          · exact Or.inr ⟨c, q1, mv_skip q2 q⟩
        refine rt_ite (fun g1 => ?_) (fun g1 => skip (by unfold gmG nxG; rw [if_neg (fun q => g1 q.1)]; rfl))
        unfold f_M_has
        rw [has_n (by omega) (by omega)]
        cases cb : x.1.testBit (m / 2)
        · rw [if_neg (show ¬ (false = true) by decide), if_neg (show ¬ (0 : Int) = 1 by decide), b1_s, if_pos rfl]
          have e0 : (if ((m % 2 : Nat) : Int) = 0 then (x.2.1 : Int) else (x.2.2 : Int)) = ((if m % 2 = 0 then x.2.1 else x.2.2 : Nat) : Int) := by
            by_cases q : m % 2 = 0
            · rw [if_pos q, if_pos (by omega)]
            · rw [if_neg q, if_neg (by omega)]
          have p7 : (if m % 2 = 0 then x.2.1 else x.2.2) < 7 := by
            have := hx.2.1
            have := hx.2.2
            split <;> omega
          refine rt_c1 (fun u => u = ((if m % 2 = 0 then x.2.1 else x.2.2 : Nat) : Int)) (fun w hw => ?_) (fun j2 hj2 => ?_)
          · subst hw
            rw [m_bh hI hh hB ml p7, b1_s, lt_u]
            refine rt_ite (fun g2 => ?_) (fun g2 => ?_)
            · refine skip ?_
              unfold gmG nxG
              rw [if_pos ⟨g1, cb⟩, if_pos (mpi_n.mp g2)]
              rfl
            · have g7 : bhG A h (m / 2) (if m % 2 = 0 then x.2.1 else x.2.2) ≠ 7 := fun q => g2 (mpi_n.mpr q)
              have e1 : mpi (bhG A h (m / 2) (if m % 2 = 0 then x.2.1 else x.2.2)) = ((bhG A h (m / 2) (if m % 2 = 0 then x.2.1 else x.2.2) : Nat) : Int) := if_neg g7
              rw [e1]
              have ny : nxG A h (wtG a b t) x m = some (ins x.1 (m / 2), if m % 2 = 0 then bhG A h (m / 2) x.2.1 else x.2.1, if m % 2 = 0 then x.2.2 else bhG A h (m / 2) x.2.2) := by
                unfold nxG
                rw [if_pos ⟨g1, cb⟩, if_neg g7]
              have r := nx_rd hI hh.2 hx (show m < 2 * h.length by omega) ny
              have py := pre_nx hab na ht ny
              have gy : gmG A h a b x t m = some (VV A h a b (ins x.1 (m / 2), if m % 2 = 0 then bhG A h (m / 2) x.2.1 else x.2.1, if m % 2 = 0 then x.2.2 else bhG A h (m / 2) x.2.2) (1 - t)) := by
                unfold gmG
                rw [ny]
                rfl
              have I1 := IH _ u r.1 r.2 py uC uM
              dsimp only at I1
              have e2 : w32 (1 - (t : Int)) = ((1 - t : Nat) : Int) := by rw [wi (by omega) (by omega)]; omega
              rw [j1_s]
              have go : ∀ (l r' : Int), l = ((if m % 2 = 0 then bhG A h (m / 2) x.2.1 else x.2.1 : Nat) : Int) → r' = ((if m % 2 = 0 then x.2.2 else bhG A h (m / 2) x.2.2 : Nat) : Int) → Ret (bd2 (gp (or32 (x.1 : Int) (sl32 1 ((m / 2 : Nat) : Int))) l r' (w32 (1 - (t : Int))) ((h.length : Nat) : Int) u) fun r27 s28 => lt_ r27 fun v29 => jn0 (lt_ (m : Int) fun v31 => lt_ v29 fun v32 => j v31 v32 s28) fun j30 => if be = (-1) then (j30) else (if (t : Int) = 0 then (if wo < v29 then (j30) else (j be wo s28)) else (if v29 < wo then (j30) else (j be wo s28)))) (fun z => Agr (fun a _ => a = 193) s z.2 ∧ MG A h a b z.2 ∧ ∃ c v, z.1 = 100 * (v + 1) + ((c : Nat) : Int) ∧ isMv (gmG A h a b x t) t (2 * h.length) c v) := by
                intro l r' hl hr
                subst hl
                subst hr
                rw [ins_e (by omega) (by omega), e2]
                refine rt_b2 I1 (fun v w hw => ?_)
                obtain ⟨w1, w2, w3⟩ := hw
                have w1 : Agr (fun a _ => a = 193) u w := w1
                have wa := ag_tr ua w1
                have w3 : v = _ := w3
                rw [← w3] at gy
                have vb := gm_bd m v gy
                have vs := sg_mul t vb.1 vb.2
                rw [lt_u, j0_s, lt_u, lt_u]
                have new1 : (∀ c, c < m → gmG A h a b x t c = none) → Ret (j (m : Int) v w) (fun z => Agr (fun a _ => a = 193) s z.2 ∧ MG A h a b z.2 ∧ ∃ c v, z.1 = 100 * (v + 1) + ((c : Nat) : Int) ∧ isMv (gmG A h a b x t) t (2 * h.length) c v) := fun q => hj _ _ _ ⟨wa, w2, Or.inr ⟨m, rfl, mv_fst vb q gy⟩⟩
                rcases ub with ⟨q1, q2, q3⟩ | ⟨c, q1, q2⟩
                · rw [if_pos q1]
                  exact new1 q3
                · rw [if_neg (by omega)]
                  have new2 : sgT t * wo < sgT t * v → Ret (j (m : Int) v w) (fun z => Agr (fun a _ => a = 193) s z.2 ∧ MG A h a b z.2 ∧ ∃ c v, z.1 = 100 * (v + 1) + ((c : Nat) : Int) ∧ isMv (gmG A h a b x t) t (2 * h.length) c v) := fun q => hj _ _ _ ⟨wa, w2, Or.inr ⟨m, rfl, mv_new gm_bd q2 gy q⟩⟩
                  have old : sgT t * v ≤ sgT t * wo → Ret (j be wo w) (fun z => Agr (fun a _ => a = 193) s z.2 ∧ MG A h a b z.2 ∧ ∃ c v, z.1 = 100 * (v + 1) + ((c : Nat) : Int) ∧ isMv (gmG A h a b x t) t (2 * h.length) c v) := fun q => hj _ _ _ ⟨wa, w2, Or.inr ⟨c, q1, mv_keep q2 gy q⟩⟩
                  rcases (show t = 0 ∨ t = 1 by omega) with z | z
                  · have s1 : sgT t = 1 := by unfold sgT; rw [if_pos z]
                    rw [s1] at new2 old
                    rw [if_pos (show (t : Int) = 0 by omega)]
                    exact rt_ite (fun q => new2 (by omega)) (fun q => old (by omega))
                  · have s1 : sgT t = -1 := by unfold sgT; rw [if_neg (by omega)]
                    rw [s1] at new2 old
                    rw [if_neg (show ¬ (t : Int) = 0 by omega)]
                    exact rt_ite (fun q => new2 (by omega)) (fun q => old (by omega))
              by_cases q : m % 2 = 0
              · rw [if_pos (show ((m % 2 : Nat) : Int) = 0 by omega)]
                dsimp only
                rw [j1_s, if_pos (show ((m % 2 : Nat) : Int) = 0 by omega)]
                refine go _ _ ?_ ?_
                · rw [if_pos q, if_pos q]
                · rw [if_pos q]
              · rw [if_neg (show ¬ ((m % 2 : Nat) : Int) = 0 by omega)]
                dsimp only
                rw [j1_s, if_neg (show ¬ ((m % 2 : Nat) : Int) = 0 by omega)]
                refine go _ _ ?_ ?_
                · rw [if_neg q]
                · rw [if_neg q, if_neg q]
          · refine rt_ite (fun q => hj2 _ ?_) (fun q => hj2 _ ?_)
            · rw [← e0, if_pos q]
            · rw [← e0, if_neg q]
        · rw [if_pos rfl, if_pos (show (1 : Int) = 1 from rfl), b1_s, if_neg (show ¬ (1 : Int) = 0 by decide)]
          refine skip ?_
          unfold gmG nxG
          rw [if_neg (fun q => by rw [cb] at q; exact absurd q.2 (by decide))]
          rfl
    · have em : m = 2 * h.length := by omega
      subst em
      rw [wi (x := wo + 1) (by omega) (by omega), wi (x := 100 * (wo + 1)) (by omega) (by omega), wi (by omega) (by omega)]
      rcases ub with ⟨q1, q2, q3⟩ | ⟨c, q1, q2⟩
      · obtain ⟨c, y, hc, e⟩ := ly_nx ly
        have := q3 c hc
        unfold gmG at this
        rw [e] at this
        cases this
      · rw [q1]
        exact rt_some ⟨ua, uM, c, wo, rfl, q2⟩
  · unfold wtG at hj
    refine rt_ite (fun q => hj _ ?_) (fun q => hj _ ?_)
    · rw [if_pos (show t = 0 by omega)]; exact hC.2.1
    · rw [if_neg (show ¬ t = 0 by omega)]; exact hC.2.2
end
