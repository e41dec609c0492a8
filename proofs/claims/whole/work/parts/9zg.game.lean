/-! LAYER 3zb1: the GAME of two: the class's value, whole -/
section
variable {A : JA} {h : List Int} {a b : Int} {x y : Stt} {t : Nat} {s σ : JSg} {n : Nat}
def oG (o : Option Int) : Int := match o with
  | none => -2
  | some v => v
theorem e_bstep {gB : Int → Int → Int → Int → Int → Int → JSg → Option (Int × JSg)} {gV gR : Int → Int → Int → Int → Int → JSg → Option (Int × JSg)} {dep c : Nat} (hI : WfI A) (hh : H10 A h) (hx : rdG h x) (ht : t < 2) (hC : WG A h a b s) (hT : TG A h a b s) (hd : dep ≤ 22) (hc : c < 2 * h.length) (ho : ownA A (h.getD (c / 2) 0) = wtG a b t) (hb : x.1.testBit (c / 2) = false)
    (HV : ∀ y, nxG A h (wtG a b t) x c = some y → Ret (gV (cplG h.length y.1 : Int) (y.2.1 : Int) (y.2.2 : Int) ((1 - t : Nat) : Int) ((dep + 1 : Nat) : Int) s) (PW A h a b (VV A h a b y (1 - t)) s)) : Ret (f_Mat_valueBehind_s n gB gV gR (cplG h.length x.1 : Int) (x.2.1 : Int) (x.2.2 : Int) (c : Int) (t : Int) (dep : Int) s) (PW A h a b (oG (gmG A h a b x t c)) s) := by
  have h10 := hh.1
  have hi : c / 2 < h.length := by omega
  have e2 : w32 (1 - (t : Int)) = ((1 - t : Nat) : Int) := by rw [wi (by omega) (by omega)]; omega
  have e3 : w32 ((dep : Int) + 1) = ((dep + 1 : Nat) : Int) := by rw [wi (by omega) (by omega)]; push_cast; rfl
  unfold f_Mat_valueBehind_s
  rw [sr1_n (by omega), an1_n (by omega), lt_u, cpl_del h10 hx.1 hi hb, e2, e3, j1_s]
  by_cases q : c % 2 = 0
  · rw [if_pos (show ((c % 2 : Nat) : Int) = 0 by omega)]
    dsimp only
    rw [lt_u, j1_s, if_neg (show ¬ (1 : Int) = 0 by decide)]
    dsimp only
    rw [w_outer hI hh hC hi hx.2.1, b1_s, lt_u]
    refine rt_ite (fun g => rt_some ⟨fun _ _ _ => rfl, hT, ?_⟩) (fun g => ?_)
    · unfold gmG nxG
      rw [if_pos ⟨ho, hb⟩, if_pos q, if_pos (mpi_n.mp g)]
      rfl
    · have g7 : bhG A h (c / 2) x.2.1 ≠ 7 := fun z => g (mpi_n.mpr z)
      have e1 : mpi (bhG A h (c / 2) x.2.1) = ((bhG A h (c / 2) x.2.1 : Nat) : Int) := if_neg g7
      have ny : nxG A h (wtG a b t) x c = some (ins x.1 (c / 2), bhG A h (c / 2) x.2.1, x.2.2) := by
        unfold nxG
        rw [if_pos ⟨ho, hb⟩, if_pos q, if_neg g7, if_pos q, if_pos q]
      have P := HV _ ny
      dsimp only at P
      rw [j1_s, if_neg (show ¬ (1 : Int) = 0 by decide)]
      dsimp only
      rw [j1_s, if_neg (show ¬ (1 : Int) = 0 by decide)]
      dsimp only
      rw [e1]
      refine rt_b2 P (fun r u hu => rt_some ⟨hu.1, hu.2.1, ?_⟩)
      unfold gmG
      rw [ny]
      exact hu.2.2
  · rw [if_neg (show ¬ ((c % 2 : Nat) : Int) = 0 by omega)]
    dsimp only
    rw [lt_u, j1_s, if_pos (show (0 : Int) = 0 from rfl)]
    dsimp only
    rw [w_outer hI hh hC hi hx.2.2, b1_s, lt_u]
    refine rt_ite (fun g => rt_some ⟨fun _ _ _ => rfl, hT, ?_⟩) (fun g => ?_)
    · unfold gmG nxG
      rw [if_pos ⟨ho, hb⟩, if_neg q, if_pos (mpi_n.mp g)]
      rfl
    · have g7 : bhG A h (c / 2) x.2.2 ≠ 7 := fun z => g (mpi_n.mpr z)
      have e1 : mpi (bhG A h (c / 2) x.2.2) = ((bhG A h (c / 2) x.2.2 : Nat) : Int) := if_neg g7
      have ny : nxG A h (wtG a b t) x c = some (ins x.1 (c / 2), x.2.1, bhG A h (c / 2) x.2.2) := by
        unfold nxG
        rw [if_pos ⟨ho, hb⟩, if_neg q, if_neg g7, if_neg q, if_neg q]
      have P := HV _ ny
      dsimp only at P
      rw [j1_s, if_pos (show (0 : Int) = 0 from rfl)]
      dsimp only
      rw [j1_s, if_pos (show (0 : Int) = 0 from rfl)]
      dsimp only
      rw [e1]
      refine rt_b2 P (fun r u hu => rt_some ⟨hu.1, hu.2.1, ?_⟩)
      unfold gmG
      rw [ny]
      exact hu.2.2
theorem mx_end {g : Nat → Option Int} {m k : Nat} (hg : ∀ c u, g c = some u → -1 ≤ u ∧ u ≤ 1) (hm : 1 ≤ mxG g t m) : mxG g t (m + k) = 1 := by
  have b0 := (mx_bd (t := t) hg m).2.1
  induction k with
  | zero => rw [Nat.add_zero]; omega
  | succ k ih =>
    have b1 := (mx_bd (t := t) hg (m + (k + 1))).2.1
    cases e : g (m + k) with
    | none =>
      rw [show m + (k + 1) = m + k + 1 by omega, mx_no e]; exact ih
    | some u =>
      have := sg_mul t (hg _ u e).1 (hg _ u e).2
      rw [show m + (k + 1) = m + k + 1 by omega, mx_so e, ih, Int.max_eq_left (by omega)]
theorem cmp_e {u v : Int} : f_JInt_compare_7cf53 u v s = some (if u < v then -1 else if u = v then 0 else 1) := by
  unfold f_JInt_compare_7cf53
  by_cases c : u < v
  · simp [c]
  · by_cases d : u = v
    · simp [d]
    · simp [c, d]
theorem e_rstep {gB : Int → Int → Int → Int → Int → Int → JSg → Option (Int × JSg)} {gV gR : Int → Int → Int → Int → Int → JSg → Option (Int × JSg)} {dep : Nat} (hn : 1000000 < n) (hI : WfI A) (hW : WfR A) (hh : H10 A h) (ha : 0 ≤ a) (hb : 0 ≤ b) (hab : a ≠ b) (ho : ∀ i, i < h.length → ownA A (h.getD i 0) = a ∨ ownA A (h.getD i 0) = b) (hx : rdG h x) (ht : t < 2) (hC : WG A h a b s) (hT : TG A h a b s) (hd : dep ≤ 22) (na : ¬ ovB A h x.1 a = true) (nb : ¬ ovB A h x.1 b = true)
    (HP : ¬ lyB A h x (wtG a b t) = true → lyB A h x (wtG a b (1 - t)) = true → Ret (gV (cplG h.length x.1 : Int) (x.2.1 : Int) (x.2.2 : Int) ((1 - t : Nat) : Int) ((dep + 1 : Nat) : Int) s) (PW A h a b (VV A h a b x (1 - t)) s))
    (HB : lyB A h x (wtG a b t) = true → ∀ (c : Nat) (u : JSg), c < 2 * h.length → ownA A (h.getD (c / 2) 0) = wtG a b t → x.1.testBit (c / 2) = false → WG A h a b u → TG A h a b u → Ret (gB (cplG h.length x.1 : Int) (x.2.1 : Int) (x.2.2 : Int) (c : Int) (t : Int) (dep : Int) u) (PW A h a b (oG (gmG A h a b x t c)) u)) : Ret (f_Mat_reckon_s n gB gV gR (cplG h.length x.1 : Int) (x.2.1 : Int) (x.2.2 : Int) (t : Int) (dep : Int) s) (PW A h a b (VV A h a b x t) s) := by
  have h10 := hh.1
  have p : 2 ^ h.length ≤ 1024 := Nat.pow_le_pow_right (n := 2) (by decide) h10
  have V := VV_eq (a := a) (b := b) (t := t) hI hh.2 hx
  rw [if_neg na, if_neg nb] at V
  have hw : 0 ≤ wtG a b t := by unfold wtG; split <;> assumption
  have wne : wtG a b t ≠ wtG a b (1 - t) := by
    unfold wtG
    by_cases q : t = 0
    · rw [if_pos q, if_neg (by omega)]; exact hab
    · rw [if_neg q, if_pos (by omega)]; exact fun z => hab z.symm
  have ho2 : ∀ i, i < h.length → ownA A (h.getD i 0) = wtG a b t ∨ ownA A (h.getD i 0) = wtG a b (1 - t) := by
    intro i hi
    unfold wtG
    have := ho i hi
    by_cases q : t = 0
    · rw [if_pos q, if_neg (by omega)]; exact this
    · rw [if_neg q, if_pos (by omega)]; exact this.symm
  obtain ⟨m1, m2⟩ := mk_own (A := A) h10 hx.1 hw
  obtain ⟨ma1, ma2⟩ := mk_own (A := A) h10 hx.1 ha
  obtain ⟨mb1, mb2⟩ := mk_own (A := A) h10 hx.1 hb
  have o := mk_oth h10 hx.1 wne ho2 m2
  unfold f_Mat_reckon_s
  refine rt_c1 (fun u => u = ((orW A h (wtG a b t).toNat h.length : Nat) : Int)) (fun u hu => ?_) (fun j hj => ?_)
  · subst hu
    rw [m1, lt_u, o.1, w_canLay hn hI hh hC hx m2, b1_s]
    by_cases l1 : lyB A h x (wtG a b t) = true
    · rw [if_pos l1] at V
      rw [l1, if_neg (show ¬ bi true = 0 by decide)]
      refine rt_c1 (fun u => u = sgT t) (fun u hu => ?_) (fun j hj => ?_)
      · subst hu
        rw [lt_u, lt_u, lt_u]
        refine rt_w3 (I := fun (v z : Int) (u : JSg) => ∃ m : Nat, z = m ∧ m ≤ 2 * h.length ∧ v = mxG (gmG A h a b x t) t m ∧ Agr (fun a _ => a = 103) s u ∧ TG A h a b u) (μ := fun (v z : Int) (u : JSg) => (2 * (h.length : Int) - z).toNat) ?_ n _ _ _ ⟨0, rfl, by omega, rfl, fun _ _ _ => rfl, hT⟩ (by omega)
        rintro v z u ⟨m, rfl, hm, rfl, ua, uT⟩ rc hrc
        have bd := mx_bd (t := t) (gm_bd (A := A) (h := h) (a := a) (b := b) (x := x) (t := t)) m
        have uC : WG A h a b u := WG_ag hC (fun c j hq => ua c j (by omega))
        have fin : mxG (gmG A h a b x t) t m = mxG (gmG A h a b x t) t (2 * h.length) → Ret (some (w32 (sgT t * mxG (gmG A h a b x t) t m), u)) (PW A h a b (VV A h a b x t) s) := by
          intro q
          refine rt_some ⟨ua, uT, ?_⟩
          dsimp only
          rw [V, ← q]
          have := sg_or t
          rcases this with z | z <;> rw [z] <;> rw [wi (by omega) (by omega)]
        rw [j0_s, uC.2.1, wi (x := 2 * ((h.length : Nat) : Int)) (by omega) (by omega)]
        refine rt_ite (fun g => ?_) (fun g => fin (by rw [show m = 2 * h.length by omega]))
        refine rt_ite (fun g2 => ?_) (fun g2 => fin ?_)
        · have hi : m / 2 < h.length := by omega
          have m2b := m2.2 _ hi
          have m2l := m2.1
          refine rt_c2 (fun v u => v = mxG (gmG A h a b x t) t (m + 1) ∧ Agr (fun a _ => a = 103) s u ∧ TG A h a b u) (fun v u hu => ?_) (fun j hj => ?_)
          · rw [lt_u, wi (by omega) (by omega)]
            exact hrc _ _ _ ⟨m + 1, by push_cast; rfl, by omega, hu⟩ (by omega)
          · rw [sr1_n (by omega), has_n (by omega) (by omega), m2b]
            by_cases k : ownA A (h.getD (m / 2) 0) = wtG a b t ∧ x.1.testBit (m / 2) = false
            · rw [decide_eq_true k.1, k.2, if_pos (show (true && !false) = true from rfl), if_neg (show ¬ (1 : Int) = 0 by decide)]
              refine rt_b2 (HB l1 m u (by omega) k.1 k.2 uC uT) (fun r w hw => ?_)
              obtain ⟨w1, w2, w3⟩ := hw
              have w1 : Agr (fun a _ => a = 103) u w := w1
              have w3 : r = oG (gmG A h a b x t m) := w3
              rw [lt_u]
              refine rt_c1 (fun v => v = mxG (gmG A h a b x t) t (m + 1)) (fun v hv => ?_) (fun j2 hj2 => ?_)
              · rw [lt_u]
                exact hj _ _ ⟨hv, ag_tr ua w1, w2⟩
              · cases e : gmG A h a b x t m with
                | none =>
                  rw [e] at w3
                  rw [if_pos (show r = -2 from w3)]
                  exact hj2 _ (mx_no e).symm
                | some v =>
                  rw [e] at w3
                  have w3 : r = v := w3
                  have vb := gm_bd m v e
                  have vs := sg_mul t vb.1 vb.2
                  rw [if_neg (show ¬ r = -2 by omega), w3]
                  refine hj2 _ ?_
                  rw [mx_so e, wi (by omega) (by omega)]
            · have e : gmG A h a b x t m = none := by
                unfold gmG nxG
                rw [if_neg k]
                rfl
              have kf : (decide (ownA A (h.getD (m / 2) 0) = wtG a b t) && !x.1.testBit (m / 2)) = false := b_ff (fun q => k (by rwa [Bool.and_eq_true, decide_eq_true_iff, Bool.not_eq_true'] at q))
              rw [kf, if_neg (show ¬ (false = true) by decide), if_pos rfl]
              exact hj _ _ ⟨(mx_no e).symm, ua, uT⟩
        · have e1 := mx_end (t := t) (m := m) (k := 2 * h.length - m) gm_bd (show 1 ≤ mxG (gmG A h a b x t) t m by omega)
          rw [show m + (2 * h.length - m) = 2 * h.length by omega] at e1
          omega
      · unfold sgT at hj
        refine rt_ite (fun q => hj _ ?_) (fun q => hj _ ?_)
        · rw [if_pos (show t = 0 by omega)]
        · rw [if_neg (show ¬ t = 0 by omega)]
    · rw [if_neg l1] at V
      rw [b_ff l1, if_pos (show bi false = 0 from rfl), w_canLay hn hI hh hC hx o.2, b1_s]
      by_cases l2 : lyB A h x (wtG a b (1 - t)) = true
      · rw [if_pos l2] at V
        have V2 := VV_eq (a := a) (b := b) (t := 1 - t) hI hh.2 hx
        rw [if_neg na, if_neg nb, if_pos l2] at V2
        rw [l2, if_neg (show ¬ bi true = 0 by decide), wi (x := 1 - (t : Int)) (by omega) (by omega), show (1 : Int) - (t : Int) = ((1 - t : Nat) : Int) by omega, wi (x := (dep : Int) + 1) (by omega) (by omega), show (dep : Int) + 1 = ((dep + 1 : Nat) : Int) by push_cast; rfl]
        refine rt_b2 (HP l1 l2) (fun r u hu => rt_some ⟨hu.1, hu.2.1, ?_⟩)
        have u3 : r = VV A h a b x (1 - t) := hu.2.2
        dsimp only
        rw [u3, V, V2]
      · rw [if_neg l2] at V
        rw [b_ff l2, if_pos (show bi false = 0 from rfl), hC.2.2.1, hC.2.2.2.1, ma1, mb1, w_pips hn hI hh hC mb2, b1_s, w_pips hn hI hh hC ma2, b1_s, cmp_e, b1_s]
        refine rt_some ⟨fun _ _ _ => rfl, hT, ?_⟩
        dsimp only
        rw [V]
        unfold cmG
        split <;> split <;> (try split) <;> omega
  · unfold wtG at hj
    refine rt_ite (fun q => hj _ ?_) (fun q => hj _ ?_)
    · rw [if_pos (show t = 0 by omega)]; exact hC.2.2.1
    · rw [if_neg (show ¬ t = 0 by omega)]; exact hC.2.2.2.1
end
