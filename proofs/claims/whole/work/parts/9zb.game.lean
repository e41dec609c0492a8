/-! LAYER 3zav: the GAME of two: the reference's play, whole -/
section
variable {A : JA} {h : List Int} {a b : Int} {x y : Stt} {t : Nat} {s : JSg} {n : Nat}
theorem e_pstep {gb gp : Int → Int → Int → Int → Int → JSg → Option (Int × JSg)} (hn : 1000000 < n) (hI : WfI A) (hW : WfR A) (hh : H10 A h) (hx : rdG h x) (ht : t < 2) (hC : CG A h a b s) (hM : MG A h a b s) (hp : preG A h a b x t)
    (HB : ¬ ovB A h x.1 a = true → lyB A h x (wtG a b t) = true → Ret (gb (x.1 : Int) (x.2.1 : Int) (x.2.2 : Int) (t : Int) ((h.length : Nat) : Int) s) (fun z => Agr (fun a _ => a = 193) s z.2 ∧ MG A h a b z.2 ∧ ∃ c v, z.1 = 100 * (v + 1) + ((c : Nat) : Int) ∧ isMv (gmG A h a b x t) t (2 * h.length) c v))
    (HP : ¬ ovB A h x.1 a = true → ¬ lyB A h x (wtG a b t) = true → lyB A h x (wtG a b (1 - t)) = true → Ret (gp (x.1 : Int) (x.2.1 : Int) (x.2.2 : Int) ((1 - t : Nat) : Int) ((h.length : Nat) : Int) s) (PLs A h a b x (1 - t) s)) : Ret (f_M_play_s n gb gp (x.1 : Int) (x.2.1 : Int) (x.2.2 : Int) (t : Int) ((h.length : Nat) : Int) s) (PLs A h a b x t s) := by
  have h10 := hh.1
  have p : 2 ^ h.length ≤ 1024 := Nat.pow_le_pow_right (n := 2) (by decide) h10
  have hS := hx.1
  have hl := hx.2.1
  have hr := hx.2.2
  have hB := hC.1
  have V := VV_eq (a := a) (b := b) (t := t) hI hh.2 hx
  unfold f_M_play_s
  rw [hC.2.1, hC.2.2, m_ov hn hI hW hh hB hS, b1_s, m_ov hn hI hW hh hB hS]
  by_cases oa : ovB A h x.1 a = true
  · rw [if_pos oa] at V
    rw [oa, if_neg (show ¬ bi true = 0 by decide), j0_s]
    have one : Ret (some ((1 : Int), s)) (PLs A h a b x t s) := rt_some ⟨fun _ _ _ => rfl, hM, V.symm⟩
    refine rt_ite (fun _ => one) (fun g1 => rt_ite (fun _ => one) (fun g2 => ?_))
    rw [b1_s]
    refine rt_ite (fun _ => one) (fun g3 => ?_)
    rcases hp oa with q | q | q
    · exact absurd (show (x.1 : Int) = 0 by omega) g1
    · exact absurd (show (t : Int) = 1 by omega) g2
    · exact absurd (by rw [b_ff q]; rfl) g3
  · rw [if_neg oa] at V
    rw [b_ff oa, if_pos (show bi false = 0 from rfl), b1_s]
    by_cases ob : ovB A h x.1 b = true
    · rw [if_pos ob] at V
      rw [ob, if_neg (show ¬ bi true = 0 by decide)]
      exact rt_some ⟨fun _ _ _ => rfl, hM, V.symm⟩
    · rw [if_neg ob] at V
      rw [b_ff ob, if_pos (show bi false = 0 from rfl)]
      have ek : f_M_gameOf (x.1 : Int) (x.2.1 : Int) (x.2.2 : Int) (t : Int) s = some ((cdG x t : Nat) : Int) := by
        unfold f_M_gameOf cdG
        rw [wi (x := (x.1 : Int) * 7) (by omega) (by omega), wi (x := (x.1 : Int) * 7 + (x.2.1 : Int)) (by omega) (by omega), wi (x := ((x.1 : Int) * 7 + (x.2.1 : Int)) * 7) (by omega) (by omega), wi (x := ((x.1 : Int) * 7 + (x.2.1 : Int)) * 7 + (x.2.2 : Int)) (by omega) (by omega), wi (x := (((x.1 : Int) * 7 + (x.2.1 : Int)) * 7 + (x.2.2 : Int)) * 2) (by omega) (by omega), wi (by omega) (by omega), lt_u]
        push_cast
        rfl
      have kl : cdG x t < 495616 := by unfold cdG; omega
      rw [ek, b1_s, lt_u, Int.toNat_natCast]
      refine rt_chk (by omega) (rt_ite (fun g => ?_) (fun g => ?_))
      · refine rt_c1 (fun u => u = wtG a b t) (fun u hu => ?_) (fun j hj => ?_)
        · subst hu
          rw [lt_u, m_ly hn hI hW hh hB hx, b1_s]
          refine rt_c2 (fun v u => Agr (fun a _ => a = 193) s u ∧ MG A h a b u ∧ v = VV A h a b x t) (fun v u hu => ?_) (fun j hj => ?_)
          · obtain ⟨u1, u2, u3⟩ := hu
            refine rt_chk (by omega) (rt_lt (rt_some ⟨ag_sp u1 rfl, fun y t' hy ht' => ?_, u3⟩))
            dsimp only
            by_cases e : cdG y t' = cdG x t
            · obtain ⟨q1, q2⟩ := cdG_inj hy hx ht' ht e
              rw [e, sp_eq, q1, q2, u3]
              exact Or.inr rfl
            · rw [sp_nj e]; exact u2 y t' hy ht'
          · by_cases l1 : lyB A h x (wtG a b t) = true
            · rw [if_pos l1] at V
              rw [l1, if_neg (show ¬ bi true = 0 by decide)]
              refine rt_b2 (HB oa l1) (fun v u hu => ?_)
              obtain ⟨u1, u2, c, v', u3, u4⟩ := hu
              have u3 : v = 100 * (v' + 1) + ((c : Nat) : Int) := u3
              have vb := gm_bd c v' u4.2.1
              have cl := u4.1
              have ev : w32 (dv32 v 100 - 1) = v' := by
                rw [dv_p (by omega) (by omega) (by omega) (by omega), wi (by omega) (by omega)]
                omega
              rw [lt_u, ev]
              refine hj _ _ ⟨u1, u2, ?_⟩
              rw [V, ← u4.2.2.1]
              rcases sg_or t with q | q <;> rw [q] <;> omega
            · rw [if_neg l1] at V
              rw [b_ff l1, if_pos (show bi false = 0 from rfl)]
              refine rt_c1 (fun u => u = wtG a b (1 - t)) (fun u hu => ?_) (fun j2 hj2 => ?_)
              · subst hu
                rw [m_ly hn hI hW hh hB hx, b1_s]
                by_cases l2 : lyB A h x (wtG a b (1 - t)) = true
                · rw [if_pos l2] at V
                  rw [l2, if_neg (show ¬ bi true = 0 by decide), wi (x := 1 - (t : Int)) (by omega) (by omega), show (1 : Int) - (t : Int) = ((1 - t : Nat) : Int) by omega]
                  refine rt_b2 (HP oa l1 l2) (fun v u hu => ?_)
                  obtain ⟨u1, u2, u3⟩ := hu
                  have u3 : v = VV A h a b x (1 - t) := u3
                  rw [lt_u]
                  refine hj _ _ ⟨u1, u2, ?_⟩
                  have V2 := VV_eq (a := a) (b := b) (t := 1 - t) hI hh.2 hx
                  rw [if_neg oa, if_neg ob, if_pos l2] at V2
                  rw [u3, V, V2]
                · rw [if_neg l2] at V
                  rw [b_ff l2, if_pos (show bi false = 0 from rfl), m_pp hn hI hW hh hB hS, b1_s, lt_u, m_pp hn hI hW hh hB hS, b1_s, lt_u]
                  rw [V]
                    at hj
                  unfold cmG at hj
                  rw [j1_s]
                  refine rt_ite (fun q => ?_) (fun q => ?_)
                  · exact hj _ _ ⟨fun _ _ _ => rfl, hM, by rw [if_pos q]⟩
                  · rw [if_neg q] at hj
                    refine rt_ite (fun q2 => ?_) (fun q2 => ?_)
                    · exact hj _ _ ⟨fun _ _ _ => rfl, hM, by rw [if_pos q2]⟩
                    · exact hj _ _ ⟨fun _ _ _ => rfl, hM, by rw [if_neg q2]⟩
              · unfold wtG at hj2
                refine rt_ite (fun q => hj2 _ ?_) (fun q => hj2 _ ?_)
                · rw [if_neg (show ¬ 1 - t = 0 by omega)]
                · rw [if_pos (show 1 - t = 0 by omega)]
        · unfold wtG at hj
          refine rt_ite (fun q => hj _ ?_) (fun q => hj _ ?_)
          · rw [if_pos (show t = 0 by omega)]
          · rw [if_neg (show ¬ t = 0 by omega)]
      · refine rt_chk (by omega) (rt_some ⟨fun _ _ _ => rfl, hM, ?_⟩)
        rcases hM x t hx ht with q | q
        · exact absurd q g
        · exact q
theorem ly_free {w : Int} (g : lyB A h x w = true) : pcn h.length x.1 + 1 ≤ h.length := by
  obtain ⟨i, hi, -, b, -⟩ := ly_iff.mp g
  have p := pcn_ins b h.length
  rw [if_pos hi] at p
  have := pcn_le (U := ins x.1 i) h.length
  omega
theorem e_play (hn : 1000000 < n) (hI : WfI A) (hW : WfR A) (hh : H10 A h) (hab : a ≠ b) : ∀ (d f : Nat) (x : Stt) (t : Nat) (s : JSg), h.length - pcn h.length x.1 ≤ d → rdG h x → t < 2 → CG A h a b s → MG A h a b s → preG A h a b x t → Ret ((fg_M_bestOf n (f + 3 * d + 3)).2 (x.1 : Int) (x.2.1 : Int) (x.2.2 : Int) (t : Int) ((h.length : Nat) : Int) s) (PLs A h a b x t s) := by
  intro d
  induction d with
  | zero =>
    intro f x t s hd hx ht hC hM hp
    refine e_pstep (gb := (fg_M_bestOf n (f + 2)).1) (gp := (fg_M_bestOf n (f + 2)).2) hn hI hW hh hx ht hC hM hp (fun _ g => ?_) (fun _ _ g => ?_)
    · have := ly_free g; omega
    · have := ly_free g; omega
  | succ k ih =>
    intro f x t s hd hx ht hC hM hp
    refine e_pstep (gb := (fg_M_bestOf n (f + 3 * k + 5)).1) (gp := (fg_M_bestOf n (f + 3 * k + 5)).2) hn hI hW hh hx ht hC hM hp (fun na g => ?_) (fun na g1 g2 => ?_)
    · refine e_bestOf (gb := (fg_M_bestOf n (f + 3 * k + 4)).1) (gp := (fg_M_bestOf n (f + 3 * k + 4)).2) hn hI hW hh hab hx ht hC hM na g (fun y u hy py hp2 uC uM => ?_)
      have := ih (f + 1) y (1 - t) u (by omega) hy (by omega) uC uM hp2
      rwa [show f + 1 + 3 * k + 3 = f + 3 * k + 4 by omega] at this
    · refine e_pstep (gb := (fg_M_bestOf n (f + 3 * k + 4)).1) (gp := (fg_M_bestOf n (f + 3 * k + 4)).2) hn hI hW hh hx (show 1 - t < 2 by omega) hC hM (fun o => absurd o na) (fun na g => ?_) (fun na g3 _ => absurd g2 g3)
      refine e_bestOf (gb := (fg_M_bestOf n (f + 3 * k + 3)).1) (gp := (fg_M_bestOf n (f + 3 * k + 3)).2) hn hI hW hh hab hx (show 1 - t < 2 by omega) hC hM na g (fun y u hy py hp2 uC uM => ?_)
      exact ih f y (1 - (1 - t)) u (by omega) hy (by omega) uC uM hp2
end
