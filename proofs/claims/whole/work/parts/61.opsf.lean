/-! LAYER 3l: lay, cat, tide, pawn, redeem, will, undo -/
section
variable {σ z : JSg}
theorem th_go (hz : ∀ a j, ¬ (kpC a j ∨ rowC 11 a j) → z a j = σ a j) : ∀ a j, ¬ (kpC a j ∨ rowC 11 a j ∨ scr a j) → sp z 179 0 0 a j = σ a j := by
  intro a j h
  rw [sp_at]
  by_cases c : a = 179
  · by_cases d : j = 0
    · subst c
      subst d
      exact absurd (Or.inr (Or.inr (show scr 179 0 by unfold scr; omega))) h
    · rw [if_pos c, if_neg d]
      exact hz a j (fun q => h (by rcases q with q | q <;> simp [q]))
  · rw [if_neg c]
    exact hz a j (fun q => h (by rcases q with q | q <;> simp [q]))
theorem th_K (hK : PasK z) : PasK (sp z 179 0 0) := by
  refine PasK_ag (fun q j hq => ?_) hK
  rw [sp_at]
  by_cases c : q = 179
  · rw [if_pos c, if_neg (by omega)]
  · rw [if_neg c]
theorem th_R {B : JA} (hR : RowR z 11 B) : RowR (sp z 179 0 0) 11 B := RowR_ag (fun q j hq => by rw [sp_nq (by omega)]) hR
theorem th_z (hz : ∀ a j, ¬ (kpC a j ∨ rowC 11 a j) → z a j = σ a j) : sp z 179 0 0 181 = σ 181 := by
  rw [sp_nq (by decide)]
  exact funext fun j => hz 181 j (by unfold kpC rowC; omega)
end
theorem op_lay : Op_lay Inv := by
  intro σ H w s e _ _ _
  have hI := in_I H
  have hW := in_W H
  have hL := in_L H
  have hR := in_R H
  have b0 := hI.1
  have b1 := hI.2.1
  have rr := hW.2.1
  have H1 := inv_thr (x := 0) H
  by_cases hw : 0 ≤ w ∧ w < σ 181 0
  · by_cases hs : 0 ≤ s ∧ s < σ 181 1
    · by_cases he : 0 ≤ e ∧ e ≤ 1
      · by_cases hy : whyA (σ 181) w s e = 0
        · have ow := why_own hy
          have s28 : 0 ≤ s ∧ s < 28 := by omega
          have room := row_room hI hW hs.1 hs.2 (by omega)
          have r28 : 0 ≤ σ 181 151 ∧ σ 181 151 < 28 := by omega
          obtain ⟨υ, z, h1, h2, h3, h4, h5⟩ := keep_go (f := fun υ => f_Row_put NN 11 4 s e υ) (st := fun x => x) (R := fun x => RowR x 11 (layN (σ 181) w s e)) H (fun υ uL uR uA => rt_mono (e_Row_put hNN (by decide) hI hW uL uR hs ow.2 ow.1 he) (fun x hx => ⟨hx.2, hx.1⟩))
          obtain ⟨υ2, z2, g1, g2, -, g4⟩ := snap_go (n := NN) (τ := sp z 179 0 0) (f := fun υ => f_M_lays NN w s e υ) (st := fun x => x) (R := fun _ => True) (B := layN (σ 181) w s e) hNN H (th_go h5) (th_K h4) (th_R h3) (layN_wf hI hW hs ow.2 ow.1) (fun k hk => layN_lo s28 r28 (by omega)) (fun υ uA => rt_mono (e_M_lays hNN (by rw [uA]; exact hI) (by rw [uA]; exact hW) (by rw [uA]; exact hs) (by rw [uA]; exact ow.2) (by rw [uA]; exact ow.1) he) (fun x hx => ⟨trivial, hx.1, by rw [hx.2, uA]⟩))
          have eA : sp z 179 0 0 181 = σ 181 := th_z h5
          refine ⟨0, z, z2, ?_, ?_, g4⟩
          · unfold f_W_lay
            rw [e_W_isWidow hL, b1_s, decide_eq_true hw, if_neg bn0, e_W_isStone hL, b1_s, decide_eq_true hs, if_neg bn0, e_W_isEnd, b1_s, decide_eq_true he, if_neg bn0, e_Row_refusal hI hW hL hR hs.1 hs.2 he.1 he.2, b1_s, hy, lt_u, if_pos rfl, h1, b1_s]
            show (bd1 (f_Row_put NN 11 4 s e υ) _) = _
            rw [show f_Row_put NN 11 4 s e υ = some z from h2, b1_s]
          · unfold f_M_lay
            rw [lt_u, e_M_isWidow, b1_s, eA, decide_eq_true hw, if_neg bn0, e_M_isStone, b1_s, eA, decide_eq_true hs, if_neg bn0, e_M_isEnd, b1_s, decide_eq_true he, if_neg bn0, e_M_whyNot (by rw [eA]; exact hI) (by rw [eA]; exact hW) hs.1 (by rw [eA]; exact hs.2) he.1 he.2, b1_s, eA, hy, lt_u, if_pos rfl, g1, b1_s]
            show (bd1 (f_M_lays NN w s e υ2) _) = _
            rw [show f_M_lays NN w s e υ2 = some z2 from g2, b1_s]
        · refine ⟨whyA (σ 181) w s e, σ, _, ?_, ?_, H1⟩
          · unfold f_W_lay
            rw [e_W_isWidow hL, b1_s, decide_eq_true hw, if_neg bn0, e_W_isStone hL, b1_s, decide_eq_true hs, if_neg bn0, e_W_isEnd, b1_s, decide_eq_true he, if_neg bn0, e_Row_refusal hI hW hL hR hs.1 hs.2 he.1 he.2, b1_s, lt_u, if_neg hy]
          · unfold f_M_lay
            rw [lt_u, e_M_isWidow, b1_s, th_A, decide_eq_true hw, if_neg bn0, e_M_isStone, b1_s, th_A, decide_eq_true hs, if_neg bn0, e_M_isEnd, b1_s, decide_eq_true he, if_neg bn0, e_M_whyNot (in_I H1) (in_W H1) hs.1 (by rw [th_A]; exact hs.2) he.1 he.2, b1_s, th_A, lt_u, if_neg hy]
      · refine ⟨-1, σ, _, ?_, ?_, H1⟩
        · unfold f_W_lay
          rw [e_W_isWidow hL, b1_s, decide_eq_true hw, if_neg bn0, e_W_isStone hL, b1_s, decide_eq_true hs, if_neg bn0, e_W_isEnd, b1_s, decide_eq_false he, if_pos by0]
        · unfold f_M_lay
          rw [lt_u, e_M_isWidow, b1_s, th_A, decide_eq_true hw, if_neg bn0, e_M_isStone, b1_s, th_A, decide_eq_true hs, if_neg bn0, e_M_isEnd, b1_s, decide_eq_false he, if_pos by0]
    · refine ⟨-1, σ, _, ?_, ?_, H1⟩
      · unfold f_W_lay
        rw [e_W_isWidow hL, b1_s, decide_eq_true hw, if_neg bn0, e_W_isStone hL, b1_s, decide_eq_false hs, if_pos by0]
      · unfold f_M_lay
        rw [lt_u, e_M_isWidow, b1_s, th_A, decide_eq_true hw, if_neg bn0, e_M_isStone, b1_s, th_A, decide_eq_false hs, if_pos by0]
  · refine ⟨-1, σ, _, ?_, ?_, H1⟩
    · unfold f_W_lay
      rw [e_W_isWidow hL, b1_s, decide_eq_false hw, if_pos by0]
    · unfold f_M_lay
      rw [lt_u, e_M_isWidow, b1_s, th_A, decide_eq_false hw, if_pos by0]
theorem op_cat : Op_cat Inv := by
  intro σ H e _
  have hI := in_I H
  have hW := in_W H
  have hL := in_L H
  have hR := in_R H
  have b1 := hI.2.1
  have rr := hW.2.1
  have H1 := inv_thr (x := 0) H
  by_cases he : 0 ≤ e ∧ e ≤ 1
  · by_cases hn0 : σ 181 151 = 0
    · refine ⟨-1, σ, _, ?_, ?_, H1⟩
      · unfold f_W_cat
        rw [e_W_isEnd, b1_s, decide_eq_true he, if_neg bn0, hR.1, if_pos hn0]
      · unfold f_M_cat
        rw [lt_u, e_M_isEnd, b1_s, decide_eq_true he, if_neg bn0, rmM, b1_s, th_A, if_pos hn0]
    · have eb := endA_in (e := e) hW hn0
      have c := wf_rw hI hW eb.1 eb.2
      obtain ⟨υ, z, h1, h2, ⟨h3, h3'⟩, h4, h5⟩ := keep_go (f := fun υ => f_Row_takeOff NN 11 4 e υ) (st := fun x => x.2) (R := fun x => x.1 = rwA (σ 181) (endA (σ 181) e) / 2 ∧ RowR x.2 11 (catN (σ 181) e)) H (fun υ uL uR uA => rt_mono (e_Row_takeOff hNN hI hW uR hn0 he) (fun x hx => ⟨⟨hx.1, hx.2.2⟩, hx.2.1⟩))
      obtain ⟨υ2, z2, g1, g2, g3, g4⟩ := snap_go (n := NN) (τ := sp z.2 179 0 0) (f := fun υ => f_M_catAt NN e υ) (st := fun x => x.2) (R := fun x => x.1 = rwA (σ 181) (endA (σ 181) e) / 2) (B := catN (σ 181) e) hNN H (th_go h5) (th_K h4) (th_R h3') (catN_wf hI hW hn0 he) (fun k hk => by unfold catN; rw [if_neg (by omega), if_neg (by omega), if_neg (by omega)]) (fun υ uA => rt_mono (e_M_cat hNN (by rw [uA]; exact hI) (by rw [uA]; exact hW) (by rw [uA]; exact hn0) he) (fun x hx => ⟨by rw [hx.1, uA], hx.2.1, by rw [hx.2.2, uA]⟩))
      have eA : sp z.2 179 0 0 181 = σ 181 := th_z h5
      refine ⟨rwA (σ 181) (endA (σ 181) e) / 2, z.2, z2.2, ?_, ?_, g4⟩
      · unfold f_W_cat
        rw [e_W_isEnd, b1_s, decide_eq_true he, if_neg bn0, hR.1, if_neg hn0, h1, b1_s]
        show (bd2 (f_Row_takeOff NN 11 4 e υ) _) = _
        rw [show f_Row_takeOff NN 11 4 e υ = some (z.1, z.2) from h2, b2_s, h3]
      · unfold f_M_cat
        rw [lt_u, e_M_isEnd, b1_s, decide_eq_true he, if_neg bn0, rmM, b1_s, eA, if_neg hn0, g1, b1_s]
        show (bd2 (f_M_catAt NN e υ2) _) = _
        rw [show f_M_catAt NN e υ2 = some (z2.1, z2.2) from g2, b2_s, g3]
  · refine ⟨-1, σ, _, ?_, ?_, H1⟩
    · unfold f_W_cat
      rw [e_W_isEnd, b1_s, decide_eq_false he, if_pos by0]
    · unfold f_M_cat
      rw [lt_u, e_M_isEnd, b1_s, decide_eq_false he, if_pos by0]
theorem op_tide : Op_tide Inv := by
  intro σ H
  have hI := in_I H
  have hW := in_W H
  have hL := in_L H
  have hR := in_R H
  have b1 := hI.2.1
  have rr := hW.2.1
  have H1 := inv_thr (x := 0) H
  by_cases hn0 : σ 181 151 = 0
  · refine ⟨-1, σ, _, ?_, ?_, H1⟩
    · unfold f_W_tide
      rw [hR.1, if_pos hn0]
    · unfold f_M_tide
      rw [lt_u, rmM, b1_s, th_A, if_pos hn0]
  · have lo : ∀ k : Nat, ¬ (67 ≤ k ∧ k < 192) → turN (σ 181) k = σ 181 k := fun k hk => turN_lo hW (by omega) hn0
    have tI : WfI (turN (σ 181)) := WfI_cg (fun k hk _ => lo k (by omega)) hI
    have tW := turN_wf hI hW hn0
    obtain ⟨υ, z, h1, h2, h3, h4, h5⟩ := keep_go (f := fun υ => f_Row_turnLast 11 4 υ) (st := fun x => x) (R := fun x => RowR x 11 (turN (σ 181))) H (fun υ uL uR uA => rt_mono (e_Row_turn hI hW uR hn0) (fun x hx => ⟨hx.2, hx.1⟩))
    obtain ⟨υ2, z2, g1, g2, g3, g4⟩ := snap_go (n := NN) (τ := sp z 179 0 0) (f := fun υ => f_M_turnLast υ) (st := fun x => x) (R := fun x => x 181 = turN (σ 181)) (B := turN (σ 181)) hNN H (th_go h5) (th_K h4) (th_R h3) tW lo (fun υ uA => rt_mono (e_M_turn (by rw [uA]; exact hI) (by rw [uA]; exact hW) (by rw [uA]; exact hn0)) (fun x hx => ⟨by rw [hx.2, uA], hx.1, by rw [hx.2, uA]⟩))
    have eA : sp z 179 0 0 181 = σ 181 := th_z h5
    refine ⟨outA (turN (σ 181)) 1, z, z2, ?_, ?_, g4⟩
    · unfold f_W_tide
      rw [hR.1, if_neg hn0, h1, b1_s]
      show (bd1 (f_Row_turnLast 11 4 υ) _) = _
      rw [show f_Row_turnLast 11 4 υ = some z from h2, b1_s, e_Row_outer tI tW (IslR_cg (by omega) (fun k hk _ => lo k (by omega)) (IslR_ag (fun q j hq => h5 q j (by unfold kpC rowC; omega)) hL)) h3 (by decide) (by decide), b1_s]
    · unfold f_M_tide
      rw [lt_u, rmM, b1_s, eA, if_neg hn0, g1, b1_s]
      show (bd1 (f_M_turnLast υ2) _) = _
      rw [show f_M_turnLast υ2 = some z2 from g2, b1_s, e_M_pipsAt (in_I g4) (in_W g4) (by decide) (by decide), b1_s, g3]
theorem op_redeem : Op_redeem Inv := by
  intro σ H s _
  have hI := in_I H
  have hW := in_W H
  have hL := in_L H
  have hR := in_R H
  have b1 := hI.2.1
  have rr := hW.2.1
  have H1 := inv_thr (x := 0) H
  by_cases hs : 0 ≤ s ∧ s < σ 181 1
  · have r13 : σ 13 s.toNat = whrA (σ 181) s := (hR.2.1 s hs.1 hs.2).2
    by_cases h1 : whrA (σ 181) s = 1
    · obtain ⟨υ, z, k1, k2, k3, k4, k5⟩ := keep_go (f := fun υ => chk (0 ≤ s ∧ s < 28) <| lt_ (sp υ 13 s.toNat 0) fun s3 => some s3) (st := fun x => x) (R := fun x => RowR x 11 (whN (σ 181) s 0)) H (fun υ uL uR uA => rt_chk (by omega) (rt_lt (rt_some ⟨whN_row hI hW hs uR, ag_sp ag_refl (by unfold rowC; omega)⟩)))
      obtain ⟨υ2, z2, g1, g2, -, g4⟩ := snap_go (n := NN) (τ := sp z 179 0 0) (f := fun υ => chk (0 ≤ (w32 (95 + s)) ∧ (w32 (95 + s)) < 448) <| lt_ (sp υ 181 (w32 (95 + s)).toNat 0) fun s4 => some s4) (st := fun x => x) (R := fun _ => True) (B := whN (σ 181) s 0) hNN H (th_go k5) (th_K k4) (th_R k3) (whN_wf hI hW hs (by omega) (by omega)) (fun k hk => if_neg (by omega)) (fun υ uA => by
        rw [wi (by omega) (by omega)]
        refine rt_chk (by omega) (rt_lt (rt_some ⟨trivial, fun a j ha => by rw [sp_nq ha], ?_⟩))
        funext k
        rw [sp_at, if_pos rfl, uA]
        unfold whN
        by_cases c : (k : Int) = 95 + s
        · rw [if_pos (by omega), if_pos c]
        · rw [if_neg (by omega), if_neg c])
      have eA : sp z 179 0 0 181 = σ 181 := th_z k5
      refine ⟨1, z, z2, ?_, ?_, g4⟩
      · unfold f_W_redeem
        rw [e_W_isStone hL, b1_s, decide_eq_true hs, if_neg bn0, ck_p (by omega), r13, if_pos h1, k1, b1_s]
        have k2' : (chk (0 ≤ s ∧ s < 28) <| lt_ (sp υ 13 s.toNat 0) fun s3 => some s3) = some z := k2
        rw [ck_p (by omega), lt_u] at k2' ⊢
        rw [← (Option.some.inj k2')]
      · unfold f_M_redeem
        rw [lt_u, e_M_isStone, b1_s, eA, decide_eq_true hs, if_neg bn0, show σ 181 (w32 (95 + s)).toNat = whrA (σ 181) s from by rw [wi (by omega) (by omega)]; rfl, ck_p (by rw [wi (by omega) (by omega)]; omega), if_pos h1, g1, b1_s]
        have g2' : (chk (0 ≤ (w32 (95 + s)) ∧ (w32 (95 + s)) < 448) <| lt_ (sp υ2 181 (w32 (95 + s)).toNat 0) fun s4 => some s4) = some z2 := g2
        rw [ck_p (by rw [wi (by omega) (by omega)]; omega), lt_u] at g2' ⊢
        rw [← (Option.some.inj g2')]
    · refine ⟨0, σ, _, ?_, ?_, H1⟩
      · unfold f_W_redeem
        rw [e_W_isStone hL, b1_s, decide_eq_true hs, if_neg bn0, ck_p (by omega), r13, if_neg h1]
      · unfold f_M_redeem
        rw [lt_u, e_M_isStone, b1_s, th_A, decide_eq_true hs, if_neg bn0, show σ 181 (w32 (95 + s)).toNat = whrA (σ 181) s from by rw [wi (by omega) (by omega)]; rfl, ck_p (by rw [wi (by omega) (by omega)]; omega), if_neg h1]
  · refine ⟨0, σ, _, ?_, ?_, H1⟩
    · unfold f_W_redeem
      rw [e_W_isStone hL, b1_s, decide_eq_false hs, if_pos by0]
    · unfold f_M_redeem
      rw [lt_u, e_M_isStone, b1_s, th_A, decide_eq_false hs, if_pos by0]
