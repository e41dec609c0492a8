/-! LAYER 3m: pawn, will, undo -/
def LA (σ : JSg) : JSg := if σ 179 23 = 0 then sp (sp σ 179 23 1) 181 3 5 else σ
section
variable {σ x : JSg}
theorem la_e : f_M_layAll σ = some (LA σ) := by
  unfold f_M_layAll LA
  split <;> rfl
theorem la_o {a j : Nat} (h : ¬ ((a = 179 ∧ j = 23) ∨ (a = 181 ∧ j = 3))) : LA σ a j = σ a j := by
  unfold LA
  split
  · rw [sp_at, sp_at]
    by_cases c : a = 181
    · rw [if_pos c, if_neg (by omega), if_neg (by omega)]
    · rw [if_neg c]
      by_cases d : a = 179
      · rw [if_pos d, if_neg (by omega)]
      · rw [if_neg d]
  · rfl
theorem la_cg (h : x 179 23 = σ 179 23) {a j : Nat} (hx : ¬ ((a = 179 ∧ j = 23) ∨ (a = 181 ∧ j = 3)) → x a j = σ a j) (h3 : x 181 3 = σ 181 3) : LA x a j = LA σ a j := by
  by_cases c : (a = 179 ∧ j = 23) ∨ (a = 181 ∧ j = 3)
  · unfold LA
    rw [h]
    split
    · rcases c with ⟨rfl, rfl⟩ | ⟨rfl, rfl⟩
      · rw [sp_nq (q := 179) (p := 181) (by decide), sp_eq, sp_nq (q := 179) (p := 181) (by decide), sp_eq]
      · rw [sp_eq, sp_eq]
    · rcases c with ⟨rfl, rfl⟩ | ⟨rfl, rfl⟩
      · exact h
      · exact h3
  · rw [la_o c, la_o c]; exact hx c
theorem la_inv (H : Inv σ) : Inv (LA σ) ∧ LA σ 181 3 = pwA σ := by
  obtain ⟨τ, t1, t2, t3, t4, t5, t6⟩ := inv_layAll H
  rw [la_e] at t1
  cases t1
  exact ⟨t2, t4⟩
end
theorem op_pawn : Op_pawn Inv := by
  intro σ H s _
  have hI := in_I H
  have hW := in_W H
  have hL := in_L H
  have hR := in_R H
  have hX := in_X H
  have b0 := hI.1
  have b1 := hI.2.1
  have rr := hW.2.1
  have H1 := inv_thr (x := 0) H
  obtain ⟨H2, -⟩ := la_inv H1
  obtain ⟨L1, L2⟩ := la_inv H
  have lI := in_I L1
  have lW := in_W L1
  have ek : ∀ k : Nat, k ≠ 3 → LA σ 181 k = σ 181 k := fun k hk => la_o (by omega)
  have ek1 : ∀ k : Nat, k ≠ 3 → LA (sp σ 179 0 0) 181 k = σ 181 k := fun k hk => (la_o (by omega)).trans (by rw [th_A])
  by_cases hs : 0 ≤ s ∧ s < σ 181 1
  · have r13 : σ 13 s.toNat = whrA (σ 181) s := (hR.2.1 s hs.1 hs.2).2
    have q0 := hI.2.2.2.2 s 0 hs.1 hs.2 (by omega) (by omega)
    have q1 := hI.2.2.2.2 s 1 hs.1 hs.2 (by omega) (by omega)
    by_cases h1 : whrA (σ 181) s = 0
    · obtain ⟨υ, z, k1, k2, k3, k4, k5⟩ := keep_go (f := fun υ => chk (0 ≤ s ∧ s < 28) <| lt_ (sp υ 13 s.toNat 1) fun s3 => some s3) (st := fun x => x) (R := fun x => RowR x 11 (whN (σ 181) s 1)) H (fun υ uL uR uA => rt_chk (by omega) (rt_lt (rt_some ⟨whN_row hI hW hs uR, ag_sp ag_refl (by unfold rowC; omega)⟩)))
      have xg := th_go k5
      have xK := th_K k4
      have xR := th_R k3
      have xA : sp z 179 0 0 181 = σ 181 := th_z k5
      generalize hx : sp z 179 0 0 = x at *
      have x23 : x 179 23 = σ 179 23 := xg 179 23 (by unfold kpC rowC scr; omega)
      have x3 : x 181 3 = σ 181 3 := by rw [xA]
      have lo : ∀ k : Nat, ¬ (67 ≤ k ∧ k < 192) → whN (LA σ 181) s 1 k = LA σ 181 k := fun k hk => if_neg (by omega)
      have wh : whrA (LA σ 181) s = 0 := (ek _ (by omega)).trans h1
      obtain ⟨υ2, z2, g1, g2, g3, g4⟩ := snap_go (σ := LA σ) (n := NN) (τ := LA x) (f := fun υ => chk (0 ≤ (w32 (95 + s)) ∧ (w32 (95 + s)) < 448) <| lt_ (sp υ 181 (w32 (95 + s)).toNat 1) fun s4 => some s4) (st := fun x => x) (R := fun x => x 181 = whN (LA σ 181) s 1) (B := whN (LA σ 181) s 1) hNN L1 (fun a j h => la_cg x23 (fun _ => xg a j h) x3) (PasK_cg (σ := x) (by rw [xA]; exact hI) (fun k hk => la_o (by omega)) (fun q j hq => la_o (by omega)) xK) (RowR_cg (A := whN (σ 181) s 1) (by
          have e0 : whN (σ 181) s 1 0 = σ 181 0 := if_neg (by omega)
          have e1 : whN (σ 181) s 1 1 = σ 181 1 := if_neg (by omega)
          have e2 : whN (σ 181) s 1 151 = σ 181 151 := if_neg (by omega)
          omega) (fun k hk => by unfold whN; rw [ek k (by omega)]) (RowR_ag (fun q j hq => la_o (by omega)) xR)) (whN_wf lI lW ⟨hs.1, by rw [ek 1 (by decide)]; exact hs.2⟩ (by omega) (by omega)) lo (fun υ uA => by
        rw [wi (by omega) (by omega)]
        have e : sp υ 181 (95 + s).toNat 1 181 = whN (LA σ 181) s 1 := by
          funext k
          rw [sp_at, if_pos rfl, uA]
          unfold whN
          by_cases c : (k : Int) = 95 + s
          · rw [if_pos (by omega), if_pos c]
          · rw [if_neg (by omega), if_neg c]
        exact rt_chk (by omega) (rt_lt (rt_some ⟨e, fun a j ha => by rw [sp_nq ha], e⟩)))
      have zI : WfI (z2 181) := in_I g4
      have z1 : ∀ k : Nat, k < 67 → z2 181 k = LA σ 181 k := fun k hk => by rw [g3]; exact lo k (by omega)
      have zp : ∀ i : Int, 0 ≤ i → i ≤ 1 → pipA (z2 181) s i = pipA (σ 181) s i := fun i i0 i1 => (z1 _ (by omega)).trans (ek _ (by omega))
      have e45 : z 4 5 = pwA σ := (k5 4 5 (by unfold kpC rowC; omega)).trans hX.2.1
      refine ⟨w32 ((pipA (σ 181) s 0 + pipA (σ 181) s 1) * pwA σ), z, z2, ?_, ?_, g4⟩
      · unfold f_W_pawn
        rw [e_W_isStone hL, b1_s, decide_eq_true hs, if_neg bn0, ck_p (by omega), r13, if_pos h1, k1, b1_s]
        have k2' : (chk (0 ≤ s ∧ s < 28) <| lt_ (sp υ 13 s.toNat 1) fun s3 => some s3) = some z := k2
        rw [ck_p (by omega), lt_u] at k2' ⊢
        rw [(Option.some.inj k2'), e_Isl_together (A := σ 181) hI (IslR_ag (fun q j hq => k5 q j (by unfold kpC rowC; omega)) hL) hs.1 hs.2, b1_s, e45]
      · unfold f_M_pawn
        rw [lt_u, hx, la_e, b1_s, e_M_isStone, b1_s, show LA x 181 1 = σ 181 1 from (la_o (by omega)).trans (by rw [xA]), decide_eq_true hs, if_neg bn0, e_M_isHeld hs.1 (by omega), b1_s, show whrA (LA x 181) s = 0 from ((la_o (by omega)).trans (by rw [xA]; rfl)).trans h1, if_neg (show ¬ bi (decide ((0 : Int) = 0)) = 0 by decide), g1, b1_s]
        have g2' : (chk (0 ≤ (w32 (95 + s)) ∧ (w32 (95 + s)) < 448) <| lt_ (sp υ2 181 (w32 (95 + s)).toNat 1) fun s4 => some s4) = some z2 := g2
        rw [ck_p (by rw [wi (by omega) (by omega)]; omega), lt_u] at g2' ⊢
        rw [(Option.some.inj g2'), e_M_sum zI hs.1 (by rw [z1 1 (by omega), ek 1 (by decide)]; exact hs.2), b1_s, zp 0 (by omega) (by omega), zp 1 (by omega) (by omega), z1 3 (by omega), L2]
    · refine ⟨-1, σ, LA (sp σ 179 0 0), ?_, ?_, H2⟩
      · unfold f_W_pawn
        rw [e_W_isStone hL, b1_s, decide_eq_true hs, if_neg bn0, ck_p (by omega), r13, if_neg h1]
      · unfold f_M_pawn
        rw [lt_u, la_e, b1_s, e_M_isStone, b1_s, ek1 1 (by decide), decide_eq_true hs, if_neg bn0, e_M_isHeld hs.1 (by omega), b1_s, show whrA (LA (sp σ 179 0 0) 181) s = whrA (σ 181) s from ek1 _ (by omega), decide_eq_false h1, if_pos by0]
  · refine ⟨-1, σ, LA (sp σ 179 0 0), ?_, ?_, H2⟩
    · unfold f_W_pawn
      rw [e_W_isStone hL, b1_s, decide_eq_false hs, if_pos by0]
    · unfold f_M_pawn
      rw [lt_u, la_e, b1_s, e_M_isStone, b1_s, ek1 1 (by decide), decide_eq_false hs, if_pos by0]
theorem e_M_will {σ : JSg} {n : Nat} {w h : Int} (hn : 1000000 < n) (hI : WfI (σ 181)) (hh : w ≠ h) : Ret (lt_ 0 fun v5 => lt_ 0 fun v6 => wh3 n (fun rc7 (x8 : Int) (x9 : Int) (s10 : JSg) => bd1 (f_M_stones s10) fun r11 => if x9 < r11 then (chk (0 ≤ (w32 (67 + x9)) ∧ (w32 (67 + x9)) < 448) <| jn2 (fun (y13 : Int) (s14 : JSg) => lt_ (w32 (x9 + 1)) fun v15 => rc7 y13 v15 s14) fun j12 => if (s10 181 (w32 (67 + x9)).toNat) = w then (chk (0 ≤ (w32 (95 + x9)) ∧ (w32 (95 + x9)) < 448) <| if (s10 181 (w32 (95 + x9)).toNat) = 2 then (j12 x8 s10) else (chk (0 ≤ (w32 (67 + x9)) ∧ (w32 (67 + x9)) < 448) <| lt_ (sp s10 181 (w32 (67 + x9)).toNat h) fun s16 => lt_ (w32 (x8 + 1)) fun v17 => j12 v17 s16)) else (j12 x8 s10)) else (some (x8, s10))) v5 v6 σ) (fun z => z.1 = cntP (wilB (σ 181) w) (σ 181 1) 0 0 ∧ (∀ a j, a ≠ 181 → z.2 a j = σ a j) ∧ z.2 181 = wilN (σ 181) w h) := by
  have b := hI.2.1
  generalize hA : σ 181 = A at *
  refine rt_lt (rt_lt ?_)
  refine rt_w3 (I := fun x i u => (0 ≤ i ∧ i ≤ A 1) ∧ (0 ≤ x ∧ x ≤ i) ∧ cntP (wilB A w) (A 1) i x = cntP (wilB A w) (A 1) 0 0 ∧ (∀ a j, a ≠ 181 → u a j = σ a j) ∧ ∀ k : Nat, u 181 k = if 67 ≤ k ∧ (k : Int) < 67 + i ∧ A k = w ∧ A (k + 28) ≠ 2 then h else A k) (μ := fun x i u => (A 1 - i).toNat) ?_ n _ _ _ ⟨by omega, by omega, rfl, fun _ _ _ => rfl, fun k => by rw [if_neg (by omega), hA]⟩ (by omega)
  rintro x i u ⟨⟨i0, i1⟩, ⟨x0, x1⟩, e1, u1, u2⟩ rc hrc
  have uu1 : u 181 1 = A 1 := by rw [u2, if_neg (by omega)]
  rw [stM, b1_s, uu1]
  refine rt_ite (fun c => ?_) (fun c => ?_)
  · rw [cnt_s c] at e1
    have eo : u 181 (67 + i).toNat = ownA A i := by rw [u2, if_neg (by omega)]; rfl
    have ew : u 181 (95 + i).toNat = whrA A i := by rw [u2, if_neg (by omega)]; rfl
    have e28 : (67 + i).toNat + 28 = (95 + i).toNat := by omega
    rw [wi (x := 67 + i) (by omega) (by omega), wi (x := 95 + i) (by omega) (by omega), eo, ew]
    refine rt_chk (by omega) ?_
    refine rt_c2 (fun y t => y = cond (wilB A w i) (x + 1) x ∧ (∀ a j, a ≠ 181 → t a j = σ a j) ∧ ∀ k : Nat, t 181 k = if 67 ≤ k ∧ (k : Int) < 67 + (i + 1) ∧ A k = w ∧ A (k + 28) ≠ 2 then h else A k) (fun y t ht => ?_) (fun j7 h7 => ?_)
    · obtain ⟨rfl, t1, t2⟩ := ht
      rw [lt_u, wi (by omega) (by omega)]
      refine hrc _ _ _ ⟨by omega, ?_, e1, t1, t2⟩ (by omega)
      cases wilB A w i
      · rw [cond_false]; omega
      · rw [cond_true]; omega
    · have mis : ¬ (ownA A i = w ∧ whrA A i ≠ 2) → Ret (j7 x u) (fun z => z.1 = cntP (wilB A w) (A 1) 0 0 ∧ (∀ a j, a ≠ 181 → z.2 a j = σ a j) ∧ z.2 181 = wilN A w h) := by
        intro q
        refine h7 _ _ ⟨by rw [show wilB A w i = false from decide_eq_false q]; rfl, u1, fun k => ?_⟩
        rw [u2]
        by_cases e : k = (67 + i).toNat
        · rw [if_neg (by omega), if_neg]
          rintro ⟨-, -, z1, z2⟩
          rw [e, e28] at z2
          rw [e] at z1
          exact q ⟨z1, z2⟩
        · by_cases g : 67 ≤ k ∧ (k : Int) < 67 + i ∧ A k = w ∧ A (k + 28) ≠ 2
          · rw [if_pos g, if_pos ⟨g.1, by omega, g.2.2⟩]
          · rw [if_neg g, if_neg (fun z => g ⟨z.1, by omega, z.2.2⟩)]
      refine rt_ite (fun q => ?_) (fun q => mis (fun z => q z.1))
      refine rt_chk (by omega) (rt_ite (fun q2 => mis (fun z => z.2 q2)) (fun q2 => ?_))
      have ht : wilB A w i = true := decide_eq_true ⟨q, q2⟩
      rw [wi (by omega) (by omega)]
      refine rt_chk (by omega) (rt_lt (rt_lt (h7 _ _ ⟨by rw [ht]; rfl, fun a j ha => by rw [sp_nq ha]; exact u1 a j ha, fun k => ?_⟩)))
      rw [sp_at, if_pos rfl]
      by_cases e : k = (67 + i).toNat
      · rw [if_pos e, if_pos]
        refine ⟨by omega, by omega, ?_, ?_⟩
        · rw [e]; exact q
        · rw [e, e28]; exact q2
      · rw [if_neg e, u2]
        by_cases g : 67 ≤ k ∧ (k : Int) < 67 + i ∧ A k = w ∧ A (k + 28) ≠ 2
        · rw [if_pos g, if_pos ⟨g.1, by omega, g.2.2⟩]
        · rw [if_neg g, if_neg (fun z => g ⟨z.1, by omega, z.2.2⟩)]
  · rw [cnt_e (by omega)] at e1
    refine rt_some ⟨e1, u1, ?_⟩
    show u 181 = _
    funext k
    rw [u2, show i = A 1 by omega]
    rfl
theorem op_will : Op_will Inv := by
  intro σ H w h _ _
  have hI := in_I H
  have hW := in_W H
  have hL := in_L H
  have hR := in_R H
  have b1 := hI.2.1
  have H1 := inv_thr (x := 0) H
  by_cases hw : 0 ≤ w ∧ w < σ 181 0
  · by_cases hh : 0 ≤ h ∧ h < σ 181 0
    · by_cases ne : w = h
      · refine ⟨-1, σ, _, ?_, ?_, H1⟩
        · unfold f_W_will
          rw [e_W_isWidow hL, b1_s, decide_eq_true hw, if_neg bn0, e_W_isWidow hL, b1_s, decide_eq_true hh, if_neg bn0, if_pos ne]
        · unfold f_M_will
          rw [lt_u, e_M_isWidow, b1_s, th_A, decide_eq_true hw, if_neg bn0, e_M_isWidow, b1_s, th_A, decide_eq_true hh, if_neg bn0, if_pos ne]
      · obtain ⟨υ, z, h1, h2, ⟨h3, h3'⟩, h4, h5⟩ := keep_go (f := fun υ => f_Row_bequeath NN 11 4 w h υ) (st := fun x => x.2) (R := fun x => x.1 = cntP (wilB (σ 181) w) (σ 181 1) 0 0 ∧ RowR x.2 11 (wilN (σ 181) w h)) H (fun υ uL uR uA => rt_mono (e_Row_bequeath hNN (by decide) hI hW uL uR ne) (fun x hx => ⟨⟨hx.1, hx.2.2⟩, hx.2.1⟩))
        obtain ⟨υ2, z2, g1, g2, g3, g4⟩ := snap_go (n := NN) (τ := sp z.2 179 0 0) (f := fun υ => lt_ 0 fun v5 => lt_ 0 fun v6 => wh3 NN (fun rc7 (x8 : Int) (x9 : Int) (s10 : JSg) => bd1 (f_M_stones s10) fun r11 => if x9 < r11 then (chk (0 ≤ (w32 (67 + x9)) ∧ (w32 (67 + x9)) < 448) <| jn2 (fun (y13 : Int) (s14 : JSg) => lt_ (w32 (x9 + 1)) fun v15 => rc7 y13 v15 s14) fun j12 => if (s10 181 (w32 (67 + x9)).toNat) = w then (chk (0 ≤ (w32 (95 + x9)) ∧ (w32 (95 + x9)) < 448) <| if (s10 181 (w32 (95 + x9)).toNat) = 2 then (j12 x8 s10) else (chk (0 ≤ (w32 (67 + x9)) ∧ (w32 (67 + x9)) < 448) <| lt_ (sp s10 181 (w32 (67 + x9)).toNat h) fun s16 => lt_ (w32 (x8 + 1)) fun v17 => j12 v17 s16)) else (j12 x8 s10)) else (some (x8, s10))) v5 v6 υ) (st := fun x => x.2) (R := fun x => x.1 = cntP (wilB (σ 181) w) (σ 181 1) 0 0) (B := wilN (σ 181) w h) hNN H (th_go h5) (th_K h4) (th_R h3') (wilN_wf hI hW hh) (fun k hk => if_neg (by omega)) (fun υ uA => rt_mono (e_M_will hNN (by rw [uA]; exact hI) ne) (fun x hx => ⟨by rw [hx.1, uA], hx.2.1, by rw [hx.2.2, uA]⟩))
        have eA : sp z.2 179 0 0 181 = σ 181 := th_z h5
        refine ⟨cntP (wilB (σ 181) w) (σ 181 1) 0 0, z.2, z2.2, ?_, ?_, g4⟩
        · unfold f_W_will
          rw [e_W_isWidow hL, b1_s, decide_eq_true hw, if_neg bn0, e_W_isWidow hL, b1_s, decide_eq_true hh, if_neg bn0, if_neg ne, h1, b1_s]
          show (bd2 (f_Row_bequeath NN 11 4 w h υ) _) = _
          rw [show f_Row_bequeath NN 11 4 w h υ = some (z.1, z.2) from h2, b2_s, h3]
        · unfold f_M_will
          rw [lt_u, e_M_isWidow, b1_s, eA, decide_eq_true hw, if_neg bn0, e_M_isWidow, b1_s, eA, decide_eq_true hh, if_neg bn0, if_neg ne, g1, b1_s, ← g3]
          exact g2
    · refine ⟨-1, σ, _, ?_, ?_, H1⟩
      · unfold f_W_will
        rw [e_W_isWidow hL, b1_s, decide_eq_true hw, if_neg bn0, e_W_isWidow hL, b1_s, decide_eq_false hh, if_pos by0]
      · unfold f_M_will
        rw [lt_u, e_M_isWidow, b1_s, th_A, decide_eq_true hw, if_neg bn0, e_M_isWidow, b1_s, th_A, decide_eq_false hh, if_pos by0]
  · refine ⟨-1, σ, _, ?_, ?_, H1⟩
    · unfold f_W_will
      rw [e_W_isWidow hL, b1_s, decide_eq_false hw, if_pos by0]
    · unfold f_M_will
      rw [lt_u, e_M_isWidow, b1_s, th_A, decide_eq_false hw, if_pos by0]
theorem und_cp {σ : JSg} {n : Nat} {Z : Type} {k : JSg → Option Z} {P : Z → Prop} (hn : 1000000 < n) (hm : 0 ≤ σ 179 22 ∧ σ 179 22 < 8) (hk : ∀ τ, (∀ a j, a ≠ 181 → τ a j = σ a j) → τ 181 = ovl (σ 181) (shf (σ 184) (125 * (σ 179 22).toNat)) → Ret (k τ) P) : Ret (wh2 n (fun rc4 (x5 : Int) (s6 : JSg) => if x5 < 125 then (chk (0 ≤ (w32 ((w32 (125 * (s6 179 22))) + x5)) ∧ (w32 ((w32 (125 * (s6 179 22))) + x5)) < 1000) <| chk (0 ≤ (w32 (67 + x5)) ∧ (w32 (67 + x5)) < 448) <| lt_ (sp s6 181 (w32 (67 + x5)).toNat (s6 184 (w32 ((w32 (125 * (s6 179 22))) + x5)).toNat)) fun s7 => lt_ (w32 (x5 + 1)) fun v8 => rc4 v8 s7) else (k s6)) 0 σ) P := by
  refine rt_w2 (I := fun x s => (0 ≤ x ∧ x ≤ 125) ∧ (∀ a j, a ≠ 181 → s a j = σ a j) ∧ ∀ k : Nat, s 181 k = if 67 ≤ k ∧ (k : Int) < 67 + x then σ 184 (125 * (σ 179 22).toNat + (k - 67)) else σ 181 k) (μ := fun x s => (125 - x).toNat) ?_ n 0 σ ⟨by omega, fun _ _ _ => rfl, fun k => by rw [if_neg (by omega)]⟩ (by omega)
  rintro x s ⟨⟨x0, x1⟩, e1, e2⟩ rc hrc
  refine rt_ite (fun h => ?_) (fun h => ?_)
  · rw [e1 179 22 (by decide), wi (x := 67 + x) (by omega) (by omega), wi (x := 125 * σ 179 22) (by omega) (by omega), wi (x := 125 * σ 179 22 + x) (by omega) (by omega), wi (x := x + 1) (by omega) (by omega), e1 184 _ (by decide)]
    refine rt_chk (by omega) (rt_chk (by omega) (rt_lt (rt_lt ?_)))
    refine hrc _ _ ⟨by omega, fun a j ha => by rw [sp_nq ha]; exact e1 a j ha, fun k => ?_⟩ (by omega)
    rw [sp_at, if_pos rfl]
    by_cases c : k = (67 + x).toNat
    · rw [if_pos c, if_pos (by omega)]
      congr 1
      omega
    · rw [if_neg c, e2]
      by_cases g : 67 ≤ k ∧ (k : Int) < 67 + x
      · rw [if_pos g, if_pos (by omega)]
      · rw [if_neg g, if_neg (by omega)]
  · have : x = 125 := by omega
    subst this
    refine hk s e1 ?_
    funext k
    rw [e2]
    by_cases g : 67 ≤ k ∧ (k : Int) < 67 + 125
    · rw [if_pos g, ovl_in (by omega)]; rfl
    · rw [if_neg g, ovl_lo (by omega)]
theorem op_undo : Op_undo Inv := by
  intro σ H
  have hI := in_I H
  have hW := in_W H
  have hL := in_L H
  have b0 := hI.1
  have b1 := hI.2.1
  have H1 := inv_thr (x := 0) H
  obtain ⟨c0, ⟨c1, c2⟩, ⟨c3, c4⟩, c5⟩ := in_P H
  by_cases h0 : σ 179 22 = 0
  · refine ⟨-1, σ, _, ?_, ?_, H1⟩
    · unfold f_W_undo
      rw [c0, if_pos h0]
    · unfold f_M_undo
      rw [lt_u, th_j (by decide), if_pos h0]
  · have g := c5 (σ 179 22 - 1) (by omega) (by omega)
    generalize hB : pasA σ (σ 179 22 - 1) = B at g
    have hp : pasP σ (σ 179 22 - 1) = 123 + 7 * ((σ 0 9 + 7) % 8).toNat := by unfold pasP; rw [c0]; omega
    rw [hp] at g
    have blo : ∀ k : Nat, ¬ (67 ≤ k ∧ k < 192) → B k = σ 181 k := fun k hk => by rw [← hB]; exact ovl_lo hk
    generalize hm : σ 179 22 - 1 = m at hB
    generalize h9 : (σ 0 9 + 7) % 8 = n9 at g
    have hBI : WfI B := WfI_cg (fun k hk _ => blo k (by omega)) hI
    generalize hx : sp (sp σ 0 9 n9) 0 8 m = x
    have xg : ∀ a j, ¬ (a = 0 ∧ (j = 8 ∨ j = 9)) → x a j = σ a j := by
      intro a j h
      rw [← hx, sp_at, sp_at]
      by_cases c : a = 0
      · rw [if_pos c, if_neg (by omega), if_pos c, if_neg (by omega)]
      · rw [if_neg c, if_neg c]
    have x9 : x 0 9 = n9 := by rw [← hx, sp_nj (by decide), sp_eq]
    have x8 : x 0 8 = m := by rw [← hx, sp_eq]
    obtain ⟨y, y1, y2, y3, y4, y5⟩ := e_Row_copy (σ := x) (p := 11) (q := 123 + 7 * n9.toNat) (ip := 4) (iq := 4) (by omega)
    have yR : RowR y 11 B := RowR_cp hBI g.1 y3 y4 y5 (RowR_ag (fun q j hq => xg q j (by omega)) g.2)
    have yg : ∀ a j, ¬ (a = 0 ∧ (j = 8 ∨ j = 9)) → ¬ rowC 11 a j → y a j = σ a j := fun a j h1 h2 => (y2 a j h2).trans (xg a j h1)
    have ya : ∀ a j, ¬ rowC 11 a j → y a j = x a j := fun a j h2 => y2 a j h2
    generalize ht : sp (sp y 179 0 0) 179 22 m = t
    have tg : ∀ a j, ¬ (a = 179 ∧ (j = 0 ∨ j = 22)) → t a j = y a j := by
      intro a j h
      rw [← ht, sp_at, sp_at]
      by_cases c : a = 179
      · rw [if_pos c, if_neg (by omega), if_pos c, if_neg (by omega)]
      · rw [if_neg c, if_neg c]
    have t22 : t 179 22 = m := by rw [← ht, sp_eq]
    have tA : t 181 = σ 181 := funext fun j => (tg _ _ (by omega)).trans (yg _ _ (by omega) (by unfold rowC; omega))
    have t184 : t 184 = σ 184 := funext fun j => (tg _ _ (by omega)).trans (yg _ _ (by omega) (by unfold rowC; omega))
    have hBe : ovl (t 181) (shf (t 184) (125 * (t 179 22).toNat)) = B := by
      rw [tA, t184, t22, ← hB]
      rfl
    obtain ⟨z2, q1, q2, q3, q4⟩ := und_cp (n := NN) (σ := t) (k := fun s => some (s 179 22, s)) (P := fun z => (∀ a j, a ≠ 181 → z.2 a j = t a j) ∧ z.2 181 = B ∧ z.1 = m) hNN (by omega) (fun τ e1 e2 => rt_some ⟨e1, by rw [← hBe]; exact e2, (e1 179 22 (by decide)).trans t22⟩)
    have zg : ∀ a j, ¬ (a = 0 ∧ (j = 8 ∨ j = 9)) → ¬ rowC 11 a j → ¬ (a = 179 ∧ (j = 0 ∨ j = 22)) → a ≠ 181 → z2.2 a j = σ a j := fun a j h1 h2 h3 h4 => ((q2 a j h4).trans (tg a j h3)).trans (yg a j h1 h2)
    have z08 : z2.2 0 8 = m := ((q2 0 8 (by decide)).trans (tg 0 8 (by omega))).trans ((ya 0 8 (by unfold rowC; omega)).trans x8)
    have z09 : z2.2 0 9 = n9 := ((q2 0 9 (by decide)).trans (tg 0 9 (by omega))).trans ((ya 0 9 (by unfold rowC; omega)).trans x9)
    have z22 : z2.2 179 22 = m := (q2 179 22 (by decide)).trans t22
    have z184 : z2.2 184 = σ 184 := funext fun j => zg 184 j (by omega) (by unfold rowC; omega) (by omega) (by decide)
    refine ⟨m, y, z2.2, ?_, ?_, inv_row H (fun a j h => ?_) (by rw [q3]; exact g.1) (by rw [q3]; exact RowR_ag (fun q j hq => (q2 q j (by omega)).trans (tg q j (by omega))) yR) ?_ (LstR_ag (fun q j hq => zg q j (by omega) (by unfold rowC; omega) (by omega) (by omega)) (in_Z H))⟩
    · unfold f_W_undo
      rw [c0, if_neg h0, wi (x := σ 0 9 + 8) (by omega) (by omega), wi (x := σ 0 9 + 8 - 1) (by omega) (by omega), show σ 0 9 + 8 - 1 = σ 0 9 + 7 by omega, rm_p (by omega) (by omega) (by omega) (by omega), h9, lt_u, sp_nj (by decide), c0, wi (by omega) (by omega), hm, hx, lt_u, x9, ck_p (by omega), y1, b1_s, ya 0 8 (by unfold rowC; omega), x8]
    · unfold f_M_undo
      have e22 : sp y 179 0 0 179 22 = σ 179 22 := by rw [sp_nj (by decide)]; exact yg 179 22 (by omega) (by unfold rowC; omega)
      rw [lt_u, e22, if_neg h0, wi (by omega) (by omega), hm, ht, lt_u, lt_u, ← q4]
      exact q1
    · by_cases ha : a = 181
      · subst ha
        unfold rwC at h
        rw [q3]
        exact blo j (by omega)
      · refine zg a j (fun q => h ?_) (fun q => h ?_) (fun q => h ?_) ha
        · unfold rwC; omega
        · unfold rwC; unfold rowC at q; omega
        · unfold rwC scr; omega
    · refine ⟨by rw [z08, z22], by omega, by omega, fun j j0 j1 => ?_⟩
      rw [z22] at j1
      have gj := c5 j j0 (by omega)
      have ej : pasP z2.2 j = pasP σ j := by
        unfold pasP
        rw [z08, z09, c0]
        omega
      have ea : ∀ k : Nat, k ≤ 1 ∨ (67 ≤ k ∧ k < 192) → pasA z2.2 j k = pasA σ j k := by
        intro k hk
        unfold pasA
        by_cases c : 67 ≤ k ∧ k < 192
        · rw [ovl_in c, ovl_in c, z184]
        · rw [ovl_lo c, ovl_lo c, q3]; exact blo k c
      have za : ∀ k : Nat, k ≤ 1 → pasA σ j k = σ 181 k := fun k hk => ovl_lo (by omega)
      have g151 := gj.1.2.1
      rw [za 1 (by omega)] at g151
      rw [ej]
      refine ⟨WfR_cg (by rw [za 1 (by omega)]; omega) ea gj.1, RowR_cg (by rw [za 0 (by omega), za 1 (by omega)]; omega) ea (RowR_ag (fun q i hq => zg q i ?_ ?_ ?_ ?_) gj.2)⟩
      all_goals unfold pasP at hq
      · omega
      · unfold rowC; omega
      · omega
      · omega
