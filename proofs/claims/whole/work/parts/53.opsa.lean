/-! LAYER 3d: the calls that only read -/
section
variable {σ : JSg}
theorem e_W_isPips {a : Int} : f_W_isPips a σ = some (bi (decide (0 ≤ a ∧ a ≤ 6))) := by
  unfold f_W_isPips bi
  by_cases h1 : a < 0
  · rw [if_pos h1, decide_eq_false (by omega)]; rfl
  · rw [if_neg h1]
    by_cases h2 : a < 7
    · rw [if_pos h2, decide_eq_true (by omega)]; rfl
    · rw [if_neg h2, decide_eq_false (by omega)]; rfl
theorem e_W_isEnd {a : Int} : f_W_isEnd a σ = some (bi (decide (0 ≤ a ∧ a ≤ 1))) := by
  unfold f_W_isEnd bi
  rw [j0_s]
  by_cases h1 : a = 0
  · rw [if_pos h1, decide_eq_true (by omega)]; rfl
  · rw [if_neg h1]
    by_cases h2 : a = 1
    · rw [if_pos h2, decide_eq_true (by omega)]; rfl
    · rw [if_neg h2, decide_eq_false (by omega)]; rfl
theorem e_W_isPlace {a : Int} : f_W_isPlace a σ = some (bi (decide (0 ≤ a ∧ a ≤ 1))) := e_W_isEnd (σ := σ)
theorem e_W_isWidow {a : Int} {A : JA} (hL : IslR σ 4 A) : f_W_isWidow a σ = some (bi (decide (0 ≤ a ∧ a < A 0))) := by
  unfold f_W_isWidow bi
  rw [hL.1]
  by_cases h1 : a < 0
  · rw [if_pos h1, decide_eq_false (by omega)]; rfl
  · rw [if_neg h1]
    by_cases h2 : a < A 0
    · rw [if_pos h2, decide_eq_true (by omega)]; rfl
    · rw [if_neg h2, decide_eq_false (by omega)]; rfl
theorem e_W_isStone {a : Int} {A : JA} (hL : IslR σ 4 A) : f_W_isStone a σ = some (bi (decide (0 ≤ a ∧ a < A 1))) := by
  unfold f_W_isStone bi
  rw [hL.2.1]
  by_cases h1 : a < 0
  · rw [if_pos h1, decide_eq_false (by omega)]; rfl
  · rw [if_neg h1]
    by_cases h2 : a < A 1
    · rw [if_pos h2, decide_eq_true (by omega)]; rfl
    · rw [if_neg h2, decide_eq_false (by omega)]; rfl
theorem th_q {x : Int} {q : Nat} (h : q ≠ 179) : sp σ 179 0 x q = σ q := sp_nq h
theorem th_j {x : Int} {j : Nat} (h : j ≠ 0) : sp σ 179 0 x 179 j = σ 179 j := sp_nj h
theorem th_A {x : Int} : sp σ 179 0 x 181 = σ 181 := sp_nq (by decide)
theorem hNN : 1000000 < NN := by decide
end
theorem op_fault : Op_fault Inv := by
  intro σ H
  exact ⟨σ 2 12, sp σ 179 0 0, rfl, by rw [(in_Z H).1]; rfl, inv_thr H⟩
theorem op_first : Op_first Inv := by
  intro σ H
  exact ⟨σ 114 7, sp σ 179 0 0, rfl, by rw [(in_Z H).2.2.2.1]; rfl, inv_thr H⟩
theorem op_fits : Op_fits Inv := by
  intro σ H a b _ _
  have H1 := inv_thr (x := 0) H
  by_cases ha : 0 ≤ a ∧ a ≤ 6
  · by_cases hb : 0 ≤ b ∧ b ≤ 6
    · refine ⟨bi (fitB (σ 181) a b), _, ?_, ?_, H1⟩
      · unfold f_W_fits
        rw [e_W_isPips, b1_s, decide_eq_true ha, if_neg bn0, e_W_isPips, b1_s, decide_eq_true hb, if_neg bn0, e_Isl_fit (in_L H) (by omega) (by omega) (by omega) (by omega), b1_s]
        cases fitB (σ 181) a b <;> rfl
      · unfold f_M_fits
        rw [lt_u, e_M_isIn, b1_s, decide_eq_true ha, if_neg bn0, e_M_isIn, b1_s, decide_eq_true hb, if_neg bn0, e_M_fit (by omega) (by omega) (by omega) (by omega), b1_s, th_A]
        cases fitB (σ 181) a b <;> rfl
    · refine ⟨-1, _, ?_, ?_, H1⟩
      · unfold f_W_fits
        rw [e_W_isPips, b1_s, decide_eq_true ha, if_neg bn0, e_W_isPips, b1_s, decide_eq_false hb, if_pos by0]
      · unfold f_M_fits
        rw [lt_u, e_M_isIn, b1_s, decide_eq_true ha, if_neg bn0, e_M_isIn, b1_s, decide_eq_false hb, if_pos by0]
  · refine ⟨-1, _, ?_, ?_, H1⟩
    · unfold f_W_fits
      rw [e_W_isPips, b1_s, decide_eq_false ha, if_pos by0]
    · unfold f_M_fits
      rw [lt_u, e_M_isIn, b1_s, decide_eq_false ha, if_pos by0]
theorem op_pips : Op_pips Inv := by
  intro σ H e _
  have H1 := inv_thr (x := 0) H
  by_cases he : 0 ≤ e ∧ e ≤ 1
  · refine ⟨outA (σ 181) e, _, ?_, ?_, H1⟩
    · unfold f_W_pips
      rw [e_W_isEnd, b1_s, decide_eq_true he, if_neg bn0, e_Row_outer (in_I H) (in_W H) (in_L H) (in_R H) he.1 he.2, b1_s]
    · unfold f_M_pips
      rw [lt_u, e_M_isIn, b1_s, decide_eq_true he, if_neg bn0, e_M_pipsAt (in_I H1) (in_W H1) he.1 he.2, b1_s, th_A]
  · refine ⟨-1, _, ?_, ?_, H1⟩
    · unfold f_W_pips
      rw [e_W_isEnd, b1_s, decide_eq_false he, if_pos by0]
    · unfold f_M_pips
      rw [lt_u, e_M_isIn, b1_s, decide_eq_false he, if_pos by0]
theorem op_at : Op_at Inv := by
  intro σ H i _
  have H1 := inv_thr (x := 0) H
  have h28 := in_I H
  have hr := in_R H
  unfold Inv at H1
  by_cases h0 : i < 0
  · refine ⟨-1, _, ?_, ?_, H1⟩
    · unfold f_W_at
      rw [if_pos h0]
    · unfold f_M_at
      rw [lt_u, if_pos h0]
  · by_cases h1 : i < σ 181 151
    · have b := wf_rw (in_I H) (in_W H) (by omega) h1
      refine ⟨rwA (σ 181) i / 2, _, ?_, ?_, H1⟩
      · unfold f_W_at
        rw [if_neg h0, hr.1, if_pos h1, ck_p (by omega), (hr.2.2.1 i (by omega) h1).1]
      · unfold f_M_at
        rw [lt_u, if_neg h0, show ∀ s : JSg, f_M_rowMany s = some (s 181 151) from fun _ => rfl, b1_s, th_A, if_pos h1, e_M_rowStone (in_I H1) (in_W H1) (by omega) (by rw [th_A]; exact h1), b1_s, th_A]
    · refine ⟨-1, _, ?_, ?_, H1⟩
      · unfold f_W_at
        rw [if_neg h0, hr.1, if_neg h1]
      · unfold f_M_at
        rw [lt_u, if_neg h0, show ∀ s : JSg, f_M_rowMany s = some (s 181 151) from fun _ => rfl, b1_s, th_A, if_neg h1]
theorem op_why : Op_why Inv := by
  intro σ H w s e _ _ _
  have H1 := inv_thr (x := 0) H
  by_cases hw : 0 ≤ w ∧ w < σ 181 0
  · by_cases hs : 0 ≤ s ∧ s < σ 181 1
    · by_cases he : 0 ≤ e ∧ e ≤ 1
      · refine ⟨whyA (σ 181) w s e, _, ?_, ?_, H1⟩
        · unfold f_W_why
          rw [e_W_isWidow (in_L H), b1_s, decide_eq_true hw, if_neg bn0, e_W_isStone (in_L H), b1_s, decide_eq_true hs, if_neg bn0, e_W_isEnd, b1_s, decide_eq_true he, if_neg bn0, e_Row_refusal (in_I H) (in_W H) (in_L H) (in_R H) hs.1 hs.2 he.1 he.2, b1_s]
        · unfold f_M_why
          rw [lt_u, e_M_isWidow, b1_s, th_A, decide_eq_true hw, if_neg bn0, e_M_isStone, b1_s, th_A, decide_eq_true hs, if_neg bn0, e_M_isEnd, b1_s, decide_eq_true he, if_neg bn0, e_M_whyNot (in_I H1) (in_W H1) hs.1 (by rw [th_A]; exact hs.2) he.1 he.2, b1_s, th_A]
      · refine ⟨-1, _, ?_, ?_, H1⟩
        · unfold f_W_why
          rw [e_W_isWidow (in_L H), b1_s, decide_eq_true hw, if_neg bn0, e_W_isStone (in_L H), b1_s, decide_eq_true hs, if_neg bn0, e_W_isEnd, b1_s, decide_eq_false he, if_pos by0]
        · unfold f_M_why
          rw [lt_u, e_M_isWidow, b1_s, th_A, decide_eq_true hw, if_neg bn0, e_M_isStone, b1_s, th_A, decide_eq_true hs, if_neg bn0, e_M_isEnd, b1_s, decide_eq_false he, if_pos by0]
    · refine ⟨-1, _, ?_, ?_, H1⟩
      · unfold f_W_why
        rw [e_W_isWidow (in_L H), b1_s, decide_eq_true hw, if_neg bn0, e_W_isStone (in_L H), b1_s, decide_eq_false hs, if_pos by0]
      · unfold f_M_why
        rw [lt_u, e_M_isWidow, b1_s, th_A, decide_eq_true hw, if_neg bn0, e_M_isStone, b1_s, th_A, decide_eq_false hs, if_pos by0]
  · refine ⟨-1, _, ?_, ?_, H1⟩
    · unfold f_W_why
      rw [e_W_isWidow (in_L H), b1_s, decide_eq_false hw, if_pos by0]
    · unfold f_M_why
      rw [lt_u, e_M_isWidow, b1_s, th_A, decide_eq_false hw, if_pos by0]
theorem op_longAt : Op_longAt Inv := by
  intro σ H i _
  have H1 := inv_thr (x := 0) H
  have z := (in_Z H).2.1
  have hi : 0 ≤ i → i < σ 179 28 → σ 106 i.toNat = σ 191 i.toNat := fun h0 h1 => z.2.2 i h0 h1
  refine ⟨if 0 ≤ i ∧ i < σ 179 28 then σ 191 i.toNat else -1, _, ?_, ?_, H1⟩
  · unfold f_W_longAt
    rw [z.1]
    by_cases h0 : i < 0
    · rw [if_pos h0, if_neg (by omega)]
    · by_cases h1 : i < σ 179 28
      · rw [if_neg h0, if_pos h1, ck_p (by omega), if_pos (by omega), hi (by omega) h1]
      · rw [if_neg h0, if_neg h1, if_neg (by omega)]
  · unfold f_M_longAt
    rw [lt_u, th_j (by decide), th_q (by decide)]
    by_cases h0 : i < 0
    · rw [if_pos h0, if_neg (by omega)]
    · by_cases h1 : i < σ 179 28
      · rw [if_neg h0, if_pos h1, ck_p (by omega), if_pos (by omega)]
      · rw [if_neg h0, if_neg h1, if_neg (by omega)]
theorem op_allAt : Op_allAt Inv := by
  intro σ H i _
  have H1 := inv_thr (x := 0) H
  have z := (in_Z H).2.2.1
  have hi : 0 ≤ i → i < σ 179 32 → σ 113 i.toNat = σ 194 i.toNat := fun h0 h1 => z.2.2 i h0 h1
  refine ⟨if 0 ≤ i ∧ i < σ 179 32 then σ 194 i.toNat else -1, _, ?_, ?_, H1⟩
  · unfold f_W_allAt
    rw [z.1]
    by_cases h0 : i < 0
    · rw [if_pos h0, if_neg (by omega)]
    · by_cases h1 : i < σ 179 32
      · rw [if_neg h0, if_pos h1, ck_p (by omega), if_pos (by omega), hi (by omega) h1]
      · rw [if_neg h0, if_neg h1, if_neg (by omega)]
  · unfold f_M_allAt
    rw [lt_u, th_j (by decide), th_q (by decide)]
    by_cases h0 : i < 0
    · rw [if_pos h0, if_neg (by omega)]
    · by_cases h1 : i < σ 179 32
      · rw [if_neg h0, if_pos h1, ck_p (by omega), if_pos (by omega)]
      · rw [if_neg h0, if_neg h1, if_neg (by omega)]
theorem op_byteAt : Op_byteAt Inv := by
  intro σ H i _
  have H1 := inv_thr (x := 0) H
  have z := (in_Z H).2.2.2.2.2
  have hi : 0 ≤ i → i < σ 179 39 → an32 (σ 122 i.toNat) 255 = σ 196 i.toNat := fun h0 h1 => z.2.2 i h0 h1
  refine ⟨if 0 ≤ i ∧ i < σ 179 39 then σ 196 i.toNat else -1, _, ?_, ?_, H1⟩
  · unfold f_W_byteAt
    rw [z.1]
    by_cases h0 : i < 0
    · rw [if_pos h0, if_neg (by omega)]
    · by_cases h1 : i < σ 179 39
      · rw [if_neg h0, if_pos h1, ck_p (by omega), if_pos (by omega), hi (by omega) h1]
      · rw [if_neg h0, if_neg h1, if_neg (by omega)]
  · unfold f_M_byteAt
    rw [lt_u, th_j (by decide), th_q (by decide)]
    by_cases h0 : i < 0
    · rw [if_pos h0, if_neg (by omega)]
    · by_cases h1 : i < σ 179 39
      · rw [if_neg h0, if_pos h1, ck_p (by omega), if_pos (by omega)]
      · rw [if_neg h0, if_neg h1, if_neg (by omega)]
theorem sw_3 {Z : Type} {x : Int} {a b c d : Option Z} : sw_ x 0 [a, b, c] d = if x = 0 then a else if x = 1 then b else if x = 2 then c else d := by
  unfold sw_
  by_cases h : x < 0
  · rw [if_pos h, if_neg (by omega), if_neg (by omega), if_neg (by omega)]
  · rw [if_neg h, Int.sub_zero]
    obtain ⟨k, rfl⟩ : ∃ k : Nat, x = k := ⟨x.toNat, by omega⟩
    rw [Int.toNat_natCast]
    match k with
    | 0 => rfl
    | 1 => rfl
    | 2 => rfl
    | k + 3 => rw [if_neg (by omega), if_neg (by omega), if_neg (by omega)]; rfl
theorem op_drawn : Op_drawn Inv := by
  intro σ H a _
  have H1 := inv_thr (x := 0) H
  have z := (in_Z H).2.2.2.2.1
  refine ⟨if a = 0 then σ 201 0 else if a = 1 then σ 201 1 else if a = 2 then σ 201 2 else -1, _, ?_, ?_, H1⟩
  · unfold f_W_drawn
    rcases z with ⟨h0, h1, h2, h3⟩ | ⟨h0, h1, h2, h3⟩
    · rw [if_pos h0, h1, h2, h3]
      split
      · rfl
      · split
        · rfl
        · split <;> rfl
    · rw [if_neg h0, sw_3, h1, h2, h3]
      split
      · rfl
      · split
        · rfl
        · split <;> rfl
  · unfold f_M_drawn
    rw [lt_u, e_M_isIn, b1_s, th_q (by decide)]
    by_cases h : 0 ≤ a ∧ a ≤ 2
    · rw [decide_eq_true h, if_neg bn0, ck_p (by omega)]
      have : a = 0 ∨ a = 1 ∨ a = 2 := by omega
      rcases this with rfl | rfl | rfl <;> rfl
    · rw [decide_eq_false h, if_pos by0, if_neg (by omega), if_neg (by omega), if_neg (by omega)]
