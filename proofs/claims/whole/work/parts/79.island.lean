/-! LAYER 3zd: a LINE of an ISLAND -/
section
theorem sw_o {Z : Type} {x : Int} {a b c d e f : Option Z} (h : x < 1 ∨ 5 < x) : sw_ x 1 [a, b, c, d, e] f = f := by
  unfold sw_
  by_cases g : x < 1
  · rw [if_pos g]
  · rw [if_neg g, List.getElem?_eq_none (by simp only [List.length_cons, List.length_nil]; omega)]
    rfl
theorem b2_wl {S Z : Type} {A : Option (Int × S)} {B : S → Option (Int × S)} {K0 K : S → Option Z} : bd2 A (fun r s => if r = 0 then K0 s else bd2 (B s) fun r s => if r = 0 then K0 s else K s) = bd2 (bd2 A fun r s => if r = 0 then some ((0 : Int), s) else bd2 (B s) fun r s => if r = 0 then some ((0 : Int), s) else some ((1 : Int), s)) (fun r s => if r = 0 then K0 s else K s) := by
  cases A with
  | none => rfl
  | some z =>
    obtain ⟨r, s⟩ := z
    rw [b2_s, b2_s]
    by_cases h : r = 0
    · rw [if_pos h, if_pos h, b2_s, if_pos rfl]
    · rw [if_neg h, if_neg h]
      cases B s with
      | none => rfl
      | some y =>
        obtain ⟨q, t⟩ := y
        rw [b2_s, b2_s]
        by_cases g : q = 0
        · rw [if_pos g, if_pos g, b2_s, if_pos rfl]
        · rw [if_neg g, if_neg g, b2_s, if_neg (by decide)]
variable {σ τ : JSg} {n p : Nat} {c : JA} {size lim q : Int}
def LnQ (c : JA) (size lim : Int) (σ τ : JSg) (nx : Int) (z y : Int × JSg) : Prop := Agr wrC σ z.2 ∧ Agr mrC τ y.2 ∧ ((z.1 = 0 ∧ y.1 = 0 ∧ FR z.2 y.2) ∨ (z.1 = 1 ∧ y.1 = 1 ∧ σ 2 6 ≠ 0 ∧ IslP z.2 y.2 ∧ ∃ p', TR c size lim p' z.2 y.2 ∧ nx < p'))
theorem s_semi (hn : 1000000 < n) {s t : JSg} {p' nx : Int} (ws : Agr wrC σ s) (mt : Agr mrC τ t) (h : TR c size lim p' s t) (hP : IslP s t) (hx : nx ≤ p') (hk : σ 2 6 ≠ 0) : Sm (f_Tok_passes n 59 s) (f_M_readEnd n t) (LnQ c size lim σ τ nx) := by
  unfold f_Tok_passes f_M_readEnd
  have sg := tr_sign h (a := 59)
  rw [sg.1, sg.2, b1_s, b1_s]
  by_cases g : s 2 4 = 5 ∧ s 2 9 = 59
  · rw [decide_eq_true g, if_neg bn0, if_neg bn0]
    have nx1 := tr_nx h
    have lt := nx1.2.2.2.1 (by omega) (by omega)
    refine sm_b11 (tr_step hn h) (fun s6 t6 h6 => sm_some ⟨wr_t ws h6.2.1, mr_t mt h6.2.2, Or.inr ⟨rfl, rfl, hk, IslP_ag hP (fun a j q => h6.2.1 a j (by unfold wtkC; omega)) (fun a j q => h6.2.2 a j (by unfold mtkC; omega)), s 2 3, h6.1, by omega⟩⟩)
  · rw [decide_eq_false g, if_pos by0, if_pos by0]
    obtain ⟨s', t', f1, f2, f3, f4, f5⟩ := tr_fail h (k := 1) (Or.inl rfl)
    rw [f1, f2, b2_s, b2_s, ck_p (Or.inl rfl), ck_p (Or.inl rfl)]
    exact sm_some ⟨wr_f ws f4, mr_f mt f5, Or.inl ⟨rfl, rfl, f3⟩⟩
theorem s_line (hn : 1000000 < n) (h : TR c size lim q σ τ) (hP : IslP σ τ) : Sm (bd2 (f_Isl_readLine n 27 σ) fun r s => if r = 0 then some ((0 : Int), s) else bd2 (f_Tok_passes n 59 s) fun r s => if r = 0 then some ((0 : Int), s) else some ((1 : Int), s)) (f_M_readLine n τ) (LnQ c size lim σ τ (σ 2 3)) := by
  have tail : ∀ z y : Int × JSg, σ 2 6 ≠ 0 → LnP c size lim σ τ (σ 2 3) z y → Sm (if z.1 = 0 then some ((0 : Int), z.2) else bd2 (f_Tok_passes n 59 z.2) fun r s => if r = 0 then some ((0 : Int), s) else some ((1 : Int), s)) (if y.1 = 0 then some ((0 : Int), y.2) else bd2 (f_M_readEnd n y.2) fun r s => if r = 0 then some ((0 : Int), s) else some ((1 : Int), s)) (LnQ c size lim σ τ (σ 2 3)) := by
    rintro ⟨z0, zs⟩ ⟨y0, ys⟩ hk ⟨a1, a2, a3⟩
    rcases a3 with ⟨b1, b2, b3⟩ | ⟨b1, b2, b3, p', b4, b5⟩
    · have b1 : z0 = 0 := b1
      have b2 : y0 = 0 := b2
      subst b1 b2
      rw [if_pos rfl, if_pos rfl]
      exact sm_some ⟨a1, a2, Or.inl ⟨rfl, rfl, b3⟩⟩
    · have b1 : z0 = 1 := b1
      have b2 : y0 = 1 := b2
      subst b1 b2
      rw [if_neg (show ¬ (1 : Int) = 0 by decide), if_neg (show ¬ (1 : Int) = 0 by decide)]
      refine sm_b22 (s_semi hn a1 a2 b4 b3 b5 hk) ?_
      rintro r s r' t ⟨c1, c2, c3⟩
      rcases c3 with ⟨d1, d2, d3⟩ | ⟨d1, d2, d3, d4⟩
      · have d1 : r = 0 := d1
        have d2 : r' = 0 := d2
        rw [if_pos d1, if_pos d2]
        exact sm_some ⟨c1, c2, Or.inl ⟨rfl, rfl, d3⟩⟩
      · have d1 : r = 1 := d1
        have d2 : r' = 1 := d2
        rw [if_neg (by omega), if_neg (by omega)]
        exact sm_some ⟨c1, c2, Or.inr ⟨rfl, rfl, d3, d4⟩⟩
  have rz : ∀ z y : Int × JSg, LnP c size lim σ τ (σ 2 3) z y → z.1 = 0 ∨ z.1 = 1 := by
    rintro z y ⟨a1, a2, a3⟩
    rcases a3 with ⟨b1, b2, b3⟩ | ⟨b1, b2, b3⟩
    · exact Or.inl b1
    · exact Or.inr b1
  have kd : σ 2 6 ≠ 0 → τ 179 7 ≠ 1 := by
    intro g
    rcases tr_kd h with ⟨h1, h2, h3⟩ | ⟨h1, h2, h3⟩ | ⟨h1, h2, h3, h4⟩ | ⟨h1, h2, h3, h4⟩ | ⟨h1, h2, h3, h4⟩ <;> omega
  have w0 : f_M_isWord 0 τ = some (bi (decide (σ 2 6 = 1))) := tr_word h (k := 0) (by decide)
  have w1 : f_M_isWord 1 τ = some (bi (decide (σ 2 6 = 2))) := tr_word h (k := 1) (by decide)
  have w2 : f_M_isWord 2 τ = some (bi (decide (σ 2 6 = 3))) := tr_word h (k := 2) (by decide)
  have w3 : f_M_isWord 3 τ = some (bi (decide (σ 2 6 = 4))) := tr_word h (k := 3) (by decide)
  have w4 : f_M_isWord 4 τ = some (bi (decide (σ 2 6 = 5))) := tr_word h (k := 4) (by decide)
  unfold f_Isl_readLine f_M_readLine
  simp only [j2_s, lt_u]
  rw [w0, b1_s]
  by_cases k1 : σ 2 6 = 1
  · rw [decide_eq_true k1, if_neg bn0, k1]
    obtain ⟨⟨z0, zs⟩, ⟨y0, ys⟩, e1, e2, e3⟩ := s_readWidow hn h hP (kd (by omega))
    rw [show ∀ (Z : Type) (a b c d e f : Option Z), sw_ 1 1 [a, b, c, d, e] f = a from fun _ _ _ _ _ _ _ => rfl, e1, e2, b2_s, b2_s, ck_p (rz _ _ e3), b2_s]
    exact tail _ _ (by omega) e3
  · rw [decide_eq_false k1, if_pos by0, w1, b1_s]
    by_cases k2 : σ 2 6 = 2
    · rw [decide_eq_true k2, if_neg bn0, k2]
      obtain ⟨⟨z0, zs⟩, ⟨y0, ys⟩, e1, e2, e3⟩ := s_readStone hn h hP (kd (by omega))
      rw [show ∀ (Z : Type) (a b c d e f : Option Z), sw_ 2 1 [a, b, c, d, e] f = b from fun _ _ _ _ _ _ _ => rfl, e1, e2, b2_s, b2_s, ck_p (rz _ _ e3), b2_s]
      exact tail _ _ (by omega) e3
    · rw [decide_eq_false k2, if_pos by0, w2, b1_s]
      by_cases k3 : σ 2 6 = 3
      · rw [decide_eq_true k3, if_neg bn0, k3]
        obtain ⟨⟨z0, zs⟩, ⟨y0, ys⟩, e1, e2, e3⟩ := s_readForgive hn h hP
        rw [show ∀ (Z : Type) (a b c d e f : Option Z), sw_ 3 1 [a, b, c, d, e] f = c from fun _ _ _ _ _ _ _ => rfl, e1, e2, b2_s, b2_s, ck_p (rz _ _ e3), b2_s]
        exact tail _ _ (by omega) e3
      · rw [decide_eq_false k3, if_pos by0, w3, b1_s]
        by_cases k4 : σ 2 6 = 4
        · rw [decide_eq_true k4, if_neg bn0, k4]
          obtain ⟨⟨z0, zs⟩, ⟨y0, ys⟩, e1, e2, e3⟩ := s_readQuarrel hn h hP
          rw [show ∀ (Z : Type) (a b c d e f : Option Z), sw_ 4 1 [a, b, c, d, e] f = d from fun _ _ _ _ _ _ _ => rfl, e1, e2, b2_s, b2_s, ck_p (rz _ _ e3), b2_s]
          exact tail _ _ (by omega) e3
        · rw [decide_eq_false k4, if_pos by0, w4, b1_s]
          by_cases k5 : σ 2 6 = 5
          · rw [decide_eq_true k5, if_neg bn0, k5]
            obtain ⟨⟨z0, zs⟩, ⟨y0, ys⟩, e1, e2, e3⟩ := s_readPawn hn h hP (kd (by omega))
            rw [show ∀ (Z : Type) (a b c d e f : Option Z), sw_ 5 1 [a, b, c, d, e] f = e from fun _ _ _ _ _ _ _ => rfl, e1, e2, b2_s, b2_s, ck_p (rz _ _ e3), b2_s]
            exact tail _ _ (by omega) e3
          · rw [decide_eq_false k5, if_pos by0, sw_o (by omega)]
            obtain ⟨s', t', f1, f2, f3, f4, f5⟩ := tr_fail h (k := 1) (Or.inl rfl)
            rw [f1, f2, b2_s, b2_s, ck_p (Or.inl rfl), b2_s, if_pos rfl, if_pos rfl]
            exact sm_some ⟨wr_f ag_refl f4, mr_f ag_refl f5, Or.inl ⟨rfl, rfl, f3⟩⟩
end
