/-! LAYER 3zap: the shortest ROUND: the class's search -/
section
variable {A : JA} {h : List Int} {s t σ : JSg} {n : Nat} {x y : Stt}
theorem e_behind {c d : Nat} {gs : Int → Int → Int → Int → JSg → Option (Int × JSg)} {gb : Int → Int → Int → Int → Int → JSg → Option (Int × JSg)} (hI : WfI A) (hW : WfR A) (hh : H10 A h) (hB : RB A h s) (hx : rdy A h x) (hc : c < 2 * h.length) (hb : x.1.testBit (c / 2) = false) (hd : d < 20) : f_Rnd_searchBehind_s n gs gb (x.1 : Int) (wl A x.2.1 : Int) (wr A x.2.2 : Int) (d : Int) (c : Int) s = match mv A h x c with
    | none => some (0, s)
    | some y => bd2 (gs (y.1 : Int) (wl A y.2.1 : Int) (wr A y.2.2 : Int) ((d + 1 : Nat) : Int) s) fun r t => chk (r = 0 ∨ r = 1) <| some (r, t) := by
  have h10 := hh.1
  obtain ⟨-, c2, c3, c4, c5⟩ := cdM_lt h10 hx
  obtain ⟨x1, x2, x3, x4⟩ := hx
  obtain ⟨U, l, r⟩ := x
  dsimp only at *
  have hi : c / 2 < h.length := by omega
  have ie := ins_e (U := U) (i := c / 2) (by omega) (by omega)
  have wd : w32 ((d : Int) + 1) = ((d + 1 : Nat) : Int) := by rw [wi (by omega) (by omega)]; push_cast; rfl
  have wc : w32 (2 * ((c / 2 : Nat) : Int)) = ((2 * (c / 2) : Nat) : Int) := by rw [wi (by omega) (by omega)]; push_cast; rfl
  have wc1 : w32 (((2 * (c / 2) : Nat) : Int) + 1) = ((2 * (c / 2) + 1 : Nat) : Int) := by rw [wi (by omega) (by omega)]; push_cast; rfl
  unfold f_Rnd_searchBehind_s mv
  dsimp only
  rw [sr1_n (by omega), an1_n (by omega), lt_u, lt_u, ie, wd, wc, wc1, hb, if_neg (show ¬ (false = true) by decide)]
  by_cases w : wl A l = 22
  · have la : l = 20 ∧ A 151 = 0 := by
      unfold wl at w
      by_cases q : l = 20
      · rw [if_pos q] at w
        by_cases q2 : A 151 = 0
        · exact ⟨q, q2⟩
        · rw [if_neg q2] at w; omega
      · rw [if_neg q] at w; omega
    obtain ⟨z1, z2⟩ := x4 la.2
    have u0 := z1.mpr la.1
    have r20 := z2.mp u0
    rw [if_pos (show (wl A l : Int) = 22 by omega)]
    have e1 : ly A h (c / 2) (if c % 2 = 0 then l else r) (c % 2) = some (2 * (c / 2)) := by
      unfold ly
      rw [show (if c % 2 = 0 then l else r) = 20 by split; exact la.1; exact r20]
      unfold eP outA
      rw [if_pos rfl, if_pos la.2, if_pos rfl]
    rw [e1]
    dsimp only
    have c0 : A 151 = 0 ∧ U = 0 := ⟨la.2, u0⟩
    rw [if_pos (Or.inr c0), if_pos (Or.inr c0)]
    have e2 : wl A (2 * (c / 2)) = 2 * (c / 2) := by unfold wl; rw [if_neg (by omega)]
    have e3 : wr A (2 * (c / 2)) = 2 * (c / 2) + 1 := by unfold wr; rw [if_neg (by omega), if_pos (by omega)]
    rw [e2, e3]
  · rw [if_neg (show ¬ (wl A l : Int) = 22 by omega)]
    have nn : ¬ (A 151 = 0 ∧ U = 0) := by
      rintro ⟨q1, q2⟩
      have := (x4 q1).1.mp q2
      apply w
      unfold wl
      rw [if_pos this, if_pos q1]
    have wr22 : wr A r ≠ 22 := by
      intro q
      unfold wr at q
      by_cases q1 : r = 20
      · rw [if_pos q1] at q
        by_cases q2 : A 151 = 0
        · exact nn ⟨q2, (x4 q2).2.mpr q1⟩
        · rw [if_neg q2] at q; omega
      · rw [if_neg q1] at q
        split at q <;> omega
    have nel : eP A h l 0 ≠ -1 := by
      intro q
      unfold eP at q
      by_cases q1 : l = 20
      · rw [if_pos q1] at q
        by_cases q2 : A 151 = 0
        · exact nn ⟨q2, (x4 q2).1.mpr q1⟩
        · have := outA_in hI hW q2 (e := ((0 : Nat) : Int)) (by omega) (by omega)
          omega
      · rw [if_neg q1] at q; omega
    have ner : eP A h r 1 ≠ -1 := by
      intro q
      unfold eP at q
      by_cases q1 : r = 20
      · rw [if_pos q1] at q
        by_cases q2 : A 151 = 0
        · exact nn ⟨q2, (x4 q2).2.mpr q1⟩
        · have := outA_in hI hW q2 (e := ((1 : Nat) : Int)) (by omega) (by omega)
          omega
      · rw [if_neg q1] at q; omega
    obtain ⟨o1, o2, o3⟩ := out_l hh hB x2 w
    obtain ⟨p1, p2, p3⟩ := out_r hh hB x3 wr22
    have L := e_laidOn hI hh hB hi o3 o1 o2 (by have := eP_in hI hW hh x2 (show 0 < 2 by decide); omega)
    have R := e_laidOn hI hh hB hi p3 p1 p2 (by have := eP_in hI hW hh x3 (show 1 < 2 by decide); omega)
    rw [j1_s]
    by_cases g : c % 2 = 0
    · rw [if_pos (show ((c % 2 : Nat) : Int) = 0 by omega)]
      dsimp only
      rw [L, b1_s, lt_u]
      simp only [if_pos (show ((c % 2 : Nat) : Int) = 0 by omega), if_pos g]
      rw [g]
      rcases ly_W (A := A) (h := h) hi nel with ⟨k1, k2⟩ | ⟨e, k1, k2, k3⟩
      · rw [k1, k2, if_pos rfl]
      · rw [k1, k3, if_neg (show ¬ (0 : Nat) = 1 by decide), if_neg (show ¬ (e : Int) = -1 by omega)]
        dsimp only
        rw [if_pos (Or.inl rfl), if_neg (fun q => by rcases q with q | q; exact absurd q (by decide); exact nn q)]
        have e2 : wl A e = e := by unfold wl; rw [if_neg (by omega)]
        rw [e2]
    · have g1 : c % 2 = 1 := by omega
      rw [if_neg (show ¬ ((c % 2 : Nat) : Int) = 0 by omega)]
      dsimp only
      rw [R, b1_s, lt_u]
      simp only [if_neg (show ¬ ((c % 2 : Nat) : Int) = 0 by omega), if_neg g]
      rw [g1]
      rcases ly_W (A := A) (h := h) hi ner with ⟨k1, k2⟩ | ⟨e, k1, k2, k3⟩
      · rw [k1, k2, if_pos rfl]
      · have e3 : (if e % 2 = 0 then (e : Int) + 1 else (e : Int) - 1) = ((wr A e : Nat) : Int) := by
          unfold wr
          rw [if_neg (show ¬ e = 20 by omega)]
          by_cases q : e % 2 = 0
          · rw [if_pos q, if_pos q]; omega
          · rw [if_neg q, if_neg q]; omega
        rw [k1, k3, if_pos rfl, e3, if_neg (show ¬ ((wr A e : Nat) : Int) = -1 by omega)]
        dsimp only
        rw [if_neg (fun q => by rcases q with q | q; exact absurd q (by decide); exact nn q), if_pos (Or.inl rfl)]
def En (A : JA) (s : JSg) (x : Stt) : Prop := b64 (s 103 (cdW A x / 64)) (cdW A x % 64) = true
theorem e_enter {q : Nat} (hq : q < 2097152) : (b64 (s 103 (q / 64)) (q % 64) = true ∧ f_Rnd_enter (q : Int) s = some (0, s)) ∨ (b64 (s 103 (q / 64)) (q % 64) = false ∧ f_Rnd_enter (q : Int) s = some (1, sp s 103 (q / 64) (or64 (s 103 (q / 64)) (sl64 1 ((q % 64 : Nat) : Int))))) := by
  unfold f_Rnd_enter
  have e1 : sr32 (q : Int) 6 = ((q / 64 : Nat) : Int) := by
    have := sr_n (a := q) (k := 6) (by omega) (by omega)
    rw [Nat.shiftRight_eq_div_pow] at this
    exact this
  have e2 : an32 (q : Int) 63 = ((q % 64 : Nat) : Int) := by
    have := an_n (a := q) (b := 63) (by omega)
    rw [show (63 : Nat) = 2 ^ 6 - 1 from rfl, Nat.and_two_pow_sub_one_eq_mod] at this
    exact this
  rw [e1, e2, lt_u, lt_u, if_neg (show ¬ ((q / 64 : Nat) : Int) < 0 by omega), if_pos (show ((q / 64 : Nat) : Int) < 32768 by omega), ck_p (by omega), Int.toNat_natCast]
  cases b : b64 (s 103 (q / 64)) (q % 64)
  · right
    rw [if_pos ((b64_tst (by omega)).mpr b), ck_p (by omega), ck_p (by omega)]
    exact ⟨rfl, rfl⟩
  · left
    rw [if_neg (fun z => by rw [(b64_tst (by omega)).mp z] at b; cases b)]
    exact ⟨rfl, rfl⟩
theorem en_put {q : Nat} : b64 (sp s 103 (q / 64) (or64 (s 103 (q / 64)) (sl64 1 ((q % 64 : Nat) : Int))) 103 (cdW A y / 64)) (cdW A y % 64) = true ↔ En A s y ∨ cdW A y = q := by
  unfold En
  by_cases e : cdW A y / 64 = q / 64
  · rw [e, sp_eq, b64_set (by omega), Bool.or_eq_true, decide_eq_true_iff]
    constructor
    · rintro (g | g)
      · exact Or.inl g
      · exact Or.inr (by omega)
    · rintro (g | g)
      · exact Or.inl g
      · exact Or.inr (by omega)
  · rw [sp_nj e]
    constructor
    · exact Or.inl
    · rintro (g | g)
      · exact g
      · exact absurd (by rw [g]) e
end
