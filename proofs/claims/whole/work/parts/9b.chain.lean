/-! LAYER 3zz: the reference's longest -/
section
variable {A : JA} {h : List Int} {st : Nat} {σ s t : JSg} {n : Nat}
/-- places of the reference's hand -/
def MhB (A : JA) (h : List Int) (s : JSg) : Prop := s 181 = A ∧ ∀ j, j < h.length → s 189 j = h.getD j 0
theorem MhB_ag (hB : MhB A h s) (g : ∀ a j, a = 181 ∨ a = 189 → t a j = s a j) : MhB A h t := by
  refine ⟨(funext fun j => g 181 j (Or.inl rfl)).trans hB.1, fun j hj => by rw [g _ _ (Or.inr rfl)]; exact hB.2 j hj⟩
theorem m_pip (hI : WfI A) (hh : Hnd A h) (hB : MhB A h s) {i d : Nat} (hi : i < h.length) (hd : d < 2) : f_M_pip (s 189 i) (d : Int) s = some ((pN A h i d : Nat) : Int) := by
  have x := pN_lt hI hh hi hd
  have g := hh.2 i hi
  have b28 := hI.2.1
  rw [hB.2 i hi, e_M_pip g.1 (by omega) (by omega) (by omega), hB.1, x.2]
theorem m_fit {x y : Nat} (hB : MhB A h s) (hx : x < 7) (hy : y < 7) : f_M_fit (x : Int) (y : Int) s = some (bi (okp A x y)) := by
  rw [e_M_fit (by omega) (by omega) (by omega) (by omega), hB.1]
  unfold okp
  rw [decide_eq_false (by omega), Bool.false_or]
def isBst (A : JA) (h : List Int) (W p b : Nat) (F : Nat → Nat → Prop) : Prop := (b = 0 ∨ ∃ k i d, b = k + 1 ∧ edg A h W p i d ∧ isLg A h (ins W i) (pN A h i (1 - d)) k) ∧ ∀ i d v, F i d → edg A h W p i d → isLg A h (ins W i) (pN A h i (1 - d)) v → v < b
theorem bst_end {W p b : Nat} {F : Nat → Nat → Prop} (hb : isBst A h W p b F) (hF : ∀ i d, i < h.length → d < 2 → F i d) (ex : ∀ i d, edg A h W p i d → ∃ v, isLg A h (ins W i) (pN A h i (1 - d)) v) : isLg A h W p b := by
  constructor
  · rcases hb.1 with e | ⟨k, i, d, e1, e2, e3⟩
    · rw [e]; trivial
    · rw [e1]; exact ⟨i, d, e2, e3.1⟩
  · rintro ⟨i, d, e, c⟩
    obtain ⟨v, hv⟩ := ex i d e
    have := hb.2 i d v (hF i d e.1 e.2.1) e hv
    exact hv.2 (can_mo (b - (v + 1)) (by rw [show v + 1 + (b - (v + 1)) = b by omega]; exact c))
theorem bst_skip {W p b i d : Nat} {F G : Nat → Nat → Prop} (hb : isBst A h W p b F) (hG : ∀ i' d', G i' d' → F i' d' ∨ (i' = i ∧ d' = d)) (ne : ¬ edg A h W p i d) : isBst A h W p b G := by
  refine ⟨hb.1, fun i' d' v g e hv => ?_⟩
  rcases hG i' d' g with q | ⟨rfl, rfl⟩
  · exact hb.2 i' d' v q e hv
  · exact absurd e ne
theorem bst_put {W p b i d k : Nat} {F G : Nat → Nat → Prop} (hb : isBst A h W p b F) (hG : ∀ i' d', G i' d' → F i' d' ∨ (i' = i ∧ d' = d)) (e : edg A h W p i d) (hk : isLg A h (ins W i) (pN A h i (1 - d)) k) : isBst A h W p (max b (k + 1)) G := by
  refine ⟨?_, fun i' d' v g e' hv => ?_⟩
  · by_cases c : b ≤ k + 1
    · rw [Nat.max_eq_right c]
      exact Or.inr ⟨k, i, d, rfl, e, hk⟩
    · rw [Nat.max_eq_left (by omega)]
      exact hb.1
  · rcases hG i' d' g with q | ⟨rfl, rfl⟩
    · have := hb.2 i' d' v q e' hv
      omega
    · have := isLg_u hv hk
      omega
def MorP (A : JA) (h : List Int) (t : JSg) (V p : Nat) : Prop := ∃ v : Nat, t 190 (7 * V + p) = v ∧ isLg A h V p v
theorem lg_12 (hh : Hnd A h) {U p v : Nat} (g : isLg A h U p v) : v ≤ 12 := by
  have := can_fit _ _ _ g.1
  have := hh.1
  omega
theorem e_layLongest (hn : 1000000 < n) (hI : WfI A) (hh : Hnd A h) (hB : MhB A h s) : Ret (f_M_layLongest n ((h.length : Nat) : Int) s) (fun t => Agr (fun a _ => a = 190) s t ∧ ∀ V p, V < 2 ^ h.length → p < 7 → MorP A h t V p) := by
  have l12 := hh.1
  have p12 := pw12 l12
  have p0 := Nat.two_pow_pos h.length
  unfold f_M_layLongest
  rw [full_e (by omega), wi (by omega) (by omega)]
  generalize hN : 2 ^ h.length = N at *
  refine rt_lt ?_
  refine rt_w2 (I := fun (x : Int) (u : JSg) => ∃ U : Nat, x = (U : Int) - 1 ∧ U ≤ N ∧ Agr (fun a _ => a = 190) s u ∧ ∀ V p, U ≤ V → V < N → p < 7 → MorP A h u V p) (μ := fun (x : Int) (u : JSg) => (x + 1).toNat) ?_ n _ _ ⟨N, rfl, by omega, ag_refl, fun V p h1 h2 => by omega⟩ (by omega)
  rintro x u ⟨U, rfl, hU, ua, uu⟩ rc hrc
  refine rt_ite (fun g => ?_) (fun g => ?_)
  · exact rt_some ⟨ua, fun V p hV => uu V p (by omega) hV⟩
  · obtain ⟨W, rfl⟩ : ∃ W, U = W + 1 := ⟨U - 1, by omega⟩
    rw [show ((W + 1 : Nat) : Int) - 1 = (W : Int) by omega]
    refine rt_lt ?_
    refine rt_w2 (I := fun (y : Int) (v : JSg) => ∃ p : Nat, y = p ∧ p ≤ 7 ∧ Agr (fun a _ => a = 190) s v ∧ (∀ V q, W + 1 ≤ V → V < N → q < 7 → MorP A h v V q) ∧ ∀ q, q < p → MorP A h v W q) (μ := fun (y : Int) (v : JSg) => (7 - y).toNat) ?_ n _ _ ⟨0, rfl, by omega, ua, uu, fun q hq => absurd hq (Nat.not_lt_zero _)⟩ (by omega)
    rintro y v ⟨p, rfl, hp, va, vu, vp⟩ rc2 hrc2
    have hBv : MhB A h v := MhB_ag hB (fun a j hq => va a j (by omega))
    have wx : ∀ i d, edg A h W p i d → ins W i < N ∧ W + 1 ≤ ins W i ∧ pN A h i (1 - d) < 7 := by
      intro i d e
      have g1 := ins_gt e.2.2.1
      have g2 : ins W i < 2 ^ h.length := ins_lt (by omega) e.1
      have := (pN_lt hI hh e.1 (show 1 - d < 2 by omega)).1
      omega
    have ex : ∀ i d, edg A h W p i d → ∃ w, isLg A h (ins W i) (pN A h i (1 - d)) w := by
      intro i d e
      have := wx i d e
      obtain ⟨w, -, hw⟩ := vu (ins W i) (pN A h i (1 - d)) (by omega) (by omega) (by omega)
      exact ⟨w, hw⟩
    refine rt_ite (fun g2 => ?_) (fun g2 => ?_)
    · refine rt_lt (rt_lt ?_)
      refine rt_w2 (I := fun (b z : Int) => ∃ (b' m : Nat), b = b' ∧ z = m ∧ m ≤ h.length ∧ b' ≤ 20 ∧ isBst A h W p b' (fun i d => i < m)) (μ := fun (b z : Int) => ((h.length : Int) - z).toNat) ?_ n _ _ ⟨0, 0, rfl, rfl, by omega, by omega, Or.inl rfl, fun i d v f => absurd f (Nat.not_lt_zero _)⟩ (by omega)
      rintro b z ⟨b, m, rfl, rfl, hm, hb20, hb⟩ rc3 hrc3
      refine rt_ite (fun g3 => ?_) (fun g3 => ?_)
      · rw [e_M_has (by omega) (by omega), b1_s, j1_s, Int.toNat_natCast, bt_n (by omega)]
        simp only [lt_u]
        rw [wi (x := (m : Int) + 1) (by omega) (by omega)]
        by_cases hbt : W.testBit m = true
        · rw [hbt, if_neg bn0]
          refine hrc3 _ _ ⟨b, m + 1, rfl, by push_cast; rfl, by omega, hb20, hb.1, fun i d v f e hv => ?_⟩ (by omega)
          by_cases q : i = m
          · have := e.2.2.1
            rw [q, hbt] at this
            cases this
          · exact hb.2 i d v (by omega) e hv
        · have hbt' : W.testBit m = false := by
            cases c : W.testBit m
            · rfl
            · exact absurd c hbt
          rw [hbt', if_pos by0]
          have hv := ins_lt (n := h.length) (show W < 2 ^ h.length by omega) (show m < h.length by omega)
          refine rt_w2 (I := fun (b z : Int) => ∃ (b' d : Nat), b = b' ∧ z = d ∧ d ≤ 2 ∧ b' ≤ 20 ∧ isBst A h W p b' (fun i d' => i < m ∨ (i = m ∧ d' < d))) (μ := fun (b z : Int) => ((2 : Int) - z).toNat) ?_ n _ _ ⟨b, 0, rfl, rfl, by omega, hb20, hb.1, fun i d v f => hb.2 i d v (by omega)⟩ (by omega)
          rintro b z ⟨b, d, rfl, rfl, hd, hb20, hb⟩ rc4 hrc4
          refine rt_ite (fun g4 => ?_) (fun g4 => ?_)
          · have x0 := pN_lt hI hh (show m < h.length by omega) (show d < 2 by omega)
            have x1 := pN_lt hI hh (show m < h.length by omega) (show 1 - d < 2 by omega)
            rw [m_pip hI hh hBv (by omega) (by omega), b1_s, m_fit hBv x0.1 (by omega), b1_s, j1_s, wi (x := 1 - (d : Int)) (by omega) (by omega), show (1 : Int) - (d : Int) = ((1 - d : Nat) : Int) by omega, m_pip hI hh hBv (by omega) (by omega), b1_s, ins_e (by omega) (by omega), wi (x := 7 * ((ins W m : Nat) : Int)) (by omega) (by omega), wi (x := 7 * ((ins W m : Nat) : Int) + _) (by omega) (by omega), show (7 * ((ins W m : Nat) : Int) + ((pN A h m (1 - d) : Nat) : Int)).toNat = 7 * ins W m + pN A h m (1 - d) by omega]
            rw [wi (x := (d : Int) + 1) (by omega) (by omega)]
            simp only [e_M_most, b1_s]
            refine rt_chk (by omega) ?_
            by_cases ok : okp A (pN A h m d) p = true
            · have ed : edg A h W p m d := ⟨by omega, by omega, hbt', ok⟩
              obtain ⟨w1, w2, w3⟩ := wx m d ed
              obtain ⟨k, k1, k2⟩ := vu (ins W m) (pN A h m (1 - d)) w2 w1 w3
              have k12 := lg_12 hh k2
              rw [ok, if_neg bn0, k1, wi (by omega) (by omega), show max (b : Int) (1 + (k : Int)) = ((max b (k + 1) : Nat) : Int) by omega]
              refine rt_chk (by omega) (rt_chk (by omega) (hrc4 _ _ ⟨max b (k + 1), d + 1, rfl, by push_cast; rfl, by omega, by omega, ?_⟩ (by omega)))
              exact bst_put hb (fun i' d' q => by omega) ed k2
            · have ok' : okp A (pN A h m d) p = false := by
                cases c : okp A (pN A h m d) p
                · rfl
                · exact absurd c ok
              rw [ok', if_pos by0]
              refine hrc4 _ _ ⟨b, d + 1, rfl, by push_cast; rfl, by omega, hb20, ?_⟩ (by omega)
              exact bst_skip hb (i := m) (d := d) (fun i' d' q => by omega) (fun e => ok e.2.2.2)
          · refine hrc3 _ _ ⟨b, m + 1, rfl, by push_cast; rfl, by omega, hb20, hb.1, fun i d' v f e hv => hb.2 i d' v ?_ e hv⟩ (by omega)
            have := e.2.1
            omega
      · have lg := bst_end hb (fun i d hi _ => by omega) ex
        rw [wi (x := 7 * (W : Int)) (by omega) (by omega), wi (x := 7 * (W : Int) + (p : Int)) (by omega) (by omega), show (7 * (W : Int) + (p : Int)).toNat = 7 * W + p by omega, wi (x := (p : Int) + 1) (by omega) (by omega)]
        refine rt_chk (by omega) (rt_lt (rt_lt (hrc2 _ _ ⟨p + 1, by push_cast; rfl, by omega, ag_sp va rfl, fun V q w1 w2 w3 => ?_, fun q hq => ?_⟩ (by omega))))
        · obtain ⟨w, e1, e2⟩ := vu V q w1 w2 w3
          exact ⟨w, by rw [sp_nj (by omega)]; exact e1, e2⟩
        · by_cases e : q = p
          · subst e
            exact ⟨b, by rw [sp_eq], lg⟩
          · obtain ⟨w, e1, e2⟩ := vp q (by omega)
            exact ⟨w, by rw [sp_nj (by omega)]; exact e1, e2⟩
    · rw [lt_u, wi (by omega) (by omega)]
      refine hrc _ _ ⟨W, by omega, by omega, va, fun V q w1 w2 w3 => ?_⟩ (by omega)
      by_cases e : V = W
      · rw [e]; exact vp q (by omega)
      · exact vu V q (by omega) w2 w3
/-- the pips at the end, as the reference keeps them -/
def mpi (p : Nat) : Int := if p = 7 then -1 else (p : Int)
theorem e_isNext {U p c L : Nat} (hI : WfI A) (hh : Hnd A h) (hB : MhB A h s) (hM : ∀ V p, V < 2 ^ h.length → p < 7 → MorP A h s V p) (hU : U < 2 ^ h.length) (hp : p < 8) (hc : c < 2 * h.length) (hL : isLg A h U p (L + 1)) : ∃ b : Bool, f_M_isNext (c : Int) (U : Int) (mpi p) (((L + 1 : Nat)) : Int) s = some (bi b) ∧ (b = true ↔ nxtC A h L U p c) := by
  have l12 := hh.1
  have p12 := pw12 l12
  have L12 := lg_12 hh hL
  have hi : c / 2 < h.length := by omega
  have xd := pN_lt hI hh hi (show c % 2 < 2 by omega)
  have xo := pN_lt hI hh hi (show 1 - c % 2 < 2 by omega)
  have hv := ins_lt hU hi
  unfold f_M_isNext
  rw [dv_p (by omega) (by omega) (by omega) (by omega), rm_p (by omega) (by omega) (by omega) (by omega), show (c : Int) / 2 = ((c / 2 : Nat) : Int) by omega, show (c : Int) % 2 = ((c % 2 : Nat) : Int) by omega, lt_u, e_M_has (by omega) (by omega), b1_s, Int.toNat_natCast, bt_n (by omega), j0_s]
  by_cases hb : U.testBit (c / 2) = true
  · rw [hb, if_neg bn0]
    refine ⟨false, rfl, fun q => (by cases q), fun q => ?_⟩
    have := q.1.2.2.1
    rw [hb] at this
    cases this
  · have hb' : U.testBit (c / 2) = false := by
      cases c : U.testBit (c / 2)
      · rfl
      · exact absurd c hb
    rw [hb', if_pos by0, m_pip hI hh hB hi (by omega), wi (x := 1 - ((c % 2 : Nat) : Int)) (by omega) (by omega), show (1 : Int) - ((c % 2 : Nat) : Int) = ((1 - c % 2 : Nat) : Int) by omega, m_pip hI hh hB hi (by omega), b1_s, b1_s, ins_e (by omega) (by omega), wi (x := 7 * ((ins U (c / 2) : Nat) : Int)) (by omega) (by omega), wi (x := 7 * ((ins U (c / 2) : Nat) : Int) + _) (by omega) (by omega), show (7 * ((ins U (c / 2) : Nat) : Int) + ((pN A h (c / 2) (1 - c % 2) : Nat) : Int)).toNat = 7 * ins U (c / 2) + pN A h (c / 2) (1 - c % 2) by omega, wi (x := ((L + 1 : Nat) : Int) - 1) (by omega) (by omega), show ((L + 1 : Nat) : Int) - 1 = (L : Int) by omega]
    rw [ck_p (by omega), ck_p (by omega), ck_p (by omega)]
    obtain ⟨w, w1, w2⟩ := hM _ _ hv xo.1
    rw [w1]
    have tail : okp A (pN A h (c / 2) (c % 2)) p = true → ∃ b : Bool, (if (w : Int) = (L : Int) then some (1 : Int) else some 0) = some (bi b) ∧ (b = true ↔ nxtC A h L U p c) := by
      intro ok
      have ed : edg A h U p (c / 2) (c % 2) := ⟨hi, by omega, hb', ok⟩
      have wl : w ≤ L := by
        rcases Nat.lt_or_ge L w with q | q
        · exfalso
          refine hL.2 (can_mo (w + 1 - (L + 1 + 1)) ?_)
          rw [show L + 1 + 1 + (w + 1 - (L + 1 + 1)) = w + 1 by omega]
          exact ⟨_, _, ed, w2.1⟩
        · exact q
      refine ⟨decide (w = L), ?_, ?_⟩
      · by_cases e : w = L
        · rw [if_pos (by omega), decide_eq_true e]; rfl
        · rw [if_neg (by omega), decide_eq_false e]; rfl
      · rw [decide_eq_true_eq]
        constructor
        · intro e; exact ⟨ed, e ▸ w2.1⟩
        · rintro ⟨-, q⟩
          rcases Nat.lt_or_ge w L with g | g
          · exact absurd (can_mo (L - (w + 1)) (by rw [show w + 1 + (L - (w + 1)) = L by omega]; exact q)) w2.2
          · omega
    by_cases e7 : p = 7
    · subst e7
      rw [show mpi 7 = -1 from rfl, if_pos rfl]
      exact tail rfl
    · rw [show mpi p = (p : Int) from if_neg e7, if_neg (by omega), m_fit hB xd.1 (by omega), b1_s]
      by_cases ok : okp A (pN A h (c / 2) (c % 2)) p = true
      · rw [ok, if_neg bn0]
        exact tail ok
      · have ok' : okp A (pN A h (c / 2) (c % 2)) p = false := by
          cases c : okp A (pN A h (c / 2) (c % 2)) p
          · rfl
          · exact absurd c ok
        rw [ok', if_pos by0]
        exact ⟨false, rfl, fun q => (by cases q), fun q => absurd q.1.2.2.2 ok⟩
end
