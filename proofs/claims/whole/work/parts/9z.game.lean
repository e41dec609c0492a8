/-! LAYER 3zat: the GAME of two: the reference's readers -/
section
variable {A : JA} {h : List Int} {a b : Int} {x y : Stt} {t : Nat} {s : JSg} {n : Nat}
theorem m_bh (hI : WfI A) (hh : H10 A h) (hB : MhB A h s) {i p : Nat} (hi : i < h.length) (hp : p < 7) : f_M_behind (i : Int) (p : Int) s = some (mpi (bhG A h i p)) := by
  have h10 := hh.1
  have p0 := pN_lt hI hh.2 hi (show 0 < 2 by decide)
  have p1 := pN_lt hI hh.2 hi (show 1 < 2 by decide)
  have m0 : f_M_pip (s 189 i) 0 s = some ((pN A h i 0 : Nat) : Int) := m_pip hI hh.2 hB hi (show 0 < 2 by decide)
  have m1 : f_M_pip (s 189 i) 1 s = some ((pN A h i 1 : Nat) : Int) := m_pip hI hh.2 hB hi (show 1 < 2 by decide)
  have f0 : ∀ q : Nat, q < 7 → f_M_fit (q : Int) (p : Int) s = some (bi (fitB A (q : Int) (p : Int))) := fun q hq => by
    rw [e_M_fit (by omega) (by omega) (by omega) (by omega), hB.1]
  unfold f_M_behind bhG mpi
  rw [Int.toNat_natCast, ck_p (by omega), ck_p (by omega), ck_p (by omega), ck_p (by omega), m0, b1_s, f0 _ p0.1, b1_s]
  cases g0 : fitB A ((pN A h i 0 : Nat) : Int) (p : Int)
  · rw [if_pos (show bi false = 0 from rfl), m1, b1_s, f0 _ p1.1, b1_s, if_neg (show ¬ (false = true) by decide)]
    cases g1 : fitB A ((pN A h i 1 : Nat) : Int) (p : Int)
    · rw [if_pos (show bi false = 0 from rfl), if_neg (show ¬ (false = true) by decide), if_pos rfl]
    · rw [if_neg (show ¬ bi true = 0 by decide), b1_s, if_pos rfl, if_neg (by omega)]
  · rw [if_neg (show ¬ bi true = 0 by decide), m1, b1_s, if_pos rfl, if_neg (by omega)]
theorem mpi_n {q : Nat} : mpi q = -1 ↔ q = 7 := by
  unfold mpi
  by_cases c : q = 7
  · rw [if_pos c]; exact ⟨fun _ => c, fun _ => rfl⟩
  · rw [if_neg c]; omega
theorem b_ff {c : Bool} (g : ¬ c = true) : c = false := by cases c with | false => rfl | true => exact absurd rfl g
theorem m_ov (hn : 1000000 < n) (hI : WfI A) (hW : WfR A) (hh : H10 A h) (hB : MhB A h s) {S : Nat} {w : Int} (hS : S < 2 ^ h.length) : f_M_isOver n (S : Int) ((h.length : Nat) : Int) w s = some (bi (ovB A h S w)) := by
  have h10 := hh.1
  have p : 2 ^ h.length ≤ 1024 := Nat.pow_le_pow_right (n := 2) (by decide) h10
  apply rt_eq
  unfold f_M_isOver
  refine rt_lt ?_
  refine rt_w1 (I := fun (z : Int) => ∃ m : Nat, z = m ∧ m ≤ h.length ∧ ∀ i, i < m → ownA A (h.getD i 0) = w → S.testBit i = true) (μ := fun (z : Int) => ((h.length : Int) - z).toNat) ?_ n _ ⟨0, rfl, by omega, fun i hi => absurd hi (Nat.not_lt_zero _)⟩ (by omega)
  rintro z ⟨m, rfl, hm, hi⟩ rc hrc
  refine rt_ite (fun g => ?_) (fun g => ?_)
  · have ml : m < h.length := by omega
    have o := own_6 hI hW hh.2 ml
    rw [Int.toNat_natCast, hB.2 m ml, wi (x := 67 + h.getD m 0) (by omega) (by omega), hB.1, show A (67 + h.getD m 0).toNat = ownA A (h.getD m 0) from rfl]
    have st : (ownA A (h.getD m 0) = w → S.testBit m = true) → Ret (lt_ (w32 ((m : Int) + 1)) fun v5 => rc v5) (fun z => z = bi (ovB A h S w)) := by
      intro q
      rw [lt_u, wi (by omega) (by omega)]
      refine hrc _ ⟨m + 1, by push_cast; rfl, by omega, fun i hi2 ho => ?_⟩ (by omega)
      by_cases e : i = m
      · subst e; exact q ho
      · exact hi i (by omega) ho
    refine rt_chk (by omega) (rt_chk (by omega) ?_)
    rw [j0_s]
    refine rt_ite (fun g1 => ?_) (fun g1 => st (fun q => absurd q g1))
    unfold f_M_has
    rw [has_n (by omega) (by omega)]
    cases c : S.testBit m
    · rw [if_neg (show ¬ (false = true) by decide), if_neg (show ¬ (0 : Int) = 1 by decide), b1_s, if_pos rfl]
      refine rt_some ?_
      have : ovB A h S w = false := b_ff (fun q => by
        have := ov_iff.mp q m ml g1
        rw [c] at this; cases this)
      rw [this]; rfl
    · rw [if_pos rfl, if_pos (show (1 : Int) = 1 from rfl), b1_s, if_neg (show ¬ (1 : Int) = 0 by decide)]
      exact st (fun _ => c)
  · have em : m = h.length := by omega
    subst em
    refine rt_some ?_
    rw [ov_iff.mpr hi]; rfl
theorem m_ly (hn : 1000000 < n) (hI : WfI A) (hW : WfR A) (hh : H10 A h) (hB : MhB A h s) {w : Int} (hx : rdG h x) : f_M_canLay n (x.1 : Int) (x.2.1 : Int) (x.2.2 : Int) w ((h.length : Nat) : Int) s = some (bi (lyB A h x w)) := by
  have h10 := hh.1
  have p : 2 ^ h.length ≤ 1024 := Nat.pow_le_pow_right (n := 2) (by decide) h10
  have hS := hx.1
  apply rt_eq
  unfold f_M_canLay
  refine rt_lt ?_
  refine rt_w1 (I := fun (z : Int) => ∃ m : Nat, z = m ∧ m ≤ h.length ∧ ∀ i, i < m → ¬ (ownA A (h.getD i 0) = w ∧ x.1.testBit i = false ∧ (bhG A h i x.2.1 ≠ 7 ∨ bhG A h i x.2.2 ≠ 7))) (μ := fun (z : Int) => ((h.length : Int) - z).toNat) ?_ n _ ⟨0, rfl, by omega, fun i hi => absurd hi (Nat.not_lt_zero _)⟩ (by omega)
  rintro z ⟨m, rfl, hm, hi⟩ rc hrc
  refine rt_ite (fun g => ?_) (fun g => ?_)
  · have ml : m < h.length := by omega
    have o := own_6 hI hW hh.2 ml
    rw [Int.toNat_natCast, hB.2 m ml, wi (x := 67 + h.getD m 0) (by omega) (by omega), hB.1, show A (67 + h.getD m 0).toNat = ownA A (h.getD m 0) from rfl]
    have st : ¬ (ownA A (h.getD m 0) = w ∧ x.1.testBit m = false ∧ (bhG A h m x.2.1 ≠ 7 ∨ bhG A h m x.2.2 ≠ 7)) → Ret (lt_ (w32 ((m : Int) + 1)) fun v5 => rc v5) (fun z => z = bi (lyB A h x w)) := by
      intro q
      rw [lt_u, wi (by omega) (by omega)]
      refine hrc _ ⟨m + 1, by push_cast; rfl, by omega, fun i hi2 => ?_⟩ (by omega)
      by_cases e : i = m
      · subst e; exact q
      · exact hi i (by omega)
    have yes : ownA A (h.getD m 0) = w → x.1.testBit m = false → (bhG A h m x.2.1 ≠ 7 ∨ bhG A h m x.2.2 ≠ 7) → Ret (some (1 : Int)) (fun z => z = bi (lyB A h x w)) := by
      intro q1 q2 q3
      refine rt_some ?_
      rw [ly_iff.mpr ⟨m, ml, q1, q2, q3⟩]; rfl
    refine rt_chk (by omega) (rt_chk (by omega) ?_)
    rw [j0_s]
    refine rt_ite (fun g1 => ?_) (fun g1 => st (fun q => absurd q.1 g1))
    unfold f_M_has
    rw [has_n (by omega) (by omega)]
    cases c : x.1.testBit m
    · rw [if_neg (show ¬ (false = true) by decide), if_neg (show ¬ (0 : Int) = 1 by decide), b1_s, if_pos rfl, m_bh hI hh hB ml hx.2.1, b1_s]
      refine rt_ite (fun g2 => ?_) (fun g2 => yes g1 c (Or.inl (fun q => g2 (mpi_n.mpr q))))
      rw [m_bh hI hh hB ml hx.2.2, b1_s]
      refine rt_ite (fun g3 => ?_) (fun g3 => yes g1 c (Or.inr (fun q => g3 (mpi_n.mpr q))))
      refine st ?_
      rintro ⟨-, -, q | q⟩
      · exact q (mpi_n.mp g2)
      · exact q (mpi_n.mp g3)
    · rw [if_pos rfl, if_pos (show (1 : Int) = 1 from rfl), b1_s, if_neg (show ¬ (1 : Int) = 0 by decide)]
      exact st (fun q => by rw [c] at q; exact absurd q.2.1 (by decide))
  · have em : m = h.length := by omega
    subst em
    refine rt_some ?_
    have : lyB A h x w = false := b_ff (fun q => by
      obtain ⟨i, h1, h2⟩ := ly_iff.mp q
      exact hi i h1 h2)
    rw [this]; rfl
theorem pip_bd (hI : WfI A) (hh : Hnd A h) {S : Nat} {w : Int} : ∀ m : Nat, m ≤ h.length → 0 ≤ pipG A h S w m ∧ pipG A h S w m ≤ 12 * m := by
  intro m
  induction m with
  | zero => intro _; unfold pipG; omega
  | succ m ih =>
    intro hm
    have i := ih (by omega)
    have p0 := pN_lt hI hh (show m < h.length by omega) (show 0 < 2 by decide)
    have p1 := pN_lt hI hh (show m < h.length by omega) (show 1 < 2 by decide)
    unfold pipG
    split <;> omega
theorem m_pp (hn : 1000000 < n) (hI : WfI A) (hW : WfR A) (hh : H10 A h) (hB : MhB A h s) {S : Nat} {w : Int} (hS : S < 2 ^ h.length) : f_M_pipsLeft n (S : Int) ((h.length : Nat) : Int) w s = some (pipG A h S w h.length) := by
  have h10 := hh.1
  have p : 2 ^ h.length ≤ 1024 := Nat.pow_le_pow_right (n := 2) (by decide) h10
  apply rt_eq
  unfold f_M_pipsLeft
  refine rt_lt (rt_lt ?_)
  refine rt_w2 (I := fun (v z : Int) => ∃ m : Nat, z = m ∧ m ≤ h.length ∧ v = pipG A h S w m) (μ := fun (v z : Int) => ((h.length : Int) - z).toNat) ?_ n _ _ ⟨0, rfl, by omega, rfl⟩ (by omega)
  rintro v z ⟨m, rfl, hm, rfl⟩ rc hrc
  refine rt_ite (fun g => ?_) (fun g => ?_)
  · have ml : m < h.length := by omega
    have o := own_6 hI hW hh.2 ml
    have gh := hh.2.2 m ml
    have bd := pip_bd hI hh.2 (S := S) (w := w) m hm
    have p0 := pN_lt hI hh.2 ml (show 0 < 2 by decide)
    have p1 := pN_lt hI hh.2 ml (show 1 < 2 by decide)
    have er : pipG A h S w (m + 1) = if ownA A (h.getD m 0) = w ∧ S.testBit m = false then pipG A h S w m + (((pN A h m 0 : Nat) : Int) + ((pN A h m 1 : Nat) : Int)) else pipG A h S w m := rfl
    rw [Int.toNat_natCast, hB.2 m ml, wi (x := 67 + h.getD m 0) (by omega) (by omega), hB.1, show A (67 + h.getD m 0).toNat = ownA A (h.getD m 0) from rfl]
    refine rt_chk (by omega) (rt_chk (by omega) ?_)
    refine rt_c1 (fun v => v = pipG A h S w (m + 1)) (fun v hv => ?_) (fun j hj => ?_)
    · rw [lt_u, wi (by omega) (by omega)]
      exact hrc _ _ ⟨m + 1, by push_cast; rfl, by omega, hv⟩ (by omega)
    · refine rt_ite (fun g1 => ?_) (fun g1 => hj _ (by rw [er, if_neg (fun q => g1 q.1)]))
      unfold f_M_has
      rw [has_n (by omega) (by omega)]
      cases c : S.testBit m
      · rw [if_neg (show ¬ (false = true) by decide), if_neg (show ¬ (0 : Int) = 1 by decide), b1_s, if_pos rfl, e_M_sum (by rw [hB.1]; exact hI) gh.1 (by rw [hB.1]; exact gh.2), hB.1, b1_s]
        have e0 : pipA A (h.getD m 0) 0 = (pN A h m 0 : Nat) := p0.2.symm
        have e1 : pipA A (h.getD m 0) 1 = (pN A h m 1 : Nat) := p1.2.symm
        rw [e0, e1, lt_u, wi (by omega) (by omega)]
        refine rt_chk (by omega) (hj _ ?_)
        rw [er, if_pos ⟨g1, c⟩]
      · rw [if_pos rfl, if_pos (show (1 : Int) = 1 from rfl), b1_s, if_neg (show ¬ (1 : Int) = 0 by decide)]
        refine hj _ ?_
        rw [er, if_neg (fun q => by rw [c] at q; exact absurd q.2 (by decide))]
  · have em : m = h.length := by omega
    subst em
    exact rt_some rfl
end
