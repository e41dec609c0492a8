/-! LAYER 3zay: the GAME of two: the class's readers -/
section
variable {A : JA} {h : List Int} {a b : Int} {x y : Stt} {t : Nat} {s σ : JSg} {n : Nat}
def WG (A : JA) (h : List Int) (a b : Int) (s : JSg) : Prop := IslR s 4 A ∧ s 114 4 = (h.length : Nat) ∧ s 114 5 = (orW A h a.toNat h.length : Nat) ∧ s 114 6 = (orW A h b.toNat h.length : Nat) ∧ ∀ j, j < h.length → s 115 j = h.getD j 0
theorem WG_ag {u : JSg} (H : WG A h a b s) (g : ∀ c j, (4 ≤ c ∧ c ≤ 10) ∨ (c = 114 ∧ (j = 4 ∨ j = 5 ∨ j = 6)) ∨ c = 115 → u c j = s c j) : WG A h a b u := by
  obtain ⟨h1, h2, h3, h4, h5⟩ := H
  refine ⟨IslR_ag (fun q j hq => g q j (by omega)) h1, (g 114 4 (by omega)).trans h2, (g 114 5 (by omega)).trans h3, (g 114 6 (by omega)).trans h4, fun j hj => (g 115 j (by omega)).trans (h5 j hj)⟩
theorem w_outer (hI : WfI A) (hh : H10 A h) (hB : WG A h a b s) {i p : Nat} (hi : i < h.length) (hp : p < 7) : f_Mat_outerOf (i : Int) (p : Int) s = some (mpi (bhG A h i p)) := by
  have h10 := hh.1
  have b28 := hI.2.1
  have gh := hh.2.2 i hi
  have p0 := pN_lt hI hh.2 hi (show 0 < 2 by decide)
  have p1 := pN_lt hI hh.2 hi (show 1 < 2 by decide)
  have e0 : s 6 (h.getD i 0).toNat = (pN A h i 0 : Nat) := (hB.1.2.2.2.1 _ gh.1 gh.2).1.trans p0.2.symm
  have e1 : s 7 (h.getD i 0).toNat = (pN A h i 1 : Nat) := (hB.1.2.2.2.1 _ gh.1 gh.2).2.trans p1.2.symm
  have f0 : ∀ q : Nat, q < 7 → f_Isl_fit 4 (q : Int) (p : Int) s = some (bi (fitB A (q : Int) (p : Int))) := fun q hq => e_Isl_fit hB.1 (by omega) (by omega) (by omega) (by omega)
  unfold f_Mat_outerOf bhG mpi
  rw [Int.toNat_natCast, hB.2.2.2.2 i hi, e0, e1, ck_p (by omega), ck_p (by omega), ck_p (by omega), ck_p (by omega), f0 _ p0.1, b1_s]
  cases g0 : fitB A ((pN A h i 0 : Nat) : Int) (p : Int)
  · rw [if_pos (show bi false = 0 from rfl), f0 _ p1.1, b1_s, if_neg (show ¬ (false = true) by decide)]
    cases g1 : fitB A ((pN A h i 1 : Nat) : Int) (p : Int)
    · rw [if_pos (show bi false = 0 from rfl), if_neg (show ¬ (false = true) by decide), if_pos rfl]
    · rw [if_neg (show ¬ bi true = 0 by decide), ck_p (by omega), ck_p (by omega), if_pos rfl, if_neg (by omega)]
  · rw [if_neg (show ¬ bi true = 0 by decide), ck_p (by omega), ck_p (by omega), if_pos rfl, if_neg (by omega)]
def MkP (A : JA) (h : List Int) (S : Nat) (w : Int) (R : Nat) : Prop := R < 2 ^ h.length ∧ ∀ i, i < h.length → R.testBit i = (decide (ownA A (h.getD i 0) = w) && !S.testBit i)
theorem w_canLay (hn : 1000000 < n) (hI : WfI A) (hh : H10 A h) (hB : WG A h a b s) {w : Int} {R : Nat} (hx : rdG h x) (hR : MkP A h x.1 w R) : f_Mat_canLay n (R : Int) (x.2.1 : Int) (x.2.2 : Int) s = some (bi (lyB A h x w)) := by
  have h10 := hh.1
  have p : 2 ^ h.length ≤ 1024 := Nat.pow_le_pow_right (n := 2) (by decide) h10
  have R1 := hR.1
  apply rt_eq
  unfold f_Mat_canLay
  refine rt_lt ?_
  refine rt_w1 (I := fun (z : Int) => ∃ m : Nat, z = m ∧ m ≤ h.length ∧ ∀ i, i < m → ¬ (ownA A (h.getD i 0) = w ∧ x.1.testBit i = false ∧ (bhG A h i x.2.1 ≠ 7 ∨ bhG A h i x.2.2 ≠ 7))) (μ := fun (z : Int) => ((h.length : Int) - z).toNat) ?_ n _ ⟨0, rfl, by omega, fun i hi => absurd hi (Nat.not_lt_zero _)⟩ (by omega)
  rintro z ⟨m, rfl, hm, hi⟩ rc hrc
  rw [hB.2.1]
  refine rt_ite (fun g => ?_) (fun g => ?_)
  · have ml : m < h.length := by omega
    have st : ¬ (ownA A (h.getD m 0) = w ∧ x.1.testBit m = false ∧ (bhG A h m x.2.1 ≠ 7 ∨ bhG A h m x.2.2 ≠ 7)) → Ret (lt_ (w32 ((m : Int) + 1)) fun v5 => rc v5) (fun z => z = bi (lyB A h x w)) := by
      intro q
      rw [lt_u, wi (by omega) (by omega)]
      refine hrc _ ⟨m + 1, by push_cast; rfl, by omega, fun i hi2 => ?_⟩ (by omega)
      by_cases e : i = m
      · subst e; exact q
      · exact hi i (by omega)
    have rb := hR.2 m ml
    rw [j0_s, has_n (by omega) (by omega)]
    cases c : R.testBit m
    · rw [if_neg (show ¬ (false = true) by decide), if_pos rfl]
      refine st (fun q => ?_)
      rw [c, decide_eq_true q.1, q.2.1] at rb
      cases rb
    · rw [if_pos rfl, if_neg (show ¬ (1 : Int) = 0 by decide)]
      rw [c, eq_comm, Bool.and_eq_true, decide_eq_true_iff, Bool.not_eq_true'] at rb
      have yes : (bhG A h m x.2.1 ≠ 7 ∨ bhG A h m x.2.2 ≠ 7) → Ret (some (1 : Int)) (fun z => z = bi (lyB A h x w)) := by
        intro q3
        refine rt_some ?_
        rw [ly_iff.mpr ⟨m, ml, rb.1, rb.2, q3⟩]; rfl
      rw [w_outer hI hh hB ml hx.2.1, b1_s]
      refine rt_ite (fun g2 => ?_) (fun g2 => yes (Or.inl (fun q => g2 (mpi_n.mpr q))))
      rw [w_outer hI hh hB ml hx.2.2, b1_s]
      refine rt_ite (fun g3 => ?_) (fun g3 => yes (Or.inr (fun q => g3 (mpi_n.mpr q))))
      refine st ?_
      rintro ⟨-, -, q | q⟩
      · exact q (mpi_n.mp g2)
      · exact q (mpi_n.mp g3)
  · have em : m = h.length := by omega
    subst em
    refine rt_some ?_
    have : lyB A h x w = false := b_ff (fun q => by
      obtain ⟨i, h1, h2⟩ := ly_iff.mp q
      exact hi i h1 h2)
    rw [this]; rfl
theorem w_pips (hn : 1000000 < n) (hI : WfI A) (hh : H10 A h) (hB : WG A h a b s) {w : Int} {S R : Nat} (hR : MkP A h S w R) : f_Mat_pipsOf n (R : Int) s = some (pipG A h S w h.length) := by
  have h10 := hh.1
  have b28 := hI.2.1
  have p : 2 ^ h.length ≤ 1024 := Nat.pow_le_pow_right (n := 2) (by decide) h10
  have R1 := hR.1
  apply rt_eq
  unfold f_Mat_pipsOf
  refine rt_lt (rt_lt ?_)
  refine rt_w2 (I := fun (v z : Int) => ∃ m : Nat, z = m ∧ m ≤ h.length ∧ v = pipG A h S w m) (μ := fun (v z : Int) => ((h.length : Int) - z).toNat) ?_ n _ _ ⟨0, rfl, by omega, rfl⟩ (by omega)
  rintro v z ⟨m, rfl, hm, rfl⟩ rc hrc
  rw [hB.2.1]
  refine rt_ite (fun g => ?_) (fun g => ?_)
  · have ml : m < h.length := by omega
    have gh := hh.2.2 m ml
    have bd := pip_bd hI hh.2 (S := S) (w := w) m hm
    have p0 := pN_lt hI hh.2 ml (show 0 < 2 by decide)
    have p1 := pN_lt hI hh.2 ml (show 1 < 2 by decide)
    have er : pipG A h S w (m + 1) = if ownA A (h.getD m 0) = w ∧ S.testBit m = false then pipG A h S w m + (((pN A h m 0 : Nat) : Int) + ((pN A h m 1 : Nat) : Int)) else pipG A h S w m := rfl
    have rb := hR.2 m ml
    rw [has_n (by omega) (by omega)]
    refine rt_c1 (fun v => w32 (pipG A h S w m + v) = pipG A h S w (m + 1)) (fun v hv => ?_) (fun j hj => ?_)
    · rw [hv, lt_u, lt_u, wi (by omega) (by omega)]
      exact hrc _ _ ⟨m + 1, by push_cast; rfl, by omega, rfl⟩ (by omega)
    · cases c : R.testBit m
      · rw [if_neg (show ¬ (false = true) by decide), if_pos rfl]
        refine hj _ ?_
        rw [er, if_neg (fun q => by rw [c, decide_eq_true q.1, q.2] at rb; cases rb), wi (by omega) (by omega)]
        omega
      · rw [if_pos rfl, if_neg (show ¬ (1 : Int) = 0 by decide)]
        rw [c, eq_comm, Bool.and_eq_true, decide_eq_true_iff, Bool.not_eq_true'] at rb
        have e0 : s (4 + 2) (h.getD m 0).toNat = (pN A h m 0 : Nat) := (hB.1.2.2.2.1 _ gh.1 gh.2).1.trans p0.2.symm
        have e1 : s (4 + 3) (h.getD m 0).toNat = (pN A h m 1 : Nat) := (hB.1.2.2.2.1 _ gh.1 gh.2).2.trans p1.2.symm
        unfold f_Isl_together
        rw [Int.toNat_natCast, hB.2.2.2.2 m ml, e0, e1, ck_p (show 0 ≤ h.getD m 0 ∧ h.getD m 0 < 28 by omega), ck_p (show 0 ≤ h.getD m 0 ∧ h.getD m 0 < 28 by omega), b1_s]
        refine rt_chk (by omega) (hj _ ?_)
        rw [er, if_pos rb, wi (x := ((pN A h m 0 : Nat) : Int) + _) (by omega) (by omega), wi (by omega) (by omega)]
  · have em : m = h.length := by omega
    subst em
    exact rt_some rfl
theorem mk_own {S : Nat} {w : Int} (h10 : h.length ≤ 10) (hS : S < 2 ^ h.length) (hw : 0 ≤ w) : an32 (cplG h.length S : Int) (orW A h w.toNat h.length : Int) = ((cplG h.length S &&& orW A h w.toNat h.length : Nat) : Int) ∧ MkP A h S w (cplG h.length S &&& orW A h w.toNat h.length) := by
  have p : 2 ^ h.length ≤ 1024 := Nat.pow_le_pow_right (n := 2) (by decide) h10
  have l := cpl_lt hS
  refine ⟨an_n (by omega), Nat.lt_of_le_of_lt Nat.and_le_left l, fun i hi => ?_⟩
  rw [Nat.testBit_and, cpl_i hi]
  have o := orW_b (A := A) (h := h) (w := w.toNat) (j := i) h.length
  rw [show ((w.toNat : Nat) : Int) = w by omega] at o
  by_cases c : ownA A (h.getD i 0) = w
  · rw [o.mpr ⟨hi, c⟩, decide_eq_true c, Bool.and_true, Bool.true_and]
  · rw [b_ff (fun q => c (o.mp q).2), decide_eq_false c, Bool.and_false, Bool.false_and]
/-- all the rest is the other's -/
theorem mk_oth {S R : Nat} {v w : Int} (h10 : h.length ≤ 10) (hS : S < 2 ^ h.length) (hvw : v ≠ w) (ho : ∀ i, i < h.length → ownA A (h.getD i 0) = v ∨ ownA A (h.getD i 0) = w) (hR : MkP A h S v R) : xr32 (cplG h.length S : Int) (R : Int) = ((cplG h.length S ^^^ R : Nat) : Int) ∧ MkP A h S w (cplG h.length S ^^^ R) := by
  have p : 2 ^ h.length ≤ 1024 := Nat.pow_le_pow_right (n := 2) (by decide) h10
  have l := cpl_lt hS
  have R1 := hR.1
  refine ⟨xr_n (by omega) (by omega), Nat.xor_lt_two_pow l R1, fun i hi => ?_⟩
  rw [Nat.testBit_xor, cpl_i hi, hR.2 i hi]
  rcases ho i hi with q | q
  · rw [decide_eq_true q, decide_eq_false (fun z => hvw (q.symm.trans z))]
    cases S.testBit i <;> rfl
  · rw [decide_eq_true q, decide_eq_false (fun z => hvw (z.symm.trans q))]
    cases S.testBit i <;> rfl
theorem mk_0 {S R : Nat} {w : Int} (hR : MkP A h S w R) : R = 0 ↔ ovB A h S w = true := by
  rw [ov_iff]
  constructor
  · rintro rfl i hi ho
    have := hR.2 i hi
    rw [Nat.zero_testBit, decide_eq_true ho, Bool.true_and] at this
    cases c : S.testBit i
    · rw [c] at this; cases this
    · rfl
  · intro g
    apply Nat.eq_of_testBit_eq
    intro i
    rw [Nat.zero_testBit]
    rcases Nat.lt_or_ge i h.length with hi | hi
    · rw [hR.2 i hi]
      by_cases c : ownA A (h.getD i 0) = w
      · rw [g i hi c, Bool.not_true, Bool.and_false]
      · rw [decide_eq_false c, Bool.false_and]
    · exact Nat.testBit_lt_two_pow (Nat.lt_of_lt_of_le hR.1 (Nat.pow_le_pow_right (n := 2) (by decide) hi))
end
