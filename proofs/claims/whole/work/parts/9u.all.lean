/-! LAYER 3zao: the shortest ROUND: the class's moves -/
section
variable {A : JA} {h : List Int} {s t σ : JSg} {n : Nat} {x y : Stt}
def RB (A : JA) (h : List Int) (s : JSg) : Prop := IslR s 4 A ∧ s 107 4 = (h.length : Nat) ∧ (∀ j, j < h.length → s 108 j = h.getD j 0) ∧ (∀ w, w < 6 → s 109 w = (orW A h w h.length : Nat)) ∧ (∀ j, j < h.length → (s 110 (2 * j) = (pN A h j 0 : Nat) ∧ s 110 (2 * j + 1) = (pN A h j 1 : Nat)) ∧ s 111 (2 * j) = ownA A (h.getD j 0) ∧ s 111 (2 * j + 1) = ownA A (h.getD j 0)) ∧ (A 151 ≠ 0 → s 110 20 = outA A 0 ∧ s 110 21 = outA A 1 ∧ s 111 20 = layA A 0 ∧ s 111 21 = layA A 1)
theorem RB_ag (hB : RB A h s) (g : ∀ a j, (4 ≤ a ∧ a ≤ 10) ∨ (a = 107 ∧ j = 4) ∨ (108 ≤ a ∧ a ≤ 111) → t a j = s a j) : RB A h t := by
  obtain ⟨h1, h2, h3, h4, h5, h6⟩ := hB
  have e8 : t 108 = s 108 := funext fun j => g _ _ (by omega)
  have e9 : t 109 = s 109 := funext fun j => g _ _ (by omega)
  have e0 : t 110 = s 110 := funext fun j => g _ _ (by omega)
  have e1 : t 111 = s 111 := funext fun j => g _ _ (by omega)
  unfold RB
  rw [e8, e9, e0, e1, g 107 4 (by omega)]
  exact ⟨IslR_ag (fun q j hq => g q j (by omega)) h1, h2, h3, h4, h5, h6⟩
theorem e_missing {U : Nat} (hn : 1000000 < n) (hh : H10 A h) (hB : RB A h s) : f_Rnd_missing n (U : Int) s = some ((cntM A h U 6 : Nat) : Int) := by
  have h10 := hh.1
  have p : 2 ^ h.length ≤ 1024 := Nat.pow_le_pow_right (n := 2) (by decide) h10
  apply rt_eq
  unfold f_Rnd_missing
  refine rt_lt (rt_lt ?_)
  refine rt_w2 (I := fun (a z : Int) => ∃ m : Nat, z = m ∧ m ≤ 6 ∧ a = (cntM A h U m : Nat)) (μ := fun (a z : Int) => ((6 : Int) - z).toNat) ?_ n _ _ ⟨0, rfl, by omega, rfl⟩ (by omega)
  rintro a z ⟨m, rfl, hm, rfl⟩ rc hrc
  have cl := cntM_le (A := A) (h := h) (U := U) m
  refine rt_ite (fun g => ?_) (fun g => ?_)
  · rw [Int.toNat_natCast, hB.2.2.2.1 m (by omega)]
    refine rt_chk (by omega) ?_
    have ol := orW_lt (A := A) (h := h) (w := m) h.length
    refine rt_c1 (fun a => a = (cntM A h U (m + 1) : Nat)) (fun a ha => ?_) (fun j hj => ?_)
    · rw [lt_u, wi (by omega) (by omega)]
      exact hrc _ _ ⟨m + 1, by push_cast; rfl, by omega, ha⟩ (by omega)
    · have e : cntM A h U (m + 1) = cntM A h U m + if misQ A h U m then 1 else 0 := rfl
      refine rt_ite (fun g1 => ?_) (fun g1 => ?_)
      · refine hj _ ?_
        rw [e, if_neg (fun q => q.1 (by omega))]
        rfl
      · rw [an_n (by omega)]
        refine rt_chk (by omega) (rt_ite (fun g2 => ?_) (fun g2 => ?_))
        · rw [lt_u, wi (by omega) (by omega)]
          refine hj _ ?_
          rw [e, if_pos ⟨by omega, by omega⟩]
          push_cast
          rfl
        · refine hj _ ?_
          rw [e, if_neg (fun q => g2 (by rw [q.2]; rfl))]
          rfl
  · have : m = 6 := by omega
    subst this
    exact rt_some rfl
def lyI (A : JA) (h : List Int) (i : Nat) (P Ly : Int) : Int :=
  if Ly = ownA A (h.getD i 0) then -1
  else if fitB A ((pN A h i 0 : Nat) : Int) P = true then 2 * (i : Int) + 1
  else if fitB A ((pN A h i 1 : Nat) : Int) P = true then 2 * (i : Int)
  else -1
theorem e_laidOn {i q : Nat} {P Ly : Int} (hI : WfI A) (hh : H10 A h) (hB : RB A h s) (hi : i < h.length) (hq : q < 22) (h1 : s 110 q = P) (h2 : s 111 q = Ly) (hP : 0 ≤ P ∧ P < 7) : f_Rnd_laidOn (i : Int) (q : Int) s = some (lyI A h i P Ly) := by
  have h10 := hh.1
  have p0 := pN_lt hI hh.2 hi (show 0 < 2 by decide)
  have p1 := pN_lt hI hh.2 hi (show 1 < 2 by decide)
  obtain ⟨⟨k1, k2⟩, k3, k4⟩ := hB.2.2.2.2.1 i hi
  unfold f_Rnd_laidOn lyI
  rw [ck_p (by omega), wi (x := 2 * (i : Int)) (by omega) (by omega), wi (x := 2 * (i : Int) + 1) (by omega) (by omega), ck_p (by omega), show (2 * (i : Int)).toNat = 2 * i by omega, show (2 * (i : Int) + 1).toNat = 2 * i + 1 by omega, Int.toNat_natCast, h1, h2, k1, k2, k3]
  by_cases c : Ly = ownA A (h.getD i 0)
  · rw [if_pos c, if_pos c]
  · rw [if_neg c, if_neg c, ck_p (by omega), ck_p (by omega), e_Isl_fit hB.1 (by omega) (by omega) hP.1 hP.2, b1_s, e_Isl_fit hB.1 (by omega) (by omega) hP.1 hP.2]
    cases g0 : fitB A ((pN A h i 0 : Nat) : Int) P
    · rw [if_pos (show bi false = 0 from rfl), if_neg (show ¬ (false = true) by decide), ck_p (by omega), ck_p (by omega), b1_s]
      cases g1 : fitB A ((pN A h i 1 : Nat) : Int) P
      · rw [if_pos (show bi false = 0 from rfl), if_neg (show ¬ (false = true) by decide)]
      · rw [if_neg (show ¬ bi true = 0 by decide), if_pos rfl]
    · rw [if_neg (show ¬ bi true = 0 by decide), if_pos rfl]
theorem out_l {l : Nat} (hh : H10 A h) (hB : RB A h s) (hl : vle h l) (hn : wl A l ≠ 22) : s 110 (wl A l) = eP A h l 0 ∧ s 111 (wl A l) = eL A h l 0 ∧ wl A l < 22 := by
  have h10 := hh.1
  have l20 : l ≤ 20 := by unfold vle at hl; omega
  unfold wl at *
  unfold eP eL
  by_cases c : l = 20
  · rw [if_pos c] at hn ⊢
    by_cases a : A 151 = 0
    · rw [if_pos a] at hn; omega
    · obtain ⟨q1, -, q3, -⟩ := hB.2.2.2.2.2 a
      rw [if_neg a, if_pos c, if_pos c, if_neg a]
      exact ⟨q1, q3, by omega⟩
  · have hl2 : l / 2 < h.length := by
      rcases hl with q | q
      · exact absurd q c
      · exact q
    obtain ⟨⟨k1, k2⟩, k3, k4⟩ := hB.2.2.2.2.1 (l / 2) hl2
    rw [if_neg c, if_neg c, if_neg c]
    by_cases d : l % 2 = 0
    · rw [if_pos d]
      rw [show 2 * (l / 2) = l by omega] at k1 k3
      exact ⟨k1, k3, by omega⟩
    · rw [if_neg d]
      rw [show 2 * (l / 2) + 1 = l by omega] at k2 k4
      exact ⟨k2, k4, by omega⟩
theorem out_r {l : Nat} (hh : H10 A h) (hB : RB A h s) (hl : vle h l) (hn : wr A l ≠ 22) : s 110 (wr A l) = eP A h l 1 ∧ s 111 (wr A l) = eL A h l 1 ∧ wr A l < 22 := by
  have h10 := hh.1
  have l20 : l ≤ 20 := by unfold vle at hl; omega
  unfold wr at *
  unfold eP eL
  by_cases c : l = 20
  · rw [if_pos c] at hn ⊢
    by_cases a : A 151 = 0
    · rw [if_pos a] at hn; omega
    · obtain ⟨-, q1, -, q3⟩ := hB.2.2.2.2.2 a
      rw [if_neg a, if_pos c, if_pos c, if_neg a]
      exact ⟨q1, q3, by omega⟩
  · have hl2 : l / 2 < h.length := by
      rcases hl with q | q
      · exact absurd q c
      · exact q
    obtain ⟨⟨k1, k2⟩, k3, k4⟩ := hB.2.2.2.2.1 (l / 2) hl2
    rw [if_neg c, if_neg c, if_neg c]
    by_cases d : l % 2 = 0
    · rw [if_pos d, if_pos d]
      rw [show 2 * (l / 2) + 1 = l + 1 by omega] at k2 k4
      exact ⟨k2, k4, by omega⟩
    · rw [if_neg d, if_neg d]
      rw [show 2 * (l / 2) = l - 1 by omega] at k1 k3
      exact ⟨k1, k3, by omega⟩
/-- what the class's number for a laid stone is against the reference's -/
theorem ly_W {i e d : Nat} (hi : i < h.length) (ne : eP A h e d ≠ -1) : (ly A h i e d = none ∧ lyI A h i (eP A h e d) (eL A h e d) = -1) ∨ ∃ w, ly A h i e d = some w ∧ (w = 2 * i ∨ w = 2 * i + 1) ∧ lyI A h i (eP A h e d) (eL A h e d) = if d = 1 then (if w % 2 = 0 then (w : Int) + 1 else (w : Int) - 1) else (w : Int) := by
  unfold ly lyI
  rw [if_neg ne]
  by_cases c : eL A h e d = ownA A (h.getD i 0)
  · rw [if_pos c, if_pos c]; exact Or.inl ⟨rfl, rfl⟩
  · rw [if_neg c, if_neg c]
    by_cases g0 : fitB A ((pN A h i 0 : Nat) : Int) (eP A h e d) = true
    · rw [if_pos g0, if_pos g0]
      refine Or.inr ⟨_, rfl, ?_, ?_⟩
      · split <;> omega
      · by_cases q : d = 1
        · rw [if_pos q, if_pos q, if_pos (by omega)]; push_cast; rfl
        · rw [if_neg q, if_neg q]; push_cast; rfl
    · rw [if_neg g0, if_neg g0]
      by_cases g1 : fitB A ((pN A h i 1 : Nat) : Int) (eP A h e d) = true
      · rw [if_pos g1, if_pos g1]
        refine Or.inr ⟨_, rfl, ?_, ?_⟩
        · split <;> omega
        · by_cases q : d = 1
          · rw [if_pos q, if_pos q, if_neg (by omega)]; push_cast; omega
          · rw [if_neg q, if_neg q]; push_cast; rfl
      · rw [if_neg g1, if_neg g1]; exact Or.inl ⟨rfl, rfl⟩
end
