/-! LAYER 3zs: what is said -/
section
variable {σ τ s : JSg} {n p : Nat} {A : JA}
def cmpB (g v y : Int) : Bool := if g = 60 then decide (v < y) else if g = 61 then decide (v = y) else decide (y < v)
def lfB (A : JA) (x : Int × Int × Int) (s : Int) : Bool := if x.1 = 12 then decide (pipA A s 0 = pipA A s 1) else if x.1 = 13 then decide (whrA A s = 2) else if x.1 = 14 then decide (whrA A s = 0) else if x.1 = 15 then decide (ownA A s = x.2.2) else if x.1 = 16 then decide (0 < A 151) && (goesB A s 0 || goesB A s 1) else cmpB x.2.1 (if x.1 = 17 then pipA A s 0 + pipA A s 1 else if x.1 = 18 then max (pipA A s 0) (pipA A s 1) else if x.1 = 19 then min (pipA A s 0) (pipA A s 1) else plcA A s) x.2.2
theorem i1_b {c : Prop} [Decidable c] : (if c then some (1 : Int) else some 0) = some (bi (decide c)) := by
  by_cases h : c
  · rw [if_pos h, decide_eq_true h]; rfl
  · rw [if_neg h, decide_eq_false h]; rfl
theorem e_told {i : Nat} {v g y : Int} (hi : (i : Int) < 40) (h2 : σ 23 i = g) (h3 : σ 24 i = y) : f_Sen_isAsTold 21 v i σ = some (bi (cmpB g v y)) := by
  unfold f_Sen_isAsTold cmpB
  simp (disch := omega) only [ck_p, Int.toNat_natCast, h2, h3, i1_b]
  by_cases c1 : g = 60
  · rw [if_pos c1, if_pos c1]
  · rw [if_neg c1, if_neg c1]
    by_cases c2 : g = 61
    · rw [if_pos c2, if_pos c2]
    · rw [if_neg c2, if_neg c2]
theorem e_isTrue {i : Nat} {t : Int} {x : Int × Int × Int} (hn : 1000000 < n) (hI : WfI A) (hW : WfR A) (hL : IslR σ 4 A) (hR : RowR σ 11 A) (hi : (i : Int) < 40) (ht : 0 ≤ t ∧ t < A 1) (h1 : σ 22 i = x.1) (h2 : σ 23 i = x.2.1) (h3 : σ 24 i = x.2.2) (hx : 12 ≤ x.1 ∧ x.1 ≤ 20) : f_Sen_isTrue n 21 11 4 t i σ = some (bi (lfB A x t)) := by
  have b := hI.2.1
  have b0 := hI.2.2.2.2 t 0 ht.1 ht.2 (by omega) (by omega)
  have b1 := hI.2.2.2.2 t 1 ht.1 ht.2 (by omega) (by omega)
  have rr := hW.2.1
  have l := hL.2.2.2.1 t ht.1 ht.2
  have r := hR.2.1 t ht.1 ht.2
  obtain ⟨x1, x2, x3⟩ := x
  have h1 : σ 22 i = x1 := h1
  have h2 : σ 23 i = x2 := h2
  have h3 : σ 24 i = x3 := h3
  have hx : 12 ≤ x1 ∧ x1 ≤ 20 := hx
  unfold f_Sen_isTrue
  simp (disch := omega) only [ck_p, lt_u, Int.toNat_natCast]
  have h1' : σ (21 + 1) i = x1 := h1
  have h3' : σ (21 + 3) i = x3 := h3
  simp only [l.1, l.2, r.1, r.2, hR.1, h1', h3']
  rw [wi (by omega) (by omega)]
  simp only [i1_b, e_told hi h2 h3, b1_s, e_Row_placeOf hn hI hW hR, e_Row_goesTo hI hW hL hR ht.1 ht.2 (show (0 : Int) ≤ 0 by omega) (show (0 : Int) ≤ 1 by omega), e_Row_goesTo hI hW hL hR ht.1 ht.2 (show (0 : Int) ≤ 1 by omega) (show (1 : Int) ≤ 1 by omega)]
  have hc : x1 = 12 ∨ x1 = 13 ∨ x1 = 14 ∨ x1 = 15 ∨ x1 = 16 ∨ x1 = 17 ∨ x1 = 18 ∨ x1 = 19 ∨ x1 = 20 := by omega
  rcases hc with rfl | rfl | rfl | rfl | rfl | rfl | rfl | rfl | rfl
  · rw [show ∀ (a0 a1 a2 a3 a4 a5 a6 a7 a8 f : Option Int), sw_ 12 12 [a0, a1, a2, a3, a4, a5, a6, a7, a8] f = a0 from fun _ _ _ _ _ _ _ _ _ _ => rfl]
    rfl
  · rw [show ∀ (a0 a1 a2 a3 a4 a5 a6 a7 a8 f : Option Int), sw_ 13 12 [a0, a1, a2, a3, a4, a5, a6, a7, a8] f = a1 from fun _ _ _ _ _ _ _ _ _ _ => rfl]
    rfl
  · rw [show ∀ (a0 a1 a2 a3 a4 a5 a6 a7 a8 f : Option Int), sw_ 14 12 [a0, a1, a2, a3, a4, a5, a6, a7, a8] f = a2 from fun _ _ _ _ _ _ _ _ _ _ => rfl]
    rfl
  · rw [show ∀ (a0 a1 a2 a3 a4 a5 a6 a7 a8 f : Option Int), sw_ 15 12 [a0, a1, a2, a3, a4, a5, a6, a7, a8] f = a3 from fun _ _ _ _ _ _ _ _ _ _ => rfl]
    rfl
  · rw [show ∀ (a0 a1 a2 a3 a4 a5 a6 a7 a8 f : Option Int), sw_ 16 12 [a0, a1, a2, a3, a4, a5, a6, a7, a8] f = a4 from fun _ _ _ _ _ _ _ _ _ _ => rfl]
    show _ = some (bi (decide (0 < A 151) && (goesB A t 0 || goesB A t 1)))
    by_cases g : 0 < A 151
    · rw [if_pos g, decide_eq_true g, decide_eq_false (show ¬ A 151 = 0 by omega)]
      cases goesB A t 0 <;> cases goesB A t 1 <;> rfl
    · rw [if_neg g, decide_eq_false g]
      rfl
  · rw [show ∀ (a0 a1 a2 a3 a4 a5 a6 a7 a8 f : Option Int), sw_ 17 12 [a0, a1, a2, a3, a4, a5, a6, a7, a8] f = a5 from fun _ _ _ _ _ _ _ _ _ _ => rfl]
    rw [ck_p (bi_or _)]
    rfl
  · rw [show ∀ (a0 a1 a2 a3 a4 a5 a6 a7 a8 f : Option Int), sw_ 18 12 [a0, a1, a2, a3, a4, a5, a6, a7, a8] f = a6 from fun _ _ _ _ _ _ _ _ _ _ => rfl]
    rw [ck_p (bi_or _)]
    rfl
  · rw [show ∀ (a0 a1 a2 a3 a4 a5 a6 a7 a8 f : Option Int), sw_ 19 12 [a0, a1, a2, a3, a4, a5, a6, a7, a8] f = a7 from fun _ _ _ _ _ _ _ _ _ _ => rfl]
    rw [ck_p (bi_or _)]
    rfl
  · rw [show ∀ (a0 a1 a2 a3 a4 a5 a6 a7 a8 f : Option Int), sw_ 20 12 [a0, a1, a2, a3, a4, a5, a6, a7, a8] f = a8 from fun _ _ _ _ _ _ _ _ _ _ => rfl]
    rw [ck_p (bi_or _)]
    rfl
theorem e_valM {t : Int} {w : Int} (hn : 1000000 < n) (hI : WfI (σ 181)) (hW : WfR (σ 181)) (ht : 0 ≤ t ∧ t < σ 181 1) (hw : 16 ≤ w ∧ w ≤ 19) : f_M_valueOf n w t σ = some (if w = 16 then pipA (σ 181) t 0 + pipA (σ 181) t 1 else if w = 17 then max (pipA (σ 181) t 0) (pipA (σ 181) t 1) else if w = 18 then min (pipA (σ 181) t 0) (pipA (σ 181) t 1) else plcA (σ 181) t) := by
  have b := hI.2.1
  have b0 := hI.2.2.2.2 t 0 ht.1 ht.2 (by omega) (by omega)
  have b1 := hI.2.2.2.2 t 1 ht.1 ht.2 (by omega) (by omega)
  unfold f_M_valueOf
  rw [e_M_pip ht.1 (by omega) (by omega) (by omega), b1_s, lt_u, e_M_pip ht.1 (by omega) (by omega) (by omega), b1_s, lt_u, e_M_most, b1_s, b1_s, e_M_placeOf hn hI hW, b1_s, wi (x := pipA (σ 181) t 0 + pipA (σ 181) t 1) (by omega) (by omega), wi (by omega) (by omega)]
  by_cases c1 : w = 16
  · rw [if_pos c1, if_pos c1]
  · rw [if_neg c1, if_neg c1]
    by_cases c2 : w = 17
    · rw [if_pos c2, if_pos c2]
    · rw [if_neg c2, if_neg c2]
      by_cases c3 : w = 18
      · rw [if_pos c3, if_pos c3]
        congr 1
        omega
      · rw [if_neg c3, if_neg c3]
theorem e_holdsL {k t c x y z : Int} {g : Int → Int → JSg → Option Int} (hn : 1000000 < n) (hI : WfI (σ 181)) (hW : WfR (σ 181)) (ht : 0 ≤ t ∧ t < σ 181 1) (hk : 0 ≤ k ∧ k < 60) (hc : 61 ≤ c ∧ c ≤ 69) (h0 : σ 181 (208 + 4 * k).toNat = c) (h1 : σ 181 (208 + 4 * k + 1).toNat = x) (h2 : σ 181 (208 + 4 * k + 2).toNat = y) (h3 : σ 181 (208 + 4 * k + 3).toNat = z) : f_M_holds_s n g k t σ = some (bi (lfB (σ 181) (c - 49, z, if c = 64 then x else y) t)) := by
  have b := hI.2.1
  have rr := hW.2.1
  unfold f_M_holds_s
  simp (disch := omega) only [wi, ck_p, lt_u, j0_s]
  rw [h0, h1, h2, h3, e_M_pip ht.1 (by omega) (by omega) (by omega), b1_s, e_M_pip ht.1 (by omega) (by omega) (by omega), b1_s, e_M_isHeld ht.1 (by omega), b1_s, ck_p (bi_or _), rmM, b1_s, show σ 181 (95 + t).toNat = whrA (σ 181) t from rfl, show σ 181 (67 + t).toNat = ownA (σ 181) t from rfl]
  simp only [i1_b]
  have hcc : c = 61 ∨ c = 62 ∨ c = 63 ∨ c = 64 ∨ c = 65 ∨ (66 ≤ c ∧ c ≤ 69) := by omega
  rcases hcc with rfl | rfl | rfl | rfl | rfl | hcc
  · rw [show ∀ (a0 a1 a2 a3 a4 a5 a6 a7 f : Option Int), ls_ 61 [1, 2, 3, 61, 62, 63, 64, 65] [a0, a1, a2, a3, a4, a5, a6, a7] f = a3 from fun _ _ _ _ _ _ _ _ _ => rfl]
    rfl
  · rw [show ∀ (a0 a1 a2 a3 a4 a5 a6 a7 f : Option Int), ls_ 62 [1, 2, 3, 61, 62, 63, 64, 65] [a0, a1, a2, a3, a4, a5, a6, a7] f = a4 from fun _ _ _ _ _ _ _ _ _ => rfl]
    rfl
  · rw [show ∀ (a0 a1 a2 a3 a4 a5 a6 a7 f : Option Int), ls_ 63 [1, 2, 3, 61, 62, 63, 64, 65] [a0, a1, a2, a3, a4, a5, a6, a7] f = a5 from fun _ _ _ _ _ _ _ _ _ => rfl]
    rfl
  · rw [show ∀ (a0 a1 a2 a3 a4 a5 a6 a7 f : Option Int), ls_ 64 [1, 2, 3, 61, 62, 63, 64, 65] [a0, a1, a2, a3, a4, a5, a6, a7] f = a6 from fun _ _ _ _ _ _ _ _ _ => rfl]
    rfl
  · rw [show ∀ (a0 a1 a2 a3 a4 a5 a6 a7 f : Option Int), ls_ 65 [1, 2, 3, 61, 62, 63, 64, 65] [a0, a1, a2, a3, a4, a5, a6, a7] f = a7 from fun _ _ _ _ _ _ _ _ _ => rfl]
    show _ = some (bi (decide (0 < σ 181 151) && (goesB (σ 181) t 0 || goesB (σ 181) t 1)))
    by_cases g : 0 < σ 181 151
    · rw [if_pos g, decide_eq_true g, e_M_fitsEnd hI hW (by omega) ht.1 ht.2 (by omega) (by omega), b1_s, e_M_fitsEnd hI hW (by omega) ht.1 ht.2 (by omega) (by omega), b1_s]
      cases goesB (σ 181) t 0 <;> cases goesB (σ 181) t 1 <;> rfl
    · rw [if_neg g, decide_eq_false g]
      rfl
  · have key : ∀ v : Int, (if z = 60 then some (bi (decide (v < y))) else if z = 61 then some (bi (decide (v = y))) else some (bi (decide (y < v)))) = some (bi (cmpB z v y)) := by
      intro v
      unfold cmpB
      by_cases c1 : z = 60
      · rw [if_pos c1, if_pos c1]
      · rw [if_neg c1, if_neg c1]
        by_cases c2 : z = 61
        · rw [if_pos c2, if_pos c2]
        · rw [if_neg c2, if_neg c2]
    rw [e_valM hn hI hW ht (by omega), b1_s, key]
    have hcd : c = 66 ∨ c = 67 ∨ c = 68 ∨ c = 69 := by omega
    rcases hcd with rfl | rfl | rfl | rfl
    · rw [show ∀ (a0 a1 a2 a3 a4 a5 a6 a7 f : Option Int), ls_ 66 [1, 2, 3, 61, 62, 63, 64, 65] [a0, a1, a2, a3, a4, a5, a6, a7] f = f from fun _ _ _ _ _ _ _ _ _ => rfl]
      rfl
    · rw [show ∀ (a0 a1 a2 a3 a4 a5 a6 a7 f : Option Int), ls_ 67 [1, 2, 3, 61, 62, 63, 64, 65] [a0, a1, a2, a3, a4, a5, a6, a7] f = f from fun _ _ _ _ _ _ _ _ _ => rfl]
      rfl
    · rw [show ∀ (a0 a1 a2 a3 a4 a5 a6 a7 f : Option Int), ls_ 68 [1, 2, 3, 61, 62, 63, 64, 65] [a0, a1, a2, a3, a4, a5, a6, a7] f = f from fun _ _ _ _ _ _ _ _ _ => rfl]
      rfl
    · rw [show ∀ (a0 a1 a2 a3 a4 a5 a6 a7 f : Option Int), ls_ 69 [1, 2, 3, 61, 62, 63, 64, 65] [a0, a1, a2, a3, a4, a5, a6, a7] f = f from fun _ _ _ _ _ _ _ _ _ => rfl]
      rfl
theorem e_part {i : Nat} {x : Int × Int × Int} (hn : 1000000 < n) (hI : WfI A) (hW : WfR A) (hL : IslR σ 4 A) (hR : RowR σ 11 A) (hi : (i : Int) < 40) (h1 : σ 22 i = x.1) (h2 : σ 23 i = x.2.1) (h3 : σ 24 i = x.2.2) (hx : 12 ≤ x.1 ∧ x.1 ≤ 20) : f_Sen_trueOfPart n 21 11 4 i σ = some (orF (lfB A x) (fun t => t) (A 1) 0 0) := by
  have b := hI.2.1
  apply rt_eq
  unfold f_Sen_trueOfPart
  refine rt_lt (rt_lt ?_)
  refine rt_w2 (I := fun (y t : Int) => (0 ≤ t ∧ t ≤ A 1) ∧ orF (lfB A x) (fun t => t) (A 1) t y = orF (lfB A x) (fun t => t) (A 1) 0 0) (μ := fun (y t : Int) => (A 1 - t).toNat) ?_ n 0 0 ⟨by omega, rfl⟩ (by omega)
  rintro y t ⟨⟨t0, t1⟩, e1⟩ rc hrc
  rw [hL.2.1]
  refine rt_ite (fun h => ?_) (fun h => ?_)
  · rw [orF_s h] at e1
    rw [e_isTrue hn hI hW hL hR hi ⟨t0, h⟩ h1 h2 h3 hx, b1_s, j1_s, wi (by omega) (by omega)]
    simp only [lt_u]
    cases c : lfB A x t
    · rw [c] at e1
      rw [if_pos by0]
      exact hrc _ _ ⟨by omega, e1⟩ (by omega)
    · rw [c] at e1
      rw [if_neg bn0]
      exact hrc _ _ ⟨by omega, e1⟩ (by omega)
  · exact rt_some (by rw [← e1, orF_e (by omega)])
theorem part_bt {x : Int × Int × Int} {t : Int} (hI : WfI A) (ht : 0 ≤ t ∧ t < A 1) : bt (orF (lfB A x) (fun t => t) (A 1) 0 0) t.toNat = lfB A x t := by
  have b := hI.2.1
  rw [orF_bt _ 0 0 rfl (fun s h0 h1 _ => by omega), bt_0, Bool.false_or]
  cases h : lfB A x t
  · cases c : anyB (fun s => lfB A x s && decide (((t.toNat : Nat) : Int) = s)) (A 1) 0
    · rfl
    · obtain ⟨s, s0, s1, s2⟩ := (any_iff _ 0 rfl).mp c
      simp only [Bool.and_eq_true, decide_eq_true_eq] at s2
      rw [show s = t by omega, h] at s2
      exact absurd s2.1 (by decide)
  · refine (any_iff _ 0 rfl).mpr ⟨t, ht.1, ht.2, ?_⟩
    simp only [Bool.and_eq_true, decide_eq_true_eq]
    exact ⟨h, by omega⟩
def tOB (n : Nat) : (Int → Int → JSg → Option (Int × JSg)) → Int → Int → JSg → Option (Int × JSg) := fun rc3 (x4 : Int) (x5 : Int) (s6 : JSg) => if x5 < (s6 21 1) then (chk (0 ≤ x5 ∧ x5 < 40) <| jn2 (fun (y8 : Int) (s9 : JSg) => lt_ (w32 (x5 + 1)) fun v10 => rc3 y8 v10 s9) fun j7 => jn0 (chk (0 ≤ x5 ∧ x5 < 40) <| jn0 (chk (0 ≤ x5 ∧ x5 < 40) <| jn0 (if x4 < 20 then (bd1 (f_Sen_trueOfPart n 21 11 4 x5 s6) fun r14 => chk (0 ≤ x4 ∧ x4 < 20) <| lt_ (sp s6 (21 + 4) x4.toNat r14) fun s15 => lt_ (w32 (x4 + 1)) fun v16 => j7 v16 s15) else (j7 x4 s6)) fun j13 => if (s6 (21 + 1) x5.toNat) = 9 then (if x4 < 2 then (j13) else (lt_ (w32 (x4 + (-1))) fun v17 => chk (0 ≤ (w32 (v17 - 1)) ∧ (w32 (v17 - 1)) < 20) <| chk (0 ≤ v17 ∧ v17 < 20) <| chk (0 ≤ (w32 (v17 - 1)) ∧ (w32 (v17 - 1)) < 20) <| lt_ (sp s6 (21 + 4) (w32 (v17 - 1)).toNat (or32 (s6 (21 + 4) (w32 (v17 - 1)).toNat) (s6 (21 + 4) v17.toNat))) fun s18 => j7 v17 s18)) else (j13)) fun j12 => if (s6 (21 + 1) x5.toNat) = 10 then (if x4 < 2 then (j12) else (lt_ (w32 (x4 + (-1))) fun v19 => chk (0 ≤ (w32 (v19 - 1)) ∧ (w32 (v19 - 1)) < 20) <| chk (0 ≤ v19 ∧ v19 < 20) <| chk (0 ≤ (w32 (v19 - 1)) ∧ (w32 (v19 - 1)) < 20) <| lt_ (sp s6 (21 + 4) (w32 (v19 - 1)).toNat (an32 (s6 (21 + 4) (w32 (v19 - 1)).toNat) (s6 (21 + 4) v19.toNat))) fun s20 => j7 v19 s20)) else (j12)) fun j11 => if (s6 (21 + 1) x5.toNat) = 11 then (if x4 < 1 then (j11) else (chk (0 ≤ (w32 (x4 - 1)) ∧ (w32 (x4 - 1)) < 20) <| chk (0 ≤ (w32 (x4 - 1)) ∧ (w32 (x4 - 1)) < 20) <| lt_ (sp s6 (21 + 4) (w32 (x4 - 1)).toNat (xr32 (s6 (21 + 4) (w32 (x4 - 1)).toNat) (-1))) fun s21 => j7 x4 s21)) else (j11)) else (some (s6 (21 + 4) 0, s6))
theorem tob_e : f_Sen_trueOf n 21 11 4 σ = wh3 n (tOB n) 0 0 σ := rfl
theorem tob_leaf {m i h : Nat} {r : Int} (hi : (i : Int) < s 21 1 ∧ s 21 1 ≤ 40) (hh : h < 20) (hc : 12 ≤ s 22 i) (e : f_Sen_trueOfPart n 21 11 4 i s = some r) : wh3 (m + 1) (tOB n) h i s = wh3 m (tOB n) ((h + 1 : Nat) : Int) ((i + 1 : Nat) : Int) (sp s 25 h r) := by
  show tOB n (wh3 m (tOB n)) h i s = _
  unfold tOB
  have h11 : ¬ s (21 + 1) i = 11 := fun q => by have : s 22 i = 11 := q; omega
  have h10 : ¬ s (21 + 1) i = 10 := fun q => by have : s 22 i = 10 := q; omega
  have h9 : ¬ s (21 + 1) i = 9 := fun q => by have : s 22 i = 9 := q; omega
  simp only [j2_s, j0_s, lt_u]
  rw [if_pos hi.1, ck_p (by omega), Int.toNat_natCast, if_neg h11, ck_p (by omega), if_neg h10, ck_p (by omega), if_neg h9, if_pos (by omega), e, b1_s, ck_p (by omega), Int.toNat_natCast, wi (by omega) (by omega), wi (by omega) (by omega)]
  rfl
theorem tob_not {m i h : Nat} (hi : (i : Int) < s 21 1 ∧ s 21 1 ≤ 40) (hh : h < 20) (hc : s 22 i = 11) : wh3 (m + 1) (tOB n) ((h + 1 : Nat) : Int) i s = wh3 m (tOB n) ((h + 1 : Nat) : Int) ((i + 1 : Nat) : Int) (sp s 25 h (xr32 (s 25 h) (-1))) := by
  show tOB n (wh3 m (tOB n)) ((h + 1 : Nat) : Int) i s = _
  unfold tOB
  have h11 : s (21 + 1) i = 11 := hc
  simp only [j2_s, j0_s, lt_u]
  rw [if_pos hi.1, ck_p (by omega), Int.toNat_natCast, if_pos h11, if_neg (by omega), wi (x := ((h + 1 : Nat) : Int) - 1) (by omega) (by omega), ck_p (by omega), ck_p (by omega), wi (by omega) (by omega), show (((h + 1 : Nat) : Int) - 1).toNat = h by omega]
  rfl
theorem tob_bin {m i h : Nat} {w : Int} (hi : (i : Int) < s 21 1 ∧ s 21 1 ≤ 40) (hh : h < 19) (hw : w = 9 ∨ w = 10) (hc : s 22 i = w) : wh3 (m + 1) (tOB n) ((h + 2 : Nat) : Int) i s = wh3 m (tOB n) ((h + 1 : Nat) : Int) ((i + 1 : Nat) : Int) (sp s 25 h (if w = 9 then or32 (s 25 h) (s 25 (h + 1)) else an32 (s 25 h) (s 25 (h + 1)))) := by
  show tOB n (wh3 m (tOB n)) ((h + 2 : Nat) : Int) i s = _
  unfold tOB
  have hc : s (21 + 1) i = w := hc
  simp only [j2_s, j0_s, lt_u]
  rw [if_pos hi.1, ck_p (by omega), Int.toNat_natCast, hc, show ((h + 2 : Nat) : Int) + -1 = ((h + 1 : Nat) : Int) by omega, wi (x := ((h + 1 : Nat) : Int)) (by omega) (by omega), wi (x := ((h + 1 : Nat) : Int) - 1) (by omega) (by omega), wi (x := (i : Int) + 1) (by omega) (by omega), show (((h + 1 : Nat) : Int) - 1).toNat = h by omega, Int.toNat_natCast]
  rcases hw with rfl | rfl
  · rw [if_neg (show ¬ (9 : Int) = 11 by decide), ck_p (by omega), if_neg (show ¬ (9 : Int) = 10 by decide), ck_p (by omega), if_pos rfl, if_neg (by omega), ck_p (by omega), ck_p (by omega), ck_p (by omega), if_pos rfl]
    rfl
  · rw [if_neg (show ¬ (10 : Int) = 11 by decide), ck_p (by omega), if_pos rfl, if_neg (by omega), ck_p (by omega), ck_p (by omega), ck_p (by omega), if_neg (by decide)]
    rfl
end
