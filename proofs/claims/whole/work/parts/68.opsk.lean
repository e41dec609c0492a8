/-! LAYER 3s: greedy -/
def gfP (A : JA) (m : Int) : Option Int := if whyA A (ownA A (m / 2)) (m / 2) (m % 2) = 0 then some m else none
def gNx (A : JA) : Option Int := fi (gfP A) (2 * A 1) 0
def gLy (A : JA) (m : Int) : JA := layN A (ownA A (m / 2)) (m / 2) (m % 2)
def GrdP : Nat → JA → Prop
  | 0, A => gNx A = none
  | k + 1, A => ∃ m, gNx A = some m ∧ GrdP k (gLy A m)
theorem grd_u : ∀ (k l : Nat) (A : JA), GrdP k A → GrdP l A → k = l := by
  intro k
  induction k with
  | zero =>
    intro l A h1 h2
    cases l with
    | zero => rfl
    | succ l =>
      obtain ⟨m, h, -⟩ := h2
      rw [show gNx A = none from h1] at h
      cases h
  | succ k ih =>
    intro l A h1 h2
    obtain ⟨m, h, h3⟩ := h1
    cases l with
    | zero =>
      rw [show gNx A = none from h2] at h
      cases h
    | succ l =>
      obtain ⟨m2, h4, h5⟩ := h2
      rw [h] at h4
      cases h4
      rw [ih l _ h3 h5]
theorem fi_some {Z : Type} {f : Int → Option Z} {N : Int} {z : Z} : ∀ (k : Nat) (i : Int), (N - i).toNat = k → fi f N i = some z → ∃ m, i ≤ m ∧ m < N ∧ f m = some z := by
  intro k
  induction k with
  | zero =>
    intro i h e
    rw [fi_e (by omega)] at e
    cases e
  | succ k ih =>
    intro i h e
    rw [fi_s (by omega)] at e
    cases c : f i with
    | none =>
      rw [c] at e
      obtain ⟨m, h1, h2, h3⟩ := ih (i + 1) (by omega) e
      exact ⟨m, by omega, h2, h3⟩
    | some w =>
      rw [c] at e
      exact ⟨i, by omega, by omega, by rw [c]; exact e⟩
section
variable {σ : JSg} {n p ip : Nat} {A B : JA}
theorem gNx_ok {m : Int} (hI : WfI A) (hW : WfR A) (h : gNx A = some m) : (0 ≤ m ∧ m < 2 * A 1) ∧ (0 ≤ m / 2 ∧ m / 2 < A 1) ∧ (0 ≤ m % 2 ∧ m % 2 ≤ 1) ∧ whrA A (m / 2) = 0 ∧ WfR (gLy A m) ∧ A 151 + 1 ≤ A 1 ∧ (∀ k : Nat, ¬ (67 ≤ k ∧ k < 192) → gLy A m k = A k) ∧ gLy A m 151 = A 151 + 1 := by
  have b := hI.2.1
  obtain ⟨q, q0, q1, q2⟩ := fi_some _ _ rfl h
  unfold gfP at q2
  split at q2
  · rename_i g
    cases q2
    have ow := why_own g
    have hs : 0 ≤ m / 2 ∧ m / 2 < A 1 := by omega
    have rm := row_room hI hW hs.1 hs.2 (by omega)
    have rr := hW.2.1
    exact ⟨by omega, by omega, by omega, ow.2, layN_wf hI hW hs ow.2 rfl, rm, fun k hk => layN_lo (by omega) (by omega) (by omega), layN_151⟩
  · cases q2
theorem e_Row_putFirst (hn : 1000000 < n) (hd : ip + 6 < p) (hI : WfI A) (hW : WfR A) (hL : IslR σ ip A) (hR : RowR σ p A) : Ret (f_Row_putFirst n p ip σ) (fun z => (gNx A = none ∧ z = (0, σ)) ∨ ∃ m, gNx A = some m ∧ z.1 = 1 ∧ Agr (rowC p) σ z.2 ∧ RowR z.2 p (gLy A m)) := by
  have b := hI.2.1
  unfold f_Row_putFirst
  refine rt_lt ?_
  refine rt_w1 (I := fun i => (0 ≤ i ∧ i ≤ A 1) ∧ fi (gfP A) (2 * A 1) (2 * i) = gNx A) (μ := fun i => (A 1 - i).toNat) ?_ n 0 ⟨by omega, rfl⟩ (by omega)
  rintro i ⟨⟨i0, i1⟩, e1⟩ rc hrc
  rw [hL.2.1]
  refine rt_ite (fun h => ?_) (fun h => ?_)
  · refine rt_lt ?_
    refine rt_w1 (I := fun e => (0 ≤ e ∧ e ≤ 2) ∧ fi (gfP A) (2 * A 1) (2 * i + e) = gNx A) (μ := fun e => (2 - e).toNat) ?_ n 0 ⟨by omega, by rw [← e1]; congr 1; omega⟩ (by omega)
    rintro e ⟨⟨j0, j1⟩, e2⟩ rc2 hrc2
    refine rt_ite (fun g => ?_) (fun g => ?_)
    · rw [lt_u, wi (by omega) (by omega)]
      exact hrc _ ⟨by omega, by rw [← e2]; congr 1; omega⟩ (by omega)
    · rw [(hR.2.1 i i0 h).1, e_Row_refusal hI hW hL hR i0 h (by omega) (by omega), b1_s]
      rw [fi_s (by omega)] at e2
      refine rt_chk (by omega) (rt_ite (fun c => ?_) (fun c => ?_))
      · have e3 : gfP A (2 * i + e) = some (2 * i + e) := by
          unfold gfP
          rw [show (2 * i + e) / 2 = i by omega, show (2 * i + e) % 2 = e by omega, if_pos c]
        rw [e3] at e2
        have ow := why_own c
        refine rt_b1 (e_Row_put hn hd hI hW hL hR ⟨i0, h⟩ ow.2 rfl (by omega)) (fun t ht => rt_some (Or.inr ⟨2 * i + e, e2.symm, rfl, ht.1, ?_⟩))
        show RowR t p (layN A (ownA A ((2 * i + e) / 2)) ((2 * i + e) / 2) ((2 * i + e) % 2))
        rw [show (2 * i + e) / 2 = i by omega, show (2 * i + e) % 2 = e by omega]
        exact ht.2
      · have e3 : gfP A (2 * i + e) = none := by
          unfold gfP
          rw [show (2 * i + e) / 2 = i by omega, show (2 * i + e) % 2 = e by omega, if_neg c]
        rw [e3] at e2
        rw [lt_u, wi (by omega) (by omega)]
        exact hrc2 _ ⟨by omega, by rw [show 2 * i + (e + 1) = 2 * i + e + 1 by omega]; exact e2⟩ (by omega)
  · rw [fi_e (by omega)] at e1
    exact rt_some (Or.inl ⟨e1.symm, rfl⟩)
theorem gly_I (hI : WfI A) {m : Int} (h : ∀ k : Nat, ¬ (67 ≤ k ∧ k < 192) → gLy A m k = A k) : WfI (gLy A m) := WfI_cg (fun k hk _ => h k (by omega)) hI
theorem e_W_greedy (hn : 1000000 < n) (hI : WfI A) (hW : WfR A) (hL : IslR σ 4 A) (hR : RowR σ 11 A) : Ret (f_W_greedy n σ) (fun z => (∃ k : Nat, z.1 = k ∧ GrdP k A) ∧ Agr (fun a _ => 96 ≤ a ∧ a ≤ 102) σ z.2) := by
  have b := hI.2.1
  have rr := hW.2.1
  obtain ⟨s, s1, s2, s3, s4, s5⟩ := e_Row_copy (σ := σ) (p := 96) (q := 11) (ip := 4) (iq := 4) (by omega)
  unfold f_W_greedy
  rw [s1, b1_s]
  refine rt_lt ?_
  refine rt_w2 (I := fun (x : Int) (u : JSg) => ∃ (j : Nat) (B : JA), x = j ∧ (x ≤ B 151 ∧ x ≤ 28) ∧ WfI B ∧ WfR B ∧ (∀ k : Nat, ¬ (67 ≤ k ∧ k < 192) → B k = A k) ∧ RowR u 96 B ∧ Agr (fun a _ => 96 ≤ a ∧ a ≤ 102) σ u ∧ ∀ k, GrdP k B → GrdP (j + k) A) (μ := fun (x : Int) (u : JSg) => (28 - x).toNat) ?_ n _ _ ⟨0, A, rfl, by omega, hI, hW, fun _ _ => rfl, RowR_cp hI hW s3 s4 s5 hR, fun a j h => s2 a j (by unfold rowC; omega), fun k hk => by rw [Nat.zero_add]; exact hk⟩ (by omega)
  rintro x u ⟨j, B, rfl, ⟨x1, x2⟩, bI, bW, blo, bR, ua, bg⟩ rc hrc
  have uL : IslR u 4 B := IslR_cg (by omega) (fun k hk _ => blo k (by omega)) (IslR_ag (fun q i hq => ua q i (by omega)) hL)
  refine rt_ite (fun h => ?_) (fun h => ?_)
  · refine rt_b2 (e_Row_putFirst hn (by omega) bI bW uL bR) (fun y t ht => ?_)
    rcases ht with ⟨g1, g2⟩ | ⟨m, g1, g2, g3, g4⟩
    · cases g2
      rw [if_pos rfl]
      exact rt_some ⟨⟨j, rfl, by have := bg 0 g1; rwa [Nat.add_zero] at this⟩, ua⟩
    · have ok := gNx_ok bI bW g1
      have g2' : y = 1 := g2
      have bb := bI.2.1
      rw [g2', if_neg (by decide), lt_u, wi (by omega) (by omega)]
      refine hrc _ _ ⟨j + 1, gLy B m, by omega, by rw [ok.2.2.2.2.2.2.2]; omega, gly_I bI ok.2.2.2.2.2.2.1, ok.2.2.2.2.1, fun k hk => (ok.2.2.2.2.2.2.1 k hk).trans (blo k hk), g4, fun a i hq => (g3 a i (by unfold rowC; omega)).trans (ua a i hq), fun k hk => ?_⟩ (by omega)
      have := bg (k + 1) ⟨m, g1, hk⟩
      rwa [show j + 1 + k = j + (k + 1) by omega]
  · have bb := bI.2.1
    have : gNx B = none := by
      cases c : gNx B with
      | none => rfl
      | some m =>
        have ok := gNx_ok bI bW c
        omega
    exact rt_some ⟨⟨j, rfl, by have := bg 0 this; rwa [Nat.add_zero] at this⟩, ua⟩
theorem asd_cp {Z : Type} {k : JSg → Option Z} {P : Z → Prop} (hn : 1000000 < n) (hk : ∀ τ, (∀ a j, a ≠ 195 → τ a j = σ a j) → (∀ j, j < 125 → τ 195 j = σ 181 (67 + j)) → Ret (k τ) P) : Ret (bd1 (f_M_layAside n σ) k) P := by
  refine rt_b1 (R := fun τ => (∀ a j, a ≠ 195 → τ a j = σ a j) ∧ (∀ j, j < 125 → τ 195 j = σ 181 (67 + j))) ?_ (fun τ h => hk τ h.1 h.2)
  unfold f_M_layAside
  refine rt_lt ?_
  refine rt_w2 (I := fun x s => (0 ≤ x ∧ x ≤ 125) ∧ (∀ a j, a ≠ 195 → s a j = σ a j) ∧ (∀ j : Nat, (j : Int) < x → s 195 j = σ 181 (67 + j))) (μ := fun x s => (125 - x).toNat) ?_ n 0 σ ⟨by omega, fun _ _ _ => rfl, fun j h => by omega⟩ (by omega)
  rintro x s ⟨⟨x0, x1⟩, e1, e2⟩ rc hrc
  refine rt_ite (fun h => ?_) (fun h => ?_)
  · rw [wi (x := 67 + x) (by omega) (by omega), wi (x := x + 1) (by omega) (by omega), e1 181 _ (by omega)]
    refine rt_chk (by omega) (rt_chk (by omega) (rt_lt (rt_lt (hrc _ _ ⟨by omega, fun a j ha => by rw [sp_nq ha]; exact e1 a j ha, fun j hj => ?_⟩ (by omega)))))
    rw [sp_at, if_pos rfl]
    by_cases c : (j : Int) = x
    · rw [if_pos (by omega)]; congr 1; omega
    · rw [if_neg (by omega)]; exact e2 j (by omega)
  · exact rt_some ⟨e1, fun j hj => e2 j (by omega)⟩
theorem bck_cp {Z : Type} {k : JSg → Option Z} {P : Z → Prop} (hn : 1000000 < n) (hk : ∀ τ, (∀ a j, ¬ (a = 181 ∧ 67 ≤ j ∧ j < 192) → τ a j = σ a j) → (∀ j, j < 125 → τ 181 (67 + j) = σ 195 j) → Ret (k τ) P) : Ret (bd1 (f_M_layBack n σ) k) P := by
  refine rt_b1 (R := fun τ => (∀ a j, ¬ (a = 181 ∧ 67 ≤ j ∧ j < 192) → τ a j = σ a j) ∧ (∀ j, j < 125 → τ 181 (67 + j) = σ 195 j)) ?_ (fun τ h => hk τ h.1 h.2)
  unfold f_M_layBack
  refine rt_lt ?_
  refine rt_w2 (I := fun x s => (0 ≤ x ∧ x ≤ 125) ∧ (∀ a j : Nat, ¬ (a = 181 ∧ 67 ≤ j ∧ (j : Int) < 67 + x) → s a j = σ a j) ∧ (∀ j : Nat, (j : Int) < x → s 181 (67 + j) = σ 195 j)) (μ := fun x s => (125 - x).toNat) ?_ n 0 σ ⟨by omega, fun _ _ _ => rfl, fun j h => by omega⟩ (by omega)
  rintro x s ⟨⟨x0, x1⟩, e1, e2⟩ rc hrc
  refine rt_ite (fun h => ?_) (fun h => ?_)
  · rw [wi (x := 67 + x) (by omega) (by omega), wi (x := x + 1) (by omega) (by omega), e1 195 _ (by omega)]
    refine rt_chk (by omega) (rt_chk (by omega) (rt_lt (rt_lt (hrc _ _ ⟨by omega, fun a j ha => ?_, fun j hj => ?_⟩ (by omega)))))
    · rw [sp_at]
      by_cases c : a = 181
      · rw [if_pos c, if_neg (by omega)]; exact e1 a j (by omega)
      · rw [if_neg c]; exact e1 a j (by omega)
    · rw [sp_at, if_pos rfl]
      by_cases c : (j : Int) = x
      · rw [if_pos (by omega)]; congr 1; omega
      · rw [if_neg (by omega)]; exact e2 j (by omega)
  · exact rt_some ⟨fun a j ha => e1 a j (by omega), fun j hj => e2 j (by omega)⟩
theorem e_M_greedy (hn : 1000000 < n) (hI : WfI (σ 181)) (hW : WfR (σ 181)) : Ret (f_M_greedy n σ) (fun z => (∃ k : Nat, z.1 = k ∧ GrdP k (σ 181)) ∧ Agr (fun a j => a = 195 ∨ (a = 179 ∧ j = 0)) σ z.2) := by
  have b := hI.2.1
  have rr := hW.2.1
  generalize hA : σ 181 = A at *
  unfold f_M_greedy
  refine rt_lt (asd_cp hn (fun τ t1 t2 => rt_lt (rt_lt ?_)))
  have tA : τ 181 = A := (funext fun j => t1 181 j (by decide)).trans (by rw [th_A, hA])
  have t195 : ∀ j, j < 125 → τ 195 j = A (67 + j) := fun j hj => by rw [t2 j hj, th_A, hA]
  have t0 : ∀ a j, ¬ (a = 195 ∨ (a = 179 ∧ j = 0)) → τ a j = σ a j := by
    intro a j h
    rw [t1 a j (by omega), sp_at]
    by_cases c : a = 179
    · rw [if_pos c, if_neg (by omega)]
    · rw [if_neg c]
  refine rt_w3 (I := fun (x m : Int) (u : JSg) => ∃ (j : Nat) (B : JA), x = j ∧ (x ≤ B 151) ∧ (0 ≤ m ∧ m ≤ 2 * A 1) ∧ WfI B ∧ WfR B ∧ (∀ k : Nat, ¬ (67 ≤ k ∧ k < 192) → B k = A k) ∧ u 181 = B ∧ (∀ a i, a ≠ 181 → u a i = τ a i) ∧ (∀ k, GrdP k B → GrdP (j + k) A) ∧ fi (gfP B) (2 * A 1) m = gNx B) (μ := fun (x m : Int) (u : JSg) => ((A 1 - u 181 151) * 100 + (2 * A 1 - m)).toNat) ?_ n _ _ _ ⟨0, A, rfl, by omega, by omega, hI, hW, fun _ _ => rfl, tA, fun _ _ _ => rfl, fun k hk => by rw [Nat.zero_add]; exact hk, rfl⟩ (by rw [tA]; omega)
  rintro x m u ⟨j, B, rfl, x1, ⟨m0, m1⟩, bI, bW, blo, uB, ua, bg, be⟩ rc hrc
  have bb := bI.2.1
  have br := bW.2.1
  have b1 : B 1 = A 1 := blo 1 (by omega)
  have u151 : u 181 151 = B 151 := by rw [uB]
  rw [stM, b1_s, uB, b1, wi (x := 2 * A 1) (by omega) (by omega)]
  refine rt_ite (fun h => ?_) (fun h => ?_)
  · rw [dv_p m0 (by omega) (by omega) (by omega), rm_p m0 (by omega) (by omega) (by omega), lt_u, wi (x := 67 + m / 2) (by omega) (by omega), show B (67 + m / 2).toNat = ownA B (m / 2) from rfl]
    rw [e_M_whyNot (by rw [uB]; exact bI) (by rw [uB]; exact bW) (by omega) (by rw [uB]; omega) (by omega) (by omega), b1_s, uB, j3_s]
    rw [fi_s (by omega)] at be
    refine rt_chk (by omega) (rt_ite (fun c => ?_) (fun c => ?_))
    · have e3 : gfP B m = some m := if_pos c
      rw [e3] at be
      have be : gNx B = some m := be.symm
      have ok := gNx_ok bI bW be
      have ow := why_own c
      refine rt_chk (by omega) (rt_b1 (e_M_lays hn (by rw [uB]; exact bI) (by rw [uB]; exact bW) (by rw [uB]; omega) (by rw [uB]; exact ow.2) (by rw [uB]) (by omega)) (fun t ht => ?_))
      have tB : t 181 = gLy B m := by rw [ht.2, uB]; rfl
      rw [lt_u, lt_u, wi (by omega) (by omega)]
      refine hrc _ _ _ ⟨j + 1, gLy B m, by omega, by rw [ok.2.2.2.2.2.2.2]; omega, by omega, gly_I bI ok.2.2.2.2.2.2.1, ok.2.2.2.2.1, fun k hk => (ok.2.2.2.2.2.2.1 k hk).trans (blo k hk), tB, fun a i ha => (ht.1 a i ha).trans (ua a i ha), fun k hk => ?_, ?_⟩ ?_
      · have := bg (k + 1) ⟨m, be, hk⟩
        rwa [show j + 1 + k = j + (k + 1) by omega]
      · unfold gNx
        rw [ok.2.2.2.2.2.2.1 1 (by omega), b1]
      · rw [tB, ok.2.2.2.2.2.2.2, uB]
        omega
    · have e3 : gfP B m = none := if_neg c
      rw [e3] at be
      rw [lt_u, wi (by omega) (by omega)]
      exact hrc _ _ _ ⟨j, B, rfl, x1, by omega, bI, bW, blo, uB, ua, bg, be⟩ (by omega)
  · rw [fi_e (by omega)] at be
    refine bck_cp hn (fun υ v1 v2 => rt_some ⟨⟨j, rfl, by have := bg 0 be.symm; rwa [Nat.add_zero] at this⟩, fun a i ha => ?_⟩)
    show υ a i = σ a i
    by_cases c : a = 181
    · subst c
      by_cases d : 67 ≤ i ∧ i < 192
      · have := v2 (i - 67) (by omega)
        rw [show 67 + (i - 67) = i by omega, ua 195 _ (by decide), t195 _ (by omega), show 67 + (i - 67) = i by omega] at this
        rw [this, hA]
      · rw [v1 181 i (by omega), uB, blo i d, hA]
    · rw [v1 a i (by omega), ua a i c]
      exact t0 a i ha
end
theorem op_greedy : Op_greedy Inv := by
  intro σ H
  have hI := in_I H
  have hW := in_W H
  obtain ⟨z, e1, ⟨k, e2, e3⟩, e4⟩ := e_W_greedy hNN hI hW (in_L H) (in_R H)
  have zA : z.2 181 = σ 181 := funext fun j => e4 181 j (by omega)
  obtain ⟨y, f1, ⟨l, f2, f3⟩, f4⟩ := e_M_greedy (σ := z.2) hNN (by rw [zA]; exact hI) (by rw [zA]; exact hW)
  rw [zA] at f3
  have := grd_u k l _ e3 f3
  subst this
  refine ⟨k, z.2, y.2, by rw [← e2]; exact e1, by rw [← f2]; exact f1, inv_ag (fun a j h => ?_) H⟩
  unfold scr at h
  rw [f4 a j (by omega), e4 a j (by omega)]
