/-! LAYER 3i: what changes the row, on both sides -/
theorem pig : ∀ (N m : Nat) (f : Nat → Nat), (∀ i, i < m → f i < N) → (∀ i j, i < j → j < m → f i ≠ f j) → m ≤ N := by
  intro N
  induction N with
  | zero =>
    intro m f h1 h2
    by_cases h : m = 0
    · omega
    · have := h1 0 (by omega); omega
  | succ N ih =>
    intro m f h1 h2
    by_cases hx : ∃ i, i < m ∧ f i = N
    · obtain ⟨i, hi, e⟩ := hx
      have := ih (m - 1) (fun j => if j < i then f j else f (j + 1)) ?_ ?_
      · omega
      · intro j hj
        show (if j < i then f j else f (j + 1)) < N
        by_cases c : j < i
        · rw [if_pos c]
          have a := h1 j (by omega)
          have b := h2 j i c hi
          omega
        · rw [if_neg c]
          have a := h1 (j + 1) (by omega)
          have b := h2 i (j + 1) (by omega) (by omega)
          omega
      · intro j k hjk hk
        show (if j < i then f j else f (j + 1)) ≠ (if k < i then f k else f (k + 1))
        by_cases c : j < i
        · by_cases d : k < i
          · rw [if_pos c, if_pos d]; exact h2 j k hjk (by omega)
          · rw [if_pos c, if_neg d]; exact h2 j (k + 1) (by omega) (by omega)
        · rw [if_neg c, if_neg (by omega)]; exact h2 (j + 1) (k + 1) (by omega) (by omega)
    · have := ih m f ?_ h2
      · omega
      · intro i hi
        have a := h1 i hi
        have b : f i ≠ N := fun e => hx ⟨i, hi, e⟩
        omega
theorem row_room {A : JA} (hI : WfI A) (hW : WfR A) {s : Int} (s0 : 0 ≤ s) (s1 : s < A 1) (hs : whrA A s ≠ 2) : A 151 + 1 ≤ A 1 := by
  have b := hW.2.1
  have c := hI.2.1
  have := pig (A 1).toNat ((A 151).toNat + 1) (fun i => if (i : Int) < A 151 then (rwA A i / 2).toNat else s.toNat) ?_ ?_
  · omega
  · intro i hi
    show (if (i : Int) < A 151 then (rwA A i / 2).toNat else s.toNat) < _
    by_cases d : (i : Int) < A 151
    · have e := wf_rw hI hW (i := i) (by omega) d
      rw [if_pos d]
      omega
    · rw [if_neg d]
      omega
  · intro i j hij hj
    show (if (i : Int) < A 151 then (rwA A i / 2).toNat else s.toNat) ≠ (if (j : Int) < A 151 then (rwA A j / 2).toNat else s.toNat)
    have di : (i : Int) < A 151 := by omega
    have ei := wf_rw hI hW (i := i) (by omega) di
    have wi' := (hW.2.2.1 i (by omega) di).2.2
    rw [if_pos di]
    by_cases dj : (j : Int) < A 151
    · have ej := wf_rw hI hW (i := j) (by omega) dj
      have g := hW.2.2.2 i j (by omega) (by omega) dj
      rw [if_pos dj]
      omega
    · rw [if_neg dj]
      intro e
      apply hs
      rw [show s = rwA A i / 2 by omega]
      exact wi'
theorem not_in_row {A : JA} (hW : WfR A) {s i : Int} (hs : whrA A s ≠ 2) (i0 : 0 ≤ i) (i1 : i < A 151) : rwA A i / 2 ≠ s := by
  intro e
  apply hs
  rw [← e]
  exact (hW.2.2.1 i i0 i1).2.2
/-- the row of numbers behind a laying -/
def tunA (A : JA) (s e : Int) : Int := if A 151 = 0 then 0 else if fitB A (pipA A s 0) (outA A e) = decide (e = 1) then 0 else 1
def pdN (A : JA) (w e : Int) : JA := fun k => if 180 ≤ k ∧ k < 192 ∧ A 151 ≠ 0 ∧ ((k : Int) = 180 + w ∨ (k : Int) = 186 + layA A e) then w32 (A k + 1) else A k
def shN (A : JA) (w e : Int) : JA := fun k => if e = 0 ∧ 152 < k ∧ (k : Int) ≤ 152 + A 151 then A (k - 1) else pdN A w e k
def layN (A : JA) (w s e : Int) : JA := fun k =>
  if k = 151 then A 151 + 1
  else if (k : Int) = 95 + s then 2
  else if (k : Int) = 123 + s then w
  else if (k : Int) = 152 + (if e = 0 then 0 else A 151) then 2 * s + tunA A s e
  else shN A w e k
section
variable {σ : JSg} {n p ip : Nat} {A : JA}
theorem tun_in {s e : Int} : tunA A s e = 0 ∨ tunA A s e = 1 := by
  unfold tunA
  repeat' split
  all_goals omega
theorem layN_lo {w s e : Int} {k : Nat} (hs : 0 ≤ s ∧ s < 28) (hr : 0 ≤ A 151 ∧ A 151 < 28) (h : k < 95 ∨ 192 ≤ k) : layN A w s e k = A k := by
  have c : ¬ (k : Int) = 152 + (if e = 0 then 0 else A 151) := by split <;> omega
  unfold layN shN pdN
  rw [if_neg (by omega), if_neg (by omega), if_neg (by omega), if_neg c, if_neg (by omega), if_neg (by omega)]
theorem layN_151 {w s e : Int} : layN A w s e 151 = A 151 + 1 := by
  unfold layN
  rw [if_pos rfl]
theorem layN_own {w s e d : Int} (hs : 0 ≤ s ∧ s < 28) (hr : 0 ≤ A 151 ∧ A 151 < 28) (hd : 0 ≤ d ∧ d < 28) : ownA (layN A w s e) d = ownA A d := layN_lo hs hr (by omega)
theorem layN_whr {w s e d : Int} (hs : 0 ≤ s ∧ s < 28) (hr : 0 ≤ A 151 ∧ A 151 < 28) (hd : 0 ≤ d ∧ d < 28) : whrA (layN A w s e) d = if d = s then 2 else whrA A d := by
  have c : ¬ (((95 + d).toNat : Nat) : Int) = 152 + (if e = 0 then 0 else A 151) := by split <;> omega
  unfold whrA layN shN pdN
  rw [if_neg (by omega)]
  by_cases h : d = s
  · rw [if_pos (by omega), if_pos h]
  · rw [if_neg (by omega), if_neg h, if_neg (by omega), if_neg c, if_neg (by omega), if_neg (by omega)]
theorem layN_lyr {w s e d : Int} (hs : 0 ≤ s ∧ s < 28) (hr : 0 ≤ A 151 ∧ A 151 < 28) (hd : 0 ≤ d ∧ d < 28) : lyrA (layN A w s e) d = if d = s then w else lyrA A d := by
  have c : ¬ (((123 + d).toNat : Nat) : Int) = 152 + (if e = 0 then 0 else A 151) := by split <;> omega
  unfold lyrA layN shN pdN
  rw [if_neg (by omega), if_neg (by omega)]
  by_cases h : d = s
  · rw [if_pos (by omega), if_pos h]
  · rw [if_neg (by omega), if_neg h, if_neg c, if_neg (by omega), if_neg (by omega)]
theorem layN_rw {w s e i : Int} (hs : 0 ≤ s ∧ s < 28) (hr : 0 ≤ A 151 ∧ A 151 < 28) (hi : 0 ≤ i ∧ i ≤ A 151) : rwA (layN A w s e) i = if i = (if e = 0 then 0 else A 151) then 2 * s + tunA A s e else if e = 0 then rwA A (i - 1) else rwA A i := by
  unfold rwA layN shN pdN
  rw [if_neg (by omega), if_neg (by omega), if_neg (by omega)]
  by_cases c : i = (if e = 0 then 0 else A 151)
  · rw [if_pos c, if_pos (by omega)]
  · rw [if_neg c, if_neg (by omega)]
    by_cases h : e = 0
    · rw [if_pos h] at c
      rw [if_pos ⟨h, by omega, by omega⟩, if_pos h]
      congr 1
      omega
    · rw [if_neg (fun q => h q.1), if_neg (by omega), if_neg h]
theorem layN_pd {w s e : Int} {k : Nat} (hs : 0 ≤ s ∧ s < 28) (hr : 0 ≤ A 151 ∧ A 151 < 28) (hk : 180 ≤ k ∧ k < 192) : layN A w s e k = pdN A w e k := by
  have c : ¬ (k : Int) = 152 + (if e = 0 then 0 else A 151) := by split <;> omega
  unfold layN shN
  rw [if_neg (by omega), if_neg (by omega), if_neg (by omega), if_neg c, if_neg (by omega)]
theorem layN_wf {w s e : Int} (hI : WfI A) (hW : WfR A) (hs : 0 ≤ s ∧ s < A 1) (h0 : whrA A s = 0) (hw : ownA A s = w) : WfR (layN A w s e) := by
  have b := hI.2.1
  have rr := hW.2.1
  have room := row_room hI hW hs.1 hs.2 (by omega)
  have s28 : 0 ≤ s ∧ s < 28 := by omega
  have r28 : 0 ≤ A 151 ∧ A 151 < 28 := by omega
  have tt := tun_in (A := A) (s := s) (e := e)
  refine ⟨fun d d0 d1 => ?_, ?_, fun i i0 i1 => ?_, fun i j i0 ij j1 => ?_⟩
  · rw [layN_lo s28 r28 (by omega)] at d1
    have g := hW.1 d d0 d1
    rw [layN_own s28 r28 (by omega), layN_whr s28 r28 (by omega), layN_lyr s28 r28 (by omega), layN_lo (k := 0) s28 r28 (by omega)]
    by_cases c : d = s
    · rw [if_pos c, if_pos c, c, hw]
      rw [c, hw] at g
      exact ⟨g.1, by omega, fun _ => rfl⟩
    · rw [if_neg c, if_neg c]
      exact g
  · rw [layN_151, layN_lo s28 r28 (by omega)]
    omega
  · rw [layN_151] at i1
    rw [layN_rw s28 r28 (by omega), layN_lo s28 r28 (by omega)]
    have key : ∀ x : Int, 0 ≤ x → x < A 151 → 0 ≤ rwA A x ∧ rwA A x < 2 * A 1 ∧ whrA (layN A w s e) (rwA A x / 2) = 2 := by
      intro x x0 x1
      have g := hW.2.2.1 x x0 x1
      refine ⟨g.1, g.2.1, ?_⟩
      rw [layN_whr s28 r28 (by omega)]
      split
      · rfl
      · exact g.2.2
    by_cases c : i = (if e = 0 then 0 else A 151)
    · rw [if_pos c]
      refine ⟨by omega, by omega, ?_⟩
      rw [layN_whr s28 r28 (by omega), if_pos (by omega)]
    · rw [if_neg c]
      by_cases h : e = 0
      · rw [if_pos h] at c
        rw [if_pos h]
        exact key _ (by omega) (by omega)
      · rw [if_neg h] at c
        rw [if_neg h]
        exact key _ (by omega) (by omega)
  · rw [layN_151] at j1
    rw [layN_rw s28 r28 (by omega), layN_rw s28 r28 (by omega)]
    have nr : ∀ x : Int, 0 ≤ x → x < A 151 → rwA A x / 2 ≠ s := fun x x0 x1 => not_in_row hW (by omega) x0 x1
    have d2 : (2 * s + tunA A s e) / 2 = s := by omega
    by_cases h : e = 0
    · rw [if_pos h, if_pos h, if_pos h, if_neg (show ¬ j = 0 by omega)]
      by_cases c : i = 0
      · rw [if_pos c, d2]
        exact fun q => nr (j - 1) (by omega) (by omega) q.symm
      · rw [if_neg c]
        exact hW.2.2.2 _ _ (by omega) (by omega) (by omega)
    · rw [if_neg h, if_neg h, if_neg h, if_neg (show ¬ i = A 151 by omega)]
      by_cases c : j = A 151
      · rw [if_pos c, d2]
        exact nr i i0 (by omega)
      · rw [if_neg c]
        exact hW.2.2.2 _ _ (by omega) (by omega) (by omega)
/-- the reference lays -/
theorem e_M_lays {w s e : Int} (hn : 1000000 < n) (hI : WfI (σ 181)) (hW : WfR (σ 181)) (hs : 0 ≤ s ∧ s < σ 181 1) (h0 : whrA (σ 181) s = 0) (hw : ownA (σ 181) s = w) (he : 0 ≤ e ∧ e ≤ 1) : Ret (f_M_lays n w s e σ) (fun τ => (∀ a j, a ≠ 181 → τ a j = σ a j) ∧ τ 181 = layN (σ 181) w s e) := by
  have b0 := hI.1
  have b := hI.2.1
  have rr := hW.2.1
  have room := row_room hI hW hs.1 hs.2 (by omega)
  have ow := (hW.1 s hs.1 hs.2).1
  have p0 := hI.2.2.2.2 s 0 hs.1 hs.2 (by omega) (by omega)
  unfold f_M_lays
  refine rt_lt ?_
  rw [rmM, b1_s]
  refine rt_c2 (fun y t => y = tunA (σ 181) s e ∧ (∀ a j, a ≠ 181 → t a j = σ a j) ∧ t 181 = pdN (σ 181) w e) (fun y t ht => ?_) (fun j3 h3 => ?_)
  · obtain ⟨rfl, t1, t2⟩ := ht
    have tt := tun_in (A := σ 181) (s := s) (e := e)
    have pn : ∀ k, k < 180 → pdN (σ 181) w e k = σ 181 k := fun k hk => if_neg (by omega)
    have m151 : t 181 151 = σ 181 151 := by rw [t2]; exact pn 151 (by omega)
    refine rt_c1 (fun u => (∀ a j, a ≠ 181 → u a j = σ a j) ∧ u 181 = shN (σ 181) w e) (fun u hu => ?_) (fun j6 h6 => ?_)
    · obtain ⟨u1, u2⟩ := hu
      have v151 : u 181 151 = σ 181 151 := by
        rw [u2]
        unfold shN
        rw [if_neg (by omega)]
        exact pn 151 (by omega)
      refine rt_c1 (fun v => v = if e = 0 then 0 else σ 181 151) (fun v hv => ?_) (fun j8 h8 => ?_)
      · have v27 : 0 ≤ v ∧ v ≤ 27 := by
          subst hv
          split <;> omega
        rw [wi (x := 152 + v) (by omega) (by omega), wi (x := 2 * s) (by omega) (by omega), wi (x := 2 * s + tunA (σ 181) s e) (by omega) (by omega), wi (x := 95 + s) (by omega) (by omega), wi (x := 123 + s) (by omega) (by omega)]
        refine rt_chk (by omega) (rt_lt (rt_lt (rt_chk (by omega) (rt_lt (rt_chk (by omega) (rt_lt (rt_some ?_)))))))
        rw [sp_nj (i := 151) (j := (152 + v).toNat) (by omega), v151, wi (by omega) (by omega)]
        refine ⟨fun a j ha => ?_, ?_⟩
        · rw [sp_nq ha, sp_nq ha, sp_nq ha, sp_nq ha]
          exact u1 a j ha
        · funext k
          simp only [sp_at, if_true]
          unfold layN
          rw [← hv, u2]
          by_cases k1 : k = 151
          · rw [if_neg (show ¬ k = (123 + s).toNat by omega), if_neg (show ¬ k = (95 + s).toNat by omega), if_pos k1, if_pos k1]
          · rw [if_neg k1, if_neg k1]
            by_cases k2 : (k : Int) = 95 + s
            · rw [if_neg (show ¬ k = (123 + s).toNat by omega), if_pos (show k = (95 + s).toNat by omega), if_pos k2]
            · rw [if_neg k2, if_neg (show ¬ k = (95 + s).toNat by omega)]
              by_cases k3 : (k : Int) = 123 + s
              · rw [if_pos k3, if_pos (by omega)]
              · rw [if_neg k3, if_neg (by omega)]
                by_cases k4 : (k : Int) = 152 + v
                · rw [if_pos k4, if_pos (by omega)]
                · rw [if_neg k4, if_neg (by omega)]
      · refine rt_ite (fun c => h8 _ (by rw [if_pos c])) (fun c => ?_)
        rw [rmM, b1_s]
        exact h8 _ (by rw [if_neg c, v151])
    · refine rt_ite (fun c => ?_) (fun c => ?_)
      · rw [rmM, b1_s, lt_u, m151]
        refine rt_w2 (I := fun x u => (0 ≤ x ∧ x ≤ σ 181 151) ∧ (∀ a j, a ≠ 181 → u a j = σ a j) ∧ ∀ k : Nat, u 181 k = if 152 + x < (k : Int) ∧ (k : Int) ≤ 152 + σ 181 151 then σ 181 (k - 1) else pdN (σ 181) w e k) (μ := fun x u => x.toNat) ?_ n _ _ ⟨by omega, t1, fun k => ?_⟩ (by omega)
        · rintro x u ⟨⟨x0, x1⟩, u1, u2⟩ rc hrc
          refine rt_ite (fun g => ?_) (fun g => ?_)
          · rw [wi (x := 152 + x) (by omega) (by omega), wi (x := 152 + x - 1) (by omega) (by omega), wi (x := x + -1) (by omega) (by omega)]
            refine rt_chk (by omega) (rt_chk (by omega) (rt_lt (rt_lt ?_)))
            refine hrc _ _ ⟨by omega, fun a j ha => by rw [sp_nq ha]; exact u1 a j ha, fun k => ?_⟩ (by omega)
            rw [sp_at, if_pos rfl]
            by_cases hk : k = (152 + x).toNat
            · rw [if_pos hk, if_pos (by omega), u2, if_neg (by omega), pn _ (by omega)]
              congr 1
              omega
            · rw [if_neg hk, u2]
              by_cases hk2 : 152 + x < (k : Int) ∧ (k : Int) ≤ 152 + σ 181 151
              · rw [if_pos hk2, if_pos (by omega)]
              · rw [if_neg hk2, if_neg (by omega)]
          · have : x = 0 := by omega
            subst this
            refine h6 _ ⟨u1, ?_⟩
            funext k
            rw [u2]
            unfold shN
            by_cases hk : 152 < k ∧ (k : Int) ≤ 152 + σ 181 151
            · rw [if_pos (by omega), if_pos ⟨c, hk⟩]
            · rw [if_neg (by omega), if_neg (fun q => hk q.2)]
        · rw [if_neg (by omega), t2]
      · refine h6 _ ⟨t1, ?_⟩
        rw [t2]
        funext k
        unfold shN
        rw [if_neg (fun q => c q.1)]
  · refine rt_ite (fun g => ?_) (fun g => ?_)
    · have hn0 : σ 181 151 ≠ 0 := by omega
      have o := outA_in hI hW hn0 he.1 he.2
      rw [e_M_pip hs.1 (by omega) (by omega) (by omega), b1_s, e_M_pipsAt hI hW he.1 he.2, b1_s, e_M_fit p0.1 (by omega) o.1 (by omega), b1_s, lt_u]
      refine rt_c1 (fun u => u = bi (decide (e = 1))) (fun u hu => ?_) (fun j26 h26 => rt_ite (fun c => h26 _ (by rw [decide_eq_true c]; rfl)) (fun c => h26 _ (by rw [decide_eq_false c]; rfl)))
      subst hu
      refine rt_c1 (fun u => u = tunA (σ 181) s e) (fun u hu => ?_) (fun j28 h28 => ?_)
      · subst hu
        rw [lt_u, wi (x := 180 + w) (by omega) (by omega)]
        refine rt_chk (by omega) (rt_chk (by omega) (rt_lt ?_))
        generalize hv : sp σ 181 (180 + w).toNat (w32 (σ 181 (180 + w).toNat + 1)) = v
        have v1 : ∀ k : Nat, (k : Int) ≠ 180 + w → v 181 k = σ 181 k := fun k hk => by rw [← hv, sp_nj (by omega)]
        have v2 : v 181 (180 + w).toNat = w32 (σ 181 (180 + w).toNat + 1) := by rw [← hv, sp_eq]
        have v3 : ∀ a j, a ≠ 181 → v a j = σ a j := fun a j ha => by rw [← hv, sp_nq ha]
        have hIv : WfI (v 181) := WfI_cg (fun k hk _ => v1 k (by omega)) hI
        have ef : layA (v 181) e = layA (σ 181) e := by
          have eb := endA_in (e := e) hW hn0
          have ec := wf_rw hI hW eb.1 eb.2
          unfold layA lyrA
          have e1 : endA (v 181) e = endA (σ 181) e := by unfold endA; rw [v1 151 (by omega)]
          have e2 : rwA (v 181) (endA (σ 181) e) = rwA (σ 181) (endA (σ 181) e) := v1 _ (by omega)
          rw [e1, e2]
          exact v1 _ (by omega)
        have hWv : WfR (v 181) := by
          have q : ∀ k : Nat, k < 180 → v 181 k = σ 181 k := fun k hk => v1 k (by omega)
          obtain ⟨w0, w1, w2, w3⟩ := hW
          have eo : ∀ d : Int, 0 ≤ d → d < σ 181 1 → ownA (v 181) d = ownA (σ 181) d := fun d d0 d1 => q _ (by omega)
          have ew : ∀ d : Int, 0 ≤ d → d < σ 181 1 → whrA (v 181) d = whrA (σ 181) d := fun d d0 d1 => q _ (by omega)
          have el : ∀ d : Int, 0 ≤ d → d < σ 181 1 → lyrA (v 181) d = lyrA (σ 181) d := fun d d0 d1 => q _ (by omega)
          have er : ∀ d : Int, 0 ≤ d → d < σ 181 151 → rwA (v 181) d = rwA (σ 181) d := fun d d0 d1 => q _ (by omega)
          unfold WfR
          rw [q 0 (by omega), q 1 (by omega), q 151 (by omega)]
          refine ⟨fun d d0 d1 => ?_, w1, fun i i0 i1 => ?_, fun i j i0 ij j1 => ?_⟩
          · rw [eo d d0 d1, ew d d0 d1, el d d0 d1]; exact w0 d d0 d1
          · have := w2 i i0 i1
            rw [er i i0 i1, ew _ (by omega) (by omega)]; exact this
          · rw [er i i0 (by omega), er j (by omega) j1]; exact w3 i j i0 ij j1
        have hl := layA_in hI hW (e := e) hn0
        rw [e_M_layerAt hIv hWv (by rw [v1 151 (by omega)]; exact hn0), b1_s, ef, wi (x := 186 + layA (σ 181) e) (by omega) (by omega)]
        refine rt_chk (by omega) (rt_chk (by omega) (rt_lt (h3 _ _ ⟨rfl, fun a j ha => ?_, ?_⟩)))
        · rw [sp_nq ha]; exact v3 a j ha
        · funext k
          rw [sp_at, if_pos rfl]
          unfold pdN
          by_cases k1 : (k : Int) = 186 + layA (σ 181) e
          · have : k = (186 + layA (σ 181) e).toNat := by omega
            rw [if_pos this, if_pos (by omega), ← this, v1 k (by omega)]
          · rw [if_neg (by omega)]
            by_cases k2 : (k : Int) = 180 + w
            · have : k = (180 + w).toNat := by omega
              rw [if_pos (by omega), this, v2]
            · rw [if_neg (by omega), v1 k k2]
      · unfold tunA at h28
        rw [if_neg hn0] at h28
        refine rt_ite (fun c => h28 _ ?_) (fun c => h28 _ ?_)
        · rw [if_pos]
          revert c
          cases fitB (σ 181) (pipA (σ 181) s 0) (outA (σ 181) e) <;> cases decide (e = 1) <;> simp [bi]
        · rw [if_neg]
          revert c
          cases fitB (σ 181) (pipA (σ 181) s 0) (outA (σ 181) e) <;> cases decide (e = 1) <;> simp [bi]
    · have z : σ 181 151 = 0 := by omega
      refine h3 _ _ ⟨by unfold tunA; rw [if_pos z], fun _ _ _ => rfl, ?_⟩
      funext k
      unfold pdN
      rw [if_neg (fun q => q.2.2.1 z)]
end
