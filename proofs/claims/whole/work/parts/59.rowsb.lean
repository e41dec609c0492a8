/-! LAYER 3j: the class's row changes -/
section
variable {σ : JSg} {n p ip : Nat} {A : JA}
theorem e_Row_shift (hn : 1000000 < n) (hl : 0 ≤ σ p 4 ∧ σ p 4 ≤ 27) : Ret (f_Row_shiftRight n p ip σ) (fun τ => (∀ a j, a ≠ p + 3 → τ a j = σ a j) ∧ ∀ k : Nat, τ (p + 3) k = if 0 < k ∧ (k : Int) ≤ σ p 4 then σ (p + 3) (k - 1) else σ (p + 3) k) := by
  unfold f_Row_shiftRight
  rw [lt_u, show min (σ p 4) 27 = σ p 4 by omega]
  refine rt_w2 (I := fun x u => (0 ≤ x ∧ x ≤ σ p 4) ∧ (∀ a j, a ≠ p + 3 → u a j = σ a j) ∧ ∀ k : Nat, u (p + 3) k = if x < (k : Int) ∧ (k : Int) ≤ σ p 4 then σ (p + 3) (k - 1) else σ (p + 3) k) (μ := fun x u => x.toNat) ?_ n _ _ ⟨by omega, fun _ _ _ => rfl, fun k => by rw [if_neg (by omega)]⟩ (by omega)
  rintro x u ⟨⟨x0, x1⟩, u1, u2⟩ rc hrc
  refine rt_ite (fun g => ?_) (fun g => ?_)
  · rw [wi (x := x - 1) (by omega) (by omega), wi (x := x + -1) (by omega) (by omega)]
    refine rt_chk (by omega) (rt_chk (by omega) (rt_lt (rt_lt ?_)))
    refine hrc _ _ ⟨by omega, fun a j ha => by rw [sp_nq ha]; exact u1 a j ha, fun k => ?_⟩ (by omega)
    rw [sp_at, if_pos rfl]
    by_cases hk : k = x.toNat
    · rw [if_pos hk, if_pos (by omega), u2, if_neg (by omega)]
      congr 1
      omega
    · rw [if_neg hk, u2]
      by_cases hk2 : x < (k : Int) ∧ (k : Int) ≤ σ p 4
      · rw [if_pos hk2, if_pos (by omega)]
      · rw [if_neg hk2, if_neg (by omega)]
  · have : x = 0 := by omega
    subst this
    refine rt_some ⟨u1, fun k => ?_⟩
    rw [u2]
    by_cases hk : 0 < k ∧ (k : Int) ≤ σ p 4
    · rw [if_pos (by omega), if_pos hk]
    · rw [if_neg (by omega), if_neg hk]
theorem layAt_ag {τ : JSg} {e : Int} (h4 : τ p 4 = σ p 4) (h3 : τ (p + 3) = σ (p + 3)) (h1 : τ (p + 1) = σ (p + 1)) : f_Row_layerAt p ip e τ = f_Row_layerAt p ip e σ := by
  unfold f_Row_layerAt f_Row_lastAt
  rw [h4, h3, h1]
theorem e_Row_put {w s e : Int} (hn : 1000000 < n) (hd : ip + 6 < p) (hI : WfI A) (hW : WfR A) (hL : IslR σ ip A) (hR : RowR σ p A) (hs : 0 ≤ s ∧ s < A 1) (h0 : whrA A s = 0) (hw : ownA A s = w) (he : 0 ≤ e ∧ e ≤ 1) : Ret (f_Row_put n p ip s e σ) (fun τ => Agr (rowC p) σ τ ∧ RowR τ p (layN A w s e)) := by
  have b0 := hI.1
  have b := hI.2.1
  have rr := hW.2.1
  have room := row_room hI hW hs.1 hs.2 (by omega)
  have ow := (hW.1 s hs.1 hs.2).1
  have p0 := hI.2.2.2.2 s 0 hs.1 hs.2 (by omega) (by omega)
  have s28 : 0 ≤ s ∧ s < 28 := by omega
  have r28 : 0 ≤ A 151 ∧ A 151 < 28 := by omega
  have nr : ∀ x : Int, 0 ≤ x → x < A 151 → rwA A x / 2 ≠ s := fun x x0 x1 => not_in_row hW (by omega) x0 x1
  have tt := tun_in (A := A) (s := s) (e := e)
  unfold f_Row_put
  refine rt_chk (by omega) (rt_lt ?_)
  generalize hv : sp σ (p + 4) s.toNat 0 = v
  have v1 : ∀ a j, ¬ (a = p + 4 ∧ j = s.toNat) → v a j = σ a j := by
    intro a j h
    rw [← hv, sp_at]
    by_cases c : a = p + 4
    · rw [if_pos c, if_neg (by omega)]
    · rw [if_neg c]
  have v2 : v (p + 4) s.toNat = 0 := by rw [← hv, sp_eq]
  have v4 : v p 4 = A 151 := (v1 p 4 (by omega)).trans hR.1
  refine rt_c1 (fun t => (∀ a j, ¬ (a = p + 4 ∨ a = p + 5 ∨ a = p + 6) → t a j = σ a j) ∧ (∀ k : Nat, t (p + 4) k = if k = s.toNat then tunA A s e else σ (p + 4) k) ∧ (∀ x : Int, 0 ≤ x → x < A 0 → t (p + 5) x.toNat = (if A 151 ≠ 0 ∧ x = w then w32 (σ (p + 5) x.toNat + 1) else σ (p + 5) x.toNat) ∧ t (p + 6) x.toNat = if A 151 ≠ 0 ∧ x = layA A e then w32 (σ (p + 6) x.toNat + 1) else σ (p + 6) x.toNat)) (fun t ht => ?_) (fun j2 h2 => ?_)
  · obtain ⟨t1, t2, t3⟩ := ht
    have t4 : t p 4 = A 151 := (t1 p 4 (by omega)).trans hR.1
    refine rt_c1 (fun u => (∀ a j, a ≠ p + 3 → u a j = t a j) ∧ ∀ k : Nat, u (p + 3) k = if e = 0 ∧ 0 < k ∧ (k : Int) ≤ A 151 then σ (p + 3) (k - 1) else σ (p + 3) k) (fun u hu => ?_) (fun j4 h4 => ?_)
    · obtain ⟨u1, u2⟩ := hu
      have u4 : u p 4 = A 151 := (u1 p 4 (by omega)).trans t4
      refine rt_c1 (fun x => x = if e = 0 then 0 else A 151) (fun x hx => ?_) (fun j6 h6 => ?_)
      · have x27 : 0 ≤ x ∧ x ≤ 27 := by
          subst hx
          split <;> omega
        refine rt_lt (rt_c1 (fun y => y = sp u (p + 3) x.toNat s) (fun y hy => ?_) (fun j9 h9 => rt_ite (fun g => rt_chk (by omega) (rt_lt (h9 _ rfl))) (fun g => absurd g (by omega))))
        subst hy
        rw [sp_nq (q := p) (by omega), u4, wi (by omega) (by omega), show min (A 151 + 1) 28 = A 151 + 1 by omega]
        refine rt_lt (rt_chk (by omega) (rt_lt (rt_some ?_)))
        generalize hz : sp (sp (sp u (p + 3) x.toNat s) p 4 (A 151 + 1)) (p + 2) s.toNat 2 = z
        have z1 : ∀ a j, ¬ ((a = p + 3 ∧ j = x.toNat) ∨ (a = p ∧ j = 4) ∨ (a = p + 2 ∧ j = s.toNat)) → z a j = u a j := by
          intro a j h
          rw [← hz, sp_at, sp_at, sp_at]
          by_cases c1 : a = p + 2
          · rw [if_pos c1, if_neg (by omega), if_neg (by omega), if_neg (by omega)]
          · rw [if_neg c1]
            by_cases c2 : a = p
            · rw [if_pos c2, if_neg (by omega), if_neg (by omega)]
            · rw [if_neg c2]
              by_cases c3 : a = p + 3
              · rw [if_pos c3, if_neg (by omega)]
              · rw [if_neg c3]
        have z3 : z (p + 3) x.toNat = s := by rw [← hz, sp_nq (by omega), sp_nq (by omega), sp_eq]
        have z4 : z p 4 = A 151 + 1 := by rw [← hz, sp_nq (by omega), sp_eq]
        have z2 : z (p + 2) s.toNat = 2 := by rw [← hz, sp_eq]
        have zl : 0 ≤ z (p + 3) 0 ∧ z (p + 3) 0 < 28 := by
          by_cases c : x = 0
          · rw [c] at z3
            rw [show z (p + 3) 0 = s from z3]; exact s28
          · have e1 : ¬ e = 0 := fun q => c (by rw [hx, if_pos q])
            rw [z1 (p + 3) 0 (by omega), u2, if_neg (fun q => e1 q.1)]
            exact hR.2.2.2.2
        refine ⟨fun a j h => ?_, ?_, fun d d0 d1 => ?_, fun i i0 i1 => ?_, fun x' x0 x1 => ?_, zl⟩
        · unfold rowC at h
          rw [z1 a j (by omega), u1 a j (by omega), t1 a j (by omega)]
        · rw [z4, layN_151]
        · rw [layN_lo s28 r28 (by omega)] at d1
          have g := hR.2.1 d d0 d1
          rw [layN_own s28 r28 (by omega), layN_whr s28 r28 (by omega)]
          refine ⟨?_, ?_⟩
          · rw [z1 _ _ (by omega), u1 _ _ (by omega), t1 _ _ (by omega)]; exact g.1
          · by_cases c : d = s
            · rw [if_pos c, c]; exact z2
            · rw [if_neg c, z1 _ _ (by omega), u1 _ _ (by omega), t1 _ _ (by omega)]; exact g.2
        · rw [layN_151] at i1
          rw [layN_rw s28 r28 (by omega), ← hx]
          by_cases c : i = x
          · rw [if_pos c, c, z3, show (2 * s + tunA A s e) / 2 = s by omega]
            refine ⟨rfl, ?_⟩
            rw [z1 _ _ (by omega), u1 _ _ (by omega), t2, if_pos rfl]
            omega
          · rw [if_neg c, z1 (p + 3) _ (by omega), u2]
            have key : ∀ y : Int, 0 ≤ y → y < A 151 → z (p + 4) (rwA A y / 2).toNat = rwA A y % 2 := by
              intro y y0 y1
              have n1 := nr y y0 y1
              have c1 := wf_rw hI hW y0 y1
              rw [z1 _ _ (by omega), u1 _ _ (by omega), t2, if_neg (by omega)]
              exact (hR.2.2.1 y y0 y1).2
            by_cases h : e = 0
            · rw [if_pos h] at hx
              rw [if_pos h, if_pos (by omega), key _ (by omega) (by omega)]
              refine ⟨?_, rfl⟩
              rw [← (hR.2.2.1 (i - 1) (by omega) (by omega)).1]
              congr 1
              omega
            · rw [if_neg h] at hx
              rw [if_neg h, if_neg (fun q => h q.1), key _ (by omega) (by omega)]
              exact ⟨(hR.2.2.1 i i0 (by omega)).1, rfl⟩
        · rw [layN_lo s28 r28 (by omega)] at x1
          have g := hR.2.2.2.1 x' x0 x1
          have g2 := t3 x' x0 x1
          rw [layN_pd s28 r28 (by omega), layN_pd s28 r28 (by omega), z1 _ _ (by omega), z1 _ _ (by omega), u1 _ _ (by omega), u1 _ _ (by omega), g2.1, g2.2, g.1, g.2]
          have la : A 151 ≠ 0 → 0 ≤ layA A e ∧ layA A e < A 0 := fun q => layA_in hI hW q
          unfold pdN
          by_cases c0 : A 151 = 0
          · simp [c0]
          · have la := la c0
            refine ⟨?_, ?_⟩
            · by_cases c1 : x' = w
              · rw [if_pos ⟨c0, c1⟩, if_pos (by omega)]
              · rw [if_neg (fun q => c1 q.2), if_neg (by omega)]
            · by_cases c1 : x' = layA A e
              · rw [if_pos ⟨c0, c1⟩, if_pos (by omega)]
              · rw [if_neg (fun q => c1 q.2), if_neg (by omega)]
      · refine rt_ite (fun c => h6 _ (by rw [if_pos c])) (fun c => h6 _ (by rw [if_neg c, u4]))
    · refine rt_ite (fun c => ?_) (fun c => ?_)
      · refine rt_b1 (e_Row_shift hn (by omega)) (fun u hu => h4 u ⟨hu.1, fun k => ?_⟩)
        rw [hu.2, t4, t1 _ _ (by omega), t1 _ _ (by omega)]
        by_cases g : 0 < k ∧ (k : Int) ≤ A 151
        · rw [if_pos g, if_pos ⟨c, g⟩]
        · rw [if_neg g, if_neg (fun q => g q.2)]
      · refine h4 _ ⟨fun _ _ _ => rfl, fun k => ?_⟩
        rw [if_neg (fun q => c q.1), t1 _ _ (by omega)]
  · have vL : IslR v ip A := IslR_ag (fun a j h => v1 a j (by omega)) hL
    have vR : RowR v p A := by
      obtain ⟨r0, r1, r2, r3, r4⟩ := hR
      refine ⟨v4, fun d d0 d1 => ?_, fun i i0 i1 => ?_, fun x x0 x1 => ?_, by rw [v1 _ _ (by omega)]; exact r4⟩
      · rw [v1 _ _ (by omega), v1 _ _ (by omega)]; exact r1 d d0 d1
      · have n1 := nr i i0 i1
        have c1 := wf_rw hI hW i0 i1
        rw [v1 _ _ (by omega), v1 _ _ (by omega)]; exact r2 i i0 i1
      · rw [v1 _ _ (by omega), v1 _ _ (by omega)]; exact r3 x x0 x1
    rw [v4]
    refine rt_ite (fun g => ?_) (fun g => ?_)
    · have hn0 : A 151 ≠ 0 := by omega
      have o := outA_in hI hW hn0 he.1 he.2
      have l := hL.2.2.2.1 s hs.1 hs.2
      have la := layA_in hI hW (e := e) hn0
      rw [v1 (ip + 2) _ (by omega), l.1]
      refine rt_chk (by omega) ?_
      rw [e_Row_outer hI hW vL vR he.1 he.2, b1_s, e_Isl_fit vL p0.1 (by omega) o.1 (by omega), b1_s, lt_u]
      refine rt_c1 (fun u => u = bi (decide (e = 1))) (fun u hu => ?_) (fun j18 h18 => rt_ite (fun c => h18 _ (by rw [decide_eq_true c]; rfl)) (fun c => h18 _ (by rw [decide_eq_false c]; rfl)))
      subst hu
      refine rt_c1 (fun u => u = tunA A s e) (fun u hu => ?_) (fun j20 h20 => ?_)
      · subst hu
        refine rt_chk (by omega) (rt_lt ?_)
        generalize hx : sp v (p + 4) s.toNat (tunA A s e) = x
        have x1 : ∀ a j, ¬ (a = p + 4 ∧ j = s.toNat) → x a j = σ a j := by
          intro a j h
          rw [← hx, sp_at]
          by_cases c : a = p + 4
          · rw [if_pos c, if_neg (by omega), v1 a j h]
          · rw [if_neg c, v1 a j h]
        have x2 : x (p + 4) s.toNat = tunA A s e := by rw [← hx, sp_eq]
        have xo : x (p + 1) s.toNat = w := by rw [x1 _ _ (by omega), (hR.2.1 s hs.1 hs.2).1, hw]
        rw [xo]
        refine rt_chk (by omega) (rt_chk (by omega) (rt_chk (by omega) (rt_lt ?_)))
        generalize hy : sp x (p + 5) w.toNat (w32 (x (p + 5) w.toNat + 1)) = y
        have y1 : ∀ a j, ¬ (a = p + 5 ∧ j = w.toNat) → y a j = x a j := by
          intro a j h
          rw [← hy, sp_at]
          by_cases c : a = p + 5
          · rw [if_pos c, if_neg (by omega)]
          · rw [if_neg c]
        have y2 : y (p + 5) w.toNat = w32 (σ (p + 5) w.toNat + 1) := by rw [← hy, sp_eq, x1 _ _ (by omega)]
        have yl : f_Row_layerAt p ip e y = some (layA A e) := by
          rw [layAt_ag (σ := σ) ((y1 _ _ (by omega)).trans (x1 _ _ (by omega))) (funext fun j => (y1 _ _ (by omega)).trans (x1 _ _ (by omega))) (funext fun j => (y1 _ _ (by omega)).trans (x1 _ _ (by omega)))]
          exact e_Row_layerAt hI hW hR hn0
        rw [yl, b1_s]
        refine rt_chk (by omega) (rt_chk (by omega) (rt_lt (h2 _ ⟨fun a j h => ?_, fun k => ?_, fun c c0 c1 => ⟨?_, ?_⟩⟩)))
        · rw [sp_nq (by omega), y1 _ _ (by omega), x1 _ _ (by omega)]
        · rw [sp_nq (by omega), y1 _ _ (by omega)]
          by_cases c : k = s.toNat
          · rw [if_pos c, c, x2]
          · rw [if_neg c, x1 _ _ (by omega)]
        · rw [sp_nq (by omega)]
          by_cases c : c = w
          · rw [if_pos ⟨hn0, c⟩, c, y2]
          · rw [if_neg (fun q => c q.2), y1 _ _ (by omega), x1 _ _ (by omega)]
        · rw [sp_at, if_pos rfl]
          by_cases c : c = layA A e
          · rw [if_pos (by omega), if_pos ⟨hn0, c⟩, c, y1 _ _ (by omega), x1 _ _ (by omega)]
          · rw [if_neg (by omega), if_neg (fun q => c q.2), y1 _ _ (by omega), x1 _ _ (by omega)]
      · unfold tunA at h20
        rw [if_neg hn0] at h20
        refine rt_ite (fun c => h20 _ ?_) (fun c => h20 _ ?_)
        · rw [if_pos]
          revert c
          cases fitB A (pipA A s 0) (outA A e) <;> cases decide (e = 1) <;> simp [bi]
        · rw [if_neg]
          revert c
          cases fitB A (pipA A s 0) (outA A e) <;> cases decide (e = 1) <;> simp [bi]
    · have z : A 151 = 0 := by omega
      refine h2 _ ⟨fun a j h => v1 a j (by omega), fun k => ?_, fun c c0 c1 => ⟨?_, ?_⟩⟩
      · by_cases c : k = s.toNat
        · rw [if_pos c, c, v2]
          unfold tunA
          rw [if_pos z]
        · rw [if_neg c]; exact v1 _ _ (by omega)
      · rw [if_neg (fun q => q.1 z)]; exact v1 _ _ (by omega)
      · rw [if_neg (fun q => q.1 z)]; exact v1 _ _ (by omega)
/-! a stone taken off an end; the last one turned; a will -/
def catN (A : JA) (e : Int) : JA := fun k =>
  if k = 151 then A 151 - 1
  else if (k : Int) = 95 + rwA A (endA A e) / 2 then 0
  else if e = 0 ∧ 152 ≤ k ∧ (k : Int) < 152 + (A 151 - 1) then A (k + 1)
  else A k
def turN (A : JA) : JA := fun k => if (k : Int) = 152 + A 151 - 1 then xr32 (A k) 1 else A k
theorem xr_one {x : Int} (h : 0 ≤ x ∧ x < 1000) : xr32 x 1 = if x % 2 = 0 then x + 1 else x - 1 := by
  obtain ⟨k, rfl⟩ : ∃ k : Nat, x = k := ⟨x.toNat, by omega⟩
  have h1 : xr32 (k : Int) ((1 : Nat) : Int) = ((k ^^^ 1 : Nat) : Int) := xr_n (by omega) (by decide)
  have h2 : ∀ k : Nat, k < 1000 → (k ^^^ 1 : Nat) = if k % 2 = 0 then k + 1 else k - 1 := by decide +kernel
  have h3 := h2 k (by omega)
  rw [show xr32 (k : Int) 1 = xr32 (k : Int) ((1 : Nat) : Int) from rfl, h1, h3]
  split <;> split <;> omega
theorem catN_wf {e : Int} (hI : WfI A) (hW : WfR A) (hn0 : A 151 ≠ 0) (he : 0 ≤ e ∧ e ≤ 1) : WfR (catN A e) := by
  have b := hI.2.1
  have rr := hW.2.1
  have eb := endA_in (e := e) hW hn0
  have c := wf_rw hI hW eb.1 eb.2
  have lo : ∀ k : Nat, k < 95 ∨ (123 ≤ k ∧ k < 151) → catN A e k = A k := fun k hk => by
    unfold catN
    rw [if_neg (by omega), if_neg (by omega), if_neg (by omega)]
  have l151 : catN A e 151 = A 151 - 1 := if_pos rfl
  have hwh : ∀ d : Int, 0 ≤ d → d < 28 → whrA (catN A e) d = if d = rwA A (endA A e) / 2 then 0 else whrA A d := by
    intro d d0 d1
    unfold whrA catN
    rw [if_neg (by omega)]
    by_cases g : d = rwA A (endA A e) / 2
    · rw [if_pos (by omega), if_pos g]
    · rw [if_neg (by omega), if_neg g, if_neg (by omega)]
  have hrw : ∀ i : Int, 0 ≤ i → i < A 151 - 1 → rwA (catN A e) i = if e = 0 then rwA A (i + 1) else rwA A i := by
    intro i i0 i1
    show catN A e (152 + i).toNat = _
    unfold catN
    rw [if_neg (by omega), if_neg (by omega)]
    by_cases g : e = 0
    · rw [if_pos ⟨g, by omega, by omega⟩, if_pos g]
      show _ = A (152 + (i + 1)).toNat
      congr 1
      omega
    · rw [if_neg (fun q => g q.1), if_neg g]
      rfl
  have key : ∀ i : Int, 0 ≤ i → i < A 151 → i ≠ endA A e → 0 ≤ rwA A i ∧ rwA A i < 2 * A 1 ∧ whrA (catN A e) (rwA A i / 2) = 2 := by
    intro i i0 i1 ne
    have g := hW.2.2.1 i i0 i1
    refine ⟨g.1, g.2.1, ?_⟩
    rw [hwh _ (by omega) (by omega), if_neg]
    · exact g.2.2
    · by_cases h : i < endA A e
      · exact hW.2.2.2 i (endA A e) i0 h eb.2
      · exact fun q => hW.2.2.2 (endA A e) i eb.1 (by omega) i1 q.symm
  refine ⟨fun d d0 d1 => ?_, ?_, fun i i0 i1 => ?_, fun i j i0 ij j1 => ?_⟩
  · rw [lo 1 (by omega)] at d1
    have g := hW.1 d d0 d1
    rw [show ownA (catN A e) d = ownA A d from lo _ (by omega), show lyrA (catN A e) d = lyrA A d from lo _ (by omega), lo 0 (by omega), hwh d d0 (by omega)]
    split
    · exact ⟨g.1, by omega, fun q => by omega⟩
    · exact g
  · rw [l151, lo 1 (by omega)]
    omega
  · rw [l151] at i1
    rw [lo 1 (by omega), hrw i i0 i1]
    unfold endA at key
    by_cases g : e = 0
    · rw [if_pos g] at key
      rw [if_pos g]
      exact key _ (by omega) (by omega) (by omega)
    · rw [if_neg g] at key
      rw [if_neg g]
      exact key _ (by omega) (by omega) (by omega)
  · rw [l151] at j1
    rw [hrw i i0 (by omega), hrw j (by omega) j1]
    by_cases g : e = 0
    · rw [if_pos g, if_pos g]; exact hW.2.2.2 _ _ (by omega) (by omega) (by omega)
    · rw [if_neg g, if_neg g]; exact hW.2.2.2 _ _ (by omega) (by omega) (by omega)
theorem e_M_cat {e : Int} (hn : 1000000 < n) (hI : WfI (σ 181)) (hW : WfR (σ 181)) (hn0 : σ 181 151 ≠ 0) (he : 0 ≤ e ∧ e ≤ 1) : Ret (f_M_catAt n e σ) (fun z => z.1 = rwA (σ 181) (endA (σ 181) e) / 2 ∧ (∀ a j, a ≠ 181 → z.2 a j = σ a j) ∧ z.2 181 = catN (σ 181) e) := by
  have b := hI.2.1
  have rr := hW.2.1
  have eb := endA_in (e := e) hW hn0
  have c := wf_rw hI hW eb.1 eb.2
  unfold f_M_catAt
  rw [e_M_endAt hI hW, b1_s, e_M_rowStone hI hW eb.1 eb.2, b1_s, lt_u]
  generalize hs : rwA (σ 181) (endA (σ 181) e) / 2 = s at c
  refine rt_c1 (fun t => (∀ a j, a ≠ 181 → t a j = σ a j) ∧ ∀ k : Nat, t 181 k = if e = 0 ∧ 152 ≤ k ∧ (k : Int) < 152 + (σ 181 151 - 1) then σ 181 (k + 1) else σ 181 k) (fun t ht => ?_) (fun j4 h4 => ?_)
  · obtain ⟨t1, t2⟩ := ht
    have t151 : t 181 151 = σ 181 151 := by rw [t2, if_neg (by omega)]
    rw [t151, wi (by omega) (by omega), wi (x := 95 + s) (by omega) (by omega)]
    refine rt_lt (rt_chk (by omega) (rt_lt (rt_some ⟨rfl, fun a j ha => ?_, ?_⟩)))
    · show sp (sp t 181 151 (σ 181 151 - 1)) 181 (95 + s).toNat 0 a j = _
      rw [sp_nq ha, sp_nq ha]
      exact t1 a j ha
    · show sp (sp t 181 151 (σ 181 151 - 1)) 181 (95 + s).toNat 0 181 = _
      funext k
      simp only [sp_at, if_true]
      unfold catN
      rw [hs, t2]
      by_cases k1 : k = 151
      · rw [if_neg (show ¬ k = (95 + s).toNat by omega), if_pos k1, if_pos k1]
      · rw [if_neg k1, if_neg k1]
        by_cases k2 : (k : Int) = 95 + s
        · rw [if_pos (show k = (95 + s).toNat by omega), if_pos k2]
        · rw [if_neg (show ¬ k = (95 + s).toNat by omega), if_neg k2]
  · refine rt_ite (fun g => ?_) (fun g => ?_)
    · refine rt_lt ?_
      refine rt_w2 (I := fun x u => (0 ≤ x ∧ x ≤ σ 181 151 - 1) ∧ (∀ a j, a ≠ 181 → u a j = σ a j) ∧ ∀ k : Nat, u 181 k = if 152 ≤ k ∧ (k : Int) < 152 + x then σ 181 (k + 1) else σ 181 k) (μ := fun x u => (σ 181 151 - x).toNat) ?_ n _ _ ⟨by omega, fun _ _ _ => rfl, fun k => by rw [if_neg (by omega)]⟩ (by omega)
      rintro x u ⟨⟨x0, x1⟩, u1, u2⟩ rc hrc
      have u151 : u 181 151 = σ 181 151 := by rw [u2, if_neg (by omega)]
      rw [rmM, b1_s, u151, wi (x := σ 181 151 - 1) (by omega) (by omega)]
      refine rt_ite (fun h => ?_) (fun h => ?_)
      · rw [wi (x := 152 + x) (by omega) (by omega), wi (x := 152 + x + 1) (by omega) (by omega), wi (x := x + 1) (by omega) (by omega)]
        refine rt_chk (by omega) (rt_chk (by omega) (rt_lt (rt_lt ?_)))
        refine hrc _ _ ⟨by omega, fun a j ha => by rw [sp_nq ha]; exact u1 a j ha, fun k => ?_⟩ (by omega)
        rw [sp_at, if_pos rfl]
        by_cases hk : k = (152 + x).toNat
        · rw [if_pos hk, if_pos (by omega), u2, if_neg (by omega)]
          congr 1
          omega
        · rw [if_neg hk, u2]
          by_cases hk2 : 152 ≤ k ∧ (k : Int) < 152 + x
          · rw [if_pos hk2, if_pos (by omega)]
          · rw [if_neg hk2, if_neg (by omega)]
      · have : x = σ 181 151 - 1 := by omega
        subst this
        refine h4 _ ⟨u1, fun k => ?_⟩
        rw [u2]
        by_cases hk : 152 ≤ k ∧ (k : Int) < 152 + (σ 181 151 - 1)
        · rw [if_pos hk, if_pos ⟨g, hk⟩]
        · rw [if_neg hk, if_neg (fun q => hk q.2)]
    · exact h4 _ ⟨fun _ _ _ => rfl, fun k => by rw [if_neg (fun q => g q.1)]⟩
theorem e_Row_takeOff {e : Int} (hn : 1000000 < n) (hI : WfI A) (hW : WfR A) (hR : RowR σ p A) (hn0 : A 151 ≠ 0) (he : 0 ≤ e ∧ e ≤ 1) : Ret (f_Row_takeOff n p ip e σ) (fun z => z.1 = rwA A (endA A e) / 2 ∧ Agr (rowC p) σ z.2 ∧ RowR z.2 p (catN A e)) := by
  have b0 := hI.1
  have b := hI.2.1
  have rr := hW.2.1
  have eb := endA_in (e := e) hW hn0
  have c := wf_rw hI hW eb.1 eb.2
  unfold f_Row_takeOff
  rw [e_Row_lastAt hI hW hR hn0, b1_s, lt_u]
  generalize hs : rwA A (endA A e) / 2 = s at c
  refine rt_c1 (fun t => (∀ a j, a ≠ p + 3 → t a j = σ a j) ∧ ∀ k : Nat, t (p + 3) k = if e = 0 ∧ (k : Int) < A 151 - 1 then σ (p + 3) (k + 1) else σ (p + 3) k) (fun t ht => ?_) (fun j4 h4 => ?_)
  · obtain ⟨t1, t2⟩ := ht
    have t4 : t p 4 = A 151 := (t1 _ _ (by omega)).trans hR.1
    rw [t4, wi (by omega) (by omega), show max (A 151 - 1) 0 = A 151 - 1 by omega]
    refine rt_lt (rt_chk (by omega) (rt_lt (rt_some ⟨rfl, ?_⟩)))
    show Agr (rowC p) σ (sp (sp t p 4 (A 151 - 1)) (p + 2) s.toNat 0) ∧ RowR (sp (sp t p 4 (A 151 - 1)) (p + 2) s.toNat 0) p (catN A e)
    generalize hz : sp (sp t p 4 (A 151 - 1)) (p + 2) s.toNat 0 = z
    have z1 : ∀ a j, ¬ ((a = p ∧ j = 4) ∨ (a = p + 2 ∧ j = s.toNat)) → z a j = t a j := by
      intro a j h
      rw [← hz, sp_at, sp_at]
      by_cases c1 : a = p + 2
      · rw [if_pos c1, if_neg (by omega), if_neg (by omega)]
      · rw [if_neg c1]
        by_cases c2 : a = p
        · rw [if_pos c2, if_neg (by omega)]
        · rw [if_neg c2]
    have z4 : z p 4 = A 151 - 1 := by rw [← hz, sp_nq (by omega), sp_eq]
    have z2 : z (p + 2) s.toNat = 0 := by rw [← hz, sp_eq]
    have lo : ∀ k : Nat, k < 95 ∨ 180 ≤ k → catN A e k = A k := fun k hk => by
      unfold catN
      rw [if_neg (by omega), if_neg (by omega), if_neg (by omega)]
    have zl : 0 ≤ z (p + 3) 0 ∧ z (p + 3) 0 < 28 := by
      rw [z1 (p + 3) 0 (by omega), t2]
      by_cases g : e = 0 ∧ ((0 : Nat) : Int) < A 151 - 1
      · rw [if_pos g]
        have k := hR.2.2.1 1 (by omega) (by omega)
        have k2 := wf_rw hI hW (i := 1) (by omega) (by omega)
        have k1 : σ (p + 3) (0 + 1) = rwA A 1 / 2 := k.1
        rw [k1]; omega
      · rw [if_neg g]; exact hR.2.2.2.2
    refine ⟨fun a j h => ?_, ?_, fun d d0 d1 => ?_, fun i i0 i1 => ?_, fun x x0 x1 => ?_, zl⟩
    · unfold rowC at h
      rw [z1 a j (by omega), t1 a j (by omega)]
    · rw [z4]; exact (if_pos rfl).symm
    · rw [lo 1 (by omega)] at d1
      have g := hR.2.1 d d0 d1
      rw [show ownA (catN A e) d = ownA A d from lo _ (by omega)]
      refine ⟨by rw [z1 _ _ (by omega), t1 _ _ (by omega)]; exact g.1, ?_⟩
      unfold whrA catN
      rw [if_neg (by omega), hs]
      by_cases h : d = s
      · rw [if_pos (by omega), h]; exact z2
      · rw [if_neg (by omega), if_neg (by omega), z1 _ _ (by omega), t1 _ _ (by omega)]; exact g.2
    · rw [show catN A e 151 = A 151 - 1 from if_pos rfl] at i1
      have hrw : rwA (catN A e) i = if e = 0 then rwA A (i + 1) else rwA A i := by
        unfold rwA catN
        rw [if_neg (by omega), hs, if_neg (by omega)]
        by_cases g : e = 0
        · rw [if_pos ⟨g, by omega, by omega⟩, if_pos g]
          congr 1
          omega
        · rw [if_neg (fun q => g q.1), if_neg g]
      rw [hrw, z1 (p + 3) _ (by omega), t2]
      by_cases g : e = 0
      · rw [if_pos ⟨g, by omega⟩, if_pos g, z1 (p + 4) _ (by omega), t1 _ _ (by omega)]
        have k := hR.2.2.1 (i + 1) (by omega) (by omega)
        refine ⟨?_, k.2⟩
        rw [← k.1]
        congr 1
        omega
      · rw [if_neg (fun q => g q.1), if_neg g, z1 (p + 4) _ (by omega), t1 _ _ (by omega)]
        exact hR.2.2.1 i i0 (by omega)
    · rw [lo 0 (by omega)] at x1
      rw [lo _ (by omega), lo _ (by omega), z1 _ _ (by omega), z1 _ _ (by omega), t1 _ _ (by omega), t1 _ _ (by omega)]
      exact hR.2.2.2.1 x x0 x1
  · refine rt_ite (fun g => ?_) (fun g => ?_)
    · refine rt_lt ?_
      refine rt_w2 (I := fun x u => (1 ≤ x ∧ x ≤ A 151) ∧ (∀ a j, a ≠ p + 3 → u a j = σ a j) ∧ ∀ k : Nat, u (p + 3) k = if (k : Int) < x - 1 then σ (p + 3) (k + 1) else σ (p + 3) k) (μ := fun x u => (A 151 - x).toNat) ?_ n _ _ ⟨by omega, fun _ _ _ => rfl, fun k => by rw [if_neg (by omega)]⟩ (by omega)
      rintro x u ⟨⟨x0, x1⟩, u1, u2⟩ rc hrc
      rw [u1 p 4 (by omega), hR.1]
      refine rt_ite (fun h => ?_) (fun h => ?_)
      · rw [wi (x := x - 1) (by omega) (by omega), wi (x := x + 1) (by omega) (by omega)]
        refine rt_chk (by omega) (rt_chk (by omega) (rt_lt (rt_lt ?_)))
        refine hrc _ _ ⟨by omega, fun a j ha => by rw [sp_nq ha]; exact u1 a j ha, fun k => ?_⟩ (by omega)
        rw [sp_at, if_pos rfl]
        by_cases hk : k = (x - 1).toNat
        · rw [if_pos hk, if_pos (by omega), u2, if_neg (by omega)]
          congr 1
          omega
        · rw [if_neg hk, u2]
          by_cases hk2 : (k : Int) < x - 1
          · rw [if_pos hk2, if_pos (by omega)]
          · rw [if_neg hk2, if_neg (by omega)]
      · have : x = A 151 := by omega
        subst this
        refine h4 _ ⟨u1, fun k => ?_⟩
        rw [u2]
        by_cases hk : (k : Int) < A 151 - 1
        · rw [if_pos hk, if_pos ⟨g, hk⟩]
        · rw [if_neg hk, if_neg (fun q => hk q.2)]
    · exact h4 _ ⟨fun _ _ _ => rfl, fun k => by rw [if_neg (fun q => g q.1)]⟩
end
