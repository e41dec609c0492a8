/-! LAYER 3x: a TOKEN in the reference -/
def msB (c : JA) (size lim p : Int) (τ : JSg) : Prop := τ 179 3 = size ∧ τ 179 4 = lim ∧ (0 ≤ size ∧ size ≤ 940) ∧ ∀ i : Int, 0 ≤ i → i < size → τ 180 i.toNat = c i.toNat ∧ 0 ≤ c i.toNat ∧ c i.toNat < 256
def MT (c : JA) (size lim p : Int) (τ : JSg) : Prop := msB c size lim p τ ∧ (0 ≤ p ∧ p ≤ size) ∧ ∃ q, SkE c size p q ∧
  (((size ≤ q ∨ lim ≤ q) ∧ τ 179 5 = q ∧ τ 179 7 = (if lim < size then 1 else 0) ∧ τ 179 6 = min size lim)
  ∨ (q < size ∧ q < lim ∧ τ 179 6 = q ∧ (isL c q || isD c q) = false ∧ τ 179 5 = q + 1 ∧ ((sgB c q = true ∧ τ 179 7 = 4 ∧ τ 179 9 = c q.toNat) ∨ (sgB c q = false ∧ τ 179 7 = 1)))
  ∨ (q < size ∧ q < lim ∧ τ 179 6 = q ∧ (isL c q || isD c q) = true ∧ ∃ e, RunE c size q e ∧ τ 179 5 = e ∧ τ 179 7 = rkS c q e - 1 ∧ (rkS c q e = 4 → τ 179 8 = nuV c q e) ∧ (rkS c q e = 3 → τ 179 12 = nmV 27 c q e)))
def mtkC (a j : Nat) : Prop := a = 179 ∧ (j = 5 ∨ j = 6 ∨ j = 7 ∨ j = 8 ∨ j = 9 ∨ j = 12)
section
variable {σ τ : JSg} {n : Nat} {c : JA} {size lim p q : Int}
theorem e_M_let {x : Int} : f_M_isLetter x σ = some (bi (decide (97 ≤ x ∧ x ≤ 122))) := by
  unfold f_M_isLetter bi
  by_cases h : x < 97
  · rw [if_pos h, decide_eq_false (by omega)]; rfl
  · rw [if_neg h]
    by_cases g : 122 < x
    · rw [if_pos g, decide_eq_false (by omega)]; rfl
    · rw [if_neg g, decide_eq_true (by omega)]; rfl
theorem e_M_dig {x : Int} : f_M_isDigit x σ = some (bi (decide (48 ≤ x ∧ x ≤ 57))) := by
  unfold f_M_isDigit bi
  by_cases h : x < 48
  · rw [if_pos h, decide_eq_false (by omega)]; rfl
  · rw [if_neg h]
    by_cases g : 57 < x
    · rw [if_pos g, decide_eq_false (by omega)]; rfl
    · rw [if_neg g, decide_eq_true (by omega)]; rfl
def gdB (c : JA) (q p : Int) : Bool := if isL c q = true then decide (nD_ c q p = 0) else decide (nL_ c q p = 0)
theorem e_M_run {P : JSg → Prop} (hn : 1000000 < n) (hb : msB c size lim p σ) (hq : 0 ≤ q ∧ q < size) (h5 : σ 179 5 = q) (h6 : σ 179 6 = q) (h8 : σ 179 8 = 0) (h12 : σ 179 12 = 0) (hal : (isL c q || isD c q) = true)
    (hk : ∀ τ e, RunE c size q e → τ 179 5 = e → τ 179 7 = rkS c q e - 1 → (rkS c q e = 4 → τ 179 8 = nuV c q e) → (rkS c q e = 3 → τ 179 12 = nmV 27 c q e) → Agr mtkC σ τ → τ 179 6 = q → P τ) :
    Ret (wh2 n (fun rc14 (x15 : Int) (s16 : JSg) => bd1 (f_M_tapeAt (s16 179 5) s16) fun r17 => bd1 (f_M_isLetter r17 s16) fun r18 => jn0 (chk (0 ≤ (s16 179 5) ∧ (s16 179 5) < 940) <| lt_ (s16 180 (s16 179 5).toNat) fun v20 => jn1 (fun (u22 : Int) => lt_ u22 fun v23 => jn1 (fun  (s25 : JSg) => jn1 (fun  (s27 : JSg) => lt_ (sp s27 179 5 (w32 ((s27 179 5) + 1))) fun s28 => rc14 v23 s28) fun j26 => if (w32 ((s25 179 5) - (s25 179 6))) < 3 then (lt_ (sp s25 179 8 (w32 ((w32 ((w32 (10 * (s25 179 8))) + v20)) - 48))) fun s29 => j26 s29) else (j26 s25)) fun j24 => if (w32 ((s16 179 5) - (s16 179 6))) < 7 then (lt_ (sp s16 179 12 (w64 ((w64 ((w64 (27 * (s16 179 12))) + v20)) - 96))) fun s30 => j24 s30) else (j24 s16)) fun j21 => jn0 (j21 0) fun j31 => if x15 = 0 then (j31) else (bd1 (f_M_isLetter v20 s16) fun r32 => if r32 = bi (isL c q) then (j21 1) else (j31))) fun j19 => if r18 = 0 then (bd1 (f_M_tapeAt (s16 179 5) s16) fun r33 => bd1 (f_M_isDigit r33 s16) fun r34 => if r34 = 0 then (jn1 (fun (u36 : Int) => lt_ (sp s16 179 7 u36) fun s37 => some s37) fun j35 => jn0 (j35 1) fun j38 => if x15 = 0 then (j38) else (jn1 (fun (u40 : Int) => if u40 < (w32 ((s16 179 5) - (s16 179 6))) then (j38) else (if bi (isL c q) = 0 then (j35 3) else (j35 2))) fun j39 => if bi (isL c q) = 0 then (j39 3) else (j39 7))) else (j19)) else (j19)) 1 σ) P := by
  obtain ⟨b1, b2, b3, b4⟩ := hb
  refine rt_w2 (I := fun (g : Int) (u : JSg) => ∃ r, (q ≤ r ∧ r ≤ size) ∧ (∀ i, q ≤ i → i < r → (isL c i || isD c i) = true) ∧ u 179 5 = r ∧ u 179 6 = q ∧ g = bi (gdB c q r) ∧ (nL_ c q r = r - q → r - q ≤ 7 → u 179 12 = nmV 27 c q r) ∧ (nD_ c q r = r - q → r - q ≤ 3 → u 179 8 = nuV c q r) ∧ Agr mtkC σ u) (μ := fun (g : Int) (u : JSg) => (size - u 179 5).toNat) ?_ n _ _ ⟨q, by omega, fun i _ _ => by omega, h5, h6, ?_, fun _ _ => ?_, fun _ _ => ?_, ag_refl⟩ (by rw [h5]; omega)
  · rintro g u ⟨r, ⟨r0, r1⟩, ra, u5, u6, rfl, un, uv, ug⟩ rc hrc
    have u3 : u 179 3 = size := (ug 179 3 (by unfold mtkC; omega)).trans b1
    have cn := nLD _ r rfl r0 ra
    have ta : f_M_tapeAt r u = some (if r < size then c r.toNat else 0) := by
      unfold f_M_tapeAt
      rw [u3]
      by_cases h : r < size
      · rw [if_pos h, if_pos h, ck_p (by omega), ug 180 _ (by unfold mtkC; omega), (b4 r (by omega) h).1]
      · rw [if_neg h, if_neg h]
    have tl : f_M_isLetter (if r < size then c r.toNat else 0) u = some (bi (decide (r < size) && isL c r)) := by
      rw [e_M_let]
      by_cases h : r < size
      · rw [if_pos h, decide_eq_true h]; rfl
      · rw [if_neg h, decide_eq_false h]; rfl
    have td : f_M_isDigit (if r < size then c r.toNat else 0) u = some (bi (decide (r < size) && isD c r)) := by
      rw [e_M_dig]
      by_cases h : r < size
      · rw [if_pos h, decide_eq_true h]; rfl
      · rw [if_neg h, decide_eq_false h]; rfl
    rw [u5, ta, b1_s, tl, b1_s]
    refine rt_c0 (r < size ∧ (isL c r || isD c r) = true) (fun hc => ?_) (fun j19 h19 => ?_)
    · have ub : u 180 r.toNat = c r.toNat := (ug 180 _ (by unfold mtkC; omega)).trans (b4 r (by omega) hc.1).1
      have cb := (b4 r (by omega) hc.1).2
      have eL : nL_ c q (r + 1) = cond (isL c r) (nL_ c q r + 1) (nL_ c q r) := cnt_sn r0
      have eD : nD_ c q (r + 1) = cond (isD c r) (nD_ c q r + 1) (nD_ c q r) := cnt_sn r0
      have eN : nmV 27 c q (r + 1) = nmV 27 c q r * 27 + (c r.toNat - 96) := fo_sn _ _ _ rfl r0
      have eV : nuV c q (r + 1) = 10 * nuV c q r + c r.toNat - 48 := fo_sn _ _ _ rfl r0
      have cn1 := nLD (c := c) (q := q) _ (r + 1) rfl (by omega) (fun i i0 i1 => by
        by_cases e : i = r
        · rw [e]; exact hc.2
        · exact ra i i0 (by omega))
      refine rt_chk (by omega) (rt_lt ?_)
      rw [ub]
      refine rt_c1 (fun y => y = bi (gdB c q (r + 1))) (fun y hy => ?_) (fun j21 h21 => ?_)
      · subst hy
        refine rt_lt ?_
        rw [u6, wi (x := r - q) (by omega) (by omega)]
        refine rt_c1 (fun t => t 179 5 = r ∧ t 179 6 = q ∧ (nL_ c q (r + 1) = r + 1 - q → r + 1 - q ≤ 7 → t 179 12 = nmV 27 c q (r + 1)) ∧ t 179 8 = u 179 8 ∧ Agr mtkC σ t) (fun t ht => ?_) (fun j24 h24 => ?_)
        · obtain ⟨t5, t6, t12, t8, tg⟩ := ht
          rw [t5, t6, wi (x := r - q) (by omega) (by omega)]
          refine rt_c1 (fun v => v 179 5 = r ∧ v 179 6 = q ∧ (nL_ c q (r + 1) = r + 1 - q → r + 1 - q ≤ 7 → v 179 12 = nmV 27 c q (r + 1)) ∧ (nD_ c q (r + 1) = r + 1 - q → r + 1 - q ≤ 3 → v 179 8 = nuV c q (r + 1)) ∧ Agr mtkC σ v) (fun v hv => ?_) (fun j26 h26 => ?_)
          · obtain ⟨v5, v6, v12, v8, vg⟩ := hv
            rw [v5, wi (by omega) (by omega)]
            refine rt_lt (hrc _ _ ⟨r + 1, by omega, fun i i0 i1 => ?_, sp_eq, by rw [sp_nj (by decide)]; exact v6, rfl, fun a b => by rw [sp_nj (by decide)]; exact v12 a b, fun a b => by rw [sp_nj (by decide)]; exact v8 a b, ag_sp vg (by unfold mtkC; omega)⟩ (by rw [sp_eq, u5]; omega))
            by_cases e : i = r
            · rw [e]; exact hc.2
            · exact ra i i0 (by omega)
          · refine rt_ite (fun g => ?_) (fun g => h26 _ ⟨t5, t6, t12, fun a b => by omega, tg⟩)
            refine rt_lt (h26 _ ⟨by rw [sp_nj (by decide)]; exact t5, by rw [sp_nj (by decide)]; exact t6, fun a b => by rw [sp_nj (by decide)]; exact t12 a b, fun a b => ?_, ag_sp tg (by unfold mtkC; omega)⟩)
            have hD : isD c r = true := by
              cases h : isD c r
              · rw [h, cond_false] at eD; omega
              · rfl
            rw [hD, cond_true] at eD
            have hd := of_decide_eq_true hD
            have v := uv (by omega) (by omega)
            have bd := nu_bd (c := c) (q := q) _ r rfl r0 (by omega)
            have pw : (10 : Int) ^ (r - q).toNat ≤ 100 := by
              have h2 : (r - q).toNat = 0 ∨ (r - q).toNat = 1 ∨ (r - q).toNat = 2 := by omega
              rcases h2 with h2 | h2 | h2 <;> rw [h2] <;> decide
            rw [sp_eq, t8, v, eV, wi (x := 10 * nuV c q r) (by omega) (by omega), wi (x := 10 * nuV c q r + c r.toNat) (by omega) (by omega), wi (by omega) (by omega)]
        · refine rt_ite (fun g => ?_) (fun g => h24 _ ⟨u5, u6, fun a b => by omega, rfl, ug⟩)
          refine rt_lt (h24 _ ⟨by rw [sp_nj (by decide)]; exact u5, by rw [sp_nj (by decide)]; exact u6, fun a b => ?_, by rw [sp_nj (by decide)], ag_sp ug (by unfold mtkC; omega)⟩)
          have hL : isL c r = true := by
            cases h : isL c r
            · rw [h, cond_false] at eL; omega
            · rfl
          rw [hL, cond_true] at eL
          have hl := of_decide_eq_true hL
          have v := un (by omega) (by omega)
          have bd := nm_bd (c := c) (q := q) (b := 27) (by decide) _ r rfl r0 (by omega)
          have pw : (27 : Int) ^ (r - q).toNat ≤ 400000000 := by
            have h2 : (r - q).toNat ≤ 6 := by omega
            have h3 : ∀ k, k ≤ 6 → (27 : Int) ^ k ≤ 400000000 := by decide
            exact h3 _ h2
          rw [sp_eq, v, wj (x := 27 * nmV 27 c q r) (by omega) (by omega), wj (x := 27 * nmV 27 c q r + c r.toNat) (by omega) (by omega), wj (by omega) (by omega), eN]
          omega
      · have gs : gdB c q (r + 1) = (gdB c q r && (isL c r == isL c q)) := by
          have ex := LD_ex (c := c) (i := r)
          have hc2 := hc.2
          unfold gdB
          rw [eL, eD]
          cases a : isL c q <;> cases b : isL c r <;> cases d : isD c r <;> rw [b, d] at hc2 ex <;> simp only [cond_true, cond_false] <;> simp at hc2 ex ⊢ <;> omega
        refine rt_c0 (gdB c q (r + 1) = false) (fun h => h21 _ (by rw [h]; rfl)) (fun j31 h31 => ?_)
        refine rt_ite (fun g => h31 (by rw [gs, bi_0.mp g]; rfl)) (fun g => ?_)
        have gt : gdB c q r = true := by cases h : gdB c q r with
          | false => rw [h] at g; exact absurd rfl g
          | true => rfl
        rw [e_M_let, b1_s, show decide (97 ≤ c r.toNat ∧ c r.toNat ≤ 122) = isL c r from rfl]
        refine rt_ite (fun g2 => h21 _ ?_) (fun g2 => h31 ?_)
        · have e : isL c r = isL c q := by revert g2; cases isL c r <;> cases isL c q <;> decide
          rw [gs, gt, e]; simp [bi]
        · have e : isL c r ≠ isL c q := fun e => g2 (by rw [e])
          rw [gs, gt]; simp [e]
    · have fin : ¬ (r < size ∧ (isL c r || isD c r) = true) → Ret (jn1 (fun (u36 : Int) => lt_ (sp u 179 7 u36) fun s37 => some s37) fun j35 => jn0 (j35 1) fun j38 => if bi (gdB c q r) = 0 then (j38) else (jn1 (fun (u40 : Int) => if u40 < (w32 (r - (u 179 6))) then (j38) else (if bi (isL c q) = 0 then (j35 3) else (j35 2))) fun j39 => if bi (isL c q) = 0 then (j39 3) else (j39 7))) P := by
        intro hx
        have hR : RunE c size q r := ⟨r0, r1, ra, by
          by_cases h : r < size
          · refine Or.inr ?_
            cases h2 : (isL c r || isD c r) with
            | false => rfl
            | true => exact absurd ⟨h, h2⟩ hx
          · exact Or.inl (by omega)⟩
        have hqr : q < r := by
          by_cases h : q = r
          · exact absurd ⟨by omega, by rw [← h]; exact hal⟩ hx
          · omega
        refine rt_c1 (fun x => x = rkS c q r - 1) (fun x hx => ?_) (fun j35 h35 => ?_)
        · subst hx
          refine rt_lt (rt_some (hk _ r hR (by rw [sp_nj (by decide)]; exact u5) sp_eq (fun h => ?_) (fun h => ?_) (ag_sp ug (by unfold mtkC; omega)) (by rw [sp_nj (by decide)]; exact u6)))
          · rw [sp_nj (by decide)]
            unfold rkS at h
            split at h
            · omega
            · split at h
              · exact uv (by omega) (by omega)
              · omega
          · rw [sp_nj (by decide)]
            unfold rkS at h
            split at h
            · exact un (by omega) (by omega)
            · split at h <;> omega
        · have fst : (isL c q = true → 1 ≤ nL_ c q r) ∧ (isL c q = false → 1 ≤ nD_ c q r) := by
            have e1 : nL_ c q r = cntP (isL c) r (q + 1) (cond (isL c q) 1 0) := cnt_s hqr
            have e2 : nD_ c q r = cntP (isD c) r (q + 1) (cond (isD c q) 1 0) := cnt_s hqr
            have c1 := cnt_bd (P := isL c) (N := r) _ (q + 1) (cond (isL c q) 1 0) rfl
            have c2 := cnt_bd (P := isD c) (N := r) _ (q + 1) (cond (isD c q) 1 0) rfl
            refine ⟨fun h => ?_, fun h => ?_⟩
            · rw [h, cond_true] at c1 e1; omega
            · have : isD c q = true := by rwa [h, Bool.false_or] at hal
              rw [this, cond_true] at c2 e2; omega
          refine rt_c0 (rkS c q r = 2) (fun h => h35 _ (by rw [h]; rfl)) (fun j38 h38 => ?_)
          refine rt_ite (fun g => ?_) (fun g => ?_)
          · refine h38 ?_
            have gf := bi_0.mp g
            unfold gdB at gf
            unfold rkS
            split at gf
            · rename_i h
              have := of_decide_eq_false gf
              have := fst.1 h
              rw [if_neg (by omega), if_neg (by omega)]
            · rename_i h
              have := of_decide_eq_false gf
              have := fst.2 (by simpa using h)
              rw [if_neg (by omega), if_neg (by omega)]
          · have gt : gdB c q r = true := by cases h : gdB c q r with
              | false => rw [h] at g; exact absurd rfl g
              | true => rfl
            unfold gdB at gt
            rw [u6, wi (by omega) (by omega), j1_s]
            cases hL : isL c q
            · rw [hL] at gt
              have h0 := of_decide_eq_true (show decide (nL_ c q r = 0) = true from gt)
              rw [if_pos by0, if_pos by0]
              refine rt_ite (fun g2 => h38 ?_) (fun g2 => h35 _ ?_)
              · unfold rkS
                have := fst.2 hL
                rw [if_neg (by omega), if_neg (by omega)]
              · unfold rkS
                have := fst.2 hL
                rw [if_neg (by omega), if_pos (by omega)]
                rfl
            · rw [hL] at gt
              have h0 := of_decide_eq_true (show decide (nD_ c q r = 0) = true from gt)
              rw [if_neg bn0, if_neg bn0]
              refine rt_ite (fun g2 => h38 ?_) (fun g2 => h35 _ ?_)
              · unfold rkS
                have := fst.1 hL
                rw [if_neg (by omega), if_neg (by omega)]
              · unfold rkS
                rw [if_pos (by omega)]
                rfl
      refine rt_ite (fun g => ?_) (fun g => ?_)
      · rw [b1_s, td, b1_s]
        have gl := bi_0.mp g
        refine rt_ite (fun g2 => ?_) (fun g2 => ?_)
        · have gd := bi_0.mp g2
          refine fin (fun h => ?_)
          rw [decide_eq_true h.1] at gl gd
          rw [Bool.true_and] at gl gd
          rw [gl, gd] at h
          cases h.2
        · refine h19 ?_
          have gd : (decide (r < size) && isD c r) = true := by cases h : (decide (r < size) && isD c r) with
            | false => rw [h] at g2; exact absurd rfl g2
            | true => rfl
          rw [Bool.and_eq_true, decide_eq_true_iff] at gd
          exact ⟨gd.1, by rw [gd.2, Bool.or_true]⟩
      · refine h19 ?_
        have gd : (decide (r < size) && isL c r) = true := by cases h : (decide (r < size) && isL c r) with
          | false => rw [h] at g; exact absurd rfl g
          | true => rfl
        rw [Bool.and_eq_true, decide_eq_true_iff] at gd
        exact ⟨gd.1, by rw [gd.2, Bool.true_or]⟩
  · unfold gdB
    rw [show nD_ c q q = 0 from cnt_e (by omega), show nL_ c q q = 0 from cnt_e (by omega)]
    split <;> rfl
  · rw [h12]; exact (fo_e (by omega)).symm
  · rw [h8]; exact (fo_e (by omega)).symm
theorem e_M_go (hn : 1000000 < n) (hb : msB c size lim p σ) (hp : 0 ≤ p ∧ p ≤ size) (h5 : σ 179 5 = p) : Ret (f_M_go n σ) (fun τ => MT c size lim p τ ∧ Agr mtkC σ τ) := by
  obtain ⟨b1, b2, b3, b4⟩ := hb
  unfold f_M_go
  refine rt_w1 (I := fun (u : JSg) => ∃ q, (p ≤ q ∧ q ≤ size) ∧ (∀ i, p ≤ i → i < q → isB c i = true) ∧ u 179 5 = q ∧ Agr mtkC σ u) (μ := fun (u : JSg) => (size - u 179 5).toNat) ?_ n _ ⟨p, by omega, fun i _ _ => by omega, h5, ag_refl⟩ (by rw [h5]; omega)
  rintro u ⟨q, ⟨q0, q1⟩, qb, u5, ug⟩ rc hrc
  have u3 : u 179 3 = size := (ug 179 3 (by unfold mtkC; omega)).trans b1
  have u4 : u 179 4 = lim := (ug 179 4 (by unfold mtkC; omega)).trans b2
  have ub : ∀ i : Int, 0 ≤ i → i < size → u 180 i.toNat = c i.toNat ∧ 0 ≤ c i.toNat ∧ c i.toNat < 256 := fun i i0 i1 => by
    rw [ug 180 _ (by unfold mtkC; omega)]; exact b4 i i0 i1
  refine rt_c0 (SkE c size p q) (fun hk => ?_) (fun j3 h3 => ?_)
  · refine rt_lt ?_
    rw [u5]
    generalize hv : sp u 179 6 q = v
    have vg : Agr mtkC σ v := by rw [← hv]; exact ag_sp ug (by unfold mtkC; omega)
    have v5 : v 179 5 = q := by rw [← hv, sp_nj (by decide), u5]
    have v6 : v 179 6 = q := by rw [← hv, sp_eq]
    have v3 : v 179 3 = size := (vg 179 3 (by unfold mtkC; omega)).trans b1
    have v4 : v 179 4 = lim := (vg 179 4 (by unfold mtkC; omega)).trans b2
    have mk : ∀ w : JSg, Agr mtkC σ w → msB c size lim p w := fun w wg => ⟨(wg 179 3 (by unfold mtkC; omega)).trans b1, (wg 179 4 (by unfold mtkC; omega)).trans b2, b3, fun i i0 i1 => by rw [wg 180 _ (by unfold mtkC; omega)]; exact b4 i i0 i1⟩
    refine rt_c0 (size ≤ lim ∨ q < lim) (fun hc => ?_) (fun j5 h5 => ?_)
    · rw [v5, v3]
      refine rt_ite (fun g => ?_) (fun g => ?_)
      · have vb : v 180 q.toNat = c q.toNat := by rw [vg 180 _ (by unfold mtkC; omega)]; exact (b4 q (by omega) g).1
        have cb := (b4 q (by omega) g).2
        rw [vb]
        refine rt_chk (by omega) (rt_lt ?_)
        rw [e_M_let, b1_s, show decide (97 ≤ c q.toNat ∧ c q.toNat ≤ 122) = isL c q from rfl]
        refine rt_c0 ((isL c q || isD c q) = true) (fun hal => ?_) (fun j8 h8 => ?_)
        · refine rt_lt (rt_lt (rt_lt (rt_lt ?_)))
          have wg : Agr mtkC σ (sp (sp v 179 12 0) 179 8 0) := ag_sp (ag_sp vg (by unfold mtkC; omega)) (by unfold mtkC; omega)
          refine e_M_run hn (mk _ wg) ⟨by omega, g⟩ (by rw [sp_nj (by decide), sp_nj (by decide)]; exact v5) (by rw [sp_nj (by decide), sp_nj (by decide)]; exact v6) sp_eq (by rw [sp_nj (by decide), sp_eq]) hal (fun t e t1 t2 t3 t4 t5 t6 t7 => ⟨⟨mk t (ag_tr wg t6), hp, q, hk, Or.inr (Or.inr ⟨g, by omega, t7, hal, e, t1, t2, t3, t4, t5⟩)⟩, ag_tr wg t6⟩)
        · have sgn : (isL c q || isD c q) = false → Ret (jn1 (fun (u43 : Int) => lt_ (sp v 179 7 u43) fun s44 => lt_ (sp s44 179 9 (c q.toNat)) fun s45 => lt_ (sp s45 179 5 (w32 ((s45 179 5) + 1))) fun s46 => some s46) fun j42 => jn0 (j42 4) fun j47 => if (c q.toNat) = 59 then (j47) else (if (c q.toNat) = 60 then (j47) else (if (c q.toNat) = 61 then (j47) else (if (c q.toNat) = 62 then (j47) else (if (c q.toNat) = 40 then (j47) else (if (c q.toNat) = 41 then (j47) else (j42 1))))))) (fun τ => MT c size lim p τ ∧ Agr mtkC σ τ) := by
            intro al
            refine rt_c1 (fun x => (sgB c q = true ∧ x = 4) ∨ (sgB c q = false ∧ x = 1)) (fun x hx => ?_) (fun j42 h42 => ?_)
            · rw [lt_u, lt_u, sp_nj (i := 5) (j := 9) (by decide), sp_nj (i := 5) (j := 7) (by decide), v5, wi (by omega) (by omega)]
              have wg : Agr mtkC σ (sp (sp (sp v 179 7 x) 179 9 (c q.toNat)) 179 5 (q + 1)) := ag_sp (ag_sp (ag_sp vg (by unfold mtkC; omega)) (by unfold mtkC; omega)) (by unfold mtkC; omega)
              refine rt_lt (rt_some ⟨⟨mk _ wg, hp, q, hk, Or.inr (Or.inl ⟨g, by omega, ?_, al, sp_eq, ?_⟩)⟩, wg⟩)
              · rw [sp_nj (by decide), sp_nj (by decide), sp_nj (by decide)]; exact v6
              · rw [sp_nj (i := 7) (by decide), sp_nj (i := 7) (by decide), sp_eq, sp_nj (i := 9) (by decide), sp_eq]
                rcases hx with ⟨a, b⟩ | ⟨a, b⟩
                · exact Or.inl ⟨a, b, rfl⟩
                · exact Or.inr ⟨a, b⟩
            · refine rt_c0 (sgB c q = true) (fun h => h42 _ (Or.inl ⟨h, rfl⟩)) (fun j47 h47 => ?_)
              refine rt_ite (fun g => h47 (decide_eq_true (by omega))) (fun g1 => rt_ite (fun g => h47 (decide_eq_true (by omega))) (fun g2 => rt_ite (fun g => h47 (decide_eq_true (by omega))) (fun g3 => rt_ite (fun g => h47 (decide_eq_true (by omega))) (fun g4 => rt_ite (fun g => h47 (decide_eq_true (by omega))) (fun g5 => rt_ite (fun g => h47 (decide_eq_true (by omega))) (fun g6 => h42 _ (Or.inr ⟨decide_eq_false (by omega), rfl⟩)))))))
          refine rt_ite (fun g1 => ?_) (fun g1 => ?_)
          · rw [e_M_dig, b1_s, show decide (48 ≤ c q.toNat ∧ c q.toNat ≤ 57) = isD c q from rfl]
            refine rt_ite (fun g2 => sgn (by rw [bi_0.mp g1, bi_0.mp g2]; rfl)) (fun g2 => h8 ?_)
            cases h : isD c q with
            | false => rw [h] at g2; exact absurd rfl g2
            | true => rw [Bool.or_true]
          · refine h8 ?_
            cases h : isL c q with
            | false => rw [h] at g1; exact absurd rfl g1
            | true => rfl
      · have wg : Agr mtkC σ (sp v 179 7 0) := ag_sp vg (by unfold mtkC; omega)
        refine rt_lt (rt_some ⟨⟨mk _ wg, hp, q, hk, Or.inl ⟨by omega, ?_, ?_, ?_⟩⟩, wg⟩)
        · rw [sp_nj (by decide)]; exact v5
        · rw [sp_eq, if_neg (by omega)]
        · rw [sp_nj (by decide), v6]; omega
    · rw [v4, v3, v6]
      refine rt_ite (fun g => rt_ite (fun g2 => h5 (Or.inr g2)) (fun g2 => ?_)) (fun g => h5 (Or.inl (by omega)))
      have wg : Agr mtkC σ (sp (sp v 179 6 lim) 179 7 1) := ag_sp (ag_sp vg (by unfold mtkC; omega)) (by unfold mtkC; omega)
      refine rt_lt (rt_lt (rt_some ⟨⟨mk _ wg, hp, q, hk, Or.inl ⟨by omega, ?_, ?_, ?_⟩⟩, wg⟩))
      · rw [sp_nj (by decide), sp_nj (by decide)]; exact v5
      · rw [sp_eq, if_pos g]
      · rw [sp_nj (by decide), sp_eq]; omega
  · rw [u5, u3]
    refine rt_ite (fun g => ?_) (fun g => h3 ⟨q0, Or.inl q1, qb, Or.inl (by omega)⟩)
    have cb := ub q (by omega) g
    rw [cb.1]
    refine rt_chk (by omega) (rt_c0 (isB c q = true) (fun hc => ?_) (fun j51 h51 => ?_))
    · rw [wi (by omega) (by omega)]
      refine rt_lt (hrc _ ⟨q + 1, by omega, fun i i0 i1 => ?_, sp_eq, ag_sp ug (by unfold mtkC; omega)⟩ (by rw [sp_eq, u5]; omega))
      by_cases e : i = q
      · rw [e]; exact hc
      · exact qb i i0 (by omega)
    · refine rt_ite (fun g1 => h51 (decide_eq_true (Or.inl g1))) (fun g1 => rt_chk (by omega) (rt_ite (fun g2 => h51 (decide_eq_true (Or.inr g2))) (fun g2 => h3 ⟨q0, Or.inl q1, qb, Or.inr (decide_eq_false (fun z => ?_))⟩)))
      rcases z with z | z
      · exact g1 z
      · exact g2 z
end
