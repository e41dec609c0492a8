/-! LAYER 3v: a TOKEN, on both sides -/
theorem fo_sn {S : Type} {f : Int → S → S} {p : Int} : ∀ (k : Nat) (q : Int) (x : S), (p - q).toNat = k → q ≤ p → fo f (p + 1) q x = f p (fo f p q x) := by
  intro k
  induction k with
  | zero =>
    intro q x h h1
    have : q = p := by omega
    subst this
    rw [fo_s (by omega), fo_e (by omega), fo_e (by omega)]
  | succ k ih =>
    intro q x h h1
    rw [fo_s (by omega), fo_s (N := p) (by omega)]
    exact ih _ _ (by omega) (by omega)
theorem i64_or (x y : Int) : i64 (or64 x y) = i64 x ||| i64 y := i64_t _
theorem i64_sl (x y : Int) : i64 (sl64 x y) = i64 x <<< ((i32 y).toInt64 &&& 63) := i64_t _
theorem bv_nat64 (a : Nat) : (i64 (a : Int)).toBitVec = BitVec.ofNat 64 a := BitVec.ofInt_natCast 64 a
theorem i64_ext {x y : Int} (hx : okJ x) (hy : okJ y) (h : (i64 x).toBitVec = (i64 y).toBitVec) : x = y := by
  rw [← t_i64 hx, ← t_i64 hy, Int64.toBitVec_inj.mp h]
theorem amt64 : ∀ k : Nat, k < 64 → (((i32 (k : Int)).toInt64 &&& 63).toBitVec.smod 64).toNat = k := by decide +kernel
theorem okJn {m : Nat} (h : m < 9223372036854775808) : okJ (m : Int) := ⟨by omega, by omega⟩
theorem or64_n {a b : Nat} (ha : a < 9223372036854775808) (hb : b < 9223372036854775808) : or64 (a : Int) (b : Int) = ((a ||| b : Nat) : Int) := by
  have := Nat.or_lt_two_pow (n := 63) ha hb
  refine i64_ext (ok64 _) ⟨by omega, by omega⟩ ?_
  rw [i64_or, Int64.toBitVec_or, bv_nat64, bv_nat64, bv_nat64, BitVec.ofNat_or]
theorem sl64_n {a k : Nat} (h : a <<< k < 9223372036854775808) (hk : k < 64) : sl64 (a : Int) (k : Int) = ((a <<< k : Nat) : Int) := by
  refine i64_ext (ok64 _) (okJn h) ?_
  rw [i64_sl, Int64.toBitVec_shiftLeft, BitVec.shiftLeft_eq', amt64 k hk, bv_nat64, bv_nat64]
  apply BitVec.eq_of_toNat_eq
  simp [BitVec.toNat_shiftLeft, Nat.shiftLeft_eq, Nat.mod_mul_mod]
theorem shl5 {x y : Int} (hx : 0 ≤ x ∧ x < 1073741824) (hy : 0 ≤ y ∧ y < 32) : or64 (sl64 x 5) y = x * 32 + y := by
  obtain ⟨a, rfl⟩ : ∃ a : Nat, x = a := ⟨x.toNat, by omega⟩
  obtain ⟨b, rfl⟩ : ∃ b : Nat, y = b := ⟨y.toNat, by omega⟩
  have e : a <<< 5 = a * 32 := Nat.shiftLeft_eq a 5
  have h1 : sl64 (a : Int) 5 = ((a <<< 5 : Nat) : Int) := sl64_n (k := 5) (by omega) (by decide)
  rw [h1, or64_n (by omega) (by omega), ← Nat.shiftLeft_add_eq_or_of_lt (i := 5) (by omega), e]
  omega
theorem an_31 {x : Int} (hx : 97 ≤ x ∧ x ≤ 122) : an32 x 31 = x - 96 := by
  obtain ⟨a, rfl⟩ : ∃ a : Nat, x = a := ⟨x.toNat, by omega⟩
  have h1 : an32 (a : Int) ((31 : Nat) : Int) = ((a &&& 31 : Nat) : Int) := an_n (by omega)
  have h2 : (a &&& 31 : Nat) = a % 32 := Nat.and_two_pow_sub_one_eq_mod a 5
  rw [show an32 (a : Int) 31 = an32 (a : Int) ((31 : Nat) : Int) from rfl, h1, h2]
  omega
/-! the text -/
def isL (c : JA) (i : Int) : Bool := decide (97 ≤ c i.toNat ∧ c i.toNat ≤ 122)
def isD (c : JA) (i : Int) : Bool := decide (48 ≤ c i.toNat ∧ c i.toNat ≤ 57)
def isB (c : JA) (i : Int) : Bool := decide (c i.toNat = 32 ∨ c i.toNat = 10)
def SkE (c : JA) (size p q : Int) : Prop := p ≤ q ∧ (q ≤ size ∨ q = p) ∧ (∀ i, p ≤ i → i < q → isB c i = true) ∧ (size ≤ q ∨ isB c q = false)
def RunE (c : JA) (size p q : Int) : Prop := p ≤ q ∧ q ≤ size ∧ (∀ i, p ≤ i → i < q → (isL c i || isD c i) = true) ∧ (size ≤ q ∨ (isL c q || isD c q) = false)
theorem ske_u {c : JA} {size p q r : Int} (h1 : SkE c size p q) (h2 : SkE c size p r) : q = r := by
  obtain ⟨a1, a2, a3, a4⟩ := h1
  obtain ⟨b1, b2, b3, b4⟩ := h2
  by_cases h : q < r
  · have := b3 q a1 h
    rcases a4 with g | g
    · omega
    · rw [g] at this; cases this
  · by_cases h' : r < q
    · have := a3 r b1 h'
      rcases b4 with g | g
      · omega
      · rw [g] at this; cases this
    · omega
theorem rne_u {c : JA} {size p q r : Int} (h1 : RunE c size p q) (h2 : RunE c size p r) : q = r := by
  obtain ⟨a1, a2, a3, a4⟩ := h1
  obtain ⟨b1, b2, b3, b4⟩ := h2
  by_cases h : q < r
  · have := b3 q a1 h
    rcases a4 with g | g
    · omega
    · rw [g] at this; cases this
  · by_cases h' : r < q
    · have := a3 r b1 h'
      rcases b4 with g | g
      · omega
      · rw [g] at this; cases this
    · omega
def nL_ (c : JA) (q p : Int) : Int := cntP (isL c) p q 0
def nD_ (c : JA) (q p : Int) : Int := cntP (isD c) p q 0
def nmV (b : Int) (c : JA) (q p : Int) : Int := fo (fun i x => x * b + (c i.toNat - 96)) p q 0
def nuV (c : JA) (q p : Int) : Int := fo (fun i x => 10 * x + c i.toNat - 48) p q 0
theorem cnt_sn {P : Int → Bool} {q p : Int} (h : q ≤ p) : cntP P (p + 1) q 0 = cond (P p) (cntP P p q 0 + 1) (cntP P p q 0) := fo_sn _ _ _ rfl h
theorem LD_ex {c : JA} {i : Int} : ¬ (isL c i = true ∧ isD c i = true) := by
  unfold isL isD
  rintro ⟨h1, h2⟩
  have := of_decide_eq_true h1
  have := of_decide_eq_true h2
  omega
theorem nLD {c : JA} {q : Int} : ∀ (k : Nat) (p : Int), (p - q).toNat = k → q ≤ p → (∀ i, q ≤ i → i < p → (isL c i || isD c i) = true) → nL_ c q p + nD_ c q p = p - q ∧ 0 ≤ nL_ c q p ∧ 0 ≤ nD_ c q p := by
  intro k
  induction k with
  | zero =>
    intro p h h1 _
    unfold nL_ nD_
    rw [cnt_e (by omega), cnt_e (by omega)]
    omega
  | succ k ih =>
    intro p h h1 h2
    have g := ih (p - 1) (by omega) (by omega) (fun i a b => h2 i a (by omega))
    have e1 : nL_ c q p = cond (isL c (p - 1)) (nL_ c q (p - 1) + 1) (nL_ c q (p - 1)) := by
      have := cnt_sn (P := isL c) (q := q) (p := p - 1) (by omega)
      rwa [show p - 1 + 1 = p by omega] at this
    have e2 : nD_ c q p = cond (isD c (p - 1)) (nD_ c q (p - 1) + 1) (nD_ c q (p - 1)) := by
      have := cnt_sn (P := isD c) (q := q) (p := p - 1) (by omega)
      rwa [show p - 1 + 1 = p by omega] at this
    have h3 := h2 (p - 1) (by omega) (by omega)
    have h4 := LD_ex (c := c) (i := p - 1)
    rw [e1, e2]
    cases a : isL c (p - 1) <;> cases b : isD c (p - 1) <;> rw [a, b] at h3 h4 <;> simp only [cond_true, cond_false] <;> simp at h3 h4 <;> omega
theorem nm_bd {c : JA} {q b : Int} (hb : 27 ≤ b) : ∀ (k : Nat) (p : Int), (p - q).toNat = k → q ≤ p → nL_ c q p = p - q → 0 ≤ nmV b c q p ∧ nmV b c q p < b ^ k := by
  intro k
  induction k with
  | zero =>
    intro p h h1 _
    unfold nmV
    rw [fo_e (by omega)]
    exact ⟨by omega, by rw [Int.pow_zero]; omega⟩
  | succ k ih =>
    intro p h h1 h2
    have e1 : nL_ c q p = cond (isL c (p - 1)) (nL_ c q (p - 1) + 1) (nL_ c q (p - 1)) := by
      have := cnt_sn (P := isL c) (q := q) (p := p - 1) (by omega)
      rwa [show p - 1 + 1 = p by omega] at this
    have bd := cnt_bd (P := isL c) (N := p - 1) _ q 0 rfl
    have hl : isL c (p - 1) = true := by
      cases a : isL c (p - 1)
      · rw [a, cond_false] at e1
        unfold nL_ at e1 h2
        omega
      · rfl
    rw [hl, cond_true] at e1
    have g := ih (p - 1) (by omega) (by omega) (by omega)
    have e2 : nmV b c q p = nmV b c q (p - 1) * b + (c (p - 1).toNat - 96) := by
      have := fo_sn (f := fun i x => x * b + (c i.toNat - 96)) (p := p - 1) _ q 0 rfl (by omega)
      rwa [show p - 1 + 1 = p by omega] at this
    have hc := of_decide_eq_true hl
    rw [e2, Int.pow_succ]
    have m0 : 0 ≤ nmV b c q (p - 1) * b := Int.mul_nonneg g.1 (by omega)
    have m1 : (nmV b c q (p - 1) + 1) * b ≤ b ^ k * b := Int.mul_le_mul_of_nonneg_right (by omega) (by omega)
    rw [Int.add_mul] at m1
    omega
theorem nu_bd {c : JA} {q : Int} : ∀ (k : Nat) (p : Int), (p - q).toNat = k → q ≤ p → nD_ c q p = p - q → 0 ≤ nuV c q p ∧ nuV c q p < 10 ^ k := by
  intro k
  induction k with
  | zero =>
    intro p h h1 _
    unfold nuV
    rw [fo_e (by omega)]
    exact ⟨by omega, by show (0 : Int) < 1; omega⟩
  | succ k ih =>
    intro p h h1 h2
    have e1 : nD_ c q p = cond (isD c (p - 1)) (nD_ c q (p - 1) + 1) (nD_ c q (p - 1)) := by
      have := cnt_sn (P := isD c) (q := q) (p := p - 1) (by omega)
      rwa [show p - 1 + 1 = p by omega] at this
    have bd := cnt_bd (P := isD c) (N := p - 1) _ q 0 rfl
    have hl : isD c (p - 1) = true := by
      cases a : isD c (p - 1)
      · rw [a, cond_false] at e1
        unfold nD_ at e1 h2
        omega
      · rfl
    rw [hl, cond_true] at e1
    have g := ih (p - 1) (by omega) (by omega) (by omega)
    have e2 : nuV c q p = 10 * nuV c q (p - 1) + c (p - 1).toNat - 48 := by
      have := fo_sn (f := fun i x => 10 * x + c i.toNat - 48) (p := p - 1) _ q 0 rfl (by omega)
      rwa [show p - 1 + 1 = p by omega] at this
    have hc := of_decide_eq_true hl
    rw [e2, Int.pow_succ]
    omega
/-- what kind a run is: 3 a WORD, 4 a NUMBER, 2 neither -/
def rkS (c : JA) (q e : Int) : Int := if nD_ c q e = 0 ∧ nL_ c q e ≤ 7 then 3 else if nL_ c q e = 0 ∧ nD_ c q e ≤ 3 then 4 else 2
section
variable {σ : JSg} {n : Nat} {c : JA} {size p q : Int}
def wbR (σ : JSg) (c : JA) (size : Int) : Prop := σ 2 1 = size ∧ (0 ≤ size ∧ size ≤ 940) ∧ ∀ i : Int, 0 ≤ i → i < size → σ 1 i.toNat = sg8 (c i.toNat) ∧ 0 ≤ c i.toNat ∧ c i.toNat < 256
def rnC (a j : Nat) : Prop := a = 2 ∧ (j = 3 ∨ j = 4 ∨ j = 7 ∨ j = 8)
theorem e_Tok_run (hn : 1000000 < n) (hb : wbR σ c size) (hq : 0 ≤ q ∧ q ≤ size) (h3 : σ 2 3 = q) : Ret (f_Tok_readRun n σ) (fun τ => ∃ e, RunE c size q e ∧ τ 2 3 = e ∧ τ 2 4 = rkS c q e ∧ (nD_ c q e = 0 → nL_ c q e ≤ 7 → τ 2 7 = nmV 32 c q e) ∧ (nL_ c q e = 0 → nD_ c q e ≤ 3 → τ 2 8 = nuV c q e) ∧ Agr rnC σ τ) := by
  obtain ⟨b1, b2, b3⟩ := hb
  unfold f_Tok_readRun
  refine rt_lt (rt_lt (rt_lt (rt_lt ?_)))
  refine rt_w3 (I := fun (l d : Int) (u : JSg) => ∃ p, (q ≤ p ∧ p ≤ size) ∧ (∀ i, q ≤ i → i < p → (isL c i || isD c i) = true) ∧ u 2 3 = p ∧ l = nL_ c q p ∧ d = nD_ c q p ∧ (nD_ c q p = 0 → nL_ c q p ≤ 7 → u 2 7 = nmV 32 c q p) ∧ (nL_ c q p = 0 → nD_ c q p ≤ 3 → u 2 8 = nuV c q p) ∧ Agr rnC σ u) (μ := fun (l d : Int) (u : JSg) => (size - u 2 3).toNat) ?_ n _ _ _ ⟨q, by omega, fun i _ _ => by omega, by rw [sp_nj (by decide), sp_nj (by decide), h3], ?_, ?_, fun _ _ => ?_, fun _ _ => ?_, ag_sp (ag_sp ag_refl (by unfold rnC; omega)) (by unfold rnC; omega)⟩ (by rw [sp_nj (by decide), sp_nj (by decide), h3]; omega)
  · rintro l d u ⟨p, ⟨p0, p1⟩, pa, u3, rfl, rfl, un, uv, ug⟩ rc hrc
    have u1 : u 2 1 = size := (ug 2 1 (by unfold rnC; omega)).trans b1
    have cn := nLD _ p rfl p0 pa
    refine rt_c0 (RunE c size q p) (fun hc => ?_) (fun j9 h9 => ?_)
    · refine rt_lt ?_
      rw [j0_s]
      have fin : ∀ x : Int, x = rkS c q p → ∀ v : JSg, v = (if x = 2 then sp u 2 4 2 else sp (sp u 2 4 2) 2 4 x) → Ret (some v) (fun τ => ∃ e, RunE c size q e ∧ τ 2 3 = e ∧ τ 2 4 = rkS c q e ∧ (nD_ c q e = 0 → nL_ c q e ≤ 7 → τ 2 7 = nmV 32 c q e) ∧ (nL_ c q e = 0 → nD_ c q e ≤ 3 → τ 2 8 = nuV c q e) ∧ Agr rnC σ τ) := by
        intro x hx v hv
        refine rt_some ⟨p, hc, ?_⟩
        subst hv
        split
        · rename_i g
          exact ⟨by rw [sp_nj (by decide)]; exact u3, by rw [sp_eq, ← hx, g], fun a b => by rw [sp_nj (by decide)]; exact un a b, fun a b => by rw [sp_nj (by decide)]; exact uv a b, ag_sp ug (by unfold rnC; omega)⟩
        · exact ⟨by rw [sp_nj (by decide), sp_nj (by decide)]; exact u3, by rw [sp_eq, ← hx], fun a b => by rw [sp_nj (by decide), sp_nj (by decide)]; exact un a b, fun a b => by rw [sp_nj (by decide), sp_nj (by decide)]; exact uv a b, ag_sp (ag_sp ug (by unfold rnC; omega)) (by unfold rnC; omega)⟩
      have mid : ¬ (nD_ c q p = 0 ∧ nL_ c q p ≤ 7) → Ret (if nL_ c q p = 0 then (if 3 < nD_ c q p then (some (sp u 2 4 2)) else (lt_ (sp (sp u 2 4 2) 2 4 4) fun s12 => some s12)) else (some (sp u 2 4 2))) (fun τ => ∃ e, RunE c size q e ∧ τ 2 3 = e ∧ τ 2 4 = rkS c q e ∧ (nD_ c q e = 0 → nL_ c q e ≤ 7 → τ 2 7 = nmV 32 c q e) ∧ (nL_ c q e = 0 → nD_ c q e ≤ 3 → τ 2 8 = nuV c q e) ∧ Agr rnC σ τ) := by
        intro hm
        refine rt_ite (fun g => rt_ite (fun g2 => fin 2 ?_ _ rfl) (fun g2 => rt_lt (fin 4 ?_ _ rfl))) (fun g => fin 2 ?_ _ rfl)
        · unfold rkS; rw [if_neg hm, if_neg (by omega)]
        · unfold rkS; rw [if_neg hm, if_pos (by omega)]
        · unfold rkS; rw [if_neg hm, if_neg (by omega)]
      refine rt_ite (fun g => rt_ite (fun g2 => mid (by omega)) (fun g2 => rt_lt (fin 3 ?_ _ rfl))) (fun g => mid (by omega))
      unfold rkS; rw [if_pos (by omega)]
    · rw [u1, u3]
      refine rt_ite (fun g => ?_) (fun g => h9 ⟨p0, p1, pa, Or.inl (by omega)⟩)
      have bb := b3 p (by omega) g
      have uu : u 1 p.toNat = sg8 (c p.toNat) := (ug 1 _ (by unfold rnC; omega)).trans bb.1
      rw [uu]
      refine rt_chk (by omega) (rt_lt ?_)
      have sgl : (97 ≤ sg8 (c p.toNat) ∧ sg8 (c p.toNat) ≤ 122) ↔ (97 ≤ c p.toNat ∧ c p.toNat ≤ 122) := by unfold sg8; split <;> omega
      have sgd : (48 ≤ sg8 (c p.toNat) ∧ sg8 (c p.toNat) ≤ 57) ↔ (48 ≤ c p.toNat ∧ c p.toNat ≤ 57) := by unfold sg8; split <;> omega
      have sge : (48 ≤ c p.toNat ∧ c p.toNat ≤ 122) → sg8 (c p.toNat) = c p.toNat := by intro h; unfold sg8; rw [if_pos (by omega)]
      refine rt_c3 (fun l' d' t => (isL c p || isD c p) = true ∧ t 2 3 = p ∧ l' = nL_ c q (p + 1) ∧ d' = nD_ c q (p + 1) ∧ (nD_ c q (p + 1) = 0 → nL_ c q (p + 1) ≤ 7 → t 2 7 = nmV 32 c q (p + 1)) ∧ (nL_ c q (p + 1) = 0 → nD_ c q (p + 1) ≤ 3 → t 2 8 = nuV c q (p + 1)) ∧ Agr rnC σ t) (fun l' d' t ht => ?_) (fun j15 h15 => ?_)
      · obtain ⟨t0, t1, t2, t3, t4, t5, t6⟩ := ht
        rw [t1, wi (by omega) (by omega)]
        refine rt_lt (hrc _ _ _ ⟨p + 1, by omega, fun i i0 i1 => ?_, sp_eq, t2, t3, fun a b => by rw [sp_nj (by decide)]; exact t4 a b, fun a b => by rw [sp_nj (by decide)]; exact t5 a b, ag_sp t6 (by unfold rnC; omega)⟩ ?_)
        · by_cases e : i = p
          · rw [e]; exact t0
          · exact pa i i0 (by omega)
        · rw [sp_eq, u3]; omega
      · have eL : nL_ c q (p + 1) = cond (isL c p) (nL_ c q p + 1) (nL_ c q p) := cnt_sn p0
        have eD : nD_ c q (p + 1) = cond (isD c p) (nD_ c q p + 1) (nD_ c q p) := cnt_sn p0
        have eN : nmV 32 c q (p + 1) = nmV 32 c q p * 32 + (c p.toNat - 96) := fo_sn _ _ _ rfl p0
        have eV : nuV c q (p + 1) = 10 * nuV c q p + c p.toNat - 48 := fo_sn _ _ _ rfl p0
        refine rt_c0 (isL c p = false) (fun hc => ?_) (fun j20 h20 => ?_)
        · refine rt_ite (fun g1 => ?_) (fun g1 => rt_ite (fun g2 => ?_) (fun g2 => ?_))
          · have : isD c p = false := decide_eq_false (fun z => by have := sgd.mpr z; omega)
            exact h9 ⟨p0, p1, pa, Or.inr (by rw [hc, this]; rfl)⟩
          · have : isD c p = false := decide_eq_false (fun z => by have := sgd.mpr z; omega)
            exact h9 ⟨p0, p1, pa, Or.inr (by rw [hc, this]; rfl)⟩
          · have hd := sgd.mp ⟨by omega, by omega⟩
            have hD : isD c p = true := decide_eq_true hd
            rw [hc, cond_false] at eL
            rw [hD, cond_true] at eD
            rw [wi (x := nD_ c q p + 1) (by omega) (by omega)]
            refine rt_lt (rt_lt (h15 _ _ _ ⟨by rw [hD]; simp, by rw [sp_nj (by decide)]; exact u3, eL.symm, eD.symm, fun a b => by omega, fun a b => ?_, ag_sp ug (by unfold rnC; omega)⟩))
            have v := uv (by omega) (by omega)
            have bd := nu_bd (c := c) (q := q) _ p rfl p0 (by omega)
            have pw : (10 : Int) ^ (p - q).toNat ≤ 100 := by
              have h2 : (p - q).toNat = 0 ∨ (p - q).toNat = 1 ∨ (p - q).toNat = 2 := by omega
              rcases h2 with h2 | h2 | h2 <;> rw [h2] <;> decide
            rw [sp_eq, v, sge (by omega), eV, wi (x := 10 * nuV c q p) (by omega) (by omega), wi (x := 10 * nuV c q p + c p.toNat) (by omega) (by omega), wi (by omega) (by omega)]
        · refine rt_ite (fun g1 => h20 (decide_eq_false (fun z => by have := sgl.mpr z; omega))) (fun g1 => rt_ite (fun g2 => h20 (decide_eq_false (fun z => by have := sgl.mpr z; omega))) (fun g2 => ?_))
          have hl := sgl.mp ⟨by omega, by omega⟩
          have hL : isL c p = true := decide_eq_true hl
          have hD : isD c p = false := decide_eq_false (fun z => by omega)
          rw [hL, cond_true] at eL
          rw [hD, cond_false] at eD
          rw [wi (x := nL_ c q p + 1) (by omega) (by omega)]
          refine rt_lt (rt_lt (h15 _ _ _ ⟨by rw [hL]; rfl, by rw [sp_nj (by decide)]; exact u3, eL.symm, eD.symm, fun a b => ?_, fun a b => by omega, ag_sp ug (by unfold rnC; omega)⟩))
          have v := un (by omega) (by omega)
          have bd := nm_bd (c := c) (q := q) (b := 32) (by decide) _ p rfl p0 (by omega)
          have pw : (32 : Int) ^ (p - q).toNat ≤ 1073741824 := by
            have h2 : (p - q).toNat ≤ 6 := by omega
            have h3 : ∀ k, k ≤ 6 → (32 : Int) ^ k ≤ 1073741824 := by decide
            exact h3 _ h2
          rw [sp_eq, v, sge (by omega), an_31 hl, shl5 (by omega) (by omega), eN]
  · exact (cnt_e (by omega)).symm
  · exact (cnt_e (by omega)).symm
  · rw [sp_nj (by decide), sp_eq]
    exact (fo_e (by omega)).symm
  · rw [sp_eq]
    exact (fo_e (by omega)).symm
end
