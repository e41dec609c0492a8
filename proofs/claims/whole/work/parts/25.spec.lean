/-! LAYER 3b: what both sides tell, as functions of the reference's row of numbers -/
theorem rt_eq {Z : Type} {o : Option Z} {v : Z} (h : Ret o (fun z => z = v)) : o = some v := by
  obtain ⟨z, e, rfl⟩ := h
  exact e
def bi (b : Bool) : Int := if b then 1 else 0
theorem bi_t : bi true = 1 := rfl
theorem bi_f : bi false = 0 := rfl
theorem bi_0 {b : Bool} : bi b = 0 ↔ b = false := by cases b <;> decide
theorem bi_1 {b : Bool} : bi b = 1 ↔ b = true := by cases b <;> decide
theorem bi_or (b : Bool) : bi b = 0 ∨ bi b = 1 := by cases b <;> decide
theorem bi_if {c : Prop} [Decidable c] : (if c then (1 : Int) else 0) = bi (decide c) := by
  by_cases h : c <;> simp [h, bi]
section
variable {S Z : Type}
def fold_ (f : Int → S → S) : Nat → Int → S → S
  | 0, _, x => x
  | k + 1, i, x => fold_ f k (i + 1) (f i x)
def fo (f : Int → S → S) (N i : Int) (x : S) : S := fold_ f (N - i).toNat i x
theorem fo_cg {f g : Int → S → S} {N : Int} : ∀ (k : Nat) (i : Int) (x : S), (N - i).toNat = k → (∀ s y, i ≤ s → s < N → f s y = g s y) → fo f N i x = fo g N i x := by
  intro k
  induction k with
  | zero => intro i x h _; unfold fo; rw [h]; rfl
  | succ k ih =>
    intro i x h hf
    have e1 : fo f N i x = fo f N (i + 1) (f i x) := by
      unfold fo
      rw [show (N - i).toNat = (N - (i + 1)).toNat + 1 by omega]
      rfl
    have e2 : fo g N i x = fo g N (i + 1) (g i x) := by
      unfold fo
      rw [show (N - i).toNat = (N - (i + 1)).toNat + 1 by omega]
      rfl
    rw [e1, e2, hf i x (by omega) (by omega)]
    exact ih _ _ (by omega) (fun s y h1 h2 => hf s y (by omega) h2)
theorem fo_s {f : Int → S → S} {N i : Int} {x : S} (h : i < N) : fo f N i x = fo f N (i + 1) (f i x) := by
  unfold fo
  rw [show (N - i).toNat = (N - (i + 1)).toNat + 1 by omega]
  rfl
theorem fo_e {f : Int → S → S} {N i : Int} {x : S} (h : N ≤ i) : fo f N i x = x := by
  unfold fo
  rw [show (N - i).toNat = 0 by omega]
  rfl
/-- the k-th of those for which P holds (inl), or how many there are (inr) -/
def kth_ (P : Int → Bool) (k : Int) : Nat → Int → Int → Int ⊕ Int
  | 0, _, c => .inr c
  | n + 1, i, c => cond (P i) (if c = k then .inl i else kth_ P k n (i + 1) (c + 1)) (kth_ P k n (i + 1) c)
def kth (P : Int → Bool) (k N i c : Int) : Int ⊕ Int := kth_ P k (N - i).toNat i c
theorem kth_s {P : Int → Bool} {k N i c : Int} (h : i < N) : kth P k N i c = cond (P i) (if c = k then .inl i else kth P k N (i + 1) (c + 1)) (kth P k N (i + 1) c) := by
  unfold kth
  rw [show (N - i).toNat = (N - (i + 1)).toNat + 1 by omega]
  rfl
theorem kth_e {P : Int → Bool} {k N i c : Int} (h : N ≤ i) : kth P k N i c = .inr c := by
  unfold kth
  rw [show (N - i).toNat = 0 by omega]
  rfl
/-- how many of those for which P holds -/
def cntP (P : Int → Bool) (N i x : Int) : Int := fo (fun s x => cond (P s) (x + 1) x) N i x
theorem cnt_s {P : Int → Bool} {N i x : Int} (h : i < N) : cntP P N i x = cntP P N (i + 1) (cond (P i) (x + 1) x) := fo_s h
theorem cnt_e {P : Int → Bool} {N i x : Int} (h : N ≤ i) : cntP P N i x = x := fo_e h
theorem cnt_bd {P : Int → Bool} {N : Int} : ∀ (k : Nat) (i x : Int), (N - i).toNat = k → x ≤ cntP P N i x ∧ (cntP P N i x ≤ x + (N - i) ∨ N ≤ i ∧ cntP P N i x = x) := by
  intro k
  induction k with
  | zero =>
    intro i x h
    rw [cnt_e (by omega)]
    omega
  | succ k ih =>
    intro i x h
    rw [cnt_s (by omega)]
    have := ih (i + 1) (cond (P i) (x + 1) x) (by omega)
    cases h2 : P i <;> rw [h2] at this <;> simp only [cond_true, cond_false] at this ⊢ <;> omega
/-- whether there is one for which P holds -/
def any_ (P : Int → Bool) : Nat → Int → Bool
  | 0, _ => false
  | n + 1, i => P i || any_ P n (i + 1)
def anyB (P : Int → Bool) (N i : Int) : Bool := any_ P (N - i).toNat i
theorem any_s {P : Int → Bool} {N i : Int} (h : i < N) : anyB P N i = (P i || anyB P N (i + 1)) := by
  unfold anyB
  rw [show (N - i).toNat = (N - (i + 1)).toNat + 1 by omega]
  rfl
theorem any_e {P : Int → Bool} {N i : Int} (h : N ≤ i) : anyB P N i = false := by
  unfold anyB
  rw [show (N - i).toNat = 0 by omega]
  rfl
theorem any_iff {P : Int → Bool} {N : Int} : ∀ (k : Nat) (i : Int), (N - i).toNat = k → (anyB P N i = true ↔ ∃ s, i ≤ s ∧ s < N ∧ P s = true) := by
  intro k
  induction k with
  | zero =>
    intro i h
    rw [any_e (by omega)]
    constructor
    · intro h; cases h
    · rintro ⟨s, h1, h2, -⟩; omega
  | succ k ih =>
    intro i h
    rw [any_s (by omega), Bool.or_eq_true, ih (i + 1) (by omega)]
    constructor
    · rintro (h1 | ⟨s, h1, h2, h3⟩)
      · exact ⟨i, by omega, by omega, h1⟩
      · exact ⟨s, by omega, h2, h3⟩
    · rintro ⟨s, h1, h2, h3⟩
      by_cases e : s = i
      · subst e; exact Or.inl h3
      · exact Or.inr ⟨s, by omega, h2, h3⟩
/-- a set of bits -/
def orF (P : Int → Bool) (b : Int → Int) (N i x : Int) : Int := fo (fun s x => cond (P s) (or32 x (sl32 1 (b s))) x) N i x
theorem orF_s {P : Int → Bool} {b : Int → Int} {N i x : Int} (h : i < N) : orF P b N i x = orF P b N (i + 1) (cond (P i) (or32 x (sl32 1 (b i))) x) := fo_s h
theorem orF_e {P : Int → Bool} {b : Int → Int} {N i x : Int} (h : N ≤ i) : orF P b N i x = x := fo_e h
theorem orF_ok {P : Int → Bool} {b : Int → Int} {N : Int} : ∀ (k : Nat) (i x : Int), (N - i).toNat = k → okI x → okI (orF P b N i x) := by
  intro k
  induction k with
  | zero => intro i x h hx; rwa [orF_e (by omega)]
  | succ k ih =>
    intro i x h hx
    rw [orF_s (by omega)]
    refine ih _ _ (by omega) ?_
    cases P i
    · exact hx
    · exact ok_or _ _
theorem orF_bt {P : Int → Bool} {b : Int → Int} {N : Int} {j : Nat} : ∀ (k : Nat) (i x : Int), (N - i).toNat = k → (∀ s, i ≤ s → s < N → P s = true → 0 ≤ b s ∧ b s < 32) → bt (orF P b N i x) j = (bt x j || anyB (fun s => P s && decide ((j : Int) = b s)) N i) := by
  intro k
  induction k with
  | zero => intro i x h hb; rw [orF_e (by omega), any_e (by omega), Bool.or_false]
  | succ k ih =>
    intro i x h hb
    rw [orF_s (by omega), ih _ _ (by omega) (fun s h1 h2 => hb s (by omega) h2), any_s (N := N) (i := i) (by omega)]
    cases h2 : P i
    · simp
    · have := hb i (by omega) (by omega) h2
      rw [cond_true, bt_or, bt_bit this.1 this.2, Bool.true_and, Bool.or_assoc]
/-- the first for which there is something -/
def fst_ (f : Int → Option Z) : Nat → Int → Option Z
  | 0, _ => none
  | n + 1, i => match f i with
    | some z => some z
    | none => fst_ f n (i + 1)
def fi (f : Int → Option Z) (N i : Int) : Option Z := fst_ f (N - i).toNat i
theorem fi_s {f : Int → Option Z} {N i : Int} (h : i < N) : fi f N i = match f i with
    | some z => some z
    | none => fi f N (i + 1) := by
  unfold fi
  rw [show (N - i).toNat = (N - (i + 1)).toNat + 1 by omega]
  rfl
theorem fi_e {f : Int → Option Z} {N i : Int} (h : N ≤ i) : fi f N i = none := by
  unfold fi
  rw [show (N - i).toNat = 0 by omega]
  rfl
end
/-! the row of numbers -/
abbrev JA : Type := Nat → Int
def pipA (A : JA) (s i : Int) : Int := A (11 + 2 * s + i).toNat
def fitB (A : JA) (n m : Int) : Bool := !bt (A (4 + n).toNat) m.toNat && (decide (n = m) || bt (A 2) n.toNat || bt (A 2) m.toNat)
def rwA (A : JA) (i : Int) : Int := A (152 + i).toNat
def ownA (A : JA) (s : Int) : Int := A (67 + s).toNat
def whrA (A : JA) (s : Int) : Int := A (95 + s).toNat
def lyrA (A : JA) (s : Int) : Int := A (123 + s).toNat
def sidA (A : JA) (c side : Int) : Int := pipA A (c / 2) (if c % 2 = 0 then side else 1 - side)
def endA (A : JA) (e : Int) : Int := if e = 0 then 0 else A 151 - 1
def outA (A : JA) (e : Int) : Int := if A 151 = 0 then -1 else sidA A (rwA A (endA A e)) e
def layA (A : JA) (e : Int) : Int := lyrA A (rwA A (endA A e) / 2)
def goesB (A : JA) (s e : Int) : Bool := fitB A (pipA A s 0) (outA A e) || fitB A (pipA A s 1) (outA A e)
def whyA (A : JA) (w s e : Int) : Int := if ownA A s = w ∧ whrA A s = 0 then (if A 151 = 0 then 0 else if layA A e = w then 2 else if goesB A s e then 0 else 3) else 1
def WfI (A : JA) : Prop := (0 ≤ A 0 ∧ A 0 ≤ 6) ∧ (0 ≤ A 1 ∧ A 1 ≤ 28) ∧ (0 ≤ A 2 ∧ A 2 < 128) ∧ (∀ p : Int, 0 ≤ p → p < 7 → 0 ≤ A (4 + p).toNat ∧ A (4 + p).toNat < 128) ∧ (∀ s i : Int, 0 ≤ s → s < A 1 → 0 ≤ i → i ≤ 1 → 0 ≤ pipA A s i ∧ pipA A s i ≤ 6)
def WfR (A : JA) : Prop := (∀ s : Int, 0 ≤ s → s < A 1 → (0 ≤ ownA A s ∧ ownA A s < A 0) ∧ (0 ≤ whrA A s ∧ whrA A s ≤ 2) ∧ (whrA A s = 2 → lyrA A s = ownA A s)) ∧ (0 ≤ A 151 ∧ A 151 ≤ A 1) ∧ (∀ i : Int, 0 ≤ i → i < A 151 → 0 ≤ rwA A i ∧ rwA A i < 2 * A 1 ∧ whrA A (rwA A i / 2) = 2) ∧ (∀ i j : Int, 0 ≤ i → i < j → j < A 151 → rwA A i / 2 ≠ rwA A j / 2)
def IslR (σ : JSg) (p : Nat) (A : JA) : Prop := σ p 1 = A 0 ∧ σ p 2 = A 1 ∧ σ p 3 = A 2 ∧ (∀ s : Int, 0 ≤ s → s < A 1 → σ (p + 2) s.toNat = pipA A s 0 ∧ σ (p + 3) s.toNat = pipA A s 1) ∧ (∀ n : Int, 0 ≤ n → n < 7 → (0 ≤ σ (p + 6) n.toNat ∧ σ (p + 6) n.toNat < 128) ∧ ∀ m : Int, 0 ≤ m → m < 7 → bt (σ (p + 6) n.toNat) m.toNat = fitB A n m)
def RowR (σ : JSg) (p : Nat) (A : JA) : Prop := σ p 4 = A 151 ∧ (∀ s : Int, 0 ≤ s → s < A 1 → σ (p + 1) s.toNat = ownA A s ∧ σ (p + 2) s.toNat = whrA A s) ∧ (∀ i : Int, 0 ≤ i → i < A 151 → σ (p + 3) i.toNat = rwA A i / 2 ∧ σ (p + 4) (rwA A i / 2).toNat = rwA A i % 2) ∧ (∀ w : Int, 0 ≤ w → w < A 0 → σ (p + 5) w.toNat = A (180 + w).toNat ∧ σ (p + 6) w.toNat = A (186 + w).toNat) ∧ (0 ≤ σ (p + 3) 0 ∧ σ (p + 3) 0 < 28)
/-! the reference's readers -/
section
variable {σ : JSg}
theorem e_M_pip {s i : Int} (h0 : 0 ≤ s) (h1 : s < 28) (h2 : 0 ≤ i) (h3 : i ≤ 1) : f_M_pip s i σ = some (pipA (σ 181) s i) := by
  unfold f_M_pip
  simp (disch := omega) only [wi, ck_p]
  rfl
theorem e_M_has {x k : Int} (h0 : 0 ≤ k) (h1 : k < 32) : f_M_has x k σ = some (bi (bt x k.toNat)) := by
  unfold f_M_has
  rw [has_e h0 h1]
  cases bt x k.toNat <;> rfl
theorem e_M_fit {n m : Int} (h0 : 0 ≤ n) (h1 : n < 7) (h2 : 0 ≤ m) (h3 : m < 7) : f_M_fit n m σ = some (bi (fitB (σ 181) n m)) := by
  unfold f_M_fit fitB
  simp (disch := omega) only [wi, ck_p, e_M_has, b1_s, j0_s]
  cases bt (σ 181 (4 + n).toNat) m.toNat <;> cases bt (σ 181 2) n.toNat <;> cases bt (σ 181 2) m.toNat <;> by_cases h : n = m <;> simp [h, bi]
theorem e_M_isIn {v a b : Int} : f_M_isIn v a b σ = some (bi (decide (a ≤ v ∧ v ≤ b))) := by
  unfold f_M_isIn bi
  by_cases h1 : v < a
  · rw [if_pos h1, decide_eq_false (by omega)]; rfl
  · rw [if_neg h1]
    by_cases h2 : b < v
    · rw [if_pos h2, decide_eq_false (by omega)]; rfl
    · rw [if_neg h2, decide_eq_true (by omega)]; rfl
theorem e_M_isEnd {e : Int} : f_M_isEnd e σ = some (bi (decide (0 ≤ e ∧ e ≤ 1))) := by
  unfold f_M_isEnd
  rw [e_M_isIn, b1_s, ck_p (bi_or _)]
theorem e_M_isWidow {w : Int} : f_M_isWidow w σ = some (bi (decide (0 ≤ w ∧ w < σ 181 0))) := by
  unfold f_M_isWidow f_M_widows bi
  by_cases h1 : w < 0
  · rw [if_pos h1, decide_eq_false (by omega)]; rfl
  · rw [if_neg h1, b1_s]
    by_cases h2 : w < σ 181 0
    · rw [if_pos h2, decide_eq_true (by omega)]; rfl
    · rw [if_neg h2, decide_eq_false (by omega)]; rfl
theorem e_M_isStone {w : Int} : f_M_isStone w σ = some (bi (decide (0 ≤ w ∧ w < σ 181 1))) := by
  unfold f_M_isStone f_M_stones bi
  by_cases h1 : w < 0
  · rw [if_pos h1, decide_eq_false (by omega)]; rfl
  · rw [if_neg h1, b1_s]
    by_cases h2 : w < σ 181 1
    · rw [if_pos h2, decide_eq_true (by omega)]; rfl
    · rw [if_neg h2, decide_eq_false (by omega)]; rfl
theorem e_M_isHeld {s : Int} (h0 : 0 ≤ s) (h1 : s < 28) : f_M_isHeld s σ = some (bi (decide (whrA (σ 181) s = 0))) := by
  unfold f_M_isHeld whrA
  simp (disch := omega) only [wi, ck_p]
  by_cases h : σ 181 (95 + s).toNat = 0 <;> simp [h, bi]
theorem e_M_sum {s : Int} (hI : WfI (σ 181)) (h0 : 0 ≤ s) (h1 : s < σ 181 1) : f_M_sum s σ = some (pipA (σ 181) s 0 + pipA (σ 181) s 1) := by
  have b := hI.2.1
  have b0 := hI.2.2.2.2 s 0 h0 h1 (by omega) (by omega)
  have b1 := hI.2.2.2.2 s 1 h0 h1 (by omega) (by omega)
  unfold f_M_sum
  simp (disch := omega) only [e_M_pip, b1_s, wi]
theorem e_M_most {a b : Int} : f_M_most a b σ = some (max a b) := by
  unfold f_M_most
  by_cases h : b < a
  · rw [if_pos h]; congr 1; omega
  · rw [if_neg h]; congr 1; omega
theorem wf_rw {A : JA} (hI : WfI A) (hR : WfR A) {i : Int} (h0 : 0 ≤ i) (h1 : i < A 151) : 0 ≤ rwA A i ∧ rwA A i < 56 ∧ 0 ≤ rwA A i / 2 ∧ rwA A i / 2 < A 1 ∧ A 1 ≤ 28 ∧ A 151 ≤ 28 := by
  have := hR.2.2.1 i h0 h1
  have := hI.2.1
  have := hR.2.1
  omega
theorem e_M_rowStone {i : Int} (hI : WfI (σ 181)) (hR : WfR (σ 181)) (h0 : 0 ≤ i) (h1 : i < σ 181 151) : f_M_rowStone i σ = some (rwA (σ 181) i / 2) := by
  have b := wf_rw hI hR h0 h1
  unfold f_M_rowStone
  have e : σ 181 (152 + i).toNat = rwA (σ 181) i := rfl
  simp (disch := omega) only [wi, ck_p, e, dv_p]
theorem e_M_rowPip {i d : Int} (hI : WfI (σ 181)) (hR : WfR (σ 181)) (h0 : 0 ≤ i) (h1 : i < σ 181 151) (h2 : 0 ≤ d) (h3 : d ≤ 1) : f_M_rowPip i d σ = some (sidA (σ 181) (rwA (σ 181) i) d) := by
  have b := wf_rw hI hR h0 h1
  unfold f_M_rowPip sidA
  rw [e_M_rowStone hI hR h0 h1, b1_s]
  have e : σ 181 (152 + i).toNat = rwA (σ 181) i := rfl
  simp (disch := omega) only [wi, ck_p, e, rm_p, j1_s, e_M_pip, b1_s]
  split <;> rfl
theorem e_M_endAt {e : Int} (hI : WfI (σ 181)) (hR : WfR (σ 181)) : f_M_endAt e σ = some (endA (σ 181) e) := by
  have := hI.2.1
  have := hR.2.1
  unfold f_M_endAt f_M_rowMany endA
  simp (disch := omega) only [wi, b1_s]
  split <;> rfl
theorem endA_in {A : JA} {e : Int} (hR : WfR A) (hn : A 151 ≠ 0) : 0 ≤ endA A e ∧ endA A e < A 151 := by
  have := hR.2.1
  unfold endA
  split <;> omega
theorem e_M_pipsAt {e : Int} (hI : WfI (σ 181)) (hR : WfR (σ 181)) (h0 : 0 ≤ e) (h1 : e ≤ 1) : f_M_pipsAt e σ = some (outA (σ 181) e) := by
  unfold f_M_pipsAt outA
  rw [show f_M_rowMany σ = some (σ 181 151) from rfl, b1_s]
  by_cases h : σ 181 151 = 0
  · rw [if_pos h, if_pos h]
  · have b := endA_in (e := e) hR h
    rw [if_neg h, if_neg h, e_M_endAt hI hR, b1_s, e_M_rowPip hI hR b.1 b.2 h0 h1, b1_s]
theorem e_M_layerAt {e : Int} (hI : WfI (σ 181)) (hR : WfR (σ 181)) (hn : σ 181 151 ≠ 0) : f_M_layerAt e σ = some (layA (σ 181) e) := by
  have b := endA_in (e := e) hR hn
  have c := wf_rw hI hR b.1 b.2
  unfold f_M_layerAt layA lyrA
  rw [e_M_endAt hI hR, b1_s, e_M_rowStone hI hR b.1 b.2, b1_s]
  simp (disch := omega) only [wi, ck_p]
theorem sid_in {A : JA} (hI : WfI A) {c d : Int} (h0 : 0 ≤ c / 2) (h1 : c / 2 < A 1) (h2 : 0 ≤ d) (h3 : d ≤ 1) : 0 ≤ sidA A c d ∧ sidA A c d ≤ 6 := by
  unfold sidA
  split
  · exact hI.2.2.2.2 _ _ h0 h1 h2 h3
  · exact hI.2.2.2.2 _ _ h0 h1 (by omega) (by omega)
theorem outA_in {A : JA} (hI : WfI A) (hR : WfR A) {e : Int} (hn : A 151 ≠ 0) (h0 : 0 ≤ e) (h1 : e ≤ 1) : 0 ≤ outA A e ∧ outA A e ≤ 6 := by
  have b := endA_in (e := e) hR hn
  have c := wf_rw hI hR b.1 b.2
  unfold outA
  rw [if_neg hn]
  exact sid_in hI c.2.2.1 c.2.2.2.1 h0 h1
theorem e_M_fitsEnd {s e : Int} (hI : WfI (σ 181)) (hR : WfR (σ 181)) (hn : σ 181 151 ≠ 0) (hs0 : 0 ≤ s) (hs1 : s < σ 181 1) (h0 : 0 ≤ e) (h1 : e ≤ 1) : f_M_fitsEnd s e σ = some (bi (goesB (σ 181) s e)) := by
  have b := hI.2.1
  have b0 := hI.2.2.2.2 s 0 hs0 hs1 (by omega) (by omega)
  have b1 := hI.2.2.2.2 s 1 hs0 hs1 (by omega) (by omega)
  have o := outA_in hI hR hn h0 h1
  unfold f_M_fitsEnd goesB
  rw [e_M_pip hs0 (by omega) (by omega) (by omega), b1_s, e_M_pipsAt hI hR h0 h1, b1_s, e_M_fit b0.1 (by omega) o.1 (by omega), b1_s, j0_s, e_M_pip hs0 (by omega) (by omega) (by omega), b1_s, b1_s, e_M_fit b1.1 (by omega) o.1 (by omega), b1_s]
  cases fitB (σ 181) (pipA (σ 181) s 0) (outA (σ 181) e) <;> cases fitB (σ 181) (pipA (σ 181) s 1) (outA (σ 181) e) <;> rfl
theorem e_M_whyNot {w s e : Int} (hI : WfI (σ 181)) (hR : WfR (σ 181)) (hs0 : 0 ≤ s) (hs1 : s < σ 181 1) (h0 : 0 ≤ e) (h1 : e ≤ 1) : f_M_whyNot w s e σ = some (whyA (σ 181) w s e) := by
  have b := hI.2.1
  have b0 := hI.2.2.2.2 s 0 hs0 hs1 (by omega) (by omega)
  have b1 := hI.2.2.2.2 s 1 hs0 hs1 (by omega) (by omega)
  have e1 : σ 181 (67 + s).toNat = ownA (σ 181) s := rfl
  unfold f_M_whyNot whyA
  simp (disch := omega) only [wi, ck_p, e1, e_M_isHeld, b1_s]
  by_cases hw : ownA (σ 181) s = w
  · rw [if_pos hw]
    by_cases hh : whrA (σ 181) s = 0
    · have hc : ownA (σ 181) s = w ∧ whrA (σ 181) s = 0 := ⟨hw, hh⟩
      rw [decide_eq_true hh, if_pos hc, if_neg (show ¬ bi true = 0 by decide)]
      rw [show f_M_rowMany σ = some (σ 181 151) from rfl, b1_s]
      by_cases hn : σ 181 151 = 0
      · rw [if_pos hn, if_pos hn]
      · have o := outA_in hI hR hn h0 h1
        rw [if_neg hn, if_neg hn, e_M_layerAt hI hR hn, b1_s]
        by_cases hl : layA (σ 181) e = w
        · rw [if_pos hl, if_pos hl]
        · rw [if_neg hl, if_neg hl, e_M_pip hs0 (by omega) (by omega) (by omega), b1_s, e_M_pipsAt hI hR h0 h1, b1_s, e_M_fit b0.1 (by omega) o.1 (by omega), b1_s, j0_s, e_M_pip hs0 (by omega) (by omega) (by omega), b1_s, b1_s, e_M_fit b1.1 (by omega) o.1 (by omega), b1_s]
          unfold goesB
          cases fitB (σ 181) (pipA (σ 181) s 0) (outA (σ 181) e) <;> cases fitB (σ 181) (pipA (σ 181) s 1) (outA (σ 181) e) <;> rfl
    · have hc : ¬ (ownA (σ 181) s = w ∧ whrA (σ 181) s = 0) := fun q => hh q.2
      rw [decide_eq_false hh, if_neg hc, if_pos (show bi false = 0 by decide)]
  · rw [if_neg hw, if_neg (fun q => hw q.1)]
end
/-! the class's readers, over places that hold the same -/
section
variable {σ : JSg} {p ip : Nat} {A : JA}
theorem e_Isl_fit {n m : Int} (hL : IslR σ ip A) (h0 : 0 ≤ n) (h1 : n < 7) (h2 : 0 ≤ m) (h3 : m < 7) : f_Isl_fit ip n m σ = some (bi (fitB A n m)) := by
  unfold f_Isl_fit
  rw [if_neg (by omega), if_pos h1, if_neg (by omega), if_pos h3, ck_p ⟨h0, h1⟩, has_e h2 (by omega), (hL.2.2.2.2 n h0 h1).2 m h2 h3]
  cases fitB A n m <;> rfl
theorem e_Row_lastAt {e : Int} (hI : WfI A) (hW : WfR A) (hR : RowR σ p A) (hn : A 151 ≠ 0) : f_Row_lastAt p ip e σ = some (rwA A (endA A e) / 2) := by
  have b := endA_in (e := e) hW hn
  have c := wf_rw hI hW b.1 b.2
  have r := (hR.2.2.1 _ b.1 b.2).1
  unfold f_Row_lastAt
  rw [hR.1, j0_s]
  unfold endA at r b c ⊢
  by_cases he : e = 0
  · rw [if_pos he] at r ⊢
    rw [if_pos he, ← r]
    rfl
  · rw [if_neg he] at r b c ⊢
    rw [if_neg he, if_neg hn]
    simp (disch := omega) only [wi, ck_p, r]
theorem e_Row_sideOf {i d : Int} (hI : WfI A) (hW : WfR A) (hL : IslR σ ip A) (hR : RowR σ p A) (h0 : 0 ≤ i) (h1 : i < A 151) (h2 : 0 ≤ d) (h3 : d ≤ 1) : f_Row_sideOf p ip (rwA A i / 2) d σ = some (sidA A (rwA A i) d) := by
  have c := wf_rw hI hW h0 h1
  have r := (hR.2.2.1 _ h0 h1).2
  have l := hL.2.2.2.1 _ c.2.2.1 c.2.2.2.1
  unfold f_Row_sideOf sidA
  rw [ck_p (by omega), ck_p (by omega), ck_p (by omega), r, l.1, l.2]
  have hm : rwA A i % 2 = 0 ∨ rwA A i % 2 = 1 := by omega
  have hd : d = 0 ∨ d = 1 := by omega
  rcases hm with hm | hm <;> rcases hd with hd | hd <;> subst hd <;> rw [hm] <;> rfl
theorem e_Row_outer {e : Int} (hI : WfI A) (hW : WfR A) (hL : IslR σ ip A) (hR : RowR σ p A) (h0 : 0 ≤ e) (h1 : e ≤ 1) : f_Row_outer p ip e σ = some (outA A e) := by
  unfold f_Row_outer outA
  rw [hR.1]
  by_cases h : A 151 = 0
  · rw [if_pos h, if_pos h]
  · have b := endA_in (e := e) hW h
    rw [if_neg h, if_neg h, e_Row_lastAt hI hW hR h, b1_s, e_Row_sideOf hI hW hL hR b.1 b.2 h0 h1, b1_s]
theorem e_Row_goesTo {s e : Int} (hI : WfI A) (hW : WfR A) (hL : IslR σ ip A) (hR : RowR σ p A) (hs0 : 0 ≤ s) (hs1 : s < A 1) (h0 : 0 ≤ e) (h1 : e ≤ 1) : f_Row_goesTo p ip s e σ = some (bi (decide (A 151 = 0) || goesB A s e)) := by
  have b := hI.2.1
  have b0 := hI.2.2.2.2 s 0 hs0 hs1 (by omega) (by omega)
  have b1 := hI.2.2.2.2 s 1 hs0 hs1 (by omega) (by omega)
  have l := hL.2.2.2.1 _ hs0 hs1
  unfold f_Row_goesTo
  rw [e_Row_outer hI hW hL hR h0 h1, b1_s, lt_u, j0_s, hR.1]
  by_cases h : A 151 = 0
  · rw [if_pos h, decide_eq_true h]; rfl
  · have o := outA_in hI hW h h0 h1
    rw [if_neg h, decide_eq_false h, ck_p (by omega), ck_p (by omega), l.1, l.2, e_Isl_fit hL b0.1 (by omega) o.1 (by omega), b1_s, e_Isl_fit hL b1.1 (by omega) o.1 (by omega), b1_s]
    unfold goesB
    cases fitB A (pipA A s 0) (outA A e) <;> cases fitB A (pipA A s 1) (outA A e) <;> rfl
theorem e_Row_layerAt {e : Int} (hI : WfI A) (hW : WfR A) (hR : RowR σ p A) (hn : A 151 ≠ 0) : f_Row_layerAt p ip e σ = some (layA A e) := by
  have b := endA_in (e := e) hW hn
  have c := wf_rw hI hW b.1 b.2
  have d := hW.1 _ c.2.2.1 c.2.2.2.1
  unfold f_Row_layerAt layA
  rw [e_Row_lastAt hI hW hR hn, b1_s, ck_p (by omega), (hR.2.1 _ c.2.2.1 c.2.2.2.1).1, d.2.2 (hW.2.2.1 _ b.1 b.2).2.2]
theorem e_Row_isHeldBy {w s : Int} (hI : WfI A) (hR : RowR σ p A) (hs0 : 0 ≤ s) (hs1 : s < A 1) : f_Row_isHeldBy p ip w s σ = some (bi (decide (ownA A s = w ∧ whrA A s = 0))) := by
  have b := hI.2.1
  have r := hR.2.1 _ hs0 hs1
  unfold f_Row_isHeldBy
  rw [ck_p (by omega), ck_p (by omega), r.1, r.2]
  by_cases h1 : ownA A s = w <;> by_cases h2 : whrA A s = 0 <;> simp [h1, h2, bi]
theorem e_Row_refusal {w s e : Int} (hI : WfI A) (hW : WfR A) (hL : IslR σ ip A) (hR : RowR σ p A) (hs0 : 0 ≤ s) (hs1 : s < A 1) (h0 : 0 ≤ e) (h1 : e ≤ 1) : f_Row_refusal p ip w s e σ = some (whyA A w s e) := by
  have b := hW.2.1
  unfold f_Row_refusal whyA
  rw [e_Row_isHeldBy hI hR hs0 hs1, b1_s]
  by_cases hw : ownA A s = w ∧ whrA A s = 0
  · rw [decide_eq_true hw, if_pos hw, if_neg (show ¬ bi true = 0 by decide), j0_s, e_Row_goesTo hI hW hL hR hs0 hs1 h0 h1, b1_s, hR.1]
    by_cases hn : A 151 = 0
    · rw [if_neg (by omega), if_pos hn, decide_eq_true hn]; rfl
    · rw [if_pos (by omega), if_neg hn, e_Row_layerAt hI hW hR hn, b1_s, decide_eq_false hn]
      by_cases hl : layA A e = w
      · rw [if_pos hl, if_pos hl]
      · rw [if_neg hl, if_neg hl]
        cases goesB A s e <;> rfl
  · rw [decide_eq_false hw, if_neg hw]; rfl
theorem e_Isl_together {s : Int} (hI : WfI A) (hL : IslR σ ip A) (hs0 : 0 ≤ s) (hs1 : s < A 1) : f_Isl_together ip s σ = some (pipA A s 0 + pipA A s 1) := by
  have b := hI.2.1
  have b0 := hI.2.2.2.2 s 0 hs0 hs1 (by omega) (by omega)
  have b1 := hI.2.2.2.2 s 1 hs0 hs1 (by omega) (by omega)
  have l := hL.2.2.2.1 _ hs0 hs1
  unfold f_Isl_together
  rw [ck_p (by omega), ck_p (by omega), l.1, l.2, wi (by omega) (by omega)]
end
