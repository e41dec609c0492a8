/-! LAYER 3za5: how many DEALINGS -/
section
def sumN (f : Nat → Nat) : Nat → Nat
  | 0 => 0
  | w + 1 => sumN f w + f w
theorem sum_cg {f g : Nat → Nat} : ∀ W : Nat, (∀ w, w < W → f w = g w) → sumN f W = sumN g W := by
  intro W
  induction W with
  | zero => intro _; rfl
  | succ W ih =>
    intro h
    show sumN f W + f W = sumN g W + g W
    rw [ih (fun w hw => h w (by omega)), h W (by omega)]
theorem sum_le {f g : Nat → Nat} : ∀ W : Nat, (∀ w, w < W → f w ≤ g w) → sumN f W ≤ sumN g W := by
  intro W
  induction W with
  | zero => intro _; exact Nat.le_refl _
  | succ W ih =>
    intro h
    have := ih (fun w hw => h w (by omega))
    have := h W (by omega)
    show sumN f W + f W ≤ sumN g W + g W
    omega
theorem sum_lin {f g : Nat → Nat} {m i c : Nat} : ∀ W : Nat, (∀ w, w < W → f w = m * g w + if w = i then c else 0) → sumN f W = m * sumN g W + if i < W then c else 0 := by
  intro W
  induction W with
  | zero => intro _; rfl
  | succ W ih =>
    intro h
    show sumN f W + f W = m * (sumN g W + g W) + _
    rw [ih (fun w hw => h w (by omega)), h W (by omega), Nat.mul_add]
    generalize m * sumN g W = a
    generalize m * g W = b
    repeat' split
    all_goals omega
theorem sum_add {f g k : Nat → Nat} : ∀ W : Nat, (∀ w, w < W → k w = f w + g w) → sumN k W = sumN f W + sumN g W := by
  intro W
  induction W with
  | zero => intro _; rfl
  | succ W ih =>
    intro h
    show sumN k W + k W = (sumN f W + f W) + (sumN g W + g W)
    rw [ih (fun w hw => h w (by omega)), h W (by omega)]
    omega
theorem sum_0 {f : Nat → Nat} : ∀ W : Nat, sumN f W = 0 ↔ ∀ w, w < W → f w = 0 := by
  intro W
  induction W with
  | zero => exact ⟨fun _ w hw => absurd hw (Nat.not_lt_zero _), fun _ => rfl⟩
  | succ W ih =>
    show sumN f W + f W = 0 ↔ _
    constructor
    · intro h w hw
      by_cases e : w = W
      · subst e; omega
      · exact ih.mp (by omega) w (by omega)
    · intro h
      rw [ih.mpr (fun w hw => h w (by omega)), h W (by omega)]
theorem sum_pos {f : Nat → Nat} {W : Nat} (h : 0 < sumN f W) : ∃ w, w < W ∧ 0 < f w := by
  apply Classical.byContradiction
  intro n
  have : sumN f W = 0 := (sum_0 W).mpr (fun w hw => Classical.byContradiction fun q => n ⟨w, hw, by omega⟩)
  omega
theorem sum_ge {f : Nat → Nat} {W w : Nat} (hw : w < W) : f w ≤ sumN f W := by
  induction W with
  | zero => exact absurd hw (Nat.not_lt_zero _)
  | succ W ih =>
    show f w ≤ sumN f W + f W
    by_cases e : w = W
    · subst e; omega
    · have := ih (by omega)
      omega
theorem sum_cap {f : Nat → Nat} {b : Nat} : ∀ W : Nat, (∀ w, w < W → f w ≤ b) → sumN f W ≤ W * b := by
  intro W
  induction W with
  | zero => intro _; exact Nat.zero_le _
  | succ W ih =>
    intro h
    have h1 := ih (fun w hw => h w (by omega))
    have h2 := h W (by omega)
    show sumN f W + f W ≤ _
    rw [Nat.succ_mul]
    omega
/-- one less for w -/
def dec (v : Nat → Nat) (w : Nat) : Nat → Nat := fun u => if u = w then v u - 1 else v u
theorem dec_e {v : Nat → Nat} {w : Nat} : dec v w w = v w - 1 := if_pos rfl
theorem dec_n {v : Nat → Nat} {w u : Nat} (h : u ≠ w) : dec v w u = v u := if_neg h
theorem dec_c {v : Nat → Nat} {w u : Nat} : dec (dec v w) u = dec (dec v u) w := by
  funext x
  unfold dec
  repeat' split
  all_goals rfl
theorem dec_sum {v : Nat → Nat} {w W : Nat} (hw : w < W) (hv : 0 < v w) : sumN v W = sumN (dec v w) W + 1 := by
  have := sum_lin (f := v) (g := dec v w) (m := 1) (i := w) (c := 1) W (fun u hu => by
    by_cases e : u = w
    · subst e
      rw [dec_e, if_pos rfl]; omega
    · rw [dec_n e, if_neg e]; omega)
  rw [if_pos hw] at this
  omega
/-- in how many ways the first t can be dealt, to w as many as v says -/
def CV (W : Nat) (al : Nat → Nat → Bool) : Nat → (Nat → Nat) → Nat
  | 0, v => if sumN v W = 0 then 1 else 0
  | t + 1, v => sumN (fun w => if al t w = true ∧ 0 < v w then CV W al t (dec v w) else 0) W
variable {W : Nat} {al al1 al2 : Nat → Nat → Bool}
theorem cv_cg : ∀ (t : Nat) (u v : Nat → Nat), (∀ w, w < W → u w = v w) → CV W al t u = CV W al t v := by
  intro t
  induction t with
  | zero => intro u v h; show (if sumN u W = 0 then 1 else 0) = _; rw [sum_cg W h]; rfl
  | succ t ih =>
    intro u v h
    refine sum_cg W (fun w hw => ?_)
    show (if al t w = true ∧ 0 < u w then CV W al t (dec u w) else 0) = (if al t w = true ∧ 0 < v w then CV W al t (dec v w) else 0)
    rw [h w hw, ih (dec u w) (dec v w) (fun x hx => by unfold dec; rw [h x hx])]
theorem cv_al : ∀ (t : Nat) (v : Nat → Nat), (∀ j w, j < t → w < W → al j w = al1 j w) → CV W al t v = CV W al1 t v := by
  intro t
  induction t with
  | zero => intro v _; rfl
  | succ t ih =>
    intro v h
    refine sum_cg W (fun w hw => ?_)
    show (if al t w = true ∧ 0 < v w then CV W al t (dec v w) else 0) = (if al1 t w = true ∧ 0 < v w then CV W al1 t (dec v w) else 0)
    rw [h t w (by omega) hw, ih (dec v w) (fun j w hj hw => h j w (by omega) hw)]
theorem cv_sum : ∀ (t : Nat) (v : Nat → Nat), 0 < CV W al t v → sumN v W = t := by
  intro t
  induction t with
  | zero =>
    intro v h
    have h : 0 < if sumN v W = 0 then 1 else 0 := h
    split at h
    · assumption
    · omega
  | succ t ih =>
    intro v h
    obtain ⟨w, hw, h⟩ := sum_pos h
    have h : 0 < if al t w = true ∧ 0 < v w then CV W al t (dec v w) else 0 := h
    split at h
    · rename_i g
      rw [dec_sum hw g.2, ih _ h]
    · omega
theorem cv_mo : ∀ (t : Nat) (v : Nat → Nat), CV W al t v ≤ CV W (fun _ _ => true) t v := by
  intro t
  induction t with
  | zero => intro v; exact Nat.le_refl _
  | succ t ih =>
    intro v
    refine sum_le W (fun w hw => ?_)
    show (if al t w = true ∧ 0 < v w then CV W al t (dec v w) else 0) ≤ (if true = true ∧ 0 < v w then CV W (fun _ _ => true) t (dec v w) else 0)
    have := ih (dec v w)
    by_cases g : 0 < v w
    · rw [if_pos (c := true = true ∧ 0 < v w) ⟨rfl, g⟩]
      split <;> omega
    · rw [if_neg (c := al t w = true ∧ 0 < v w) (fun q => g q.2), if_neg (c := true = true ∧ 0 < v w) (fun q => g q.2)]
      exact Nat.le_refl _
def MV (W t : Nat) (v : Nat → Nat) : Nat := CV W (fun _ _ => true) t v
theorem mv_s {t : Nat} {v : Nat → Nat} : MV W (t + 1) v = sumN (fun w => if 0 < v w then MV W t (dec v w) else 0) W := by
  refine sum_cg W (fun w hw => ?_)
  show (if true = true ∧ 0 < v w then CV W (fun _ _ => true) t (dec v w) else 0) = _
  by_cases g : 0 < v w
  · rw [if_pos ⟨rfl, g⟩, if_pos g]; rfl
  · rw [if_neg (fun q => g q.2), if_neg g]
theorem mv_sym : ∀ (t : Nat) (v : Nat → Nat) (i : Nat), i < W → 0 < v i → v i * MV W (t + 1) v = (t + 1) * MV W t (dec v i) := by
  intro t
  induction t with
  | zero =>
    intro v i hi hv
    have : MV W 1 v = MV W 0 (dec v i) := by
      rw [mv_s]
      have := sum_lin (f := fun w => if 0 < v w then MV W 0 (dec v w) else 0) (g := fun _ => 0) (m := 0) (i := i) (c := MV W 0 (dec v i)) W (fun w hw => by
        by_cases e : w = i
        · subst e
          rw [if_pos rfl]
          show (if 0 < v w then MV W 0 (dec v w) else 0) = _
          rw [if_pos hv]; omega
        · rw [if_neg e]
          show (if 0 < v w then MV W 0 (dec v w) else 0) = _
          have : MV W 0 (dec v w) = 0 := by
            show (if sumN (dec v w) W = 0 then 1 else 0) = 0
            rw [if_neg]
            intro q
            have := (sum_0 W).mp q i hi
            rw [dec_n (fun q => e q.symm)] at this
            omega
          rw [this, ite_self])
      rw [if_pos hi] at this
      omega
    rw [this]
    by_cases g : sumN (dec v i) W = 0
    · have := (sum_0 W).mp g i hi
      rw [dec_e] at this
      rw [show v i = 1 by omega]
    · have : MV W 0 (dec v i) = 0 := if_neg g
      rw [this, Nat.mul_zero, Nat.mul_zero]
  | succ t ih =>
    intro v i hi hv
    have key := sum_lin (f := fun w => v i * (if 0 < v w then MV W (t + 1) (dec v w) else 0)) (g := fun w => if 0 < dec v i w then MV W t (dec (dec v i) w) else 0) (m := t + 1) (i := i) (c := MV W (t + 1) (dec v i)) W (fun w hw => by
      show v i * (if 0 < v w then MV W (t + 1) (dec v w) else 0) = (t + 1) * (if 0 < dec v i w then MV W t (dec (dec v i) w) else 0) + _
      by_cases e : w = i
      · subst e
        rw [if_pos rfl, if_pos hv, dec_e]
        by_cases g : 0 < v w - 1
        · rw [if_pos g]
          have := ih (dec v w) w hi (by rw [dec_e]; exact g)
          rw [dec_e] at this
          rw [← this]
          obtain ⟨x, hx⟩ : ∃ x, v w = x + 1 := ⟨v w - 1, by omega⟩
          rw [hx, Nat.add_sub_cancel, Nat.succ_mul]
        · rw [if_neg g, show v w = 1 by omega]
          omega
      · rw [if_neg e, dec_n e]
        by_cases g : 0 < v w
        · rw [if_pos g, if_pos g]
          have := ih (dec v w) i hi (by rw [dec_n (fun q => e q.symm)]; exact hv)
          rw [dec_n (fun q => e q.symm)] at this
          rw [this, dec_c (v := v) (w := w) (u := i)]
          rfl
        · rw [if_neg g, if_neg g, Nat.mul_zero, Nat.mul_zero])
    rw [if_pos hi] at key
    have e1 : v i * MV W (t + 1 + 1) v = sumN (fun w => v i * (if 0 < v w then MV W (t + 1) (dec v w) else 0)) W := by
      rw [mv_s]
      have := sum_lin (f := fun w => v i * (if 0 < v w then MV W (t + 1) (dec v w) else 0)) (g := fun w => if 0 < v w then MV W (t + 1) (dec v w) else 0) (m := v i) (i := W) (c := 0) W (fun w hw => by rw [if_neg (show ¬ w = W by omega)]; rfl)
      rw [this, if_neg (show ¬ W < W by omega)]
      rfl
    rw [e1, key, ← mv_s, Nat.succ_mul (t + 1)]
def FB : Nat → Nat
  | 0 => 1
  | t + 1 => (t + 1) * FB t / ((t + 6) / 6)
theorem fb_b : ∀ t : Nat, t < 29 → FB t < 9223372036854775808 := by decide +kernel
theorem mv_b (hW : W ≤ 6) : ∀ (t : Nat) (v : Nat → Nat), MV W t v ≤ FB t := by
  intro t
  induction t with
  | zero =>
    intro v
    show (if sumN v W = 0 then 1 else 0) ≤ 1
    split <;> omega
  | succ t ih =>
    intro v
    by_cases g : 0 < MV W (t + 1) v
    · have s := cv_sum _ _ g
      have ⟨i, hi, hv⟩ : ∃ i, i < W ∧ (t + 6) / 6 ≤ v i := by
        apply Classical.byContradiction
        intro n
        have := sum_cap (f := v) (b := t / 6) W (fun w hw => by
          have : ¬ (t + 6) / 6 ≤ v w := fun q => n ⟨w, hw, q⟩
          omega)
        have h2 : W * (t / 6) ≤ 6 * (t / 6) := Nat.mul_le_mul_right _ hW
        omega
      have sy := mv_sym t v i hi (by omega)
      show _ ≤ (t + 1) * FB t / ((t + 6) / 6)
      rw [Nat.le_div_iff_mul_le (by omega), Nat.mul_comm]
      calc (t + 6) / 6 * MV W (t + 1) v ≤ v i * MV W (t + 1) v := Nat.mul_le_mul_right _ hv
        _ = (t + 1) * MV W t (dec v i) := sy
        _ ≤ (t + 1) * FB t := Nat.mul_le_mul_left _ (ih _)
    · omega
theorem cv_b {t : Nat} {v : Nat → Nat} (hW : W ≤ 6) (ht : t ≤ 28) : CV W al t v < 9223372036854775808 := by
  have h1 := cv_mo (W := W) (al := al) t v
  have h2 : CV W (fun _ _ => true) t v ≤ FB t := mv_b hW t v
  have h3 := fb_b t (by omega)
  omega
/-- split by who has the j-th -/
theorem cv_split {j : Nat} (h0 : ∀ w, w < W → (al j w = true ↔ al1 j w = true ∨ al2 j w = true)) (hd : ∀ w, w < W → ¬ (al1 j w = true ∧ al2 j w = true)) (h1 : ∀ i w, i ≠ j → al1 i w = al i w) (h2 : ∀ i w, i ≠ j → al2 i w = al i w) : ∀ (m : Nat) (v : Nat → Nat), CV W al (j + 1 + m) v = CV W al1 (j + 1 + m) v + CV W al2 (j + 1 + m) v := by
  intro m
  induction m with
  | zero =>
    intro v
    refine sum_add W (fun w hw => ?_)
    show (if al j w = true ∧ 0 < v w then CV W al j (dec v w) else 0) = (if al1 j w = true ∧ 0 < v w then CV W al1 j (dec v w) else 0) + (if al2 j w = true ∧ 0 < v w then CV W al2 j (dec v w) else 0)
    rw [cv_al (al := al1) (al1 := al) j (dec v w) (fun i w hi _ => h1 i w (by omega)), cv_al (al := al2) (al1 := al) j (dec v w) (fun i w hi _ => h2 i w (by omega))]
    have a := h0 w hw
    have b := hd w hw
    by_cases c1 : al1 j w = true
    · have c2 : ¬ al2 j w = true := fun q => b ⟨c1, q⟩
      rw [if_neg (c := al2 j w = true ∧ 0 < v w) (fun q => c2 q.1)]
      by_cases c3 : 0 < v w
      · rw [if_pos ⟨a.mpr (Or.inl c1), c3⟩, if_pos ⟨c1, c3⟩, Nat.add_zero]
      · rw [if_neg (fun q => c3 q.2), if_neg (fun q => c3 q.2)]
    · rw [if_neg (c := al1 j w = true ∧ 0 < v w) (fun q => c1 q.1)]
      by_cases c3 : al2 j w = true ∧ 0 < v w
      · rw [if_pos ⟨a.mpr (Or.inr c3.1), c3.2⟩, if_pos c3, Nat.zero_add]
      · rw [if_neg c3, if_neg]
        rintro ⟨q1, q2⟩
        rcases a.mp q1 with q | q
        · exact c1 q
        · exact c3 ⟨q, q2⟩
  | succ m ih =>
    intro v
    refine sum_add W (fun w hw => ?_)
    show (if al (j + 1 + m) w = true ∧ 0 < v w then CV W al (j + 1 + m) (dec v w) else 0) = (if al1 (j + 1 + m) w = true ∧ 0 < v w then CV W al1 (j + 1 + m) (dec v w) else 0) + (if al2 (j + 1 + m) w = true ∧ 0 < v w then CV W al2 (j + 1 + m) (dec v w) else 0)
    rw [h1 _ w (by omega), h2 _ w (by omega), ih]
    split <;> omega
/-! by Hall -/
def inS (S : Nat) (v : Nat → Nat) (W : Nat) : Nat := sumN (fun w => if S.testBit w then v w else 0) W
def sub_ (W : Nat) (al : Nat → Nat → Bool) (S j : Nat) : Prop := ∀ w, w < W → al j w = true → S.testBit w = true
noncomputable def thr (W : Nat) (al : Nat → Nat → Bool) (S : Nat) : Nat → Nat
  | 0 => 0
  | t + 1 => thr W al S t + @ite Nat (sub_ W al S t) (Classical.propDecidable _) 1 0
theorem thr_p {S t : Nat} (h : sub_ W al S t) : thr W al S (t + 1) = thr W al S t + 1 := by
  show thr W al S t + @ite Nat _ (Classical.propDecidable _) 1 0 = _
  rw [if_pos h]
theorem thr_n {S t : Nat} (h : ¬ sub_ W al S t) : thr W al S (t + 1) = thr W al S t := by
  show thr W al S t + @ite Nat _ (Classical.propDecidable _) 1 0 = _
  rw [if_neg h, Nat.add_zero]
theorem thr_sm {S T : Nat} : ∀ t : Nat, thr W al S t + thr W al T t ≤ thr W al (S ||| T) t + thr W al (S &&& T) t := by
  intro t
  induction t with
  | zero => exact Nat.le_refl _
  | succ t ih =>
    have u1 : sub_ W al S t → sub_ W al (S ||| T) t := fun h w hw a => by rw [Nat.testBit_or, h w hw a, Bool.true_or]
    have u2 : sub_ W al T t → sub_ W al (S ||| T) t := fun h w hw a => by rw [Nat.testBit_or, h w hw a, Bool.or_true]
    have u3 : sub_ W al S t → sub_ W al T t → sub_ W al (S &&& T) t := fun h g w hw a => by rw [Nat.testBit_and, h w hw a, g w hw a]; rfl
    have m1 : thr W al (S ||| T) t ≤ thr W al (S ||| T) (t + 1) := Nat.le_add_right _ _
    have m2 : thr W al (S &&& T) t ≤ thr W al (S &&& T) (t + 1) := Nat.le_add_right _ _
    by_cases c1 : sub_ W al S t <;> by_cases c2 : sub_ W al T t
    · rw [thr_p c1, thr_p c2, thr_p (u1 c1), thr_p (u3 c1 c2)]; omega
    · rw [thr_p c1, thr_n c2, thr_p (u1 c1)]; omega
    · rw [thr_n c1, thr_p c2, thr_p (u2 c2)]; omega
    · rw [thr_n c1, thr_n c2]; omega
theorem inS_mod {S T W : Nat} {v : Nat → Nat} : inS S v W + inS T v W = inS (S ||| T) v W + inS (S &&& T) v W := by
  unfold inS
  induction W with
  | zero => rfl
  | succ W ih =>
    show (sumN (fun w => if S.testBit w then v w else 0) W + (if S.testBit W then v W else 0)) + (sumN (fun w => if T.testBit w then v w else 0) W + (if T.testBit W then v W else 0)) = (sumN (fun w => if (S ||| T).testBit w then v w else 0) W + (if (S ||| T).testBit W then v W else 0)) + (sumN (fun w => if (S &&& T).testBit w then v w else 0) W + (if (S &&& T).testBit W then v W else 0))
    generalize sumN (fun w => if S.testBit w then v w else 0) W = a at ih ⊢
    generalize sumN (fun w => if T.testBit w then v w else 0) W = b at ih ⊢
    generalize sumN (fun w => if (S ||| T).testBit w then v w else 0) W = c at ih ⊢
    generalize sumN (fun w => if (S &&& T).testBit w then v w else 0) W = d at ih ⊢
    rw [Nat.testBit_or, Nat.testBit_and]
    cases S.testBit W <;> cases T.testBit W <;> simp <;> omega
theorem inS_dec {S w : Nat} {v : Nat → Nat} (hw : w < W) (hv : 0 < v w) : inS S v W = inS S (dec v w) W + if S.testBit w then 1 else 0 := by
  have := sum_lin (f := fun u => if S.testBit u then v u else 0) (g := fun u => if S.testBit u then dec v w u else 0) (m := 1) (i := w) (c := if S.testBit w then 1 else 0) W (fun u hu => by
    by_cases e : u = w
    · subst e
      rw [if_pos rfl, dec_e]
      cases S.testBit u
      · rfl
      · simp; omega
    · rw [if_neg e, dec_n e]; omega)
  rw [if_pos hw, Nat.one_mul] at this
  exact this
def Hal (W : Nat) (al : Nat → Nat → Bool) (t : Nat) (v : Nat → Nat) : Prop := ∀ S, S < 2 ^ W → thr W al S t ≤ inS S v W
theorem hall : ∀ (t : Nat) (v : Nat → Nat), 0 < CV W al t v ↔ sumN v W = t ∧ Hal W al t v := by
  intro t
  induction t with
  | zero =>
    intro v
    constructor
    · intro h
      exact ⟨cv_sum _ _ h, fun S _ => Nat.zero_le _⟩
    · rintro ⟨h, -⟩
      show 0 < if sumN v W = 0 then 1 else 0
      rw [if_pos h]
      decide
  | succ t ih =>
    intro v
    constructor
    · intro h
      refine ⟨cv_sum _ _ h, fun S hS => ?_⟩
      obtain ⟨w, hw, h⟩ := sum_pos h
      have h : 0 < if al t w = true ∧ 0 < v w then CV W al t (dec v w) else 0 := h
      split at h
      · rename_i g
        have i1 := ((ih _).mp h).2 S hS
        have i2 := inS_dec (S := S) hw g.2
        by_cases c : sub_ W al S t
        · rw [thr_p c]
          rw [if_pos (c w hw g.1)] at i2
          omega
        · rw [thr_n c]
          omega
      · omega
    · rintro ⟨hs, hH⟩
      apply Classical.byContradiction
      intro n
      have Ht : Hal W al t v := fun S hS => Nat.le_trans (Nat.le_add_right _ _) (hH S hS)
      have tw : ∀ w, w < W → al t w = true → ∃ T, T < 2 ^ W ∧ T.testBit w = true ∧ inS T v W ≤ thr W al T t := by
        intro w hw a
        by_cases g : 0 < v w
        · have nz : ¬ 0 < CV W al t (dec v w) := by
            intro q
            have := sum_ge (f := fun w => if al t w = true ∧ 0 < v w then CV W al t (dec v w) else 0) hw
            have e : (if al t w = true ∧ 0 < v w then CV W al t (dec v w) else 0) = CV W al t (dec v w) := if_pos ⟨a, g⟩
            have this : (if al t w = true ∧ 0 < v w then CV W al t (dec v w) else 0) ≤ CV W al (t + 1) v := this
            omega
          have nh : ¬ Hal W al t (dec v w) := fun q => nz ((ih _).mpr ⟨by have := dec_sum hw g; omega, q⟩)
          have ⟨S, hS, hlt⟩ : ∃ S, S < 2 ^ W ∧ inS S (dec v w) W < thr W al S t := by
            apply Classical.byContradiction
            intro q
            exact nh (fun S hS => Classical.byContradiction fun q2 => q ⟨S, hS, by omega⟩)
          have i2 := inS_dec (S := S) hw g
          have i3 := Ht S hS
          cases c : S.testBit w
          · rw [c] at i2
            have : inS S v W = inS S (dec v w) W := i2
            omega
          · rw [c] at i2
            have : inS S v W = inS S (dec v w) W + 1 := i2
            exact ⟨S, hS, c, by omega⟩
        · refine ⟨1 <<< w, ?_, by rw [bit_one, decide_eq_true rfl], ?_⟩
          · rw [Nat.one_shiftLeft]
            exact Nat.pow_lt_pow_right (by decide) hw
          · have : inS (1 <<< w) v W = 0 := (sum_0 W).mpr (fun u hu => by
              show (if (1 <<< w).testBit u then v u else 0) = 0
              rw [bit_one]
              by_cases e : w = u
              · subst e
                rw [decide_eq_true rfl, if_pos rfl]; omega
              · rw [decide_eq_false e]; rfl)
            omega
      have un : ∀ m, m ≤ W → ∃ T, T < 2 ^ W ∧ (∀ w, w < m → al t w = true → T.testBit w = true) ∧ inS T v W ≤ thr W al T t := by
        intro m
        induction m with
        | zero =>
          intro _
          refine ⟨0, Nat.two_pow_pos _, fun w hw => absurd hw (Nat.not_lt_zero _), ?_⟩
          have : inS 0 v W = 0 := (sum_0 W).mpr (fun u hu => by
            show (if (0 : Nat).testBit u then v u else 0) = 0
            rw [Nat.zero_testBit]; rfl)
          omega
        | succ m ihm =>
          intro hm
          obtain ⟨T, T1, T2, T3⟩ := ihm (by omega)
          by_cases a : al t m = true
          · obtain ⟨S, S1, S2, S3⟩ := tw m (by omega) a
            have x1 := thr_sm (W := W) (al := al) (S := T) (T := S) t
            have x2 := inS_mod (S := T) (T := S) (W := W) (v := v)
            have x3 := Ht (T &&& S) (Nat.lt_of_le_of_lt Nat.and_le_left T1)
            refine ⟨T ||| S, Nat.or_lt_two_pow T1 S1, fun w hw aw => ?_, by omega⟩
            rw [Nat.testBit_or]
            by_cases e : w = m
            · subst e
              rw [S2, Bool.or_true]
            · rw [T2 w (by omega) aw, Bool.true_or]
          · refine ⟨T, T1, fun w hw aw => ?_, T3⟩
            by_cases e : w = m
            · subst e
              exact absurd aw a
            · exact T2 w (by omega) aw
      obtain ⟨T, T1, T2, T3⟩ := un W (Nat.le_refl _)
      have := hH T T1
      rw [thr_p (fun w hw a => T2 w hw a)] at this
      omega
end
