/-! LAYER 3y: both readers side by side -/
section
variable {α β γ δ Z Y : Type}
def Sm (o1 : Option Z) (o2 : Option Y) (Q : Z → Y → Prop) : Prop := ∃ z y, o1 = some z ∧ o2 = some y ∧ Q z y
theorem sm_some {Q : Z → Y → Prop} {z : Z} {y : Y} (h : Q z y) : Sm (some z) (some y) Q := ⟨z, y, rfl, rfl, h⟩
theorem sm_mono {o1 : Option Z} {o2 : Option Y} {Q R : Z → Y → Prop} (h : Sm o1 o2 R) (k : ∀ z y, R z y → Q z y) : Sm o1 o2 Q := by
  obtain ⟨z, y, h1, h2, h3⟩ := h
  exact ⟨z, y, h1, h2, k z y h3⟩
theorem sm_b11 {o1 : Option α} {o2 : Option β} {g1 : α → Option Z} {g2 : β → Option Y} {R : α → β → Prop} {Q : Z → Y → Prop} (h : Sm o1 o2 R) (k : ∀ a b, R a b → Sm (g1 a) (g2 b) Q) : Sm (bd1 o1 g1) (bd1 o2 g2) Q := by
  obtain ⟨z, y, h1, h2, h3⟩ := h
  rw [h1, h2]
  exact k z y h3
theorem sm_b22 {o1 : Option (α × γ)} {o2 : Option (β × δ)} {g1 : α → γ → Option Z} {g2 : β → δ → Option Y} {R : α × γ → β × δ → Prop} {Q : Z → Y → Prop} (h : Sm o1 o2 R) (k : ∀ a c b d, R (a, c) (b, d) → Sm (g1 a c) (g2 b d) Q) : Sm (bd2 o1 g1) (bd2 o2 g2) Q := by
  obtain ⟨⟨a, c⟩, ⟨b, d⟩, h1, h2, h3⟩ := h
  rw [h1, h2]
  exact k a c b d h3
theorem sm_ite {c d : Prop} [Decidable c] [Decidable d] {a1 b1 : Option Z} {a2 b2 : Option Y} {Q : Z → Y → Prop} (hc : c ↔ d) (h1 : c → d → Sm a1 a2 Q) (h2 : ¬ c → ¬ d → Sm b1 b2 Q) : Sm (if c then a1 else b1) (if d then a2 else b2) Q := by
  by_cases h : c
  · rw [if_pos h, if_pos (hc.mp h)]; exact h1 h (hc.mp h)
  · rw [if_neg h, if_neg (fun q => h (hc.mpr q))]; exact h2 h (fun q => h (hc.mpr q))
theorem sm_cl {c : Prop} [Decidable c] {o1 : Option Z} {o2 : Option Y} {Q : Z → Y → Prop} (h : c) (k : Sm o1 o2 Q) : Sm (chk c o1) o2 Q := by rwa [ck_p h]
theorem sm_cr {c : Prop} [Decidable c] {o1 : Option Z} {o2 : Option Y} {Q : Z → Y → Prop} (h : c) (k : Sm o1 o2 Q) : Sm o1 (chk c o2) Q := by rwa [ck_p h]
end
theorem sm_w11 {A0 B0 Z Y : Type} {F : (A0 → Option Z) → A0 → Option Z} {G : (B0 → Option Y) → B0 → Option Y} {Q : Z → Y → Prop} (I : A0 → B0 → Prop) (μ : A0 → Nat) (hs : ∀ (x0 : A0) (y0 : B0), I x0 y0 → ∀ rc rd, (∀ (u0 : A0) (v0 : B0), I u0 v0 → μ u0 < μ x0 → Sm (rc u0) (rd v0) Q) → Sm (F rc x0) (G rd y0) Q) : ∀ (n m : Nat) (x0 : A0) (y0 : B0), I x0 y0 → μ x0 < n → μ x0 < m → Sm (wh1 n F x0) (wh1 m G y0) Q := by
  intro n
  induction n with
  | zero => intro m x0 y0 _ h; omega
  | succ n ih =>
    intro m x0 y0 hI hn hm
    obtain ⟨k, rfl⟩ : ∃ k, m = k + 1 := ⟨m - 1, by omega⟩
    exact hs x0 y0 hI _ _ (fun u0 v0 h1 h2 => ih k u0 v0 h1 (by omega) (by omega))
theorem sm_w12 {A0 B0 B1 Z Y : Type} {F : (A0 → Option Z) → A0 → Option Z} {G : (B0 → B1 → Option Y) → B0 → B1 → Option Y} {Q : Z → Y → Prop} (I : A0 → B0 → B1 → Prop) (μ : A0 → Nat) (hs : ∀ (x0 : A0) (y0 : B0) (y1 : B1), I x0 y0 y1 → ∀ rc rd, (∀ (u0 : A0) (v0 : B0) (v1 : B1), I u0 v0 v1 → μ u0 < μ x0 → Sm (rc u0) (rd v0 v1) Q) → Sm (F rc x0) (G rd y0 y1) Q) : ∀ (n m : Nat) (x0 : A0) (y0 : B0) (y1 : B1), I x0 y0 y1 → μ x0 < n → μ x0 < m → Sm (wh1 n F x0) (wh2 m G y0 y1) Q := by
  intro n
  induction n with
  | zero => intro m x0 y0 y1 _ h; omega
  | succ n ih =>
    intro m x0 y0 y1 hI hn hm
    obtain ⟨k, rfl⟩ : ∃ k, m = k + 1 := ⟨m - 1, by omega⟩
    exact hs x0 y0 y1 hI _ _ (fun u0 v0 v1 h1 h2 => ih k u0 v0 v1 h1 (by omega) (by omega))
theorem sm_w13 {A0 B0 B1 B2 Z Y : Type} {F : (A0 → Option Z) → A0 → Option Z} {G : (B0 → B1 → B2 → Option Y) → B0 → B1 → B2 → Option Y} {Q : Z → Y → Prop} (I : A0 → B0 → B1 → B2 → Prop) (μ : A0 → Nat) (hs : ∀ (x0 : A0) (y0 : B0) (y1 : B1) (y2 : B2), I x0 y0 y1 y2 → ∀ rc rd, (∀ (u0 : A0) (v0 : B0) (v1 : B1) (v2 : B2), I u0 v0 v1 v2 → μ u0 < μ x0 → Sm (rc u0) (rd v0 v1 v2) Q) → Sm (F rc x0) (G rd y0 y1 y2) Q) : ∀ (n m : Nat) (x0 : A0) (y0 : B0) (y1 : B1) (y2 : B2), I x0 y0 y1 y2 → μ x0 < n → μ x0 < m → Sm (wh1 n F x0) (wh3 m G y0 y1 y2) Q := by
  intro n
  induction n with
  | zero => intro m x0 y0 y1 y2 _ h; omega
  | succ n ih =>
    intro m x0 y0 y1 y2 hI hn hm
    obtain ⟨k, rfl⟩ : ∃ k, m = k + 1 := ⟨m - 1, by omega⟩
    exact hs x0 y0 y1 y2 hI _ _ (fun u0 v0 v1 v2 h1 h2 => ih k u0 v0 v1 v2 h1 (by omega) (by omega))
theorem sm_w21 {A0 A1 B0 Z Y : Type} {F : (A0 → A1 → Option Z) → A0 → A1 → Option Z} {G : (B0 → Option Y) → B0 → Option Y} {Q : Z → Y → Prop} (I : A0 → A1 → B0 → Prop) (μ : A0 → A1 → Nat) (hs : ∀ (x0 : A0) (x1 : A1) (y0 : B0), I x0 x1 y0 → ∀ rc rd, (∀ (u0 : A0) (u1 : A1) (v0 : B0), I u0 u1 v0 → μ u0 u1 < μ x0 x1 → Sm (rc u0 u1) (rd v0) Q) → Sm (F rc x0 x1) (G rd y0) Q) : ∀ (n m : Nat) (x0 : A0) (x1 : A1) (y0 : B0), I x0 x1 y0 → μ x0 x1 < n → μ x0 x1 < m → Sm (wh2 n F x0 x1) (wh1 m G y0) Q := by
  intro n
  induction n with
  | zero => intro m x0 x1 y0 _ h; omega
  | succ n ih =>
    intro m x0 x1 y0 hI hn hm
    obtain ⟨k, rfl⟩ : ∃ k, m = k + 1 := ⟨m - 1, by omega⟩
    exact hs x0 x1 y0 hI _ _ (fun u0 u1 v0 h1 h2 => ih k u0 u1 v0 h1 (by omega) (by omega))
theorem sm_w22 {A0 A1 B0 B1 Z Y : Type} {F : (A0 → A1 → Option Z) → A0 → A1 → Option Z} {G : (B0 → B1 → Option Y) → B0 → B1 → Option Y} {Q : Z → Y → Prop} (I : A0 → A1 → B0 → B1 → Prop) (μ : A0 → A1 → Nat) (hs : ∀ (x0 : A0) (x1 : A1) (y0 : B0) (y1 : B1), I x0 x1 y0 y1 → ∀ rc rd, (∀ (u0 : A0) (u1 : A1) (v0 : B0) (v1 : B1), I u0 u1 v0 v1 → μ u0 u1 < μ x0 x1 → Sm (rc u0 u1) (rd v0 v1) Q) → Sm (F rc x0 x1) (G rd y0 y1) Q) : ∀ (n m : Nat) (x0 : A0) (x1 : A1) (y0 : B0) (y1 : B1), I x0 x1 y0 y1 → μ x0 x1 < n → μ x0 x1 < m → Sm (wh2 n F x0 x1) (wh2 m G y0 y1) Q := by
  intro n
  induction n with
  | zero => intro m x0 x1 y0 y1 _ h; omega
  | succ n ih =>
    intro m x0 x1 y0 y1 hI hn hm
    obtain ⟨k, rfl⟩ : ∃ k, m = k + 1 := ⟨m - 1, by omega⟩
    exact hs x0 x1 y0 y1 hI _ _ (fun u0 u1 v0 v1 h1 h2 => ih k u0 u1 v0 v1 h1 (by omega) (by omega))
theorem sm_w23 {A0 A1 B0 B1 B2 Z Y : Type} {F : (A0 → A1 → Option Z) → A0 → A1 → Option Z} {G : (B0 → B1 → B2 → Option Y) → B0 → B1 → B2 → Option Y} {Q : Z → Y → Prop} (I : A0 → A1 → B0 → B1 → B2 → Prop) (μ : A0 → A1 → Nat) (hs : ∀ (x0 : A0) (x1 : A1) (y0 : B0) (y1 : B1) (y2 : B2), I x0 x1 y0 y1 y2 → ∀ rc rd, (∀ (u0 : A0) (u1 : A1) (v0 : B0) (v1 : B1) (v2 : B2), I u0 u1 v0 v1 v2 → μ u0 u1 < μ x0 x1 → Sm (rc u0 u1) (rd v0 v1 v2) Q) → Sm (F rc x0 x1) (G rd y0 y1 y2) Q) : ∀ (n m : Nat) (x0 : A0) (x1 : A1) (y0 : B0) (y1 : B1) (y2 : B2), I x0 x1 y0 y1 y2 → μ x0 x1 < n → μ x0 x1 < m → Sm (wh2 n F x0 x1) (wh3 m G y0 y1 y2) Q := by
  intro n
  induction n with
  | zero => intro m x0 x1 y0 y1 y2 _ h; omega
  | succ n ih =>
    intro m x0 x1 y0 y1 y2 hI hn hm
    obtain ⟨k, rfl⟩ : ∃ k, m = k + 1 := ⟨m - 1, by omega⟩
    exact hs x0 x1 y0 y1 y2 hI _ _ (fun u0 u1 v0 v1 v2 h1 h2 => ih k u0 u1 v0 v1 v2 h1 (by omega) (by omega))
theorem sm_w31 {A0 A1 A2 B0 Z Y : Type} {F : (A0 → A1 → A2 → Option Z) → A0 → A1 → A2 → Option Z} {G : (B0 → Option Y) → B0 → Option Y} {Q : Z → Y → Prop} (I : A0 → A1 → A2 → B0 → Prop) (μ : A0 → A1 → A2 → Nat) (hs : ∀ (x0 : A0) (x1 : A1) (x2 : A2) (y0 : B0), I x0 x1 x2 y0 → ∀ rc rd, (∀ (u0 : A0) (u1 : A1) (u2 : A2) (v0 : B0), I u0 u1 u2 v0 → μ u0 u1 u2 < μ x0 x1 x2 → Sm (rc u0 u1 u2) (rd v0) Q) → Sm (F rc x0 x1 x2) (G rd y0) Q) : ∀ (n m : Nat) (x0 : A0) (x1 : A1) (x2 : A2) (y0 : B0), I x0 x1 x2 y0 → μ x0 x1 x2 < n → μ x0 x1 x2 < m → Sm (wh3 n F x0 x1 x2) (wh1 m G y0) Q := by
  intro n
  induction n with
  | zero => intro m x0 x1 x2 y0 _ h; omega
  | succ n ih =>
    intro m x0 x1 x2 y0 hI hn hm
    obtain ⟨k, rfl⟩ : ∃ k, m = k + 1 := ⟨m - 1, by omega⟩
    exact hs x0 x1 x2 y0 hI _ _ (fun u0 u1 u2 v0 h1 h2 => ih k u0 u1 u2 v0 h1 (by omega) (by omega))
theorem sm_w32 {A0 A1 A2 B0 B1 Z Y : Type} {F : (A0 → A1 → A2 → Option Z) → A0 → A1 → A2 → Option Z} {G : (B0 → B1 → Option Y) → B0 → B1 → Option Y} {Q : Z → Y → Prop} (I : A0 → A1 → A2 → B0 → B1 → Prop) (μ : A0 → A1 → A2 → Nat) (hs : ∀ (x0 : A0) (x1 : A1) (x2 : A2) (y0 : B0) (y1 : B1), I x0 x1 x2 y0 y1 → ∀ rc rd, (∀ (u0 : A0) (u1 : A1) (u2 : A2) (v0 : B0) (v1 : B1), I u0 u1 u2 v0 v1 → μ u0 u1 u2 < μ x0 x1 x2 → Sm (rc u0 u1 u2) (rd v0 v1) Q) → Sm (F rc x0 x1 x2) (G rd y0 y1) Q) : ∀ (n m : Nat) (x0 : A0) (x1 : A1) (x2 : A2) (y0 : B0) (y1 : B1), I x0 x1 x2 y0 y1 → μ x0 x1 x2 < n → μ x0 x1 x2 < m → Sm (wh3 n F x0 x1 x2) (wh2 m G y0 y1) Q := by
  intro n
  induction n with
  | zero => intro m x0 x1 x2 y0 y1 _ h; omega
  | succ n ih =>
    intro m x0 x1 x2 y0 y1 hI hn hm
    obtain ⟨k, rfl⟩ : ∃ k, m = k + 1 := ⟨m - 1, by omega⟩
    exact hs x0 x1 x2 y0 y1 hI _ _ (fun u0 u1 u2 v0 v1 h1 h2 => ih k u0 u1 u2 v0 v1 h1 (by omega) (by omega))
theorem sm_w33 {A0 A1 A2 B0 B1 B2 Z Y : Type} {F : (A0 → A1 → A2 → Option Z) → A0 → A1 → A2 → Option Z} {G : (B0 → B1 → B2 → Option Y) → B0 → B1 → B2 → Option Y} {Q : Z → Y → Prop} (I : A0 → A1 → A2 → B0 → B1 → B2 → Prop) (μ : A0 → A1 → A2 → Nat) (hs : ∀ (x0 : A0) (x1 : A1) (x2 : A2) (y0 : B0) (y1 : B1) (y2 : B2), I x0 x1 x2 y0 y1 y2 → ∀ rc rd, (∀ (u0 : A0) (u1 : A1) (u2 : A2) (v0 : B0) (v1 : B1) (v2 : B2), I u0 u1 u2 v0 v1 v2 → μ u0 u1 u2 < μ x0 x1 x2 → Sm (rc u0 u1 u2) (rd v0 v1 v2) Q) → Sm (F rc x0 x1 x2) (G rd y0 y1 y2) Q) : ∀ (n m : Nat) (x0 : A0) (x1 : A1) (x2 : A2) (y0 : B0) (y1 : B1) (y2 : B2), I x0 x1 x2 y0 y1 y2 → μ x0 x1 x2 < n → μ x0 x1 x2 < m → Sm (wh3 n F x0 x1 x2) (wh3 m G y0 y1 y2) Q := by
  intro n
  induction n with
  | zero => intro m x0 x1 x2 y0 y1 y2 _ h; omega
  | succ n ih =>
    intro m x0 x1 x2 y0 y1 y2 hI hn hm
    obtain ⟨k, rfl⟩ : ∃ k, m = k + 1 := ⟨m - 1, by omega⟩
    exact hs x0 x1 x2 y0 y1 y2 hI _ _ (fun u0 u1 u2 v0 v1 v2 h1 h2 => ih k u0 u1 u2 v0 v1 v2 h1 (by omega) (by omega))
/-! words as numbers -/
theorem en_ap (b : Nat) : ∀ (l : List Nat) (x a : Nat), en_ b (l ++ [x]) a = en_ b l a * b + x := by
  intro l
  induction l with
  | nil => intro x a; rfl
  | cons y l ih => intro x a; exact ih x (a * b + y)
theorem en_inj (b : Nat) (hb : 27 ≤ b) : ∀ (k : Nat) (l m : List Nat), l.length ≤ k → (∀ c ∈ l, 1 ≤ c ∧ c ≤ 26) → (∀ c ∈ m, 1 ≤ c ∧ c ≤ 26) → en_ b l 0 = en_ b m 0 → l = m := by
  intro k
  induction k with
  | zero =>
    intro l m hl h1 h2 h
    have : l = [] := List.eq_nil_of_length_eq_zero (by omega)
    subst this
    rcases List.eq_nil_or_concat m with rfl | ⟨m', x, rfl⟩
    · rfl
    · rw [List.concat_eq_append] at h h2
      rw [en_ap] at h
      have := h2 x (by simp)
      have h0 : en_ b [] 0 = 0 := rfl
      omega
  | succ k ih =>
    intro l m hl h1 h2 h
    rcases List.eq_nil_or_concat l with rfl | ⟨l', x, rfl⟩
    · rcases List.eq_nil_or_concat m with rfl | ⟨m', y, rfl⟩
      · rfl
      · rw [List.concat_eq_append] at h h2
        rw [en_ap] at h
        have := h2 y (by simp)
        have h0 : en_ b [] 0 = 0 := rfl
        omega
    · rcases List.eq_nil_or_concat m with rfl | ⟨m', y, rfl⟩
      · rw [List.concat_eq_append] at h h1
        rw [en_ap] at h
        have := h1 x (by simp)
        have h0 : en_ b [] 0 = 0 := rfl
        omega
      · rw [List.concat_eq_append] at h1 hl
        rw [List.concat_eq_append] at h2
        rw [List.concat_eq_append, List.concat_eq_append] at h
        rw [en_ap, en_ap] at h
        have hx := h1 x (by simp)
        have hy := h2 y (by simp)
        have e1 : (en_ b l' 0 * b + x) % b = x := by rw [Nat.mul_comm, Nat.mul_add_mod]; exact Nat.mod_eq_of_lt (by omega)
        have e2 : (en_ b m' 0 * b + y) % b = y := by rw [Nat.mul_comm, Nat.mul_add_mod]; exact Nat.mod_eq_of_lt (by omega)
        have exy : x = y := by rw [← e1, ← e2, h]
        subst exy
        have e3 : en_ b l' 0 * b = en_ b m' 0 * b := by omega
        have e4 : en_ b l' 0 = en_ b m' 0 := Nat.eq_of_mul_eq_mul_right (by omega) e3
        have := ih l' m' (by rw [List.length_append, List.length_singleton] at hl; omega) (fun c hc => h1 c (by simp [hc])) (fun c hc => h2 c (by simp [hc])) e4
        rw [this]
theorem nmR_i {x y x' y' : Int} (h : nmR x y) (h' : nmR x' y') : x = x' ↔ y = y' := by
  obtain ⟨l, ⟨l1, l2, l3⟩, rfl, rfl⟩ := h
  obtain ⟨m, ⟨m1, m2, m3⟩, rfl, rfl⟩ := h'
  constructor
  · intro h
    rw [en_inj 32 (by decide) _ l m (Nat.le_refl _) l3 m3 (by omega)]
  · intro h
    rw [en_inj 27 (by decide) _ l m (Nat.le_refl _) l3 m3 (by omega)]
theorem kw_nm : ∀ k : Nat, k < 20 → nmR (kwE 32 k) (kwE 27 k) := by
  have h : ∀ k : Nat, k < 20 → 1 ≤ (kwL.getD k []).length ∧ (kwL.getD k []).length ≤ 7 ∧ ∀ c ∈ kwL.getD k [], 1 ≤ c ∧ c ≤ 26 := by decide +kernel
  intro k hk
  exact ⟨kwL.getD k [], h k hk, rfl, rfl⟩
theorem nm_ex {c : JA} {q : Int} : ∀ (k : Nat) (p : Int), (p - q).toNat = k → q ≤ p → nL_ c q p = p - q → ∃ l : List Nat, l.length = k ∧ (∀ x ∈ l, 1 ≤ x ∧ x ≤ 26) ∧ ∀ b : Nat, nmV b c q p = (en_ b l 0 : Nat) := by
  intro k
  induction k with
  | zero =>
    intro p h h1 _
    exact ⟨[], rfl, fun x hx => (by cases hx), fun b => fo_e (by omega)⟩
  | succ k ih =>
    intro p h h1 h2
    have e1 : nL_ c q p = cond (isL c (p - 1)) (nL_ c q (p - 1) + 1) (nL_ c q (p - 1)) := by
      have := cnt_sn (P := isL c) (q := q) (p := p - 1) (by omega)
      rwa [show p - 1 + 1 = p by omega] at this
    have bd := cnt_bd (P := isL c) (N := p - 1) _ q 0 rfl
    have hl : isL c (p - 1) = true := by
      cases a : isL c (p - 1)
      · rw [a, cond_false] at e1
        unfold nL_ at e1 h2
        omega
      · rfl
    rw [hl, cond_true] at e1
    obtain ⟨l, g1, g2, g3⟩ := ih (p - 1) (by omega) (by omega) (by omega)
    have hc := of_decide_eq_true hl
    refine ⟨l ++ [(c (p - 1).toNat - 96).toNat], by rw [List.length_append, g1]; rfl, fun x hx => ?_, fun b => ?_⟩
    · rcases List.mem_append.mp hx with hx | hx
      · exact g2 x hx
      · rw [List.mem_singleton.mp hx]; omega
    · have e2 : nmV b c q p = nmV b c q (p - 1) * b + (c (p - 1).toNat - 96) := by
        have := fo_sn (f := fun i x => x * (b : Int) + (c i.toNat - 96)) (p := p - 1) _ q 0 rfl (by omega)
        rwa [show p - 1 + 1 = p by omega] at this
      rw [e2, en_ap, g3 b]
      push_cast
      omega
theorem nm_R {c : JA} {size q e : Int} (hR : RunE c size q e) (hq : q < e) (hk : rkS c q e = 3) : nmR (nmV 32 c q e) (nmV 27 c q e) := by
  have cn := nLD _ e rfl hR.1 hR.2.2.1
  have nk : nD_ c q e = 0 ∧ nL_ c q e ≤ 7 := by
    unfold rkS at hk
    split at hk
    · assumption
    · split at hk <;> omega
  obtain ⟨l, g1, g2, g3⟩ := nm_ex (c := c) (q := q) _ e rfl (by omega) (by omega)
  exact ⟨l, ⟨by omega, by omega, g2⟩, g3 32, g3 27⟩
theorem wordOf_s {σ τ : JSg} {k : Int} : f_M_wordOf k σ = f_M_wordOf k τ := by
  unfold f_M_wordOf f_M_spelt f_M_on
  rfl
theorem wordOf_c : ∀ k : Nat, k < 20 → f_M_wordOf (k : Int) (fun _ _ => 0) = some (kwE 27 k) := by decide +kernel
theorem wordOf_e {σ : JSg} (k : Nat) (hk : k < 20) : f_M_wordOf (k : Int) σ = some (kwE 27 k) := wordOf_s.trans (wordOf_c k hk)
/-! the same TOKEN on both sides -/
def TR (c : JA) (size lim p : Int) (σ τ : JSg) : Prop := WT c size lim p σ ∧ MT c size lim p τ
section
variable {σ τ : JSg} {n : Nat} {c : JA} {size lim p : Int}
theorem tr_nx (h : TR c size lim p σ τ) : σ 2 3 = τ 179 5 ∧ p ≤ σ 2 3 ∧ σ 2 3 ≤ size ∧ (σ 2 4 ≠ 0 → σ 2 4 ≠ 1 → p < σ 2 3) ∧ σ 2 5 = τ 179 6 ∧ ((σ 2 4 = 0 ∨ σ 2 4 = 1) ∨ p ≤ σ 2 5 ∧ σ 2 5 < lim) ∧ (σ 2 4 = 5 → σ 2 3 = σ 2 5 + 1) := by
  obtain ⟨⟨a1, a2, ⟨a3, a4⟩, q, a5, a6⟩, ⟨b1, -, q', b5, b6⟩⟩ := h
  have := ske_u a5 b5
  subst this
  have q1 := a5.1
  have q2 := a5.2.1
  have q3 : q ≤ size := by rcases q2 with g | g <;> omega
  rcases a6 with ⟨x1, x2, x3, x4, x5⟩ | ⟨x1, x2, x3, x4, x5, x6, x7⟩ | ⟨x1, x2, x3, x4, e, x5, x6, x7, x8⟩
  · have k01 : σ 2 4 = 0 ∨ σ 2 4 = 1 := by rw [x3]; split <;> omega
    rcases b6 with ⟨y1, y2, y3, y4⟩ | ⟨y1, y2, y3⟩ | ⟨y1, y2, y3⟩
    · exact ⟨by omega, by omega, by omega, fun g1 g2 => by omega, by omega, Or.inl k01, fun g => by omega⟩
    · omega
    · omega
  · rcases b6 with ⟨y1, y2⟩ | ⟨y1, y2, y3, y4, y5, y6⟩ | ⟨y1, y2, y3, y4, y5⟩
    · omega
    · exact ⟨by omega, by omega, by omega, fun _ _ => by omega, by omega, Or.inr (by omega), fun _ => by omega⟩
    · rw [x4] at y4; cases y4
  · rcases b6 with ⟨y1, y2⟩ | ⟨y1, y2, y3, y4, y5⟩ | ⟨y1, y2, y3, y4, e', y5, y6, y7⟩
    · omega
    · rw [x4] at y4; cases y4
    · have := rne_u x5 y5
      subst this
      have e1 : q < e := by
        have g := x5.1
        by_cases h : q = e
        · rcases x5.2.2.2 with g2 | g2
          · omega
          · rw [← h, x4] at g2; cases g2
        · omega
      have e2 := x5.2.1
      have rk : rkS c q e ≠ 5 := by unfold rkS; repeat' split; all_goals omega
      exact ⟨by omega, by omega, by omega, fun _ _ => by omega, by omega, Or.inr (by omega), fun g => by omega⟩
/-- kinds -/
theorem tr_kd (h : TR c size lim p σ τ) : (σ 2 4 = 0 ∧ τ 179 7 = 0 ∧ σ 2 6 = 0) ∨ ((σ 2 4 = 1 ∨ σ 2 4 = 2) ∧ τ 179 7 = 1 ∧ σ 2 6 = 0) ∨ (σ 2 4 = 3 ∧ τ 179 7 = 2 ∧ nmR (σ 2 7) (τ 179 12) ∧ keyP 32 (σ 2 6) (σ 2 7)) ∨ (σ 2 4 = 4 ∧ τ 179 7 = 3 ∧ σ 2 6 = 0 ∧ σ 2 8 = τ 179 8 ∧ 0 ≤ σ 2 8 ∧ σ 2 8 ≤ 999) ∨ (σ 2 4 = 5 ∧ τ 179 7 = 4 ∧ σ 2 6 = 0 ∧ σ 2 9 = τ 179 9) := by
  obtain ⟨⟨a1, a2, ⟨a3, a4⟩, q, a5, a6⟩, ⟨b1, -, q', b5, b6⟩⟩ := h
  have := ske_u a5 b5
  subst this
  rcases a6 with ⟨x1, x2, x3, x4, x5⟩ | ⟨x1, x2, x3, x4, x5, x6, x7⟩ | ⟨x1, x2, x3, x4, e, x5, x6, x7, x8, x9, x10⟩
  · rcases b6 with ⟨y1, y2, y3, y4⟩ | ⟨y1, y2, y3⟩ | ⟨y1, y2, y3⟩
    · by_cases g : lim < size
      · rw [if_pos g] at x3 y3; exact Or.inr (Or.inl ⟨Or.inl x3, y3, x5⟩)
      · rw [if_neg g] at x3 y3; exact Or.inl ⟨x3, y3, x5⟩
    · exfalso; omega
    · exfalso; omega
  · rcases b6 with ⟨y1, y2⟩ | ⟨y1, y2, y3, y4, y5, y6⟩ | ⟨y1, y2, y3, y4, y5⟩
    · exfalso; omega
    · rcases x7 with ⟨z1, z2, z3⟩ | ⟨z1, z2⟩ <;> rcases y6 with ⟨w1, w2, w3⟩ | ⟨w1, w2⟩
      · exact Or.inr (Or.inr (Or.inr (Or.inr ⟨z2, w2, x6, by rw [z3, w3]⟩)))
      · exact absurd (z1.symm.trans w1) (by decide)
      · exact absurd (z1.symm.trans w1) (by decide)
      · exact Or.inr (Or.inl ⟨Or.inr z2, w2, x6⟩)
    · exact absurd (x4.symm.trans y4) Bool.false_ne_true
  · rcases b6 with ⟨y1, y2⟩ | ⟨y1, y2, y3, y4, y5⟩ | ⟨y1, y2, y3, y4, e', y5, y6, y7, y8, y9⟩
    · exfalso; omega
    · exact absurd (y4.symm.trans x4) Bool.false_ne_true
    · have := rne_u x5 y5
      subst this
      have e1 : q < e := by
        have g := x5.1
        by_cases h : q = e
        · rcases x5.2.2.2 with g2 | g2
          · omega
          · rw [← h, x4] at g2; cases g2
        · omega
      have cn := nLD _ e rfl x5.1 x5.2.2.1
      by_cases k3 : rkS c q e = 3
      · have z := x10 k3
        refine Or.inr (Or.inr (Or.inl ⟨by omega, by omega, ?_, ?_⟩))
        · rw [z.1, y9 k3]; exact nm_R x5 e1 k3
        · rw [z.1]; exact z.2
      · by_cases k4 : rkS c q e = 4
        · refine Or.inr (Or.inr (Or.inr (Or.inl ⟨by omega, by omega, x9 k3, ?_, ?_⟩)))
          · rw [x8 k4, y8 k4]
          · have nk : nL_ c q e = 0 ∧ nD_ c q e ≤ 3 := by
              unfold rkS at k4
              split at k4
              · omega
              · split at k4 <;> omega
            have bd := nu_bd (c := c) (q := q) _ e rfl (by omega) (by omega)
            have pw : (10 : Int) ^ (e - q).toNat ≤ 1000 := by
              have h2 : (e - q).toNat = 0 ∨ (e - q).toNat = 1 ∨ (e - q).toNat = 2 ∨ (e - q).toNat = 3 := by omega
              rcases h2 with h2 | h2 | h2 | h2 <;> rw [h2] <;> decide
            rw [x8 k4]
            omega
        · have : rkS c q e = 2 := by
            unfold rkS at k3 k4 ⊢
            repeat' split
            · rename_i g; rw [if_pos g] at k3; exact absurd rfl k3
            · rename_i g g2; rw [if_neg g, if_pos g2] at k4; exact absurd rfl k4
            · rfl
          exact Or.inr (Or.inl ⟨Or.inr (by omega), by omega, x9 k3⟩)
theorem tr_step (hn : 1000000 < n) (h : TR c size lim p σ τ) : Sm (f_Tok_step n σ) (f_M_go n τ) (fun s t => TR c size lim (σ 2 3) s t ∧ Agr wtkC σ s ∧ Agr mtkC τ t) := by
  have nx := tr_nx h
  obtain ⟨w, w1, w2, w3⟩ := e_Tok_step (p := σ 2 3) hn h.1.1 h.1.2.1 ⟨by have := h.1.2.2.1; omega, nx.2.2.1⟩ rfl
  obtain ⟨m, m1, m2, m3⟩ := e_M_go (p := σ 2 3) (lim := lim) hn (show msB c size lim (σ 2 3) τ from h.2.1) ⟨by have := h.1.2.2.1; omega, nx.2.2.1⟩ nx.1.symm
  exact ⟨w, m, w1, m1, ⟨w2, m2⟩, w3, m3⟩
theorem tr_ag {s t : JSg} (h : TR c size lim p σ τ) (h1 : ∀ a j, (a = 1 ∨ (a = 2 ∧ 1 ≤ j ∧ j ≤ 9)) → s a j = σ a j) (h2 : ∀ a j, (a = 180 ∨ (a = 179 ∧ 3 ≤ j ∧ j ≤ 12 ∧ j ≠ 10 ∧ j ≠ 11)) → t a j = τ a j) : TR c size lim p s t := by
  obtain ⟨⟨⟨a0, a00, a000⟩, a2, a3, q, a5, a6⟩, ⟨⟨b0, b00, b000, b0000⟩, b3, q', b5, b6⟩⟩ := h
  refine ⟨⟨⟨by rw [h1 2 1 (by omega)]; exact a0, a00, fun i i0 i1 => by rw [h1 1 _ (by omega)]; exact a000 i i0 i1⟩, by rw [h1 2 2 (by omega)]; exact a2, a3, q, a5, ?_⟩, ⟨⟨by rw [h2 179 3 (by omega)]; exact b0, by rw [h2 179 4 (by omega)]; exact b00, b000, fun i i0 i1 => by rw [h2 180 _ (by omega)]; exact b0000 i i0 i1⟩, b3, q', b5, ?_⟩⟩
  · rw [h1 2 3 (by omega), h1 2 4 (by omega), h1 2 5 (by omega), h1 2 6 (by omega), h1 2 7 (by omega), h1 2 8 (by omega), h1 2 9 (by omega)]; exact a6
  · rw [h2 179 5 (by omega), h2 179 6 (by omega), h2 179 7 (by omega), h2 179 8 (by omega), h2 179 9 (by omega), h2 179 12 (by omega)]; exact b6
/-! what is asked of a TOKEN -/
theorem tr_word (h : TR c size lim p σ τ) {k : Nat} (hk : k < 20) : f_M_isWord (k : Int) τ = some (bi (decide (σ 2 6 = (k : Int) + 1))) := by
  unfold f_M_isWord
  rw [wordOf_e k hk, b1_s]
  rcases tr_kd h with ⟨h1, h2, h3⟩ | ⟨h1, h2, h3⟩ | ⟨h1, h2, h3, h4⟩ | ⟨h1, h2, h3, h4⟩ | ⟨h1, h2, h3, h4⟩
  · rw [if_neg (by omega), decide_eq_false (by omega)]; rfl
  · rw [if_neg (by omega), decide_eq_false (by omega)]; rfl
  · rw [if_pos h2]
    have iff : σ 2 7 = kwE 32 k ↔ τ 179 12 = kwE 27 k := nmR_i h3 (kw_nm k hk)
    by_cases g : τ 179 12 = kwE 27 k
    · rw [if_pos (cmpL_0.mpr g)]
      have e := iff.mpr g
      rcases h4 with ⟨g1, g2⟩ | ⟨m, m1, m2, m3⟩
      · exact absurd e (g2 k hk)
      · have : m = k := by
          have hd : ∀ a : Nat, a < 20 → ∀ b : Nat, b < 20 → kwE 32 a = kwE 32 b → a = b := by decide +kernel
          exact hd m m1 k hk (m3.symm.trans e)
        rw [decide_eq_true (by rw [m2, this])]; rfl
    · rw [if_neg (fun q => g (cmpL_0.mp q)), decide_eq_false]
      · rfl
      · intro e
        rcases h4 with ⟨g1, g2⟩ | ⟨m, m1, m2, m3⟩
        · omega
        · have : m = k := by omega
          rw [this] at m3
          exact g (iff.mp m3)
  · rw [if_neg (by omega), decide_eq_false (by omega)]; rfl
  · rw [if_neg (by omega), decide_eq_false (by omega)]; rfl
theorem tr_name (hn : 1000000 < n) (h : TR c size lim p σ τ) : f_Tok_isName σ = some (bi (decide (σ 2 4 = 3 ∧ σ 2 6 = 0))) ∧ f_M_isName n τ = some (bi (decide (σ 2 4 = 3 ∧ σ 2 6 = 0))) := by
  refine ⟨?_, ?_⟩
  · unfold f_Tok_isName
    by_cases g : σ 2 4 = 3
    · rw [if_pos g]
      by_cases g2 : σ 2 6 = 0
      · rw [if_pos g2, decide_eq_true ⟨g, g2⟩]; rfl
      · rw [if_neg g2, decide_eq_false (fun q => g2 q.2)]; rfl
    · rw [if_neg g, decide_eq_false (fun q => g q.1)]; rfl
  · unfold f_M_isName
    rcases tr_kd h with ⟨h1, h2, h3⟩ | ⟨h1, h2, h3⟩ | ⟨h1, h2, h3, h4⟩ | ⟨h1, h2, h3, h4⟩ | ⟨h1, h2, h3, h4⟩
    · rw [if_neg (by omega), decide_eq_false (by omega)]; rfl
    · rw [if_neg (by omega), decide_eq_false (by omega)]; rfl
    · rw [if_pos h2]
      apply rt_eq
      refine rt_lt ?_
      refine rt_w1 (I := fun (x : Int) => ∃ k : Nat, x = k ∧ k ≤ 20 ∧ ∀ m : Nat, m < k → τ 179 12 ≠ kwE 27 m) (μ := fun (x : Int) => (20 - x).toNat) ?_ n _ ⟨0, rfl, by omega, fun m hm => by omega⟩ (by omega)
      rintro x ⟨k, rfl, k1, k2⟩ rc hrc
      refine rt_ite (fun g => rt_some ?_) (fun g => ?_)
      · rcases h4 with ⟨g1, g2⟩ | ⟨m, m1, m2, m3⟩
        · rw [decide_eq_true ⟨h1, g1⟩]; rfl
        · exact absurd ((nmR_i h3 (kw_nm m m1)).mp m3) (k2 m (by omega))
      · rw [wordOf_e k (by omega), b1_s]
        refine rt_ite (fun g2 => rt_some ?_) (fun g2 => ?_)
        · have e := cmpL_0.mp g2
          rcases h4 with ⟨g1, g3⟩ | ⟨m, m1, m2, m3⟩
          · exact absurd ((nmR_i h3 (kw_nm k (by omega))).mpr e) (g3 k (by omega))
          · rw [decide_eq_false (by omega)]; rfl
        · rw [lt_u, wi (by omega) (by omega)]
          refine hrc _ ⟨k + 1, by omega, by omega, fun m hm => ?_⟩ (by omega)
          by_cases e : m = k
          · rw [e]; exact fun q => g2 (cmpL_0.mpr q)
          · exact k2 m (by omega)
    · rw [if_neg (by omega), decide_eq_false (by omega)]; rfl
    · rw [if_neg (by omega), decide_eq_false (by omega)]; rfl
theorem tr_sign (h : TR c size lim p σ τ) {a : Int} : f_Tok_isSign a σ = some (bi (decide (σ 2 4 = 5 ∧ σ 2 9 = a))) ∧ f_M_isSign a τ = some (bi (decide (σ 2 4 = 5 ∧ σ 2 9 = a))) := by
  refine ⟨?_, ?_⟩
  · unfold f_Tok_isSign
    by_cases g : σ 2 4 = 5
    · rw [if_pos g]
      by_cases g2 : σ 2 9 = a
      · rw [if_pos g2, decide_eq_true ⟨g, g2⟩]; rfl
      · rw [if_neg g2, decide_eq_false (fun q => g2 q.2)]; rfl
    · rw [if_neg g, decide_eq_false (fun q => g q.1)]; rfl
  · unfold f_M_isSign
    rcases tr_kd h with ⟨h1, h2, h3⟩ | ⟨h1, h2, h3⟩ | ⟨h1, h2, h3, h4⟩ | ⟨h1, h2, h3, h4⟩ | ⟨h1, h2, h3, h4⟩
    · rw [if_neg (by omega), decide_eq_false (by omega)]; rfl
    · rw [if_neg (by omega), decide_eq_false (by omega)]; rfl
    · rw [if_neg (by omega), decide_eq_false (by omega)]; rfl
    · rw [if_neg (by omega), decide_eq_false (by omega)]; rfl
    · rw [if_pos h2, ← h4]
      by_cases g2 : σ 2 9 = a
      · rw [if_pos g2, decide_eq_true ⟨h1, g2⟩]; rfl
      · rw [if_neg g2, decide_eq_false (fun q => g2 q.2)]; rfl
/-- a FAULT told -/
def FR (s t : JSg) : Prop := s 2 12 = t 179 10 ∧ s 2 13 = t 179 11
def ftC (a j : Nat) : Prop := a = 2 ∧ (j = 12 ∨ j = 13)
def fmC (a j : Nat) : Prop := a = 179 ∧ (j = 10 ∨ j = 11)
theorem tr_fail (h : TR c size lim p σ τ) {k : Int} (hk : k = 1 ∨ τ 179 7 ≠ 1) : ∃ s t, f_Tok_fail k σ = some (0, s) ∧ f_M_bad k τ = some (0, t) ∧ FR s t ∧ Agr ftC σ s ∧ Agr fmC τ t := by
  have nx := tr_nx h
  have hb : f_M_bad k τ = some (0, sp (sp τ 179 10 k) 179 11 (τ 179 6)) := by
    unfold f_M_bad
    rw [j1_s]
    have e : ∀ x : Int, (lt_ (sp τ 179 10 x) fun s3 => lt_ (sp s3 179 11 (s3 179 6)) fun s4 => some ((0 : Int), s4)) = some (0, sp (sp τ 179 10 x) 179 11 (τ 179 6)) := fun x => by rw [lt_u, sp_nj (by decide), lt_u]
    by_cases g : τ 179 7 = 1
    · rw [if_pos g]
      rcases hk with hk | hk
      · rw [hk]; exact e 1
      · exact absurd g hk
    · rw [if_neg g]; exact e k
  refine ⟨sp (sp σ 2 12 k) 2 13 (σ 2 5), _, ?_, hb, ⟨?_, ?_⟩, ag_sp (ag_sp ag_refl (by unfold ftC; omega)) (by unfold ftC; omega), ag_sp (ag_sp ag_refl (by unfold fmC; omega)) (by unfold fmC; omega)⟩
  · unfold f_Tok_fail
    rw [lt_u, sp_nj (by decide), lt_u]
  · rw [sp_nj (by decide), sp_eq, sp_nj (by decide), sp_eq]
  · rw [sp_eq, sp_eq, nx.2.2.2.2.1]
end

