/-! LAYER 3a: how the pure texts are read -/
section
variable {α β γ Z : Type}
def Ret (o : Option Z) (P : Z → Prop) : Prop := ∃ z, o = some z ∧ P z
theorem rt_some {P : Z → Prop} {z : Z} (h : P z) : Ret (some z) P := ⟨z, rfl, h⟩
theorem rt_of {P : Z → Prop} {o : Option Z} {z : Z} (e : o = some z) (h : P z) : Ret o P := ⟨z, e, h⟩
theorem rt_mono {P R : Z → Prop} {o : Option Z} (h : Ret o R) (k : ∀ z, R z → P z) : Ret o P := by
  obtain ⟨z, e, hz⟩ := h
  exact ⟨z, e, k z hz⟩
theorem rt_b1 {o : Option α} {g : α → Option β} {R : α → Prop} {P : β → Prop} (h : Ret o R) (k : ∀ z, R z → Ret (g z) P) : Ret (bd1 o g) P := by
  obtain ⟨z, e, hz⟩ := h
  rw [e]
  exact k z hz
theorem rt_b2 {o : Option (α × β)} {g : α → β → Option γ} {R : α × β → Prop} {P : γ → Prop} (h : Ret o R) (k : ∀ x y, R (x, y) → Ret (g x y) P) : Ret (bd2 o g) P := by
  obtain ⟨⟨x, y⟩, e, hz⟩ := h
  rw [e]
  exact k x y hz
theorem rt_lt {P : Z → Prop} {v : α} {o : α → Option Z} (k : Ret (o v) P) : Ret (lt_ v o) P := k
theorem rt_chk {P : Z → Prop} {c : Prop} [Decidable c] {o : Option Z} (h : c) (k : Ret o P) : Ret (chk c o) P := by
  unfold chk
  rwa [if_pos h]
theorem rt_ite {P : Z → Prop} {c : Prop} [Decidable c] {a b : Option Z} (h1 : c → Ret a P) (h2 : ¬ c → Ret b P) : Ret (if c then a else b) P := by
  by_cases h : c
  · rw [if_pos h]; exact h1 h
  · rw [if_neg h]; exact h2 h
theorem lt_u {v : α} {o : α → β} : lt_ v o = o v := rfl
theorem b1_s {v : α} {g : α → Option β} : bd1 (some v) g = g v := rfl
theorem b2_s {x : α} {y : β} {g : α → β → Option γ} : bd2 (some (x, y)) g = g x y := rfl
theorem b1_e {o : Option α} {g : α → Option β} {z : α} (h : o = some z) : bd1 o g = g z := by rw [h]; rfl
theorem b2_e {o : Option (α × β)} {g : α → β → Option γ} {x : α} {y : β} (h : o = some (x, y)) : bd2 o g = g x y := by rw [h]; rfl
theorem ck_p {c : Prop} [Decidable c] {o : Option β} (h : c) : chk c o = o := if_pos h
end
theorem rt_w1 {A0 Z : Type} {F : (A0 → Option Z) → A0 → Option Z} {P : Z → Prop} (I : A0 → Prop) (μ : A0 → Nat) (hs : ∀ (x0 : A0), I x0 → ∀ rc, (∀ (y0 : A0), I y0 → μ y0 < μ x0 → Ret (rc y0) P) → Ret (F rc x0) P) : ∀ (n : Nat) (x0 : A0), I x0 → μ x0 < n → Ret (wh1 n F x0) P := by
  intro n
  induction n with
  | zero => intro x0 _ h; omega
  | succ n ih =>
    intro x0 hI hm
    exact hs x0 hI _ (fun y0 h1 h2 => ih y0 h1 (by omega))
theorem rt_c1 {A0 Z : Type} {K : A0 → Option Z} {T : (A0 → Option Z) → Option Z} {P : Z → Prop} (C : A0 → Prop) (k : ∀ (x0 : A0), C x0 → Ret (K x0) P) (h : ∀ j, (∀ (x0 : A0), C x0 → Ret (j x0) P) → Ret (T j) P) : Ret (jn1 K T) P := h K k
theorem j1_s {A0 Z : Type} {K : A0 → Option Z} {T : (A0 → Option Z) → Option Z} : jn1 K T = T K := rfl
theorem rt_w2 {A0 A1 Z : Type} {F : (A0 → A1 → Option Z) → A0 → A1 → Option Z} {P : Z → Prop} (I : A0 → A1 → Prop) (μ : A0 → A1 → Nat) (hs : ∀ (x0 : A0) (x1 : A1), I x0 x1 → ∀ rc, (∀ (y0 : A0) (y1 : A1), I y0 y1 → μ y0 y1 < μ x0 x1 → Ret (rc y0 y1) P) → Ret (F rc x0 x1) P) : ∀ (n : Nat) (x0 : A0) (x1 : A1), I x0 x1 → μ x0 x1 < n → Ret (wh2 n F x0 x1) P := by
  intro n
  induction n with
  | zero => intro x0 x1 _ h; omega
  | succ n ih =>
    intro x0 x1 hI hm
    exact hs x0 x1 hI _ (fun y0 y1 h1 h2 => ih y0 y1 h1 (by omega))
theorem rt_c2 {A0 A1 Z : Type} {K : A0 → A1 → Option Z} {T : (A0 → A1 → Option Z) → Option Z} {P : Z → Prop} (C : A0 → A1 → Prop) (k : ∀ (x0 : A0) (x1 : A1), C x0 x1 → Ret (K x0 x1) P) (h : ∀ j, (∀ (x0 : A0) (x1 : A1), C x0 x1 → Ret (j x0 x1) P) → Ret (T j) P) : Ret (jn2 K T) P := h K k
theorem j2_s {A0 A1 Z : Type} {K : A0 → A1 → Option Z} {T : (A0 → A1 → Option Z) → Option Z} : jn2 K T = T K := rfl
theorem rt_w3 {A0 A1 A2 Z : Type} {F : (A0 → A1 → A2 → Option Z) → A0 → A1 → A2 → Option Z} {P : Z → Prop} (I : A0 → A1 → A2 → Prop) (μ : A0 → A1 → A2 → Nat) (hs : ∀ (x0 : A0) (x1 : A1) (x2 : A2), I x0 x1 x2 → ∀ rc, (∀ (y0 : A0) (y1 : A1) (y2 : A2), I y0 y1 y2 → μ y0 y1 y2 < μ x0 x1 x2 → Ret (rc y0 y1 y2) P) → Ret (F rc x0 x1 x2) P) : ∀ (n : Nat) (x0 : A0) (x1 : A1) (x2 : A2), I x0 x1 x2 → μ x0 x1 x2 < n → Ret (wh3 n F x0 x1 x2) P := by
  intro n
  induction n with
  | zero => intro x0 x1 x2 _ h; omega
  | succ n ih =>
    intro x0 x1 x2 hI hm
    exact hs x0 x1 x2 hI _ (fun y0 y1 y2 h1 h2 => ih y0 y1 y2 h1 (by omega))
theorem rt_c3 {A0 A1 A2 Z : Type} {K : A0 → A1 → A2 → Option Z} {T : (A0 → A1 → A2 → Option Z) → Option Z} {P : Z → Prop} (C : A0 → A1 → A2 → Prop) (k : ∀ (x0 : A0) (x1 : A1) (x2 : A2), C x0 x1 x2 → Ret (K x0 x1 x2) P) (h : ∀ j, (∀ (x0 : A0) (x1 : A1) (x2 : A2), C x0 x1 x2 → Ret (j x0 x1 x2) P) → Ret (T j) P) : Ret (jn3 K T) P := h K k
theorem j3_s {A0 A1 A2 Z : Type} {K : A0 → A1 → A2 → Option Z} {T : (A0 → A1 → A2 → Option Z) → Option Z} : jn3 K T = T K := rfl
theorem rt_w4 {A0 A1 A2 A3 Z : Type} {F : (A0 → A1 → A2 → A3 → Option Z) → A0 → A1 → A2 → A3 → Option Z} {P : Z → Prop} (I : A0 → A1 → A2 → A3 → Prop) (μ : A0 → A1 → A2 → A3 → Nat) (hs : ∀ (x0 : A0) (x1 : A1) (x2 : A2) (x3 : A3), I x0 x1 x2 x3 → ∀ rc, (∀ (y0 : A0) (y1 : A1) (y2 : A2) (y3 : A3), I y0 y1 y2 y3 → μ y0 y1 y2 y3 < μ x0 x1 x2 x3 → Ret (rc y0 y1 y2 y3) P) → Ret (F rc x0 x1 x2 x3) P) : ∀ (n : Nat) (x0 : A0) (x1 : A1) (x2 : A2) (x3 : A3), I x0 x1 x2 x3 → μ x0 x1 x2 x3 < n → Ret (wh4 n F x0 x1 x2 x3) P := by
  intro n
  induction n with
  | zero => intro x0 x1 x2 x3 _ h; omega
  | succ n ih =>
    intro x0 x1 x2 x3 hI hm
    exact hs x0 x1 x2 x3 hI _ (fun y0 y1 y2 y3 h1 h2 => ih y0 y1 y2 y3 h1 (by omega))
theorem rt_c4 {A0 A1 A2 A3 Z : Type} {K : A0 → A1 → A2 → A3 → Option Z} {T : (A0 → A1 → A2 → A3 → Option Z) → Option Z} {P : Z → Prop} (C : A0 → A1 → A2 → A3 → Prop) (k : ∀ (x0 : A0) (x1 : A1) (x2 : A2) (x3 : A3), C x0 x1 x2 x3 → Ret (K x0 x1 x2 x3) P) (h : ∀ j, (∀ (x0 : A0) (x1 : A1) (x2 : A2) (x3 : A3), C x0 x1 x2 x3 → Ret (j x0 x1 x2 x3) P) → Ret (T j) P) : Ret (jn4 K T) P := h K k
theorem j4_s {A0 A1 A2 A3 Z : Type} {K : A0 → A1 → A2 → A3 → Option Z} {T : (A0 → A1 → A2 → A3 → Option Z) → Option Z} : jn4 K T = T K := rfl
theorem rt_w5 {A0 A1 A2 A3 A4 Z : Type} {F : (A0 → A1 → A2 → A3 → A4 → Option Z) → A0 → A1 → A2 → A3 → A4 → Option Z} {P : Z → Prop} (I : A0 → A1 → A2 → A3 → A4 → Prop) (μ : A0 → A1 → A2 → A3 → A4 → Nat) (hs : ∀ (x0 : A0) (x1 : A1) (x2 : A2) (x3 : A3) (x4 : A4), I x0 x1 x2 x3 x4 → ∀ rc, (∀ (y0 : A0) (y1 : A1) (y2 : A2) (y3 : A3) (y4 : A4), I y0 y1 y2 y3 y4 → μ y0 y1 y2 y3 y4 < μ x0 x1 x2 x3 x4 → Ret (rc y0 y1 y2 y3 y4) P) → Ret (F rc x0 x1 x2 x3 x4) P) : ∀ (n : Nat) (x0 : A0) (x1 : A1) (x2 : A2) (x3 : A3) (x4 : A4), I x0 x1 x2 x3 x4 → μ x0 x1 x2 x3 x4 < n → Ret (wh5 n F x0 x1 x2 x3 x4) P := by
  intro n
  induction n with
  | zero => intro x0 x1 x2 x3 x4 _ h; omega
  | succ n ih =>
    intro x0 x1 x2 x3 x4 hI hm
    exact hs x0 x1 x2 x3 x4 hI _ (fun y0 y1 y2 y3 y4 h1 h2 => ih y0 y1 y2 y3 y4 h1 (by omega))
theorem rt_c5 {A0 A1 A2 A3 A4 Z : Type} {K : A0 → A1 → A2 → A3 → A4 → Option Z} {T : (A0 → A1 → A2 → A3 → A4 → Option Z) → Option Z} {P : Z → Prop} (C : A0 → A1 → A2 → A3 → A4 → Prop) (k : ∀ (x0 : A0) (x1 : A1) (x2 : A2) (x3 : A3) (x4 : A4), C x0 x1 x2 x3 x4 → Ret (K x0 x1 x2 x3 x4) P) (h : ∀ j, (∀ (x0 : A0) (x1 : A1) (x2 : A2) (x3 : A3) (x4 : A4), C x0 x1 x2 x3 x4 → Ret (j x0 x1 x2 x3 x4) P) → Ret (T j) P) : Ret (jn5 K T) P := h K k
theorem j5_s {A0 A1 A2 A3 A4 Z : Type} {K : A0 → A1 → A2 → A3 → A4 → Option Z} {T : (A0 → A1 → A2 → A3 → A4 → Option Z) → Option Z} : jn5 K T = T K := rfl
theorem rt_w6 {A0 A1 A2 A3 A4 A5 Z : Type} {F : (A0 → A1 → A2 → A3 → A4 → A5 → Option Z) → A0 → A1 → A2 → A3 → A4 → A5 → Option Z} {P : Z → Prop} (I : A0 → A1 → A2 → A3 → A4 → A5 → Prop) (μ : A0 → A1 → A2 → A3 → A4 → A5 → Nat) (hs : ∀ (x0 : A0) (x1 : A1) (x2 : A2) (x3 : A3) (x4 : A4) (x5 : A5), I x0 x1 x2 x3 x4 x5 → ∀ rc, (∀ (y0 : A0) (y1 : A1) (y2 : A2) (y3 : A3) (y4 : A4) (y5 : A5), I y0 y1 y2 y3 y4 y5 → μ y0 y1 y2 y3 y4 y5 < μ x0 x1 x2 x3 x4 x5 → Ret (rc y0 y1 y2 y3 y4 y5) P) → Ret (F rc x0 x1 x2 x3 x4 x5) P) : ∀ (n : Nat) (x0 : A0) (x1 : A1) (x2 : A2) (x3 : A3) (x4 : A4) (x5 : A5), I x0 x1 x2 x3 x4 x5 → μ x0 x1 x2 x3 x4 x5 < n → Ret (wh6 n F x0 x1 x2 x3 x4 x5) P := by
  intro n
  induction n with
  | zero => intro x0 x1 x2 x3 x4 x5 _ h; omega
  | succ n ih =>
    intro x0 x1 x2 x3 x4 x5 hI hm
    exact hs x0 x1 x2 x3 x4 x5 hI _ (fun y0 y1 y2 y3 y4 y5 h1 h2 => ih y0 y1 y2 y3 y4 y5 h1 (by omega))
theorem rt_c6 {A0 A1 A2 A3 A4 A5 Z : Type} {K : A0 → A1 → A2 → A3 → A4 → A5 → Option Z} {T : (A0 → A1 → A2 → A3 → A4 → A5 → Option Z) → Option Z} {P : Z → Prop} (C : A0 → A1 → A2 → A3 → A4 → A5 → Prop) (k : ∀ (x0 : A0) (x1 : A1) (x2 : A2) (x3 : A3) (x4 : A4) (x5 : A5), C x0 x1 x2 x3 x4 x5 → Ret (K x0 x1 x2 x3 x4 x5) P) (h : ∀ j, (∀ (x0 : A0) (x1 : A1) (x2 : A2) (x3 : A3) (x4 : A4) (x5 : A5), C x0 x1 x2 x3 x4 x5 → Ret (j x0 x1 x2 x3 x4 x5) P) → Ret (T j) P) : Ret (jn6 K T) P := h K k
theorem j6_s {A0 A1 A2 A3 A4 A5 Z : Type} {K : A0 → A1 → A2 → A3 → A4 → A5 → Option Z} {T : (A0 → A1 → A2 → A3 → A4 → A5 → Option Z) → Option Z} : jn6 K T = T K := rfl
theorem rt_c0 {Z : Type} {K : Option Z} {T : Option Z → Option Z} {P : Z → Prop} (C : Prop) (k : C → Ret K P) (h : ∀ j, (C → Ret j P) → Ret (T j) P) : Ret (jn0 K T) P := h K k
theorem j0_s {Z : Type} {K : Option Z} {T : Option Z → Option Z} : jn0 K T = T K := rfl
theorem wi {x : Int} (h1 : -2147483648 ≤ x) (h2 : x < 2147483648) : w32 x = x := w32_id ⟨h1, h2⟩
theorem wj {x : Int} (h1 : -9223372036854775808 ≤ x) (h2 : x < 9223372036854775808) : w64 x = x := w64_id ⟨h1, h2⟩
theorem dv_p {x y : Int} (h1 : 0 ≤ x) (h2 : x < 2147483648) (h3 : 0 < y) (h4 : y < 2147483648) : dv32 x y = x / y := by
  unfold dv32
  rw [Int32.toInt_div, t_i32 ⟨by omega, by omega⟩, t_i32 ⟨by omega, by omega⟩, Int.tdiv_eq_ediv_of_nonneg h1]
  have h5 : 0 ≤ x / y := Int.ediv_nonneg h1 (by omega)
  have h6 : x / y ≤ x := Int.ediv_le_self y h1
  exact Int.bmod_eq_of_le (by omega) (by omega)
theorem rm_p {x y : Int} (h1 : 0 ≤ x) (h2 : x < 2147483648) (h3 : 0 < y) (h4 : y < 2147483648) : rm32 x y = x % y := by
  have e : i32 x / i32 y = i32 (x / y) := by
    have := dv_p h1 h2 h3 h4
    unfold dv32 at this
    rw [← i32_t (i32 x / i32 y), this]
  unfold rm32
  rw [e, ← i32_mul, ← i32_sub, ]
  show (i32 (w32 (x - w32 (x / y * y)))).toInt = _
  have h5 : 0 ≤ x / y := Int.ediv_nonneg h1 (by omega)
  have h7 := Int.emod_nonneg x (show y ≠ 0 by omega)
  have h8 := Int.emod_lt_of_pos x h3
  have h6 : x / y * y = x - x % y := by
    have := Int.emod_add_mul_ediv x y
    rw [Int.mul_comm]
    omega
  have h9 : x % y ≤ x := by
    have : 0 ≤ x / y * y := Int.mul_nonneg h5 (by omega)
    omega
  rw [h6, wi (x := x - x % y) (by omega) (by omega), wi (x := x - (x - x % y)) (by omega) (by omega), t_i32 ⟨by omega, by omega⟩]
  omega
/-! bits -/
def bt (x : Int) (k : Nat) : Bool := (i32 x).toBitVec.getLsbD k
theorem i32_or (x y : Int) : i32 (or32 x y) = i32 x ||| i32 y := i32_t _
theorem i32_and (x y : Int) : i32 (an32 x y) = i32 x &&& i32 y := i32_t _
theorem i32_xor (x y : Int) : i32 (xr32 x y) = i32 x ^^^ i32 y := i32_t _
theorem i32_sl (x y : Int) : i32 (sl32 x y) = i32 x <<< (i32 y &&& 31) := i32_t _
theorem i32_sr (x y : Int) : i32 (sr32 x y) = i32 x >>> (i32 y &&& 31) := i32_t _
theorem bt_or (x y : Int) (k : Nat) : bt (or32 x y) k = (bt x k || bt y k) := by
  unfold bt
  rw [i32_or, Int32.toBitVec_or, BitVec.getLsbD_or]
theorem bt_and (x y : Int) (k : Nat) : bt (an32 x y) k = (bt x k && bt y k) := by
  unfold bt
  rw [i32_and, Int32.toBitVec_and, BitVec.getLsbD_and]
theorem bt_xor (x y : Int) (k : Nat) : bt (xr32 x y) k = (bt x k ^^ bt y k) := by
  unfold bt
  rw [i32_xor, Int32.toBitVec_xor, BitVec.getLsbD_xor]
theorem amt32 : ∀ k : Nat, k < 32 → ((i32 (k : Int) &&& 31).toBitVec.smod 32).toNat = k := by decide +kernel
theorem amt_i {y : Int} (h0 : 0 ≤ y) (h1 : y < 32) : ((i32 y &&& 31).toBitVec.smod 32).toNat = y.toNat := by
  have := amt32 y.toNat (by omega)
  rwa [show ((y.toNat : Nat) : Int) = y by omega] at this
theorem bt_sl {x y : Int} {k : Nat} (h0 : 0 ≤ y) (h1 : y < 32) : bt (sl32 x y) k = (decide (k < 32) && !decide (k < y.toNat) && bt x (k - y.toNat)) := by
  unfold bt
  rw [i32_sl, Int32.toBitVec_shiftLeft, BitVec.shiftLeft_eq', amt_i h0 h1, BitVec.getLsbD_shiftLeft]
theorem bt_sr {x y : Int} {k : Nat} (h0 : 0 ≤ y) (h1 : y + k < 32) : bt (sr32 x y) k = bt x (y.toNat + k) := by
  unfold bt
  rw [i32_sr, Int32.toBitVec_shiftRight, BitVec.sshiftRight_eq', amt_i h0 (by omega), BitVec.getLsbD_sshiftRight]
  rw [if_pos (by omega)]
  simp
  omega
theorem bt_0 (k : Nat) : bt 0 k = false := by
  unfold bt
  simp [i32]
theorem bt_one (k : Nat) : bt 1 k = decide (k = 0) := by
  unfold bt
  have : (i32 1).toBitVec = 1#32 := by decide
  rw [this]
  by_cases h : k = 0
  · subst h; decide
  · simp [h]
theorem bt_hi {x : Int} {k : Nat} (h : 32 ≤ k) : bt x k = false := BitVec.getLsbD_of_ge _ _ h
theorem bt_ext {x y : Int} (hx : okI x) (hy : okI y) (h : ∀ k, k < 32 → bt x k = bt y k) : x = y := by
  have e : i32 x = i32 y := by
    apply Int32.toBitVec_inj.mp
    apply BitVec.eq_of_getLsbD_eq
    intro i hi
    exact h i hi
  rw [← t_i32 hx, ← t_i32 hy, e]
theorem ok_or (x y : Int) : okI (or32 x y) := ok32 _
theorem ok_an (x y : Int) : okI (an32 x y) := ok32 _
theorem ok_xr (x y : Int) : okI (xr32 x y) := ok32 _
theorem ok_sl (x y : Int) : okI (sl32 x y) := ok32 _
theorem ok_sr (x y : Int) : okI (sr32 x y) := ok32 _
theorem bt_bit {k : Int} {j : Nat} (h0 : 0 ≤ k) (h1 : k < 32) : bt (sl32 1 k) j = decide ((j : Int) = k) := by
  rw [bt_sl h0 h1, bt_one]
  by_cases h : (j : Int) = k
  · have e : j = k.toNat := by omega
    subst e
    simp [h]
    omega
  · rw [decide_eq_false h]
    by_cases h2 : j < k.toNat
    · simp [h2]
    · have : ¬ (j - k.toNat = 0) := by omega
      simp [this]
theorem an_one {x : Int} : an32 x 1 = if bt x 0 then 1 else 0 := by
  apply bt_ext (ok_an _ _)
  · split <;> constructor <;> decide
  · intro k _
    rw [bt_and, bt_one]
    by_cases h : k = 0
    · subst h
      cases h2 : bt x 0
      · simp [bt_0]
      · simp [bt_one]
    · cases h2 : bt x 0
      · simp [bt_0, h]
      · simp [bt_one, h]
theorem has_e {x k : Int} (h0 : 0 ≤ k) (h1 : k < 32) : an32 (sr32 x k) 1 = if bt x k.toNat then 1 else 0 := by
  rw [an_one, bt_sr h0 (by omega)]
  rfl
/-! words as numbers of Nat -/
theorem bv_nat (a : Nat) : (i32 (a : Int)).toBitVec = BitVec.ofNat 32 a := BitVec.ofInt_natCast 32 a
theorem i32_ext {x y : Int} (hx : okI x) (hy : okI y) (h : (i32 x).toBitVec = (i32 y).toBitVec) : x = y := by
  rw [← t_i32 hx, ← t_i32 hy, Int32.toBitVec_inj.mp h]
theorem ok_nat {a : Nat} (h : a < 2147483648) : okI (a : Int) := ⟨by omega, by omega⟩
theorem or_n {a b : Nat} (ha : a < 2147483648) (hb : b < 2147483648) : or32 (a : Int) (b : Int) = ((a ||| b : Nat) : Int) := by
  refine i32_ext (ok_or _ _) (ok_nat (Nat.or_lt_two_pow (n := 31) ha hb)) ?_
  rw [i32_or, Int32.toBitVec_or, bv_nat, bv_nat, bv_nat, BitVec.ofNat_or]
theorem an_n {a b : Nat} (ha : a < 2147483648) : an32 (a : Int) (b : Int) = ((a &&& b : Nat) : Int) := by
  refine i32_ext (ok_an _ _) (ok_nat (Nat.lt_of_le_of_lt Nat.and_le_left ha)) ?_
  rw [i32_and, Int32.toBitVec_and, bv_nat, bv_nat, bv_nat, BitVec.ofNat_and]
theorem xr_n {a b : Nat} (ha : a < 2147483648) (hb : b < 2147483648) : xr32 (a : Int) (b : Int) = ((a ^^^ b : Nat) : Int) := by
  refine i32_ext (ok_xr _ _) (ok_nat (Nat.xor_lt_two_pow (n := 31) ha hb)) ?_
  rw [i32_xor, Int32.toBitVec_xor, bv_nat, bv_nat, bv_nat, BitVec.ofNat_xor]
theorem bt_n {a k : Nat} (ha : a < 2147483648) : bt (a : Int) k = a.testBit k := by
  unfold bt
  rw [bv_nat, BitVec.getLsbD_ofNat]
  by_cases h : k < 32
  · simp [h]
  · have : a.testBit k = false := Nat.testBit_lt_two_pow (Nat.lt_of_lt_of_le ha (Nat.pow_le_pow_right (n := 2) (by decide) (show 31 ≤ k by omega)))
    simp [this]
theorem sl_n {a k : Nat} (h : a <<< k < 2147483648) (hk : k < 32) : sl32 (a : Int) (k : Int) = ((a <<< k : Nat) : Int) := by
  refine i32_ext (ok_sl _ _) (ok_nat h) ?_
  rw [i32_sl, Int32.toBitVec_shiftLeft, BitVec.shiftLeft_eq', amt32 k hk, bv_nat, bv_nat]
  apply BitVec.eq_of_toNat_eq
  simp [BitVec.toNat_shiftLeft, Nat.shiftLeft_eq, Nat.mod_mul_mod]
theorem sr_n {a k : Nat} (h : a < 2147483648) (hk : k < 32) : sr32 (a : Int) (k : Int) = ((a >>> k : Nat) : Int) := by
  refine i32_ext (ok_sr _ _) (ok_nat (Nat.lt_of_le_of_lt (Nat.shiftRight_le _ _) h)) ?_
  rw [i32_sr, Int32.toBitVec_shiftRight, BitVec.sshiftRight_eq', amt32 k hk, bv_nat, bv_nat]
  have hm : (BitVec.ofNat 32 a).msb = false := by
    rw [BitVec.msb_eq_false_iff_two_mul_lt]
    simp
    omega
  rw [BitVec.sshiftRight_eq_of_msb_false hm]
  apply BitVec.eq_of_toNat_eq
  simp only [BitVec.toNat_ushiftRight, BitVec.toNat_ofNat]
  rw [Nat.mod_eq_of_lt (by omega : a < 2^32), Nat.mod_eq_of_lt]
  exact Nat.lt_of_le_of_lt (Nat.shiftRight_le _ _) (by omega)
/-! cells -/
theorem sp_at {σ : JSg} {p j q i : Nat} {x : Int} : sp σ p j x q i = if q = p then (if i = j then x else σ q i) else σ q i := rfl
theorem sp_eq {σ : JSg} {p j : Nat} {x : Int} : sp σ p j x p j = x := by simp [sp]
theorem sp_nq {σ : JSg} {p j q : Nat} {x : Int} (h : q ≠ p) : sp σ p j x q = σ q := by
  funext i
  simp [sp, h]
theorem sp_nj {σ : JSg} {p j q i : Nat} {x : Int} (h : i ≠ j) : sp σ p j x q i = σ q i := by
  simp [sp, h]
theorem acp_eq {σ : JSg} {p a q b n i : Nat} (h1 : b ≤ i) (h2 : i < b + n) : acp σ p a q b n q i = σ p (a + (i - b)) := by
  simp [acp, h1, h2]
theorem acp_at {σ : JSg} {p a q b n k i : Nat} : acp σ p a q b n k i = if k = q ∧ b ≤ i ∧ i < b + n then σ p (a + (i - b)) else σ k i := rfl
def Agr (b : Nat → Nat → Prop) (σ τ : JSg) : Prop := ∀ p j, ¬ b p j → τ p j = σ p j
theorem ag_refl {b : Nat → Nat → Prop} {σ : JSg} : Agr b σ σ := fun _ _ _ => rfl
theorem ag_tr {b : Nat → Nat → Prop} {σ τ υ : JSg} (h1 : Agr b σ τ) (h2 : Agr b τ υ) : Agr b σ υ := fun p j h => (h2 p j h).trans (h1 p j h)
theorem ag_mono {b c : Nat → Nat → Prop} {σ τ : JSg} (h : Agr b σ τ) (hb : ∀ p j, b p j → c p j) : Agr c σ τ := fun p j hc => h p j (fun q => hc (hb p j q))
theorem ag_sp {b : Nat → Nat → Prop} {σ τ : JSg} {p j : Nat} {x : Int} (h : Agr b σ τ) (hb : b p j) : Agr b σ (sp τ p j x) := fun q i hq => by
  rw [sp_at]
  by_cases h1 : q = p
  · by_cases h2 : i = j
    · subst h1; subst h2; exact absurd hb hq
    · rw [if_pos h1, if_neg h2]; exact h q i hq
  · rw [if_neg h1]; exact h q i hq
theorem ag_acp {b : Nat → Nat → Prop} {σ τ : JSg} {p a q c n : Nat} (h : Agr b σ τ) (hb : ∀ i, c ≤ i → i < c + n → b q i) : Agr b σ (acp τ p a q c n) := fun k i hk => by
  rw [acp_at]
  by_cases h1 : k = q ∧ c ≤ i ∧ i < c + n
  · rw [if_pos h1]
    obtain ⟨rfl, h2, h3⟩ := h1
    exact absurd (hb i h2 h3) hk
  · rw [if_neg h1]; exact h k i hk
theorem ag_fn {b : Nat → Nat → Prop} {σ τ : JSg} {p : Nat} (h : Agr b σ τ) (hb : ∀ j, ¬ b p j) : τ p = σ p := funext fun j => h p j (hb j)
