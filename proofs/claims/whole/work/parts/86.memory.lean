/-! LAYER 3zk: a MEMORY read on both sides -/
section
theorem or_bd28 {x k : Int} (hx : 0 ≤ x ∧ x < 268435456) (hk : 0 ≤ k ∧ k < 28) : 0 ≤ or32 x (sl32 1 k) ∧ or32 x (sl32 1 k) < 268435456 := by
  obtain ⟨a, rfl⟩ : ∃ a : Nat, x = a := ⟨x.toNat, by omega⟩
  obtain ⟨m, rfl⟩ : ∃ m : Nat, k = m := ⟨k.toNat, by omega⟩
  have h : ∀ m : Nat, m < 28 → 1 <<< m < 268435456 := by decide +kernel
  have hm := h m (by omega)
  have e : sl32 1 (m : Int) = ((1 <<< m : Nat) : Int) := sl_n (a := 1) (k := m) (by omega) (by omega)
  rw [e, or_n (by omega) (by omega)]
  have := Nat.or_lt_two_pow (n := 28) (x := a) (y := 1 <<< m) (by omega) (by omega)
  omega
variable {σ τ : JSg} {n p : Nat} {c : JA} {size lim q : Int}
/-- what a MEMORY is read against -/
def BkP (σ τ : JSg) : Prop := WfI (τ 181) ∧ IslR σ 4 (τ 181) ∧ ∀ w : Int, 0 ≤ w → w < τ 181 0 → nmR (σ 5 w.toNat) (τ 185 w.toNat)
/-- the memories in the making: the class's fresh one at 41, the reference's row 197 -/
def MemP (σ τ : JSg) : Prop := (σ 41 1 = τ 179 41 ∧ 0 ≤ τ 179 41 ∧ τ 179 41 < 128) ∧ (σ 41 3 = τ 197 1 ∧ 0 ≤ τ 197 1 ∧ τ 197 1 < 268435456) ∧ (∀ s : Int, τ 181 1 ≤ s → bt (τ 197 1) s.toNat = false) ∧ (∀ w : Int, 0 ≤ w → w < 6 → (σ 42 w.toNat = τ 197 (2 + w).toNat ∧ 0 ≤ τ 197 (2 + w).toNat ∧ τ 197 (2 + w).toNat ≤ 7) ∧ (σ 43 w.toNat = τ 197 (8 + w).toNat ∧ 0 ≤ τ 197 (8 + w).toNat ∧ τ 197 (8 + w).toNat < 128)) ∧ σ 2 12 = τ 179 10
def wrM (a j : Nat) : Prop := (a = 2 ∧ 3 ≤ j) ∨ (a = 41 ∧ 1 ≤ j) ∨ a = 42 ∨ a = 43
def mrM (a j : Nat) : Prop := (a = 179 ∧ ((5 ≤ j ∧ j ≤ 13) ∨ j = 41)) ∨ (a = 197 ∧ 1 ≤ j)
theorem MemP_ag {s t : JSg} (h : MemP σ τ) (h1 : ∀ a j, (a = 41 ∧ (j = 1 ∨ j = 3)) ∨ a = 42 ∨ a = 43 ∨ (a = 2 ∧ j = 12) → s a j = σ a j) (h2 : ∀ a j, a = 181 ∨ (a = 197 ∧ 1 ≤ j) ∨ (a = 179 ∧ (j = 41 ∨ j = 10)) → t a j = τ a j) : MemP s t := by
  obtain ⟨a1, a2, a3, a4, a5⟩ := h
  refine ⟨?_, ?_, fun d d0 => ?_, fun w w0 w1 => ?_, ?_⟩
  · rw [h1 _ _ (by omega), h2 _ _ (by omega)]; exact a1
  · rw [h1 _ _ (by omega), h2 _ _ (by omega)]; exact a2
  · rw [h2 181 1 (by omega)] at d0
    rw [h2 _ _ (by omega)]; exact a3 d d0
  · rw [h1 _ _ (by omega), h1 _ _ (by omega), h2 _ _ (by omega), h2 _ _ (by omega)]; exact a4 w w0 w1
  · rw [h1 _ _ (by omega), h2 _ _ (by omega)]; exact a5
theorem BkP_ag {s t : JSg} (h : BkP σ τ) (h1 : ∀ a j, 4 ≤ a ∧ a ≤ 21 → s a j = σ a j) (h2 : ∀ a j, a = 181 ∨ a = 185 → t a j = τ a j) : BkP s t := by
  obtain ⟨a1, a2, a3⟩ := h
  have e1 : t 181 = τ 181 := funext fun j => h2 _ _ (by omega)
  unfold BkP
  rw [e1]
  refine ⟨a1, IslR_ag (fun q j hq => h1 q j (by omega)) a2, fun w w0 w1 => ?_⟩
  rw [h1 _ _ (by omega), h2 _ _ (by omega)]; exact a3 w w0 w1
/-- how a LINE of a MEMORY ends -/
def LmP (c : JA) (size lim : Int) (σ τ : JSg) (nx : Int) (z y : Int × JSg) : Prop := Agr wrM σ z.2 ∧ Agr mrM τ y.2 ∧ ((z.1 = 0 ∧ y.1 = 0 ∧ FR z.2 y.2) ∨ (z.1 = 1 ∧ y.1 = 1 ∧ MemP z.2 y.2 ∧ ∃ p', TR c size lim p' z.2 y.2 ∧ nx ≤ p'))
end
