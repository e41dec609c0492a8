/-! LAYER 3zax: the GAME of two: the class's bits -/
section
variable {A : JA} {h : List Int} {a b : Int} {x y : Stt} {t : Nat} {s σ : JSg} {n : Nat}
theorem sr64_sh : ∀ k : Nat, k < 64 → (((i32 (k : Int)).toInt64 &&& 63).toBitVec.smod 64).toNat = k := by decide +kernel
theorem bt_sr64 {x : Int} {m j : Nat} (hm : m < 64) (hj : m + j < 64) (h32 : j < 32) : bt (w32 (sr64 x (m : Int))) j = b64 x (m + j) := by
  unfold bt b64
  rw [i32_w]
  have e1 : i32 (sr64 x (m : Int)) = (i64 x >>> ((i32 (m : Int)).toInt64 &&& 63)).toInt32 := Int32.ofInt_int64ToInt _
  rw [e1, Int64.toBitVec_toInt32, BitVec.getLsbD_signExtend, decide_eq_true h32, if_pos (show j < 64 by omega), Bool.true_and, Int64.toBitVec_shiftRight, BitVec.sshiftRight_eq', sr64_sh m hm, BitVec.getLsbD_sshiftRight, if_pos hj, decide_eq_false (show ¬ 64 ≤ j by omega)]
  rfl
def b2n (c : Bool) : Nat := if c then 1 else 0
/-- two bits -/
theorem fld_e {x : Int} {k : Nat} (hk : k < 32) : an32 (w32 (sr64 x ((2 * k : Nat) : Int))) 3 = ((b2n (b64 x (2 * k)) + 2 * b2n (b64 x (2 * k + 1)) : Nat) : Int) := by
  have v : ∀ p q : Bool, (b2n p + 2 * b2n q) < 4 ∧ ∀ j, (b2n p + 2 * b2n q).testBit j = (decide (j = 0) && p || decide (j = 1) && q) := by
    intro p q
    refine ⟨by cases p <;> cases q <;> decide, fun j => ?_⟩
    rcases j with _ | _ | j
    · cases p <;> cases q <;> decide
    · cases p <;> cases q <;> decide
    · have e : (b2n p + 2 * b2n q).testBit (j + 2) = false := Nat.testBit_lt_two_pow (Nat.lt_of_lt_of_le (show b2n p + 2 * b2n q < 2 ^ 2 by cases p <;> cases q <;> decide) (Nat.pow_le_pow_right (n := 2) (by decide) (by omega)))
      rw [show j + 1 + 1 = j + 2 by omega, e]
      simp
  obtain ⟨v1, v2⟩ := v (b64 x (2 * k)) (b64 x (2 * k + 1))
  refine bt_ext (ok_an _ _) ⟨by omega, by omega⟩ (fun j hj => ?_)
  rw [bt_and, bt_n (by omega), v2]
  have b3 : ∀ j, j < 32 → bt 3 j = (decide (j = 0) || decide (j = 1)) := by decide +kernel
  rw [b3 j hj]
  by_cases j0 : j = 0
  · subst j0
    rw [bt_sr64 (by omega) (by omega) (by omega)]
    simp
  · by_cases j1 : j = 1
    · subst j1
      rw [bt_sr64 (by omega) (by omega) (by omega)]
      simp
    · simp [j0, j1]
theorem sl2_b : ∀ v : Nat, v < 4 → ∀ k : Nat, k < 32 → (i64 (sl64 (v : Int) ((2 * k : Nat) : Int))).toBitVec = (if v % 2 = 1 then BitVec.twoPow 64 (2 * k) else 0#64) ||| (if v / 2 = 1 then BitVec.twoPow 64 (2 * k + 1) else 0#64) := by decide +kernel
theorem fld_put {x : Int} {k v j : Nat} (hk : k < 32) (hv : v < 4) (hj : j < 64) : b64 (or64 x (sl64 (v : Int) ((2 * k : Nat) : Int))) j = (b64 x j || (decide (v % 2 = 1 ∧ j = 2 * k) || decide (v / 2 = 1 ∧ j = 2 * k + 1))) := by
  unfold b64
  rw [i64_or, Int64.toBitVec_or, BitVec.getLsbD_or, sl2_b v hv k hk, BitVec.getLsbD_or]
  congr 1
  have g : ∀ (c : Prop) [Decidable c] (m : Nat), m < 64 → (if c then BitVec.twoPow 64 m else 0#64).getLsbD j = decide (c ∧ j = m) := by
    intro c _ m hm
    by_cases q : c
    · rw [if_pos q, BitVec.getLsbD_twoPow]
      by_cases e : m = j
      · subst e; simp [q, hm]
      · have e2 : ¬ j = m := fun z => e z.symm
        simp [e, e2]
    · rw [if_neg q, BitVec.getLsbD_zero]
      simp [q]
  rw [g _ _ (by omega), g _ _ (by omega)]
/-- the stones that are not laid -/
def cplG (N S : Nat) : Nat := (2 ^ N - 1) ^^^ S
theorem cpl_b {N S i : Nat} : (cplG N S).testBit i = (decide (i < N) ^^ S.testBit i) := by
  unfold cplG
  rw [Nat.testBit_xor, Nat.testBit_two_pow_sub_one]
theorem cpl_lt {N S : Nat} (hS : S < 2 ^ N) : cplG N S < 2 ^ N := Nat.xor_lt_two_pow (by have := Nat.two_pow_pos N; omega) hS
theorem cpl_i {N S i : Nat} (hi : i < N) : (cplG N S).testBit i = !S.testBit i := by
  rw [cpl_b, decide_eq_true hi]
  cases S.testBit i <;> rfl
theorem n32 {S N i : Nat} (hN : N ≤ 10) (hS : S < 2 ^ N) (hi : N ≤ i) : S.testBit i = false := Nat.testBit_lt_two_pow (Nat.lt_of_lt_of_le hS (Nat.pow_le_pow_right (n := 2) (by decide) hi))
theorem cpl_del {N S i : Nat} (hN : N ≤ 10) (hS : S < 2 ^ N) (hi : i < N) (hb : S.testBit i = false) : an32 (cplG N S : Int) (xr32 (sl32 1 (i : Int)) (-1)) = (cplG N (ins S i) : Nat) := by
  have p : 2 ^ N ≤ 1024 := Nat.pow_le_pow_right (n := 2) (by decide) hN
  have l1 := cpl_lt hS
  have l2 := cpl_lt (ins_lt hS hi)
  refine bt_ext (ok_an _ _) ⟨by omega, by omega⟩ (fun k hk => ?_)
  rw [bt_and, bt_xor, bt_m1 k hk, bt_bit (by omega) (by omega), bt_n (by omega), bt_n (by omega), cpl_b, cpl_b, ins_b]
  by_cases e : k = i
  · subst e
    rw [decide_eq_true hi, hb]
    simp
  · have e1 : ¬ ((k : Int) = (i : Int)) := by omega
    have e2 : ¬ i = k := fun q => e q.symm
    simp [e1, e2]
/-- the class's number of a state -/
def sW (N : Nat) (x : Stt) (t : Nat) : Nat := ((cplG N x.1 * 8 + x.2.1) * 8 + x.2.2) * 2 + t
theorem sW_e {R l r : Nat} (hR : R < 1024) (hl : l < 7) (hr : r < 7) (ht : t < 2) : or32 (sl32 (or32 (sl32 (or32 (sl32 (R : Int) 3) (l : Int)) 3) (r : Int)) 1) (t : Int) = ((((R * 8 + l) * 8 + r) * 2 + t : Nat) : Int) := by
  have st : ∀ (a k c : Nat), k < 4 → a < 100000 → c < 2 ^ k → or32 (sl32 (a : Int) (k : Int)) (c : Int) = ((a * 2 ^ k + c : Nat) : Int) := by
    intro a k c hk ha hc
    have pk : 2 ^ k ≤ 8 := by
      have : k = 0 ∨ k = 1 ∨ k = 2 ∨ k = 3 := by omega
      rcases this with rfl | rfl | rfl | rfl <;> decide
    have pm : a * 2 ^ k ≤ 100000 * 8 := Nat.mul_le_mul (by omega) pk
    have e1 : sl32 (a : Int) (k : Int) = ((a <<< k : Nat) : Int) := sl_n (by rw [Nat.shiftLeft_eq]; omega) (by omega)
    rw [e1, or_n (by rw [Nat.shiftLeft_eq]; omega) (by omega), ← Nat.shiftLeft_add_eq_or_of_lt hc, Nat.shiftLeft_eq]
  have a1 := st R 3 l (by decide) (by omega) (by omega)
  have a2 := st (R * 2 ^ 3 + l) 3 r (by decide) (by omega) (by omega)
  have a3 := st ((R * 2 ^ 3 + l) * 2 ^ 3 + r) 1 t (by decide) (by omega) (by omega)
  rw [show (3 : Int) = ((3 : Nat) : Int) from rfl, a1, a2, show (1 : Int) = ((1 : Nat) : Int) from rfl, a3]
end
