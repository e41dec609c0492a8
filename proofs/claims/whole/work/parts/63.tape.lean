/-! LAYER 3n: the tape -/
theorem an_255 {x : Int} (hx : okI x) : an32 x 255 = x % 256 := by
  have e : (i32 (an32 x 255)).toBitVec.toNat = (i32 x).toBitVec.toNat % 256 := by
    rw [i32_and, Int32.toBitVec_and, BitVec.toNat_and]
    show _ &&& 255 = _
    exact Nat.and_two_pow_sub_one_eq_mod _ 8
  have f : an32 x 255 = (((i32 x).toBitVec.toNat % 256 : Nat) : Int) := by
    rw [← t_i32 (ok_an x 255)]
    show (i32 (an32 x 255)).toBitVec.toInt = _
    rw [BitVec.toInt_eq_toNat_cond, e, if_pos (by omega)]
  rw [f]
  have g : x = if 2 * (i32 x).toBitVec.toNat < 2 ^ 32 then ((i32 x).toBitVec.toNat : Int) else ((i32 x).toBitVec.toNat : Int) - (2 ^ 32 : Nat) := by
    rw [← BitVec.toInt_eq_toNat_cond]
    exact (t_i32 hx).symm
  generalize (i32 x).toBitVec.toNat = m at *
  split at g <;> omega
theorem b8_e {x : Int} (hx : okI x) : b8 x = if x % 256 < 128 then x % 256 else x % 256 - 256 := by
  unfold b8
  rw [Int8.toInt_toInt32, Int32.toInt_toInt8, t_i32 hx]
  rw [Int.bmod_def]
  show (if x % 256 < 128 then _ else _) = _
  rfl
theorem sr_k {x : Int} {k : Nat} (hx : okI x) (hk : k < 32) : sr32 x (k : Int) = x / (2 ^ k : Nat) := by
  unfold sr32
  show (i32 x >>> (i32 (k : Int) &&& 31)).toBitVec.toInt = _
  rw [Int32.toBitVec_shiftRight, BitVec.sshiftRight_eq', amt32 k hk, BitVec.toInt_sshiftRight, Int.shiftRight_eq_div_pow]
  congr 1
  exact t_i32 hx
theorem uamt : ∀ k : Nat, k < 32 → ((i32 (k : Int)).toUInt32 &&& Int32.toUInt32 31).toNat = k := by decide +kernel
theorem ur_nat {x : Int} {k : Nat} (hk : k < 32) : (i32 (ur32 x (k : Int))).toBitVec.toNat = (x % 4294967296).toNat / 2 ^ k := by
  unfold ur32
  rw [i32_t]
  show ((i32 x).toUInt32 >>> ((i32 (k : Int)).toUInt32 &&& Int32.toUInt32 31)).toNat = _
  rw [UInt32.toNat_shiftRight, uamt k hk, Nat.mod_eq_of_lt hk, Nat.shiftRight_eq_div_pow]
  congr 1
theorem ur_k {x : Int} {k : Nat} (hk : k < 32) (h0 : 0 < k) : ur32 x (k : Int) = x % 4294967296 / (2 ^ k : Nat) := by
  have e := ur_nat (x := x) hk
  have o : okI (ur32 x (k : Int)) := ok32 _
  have g : ur32 x (k : Int) = if 2 * (i32 (ur32 x (k : Int))).toBitVec.toNat < 2 ^ 32 then ((i32 (ur32 x (k : Int))).toBitVec.toNat : Int) else ((i32 (ur32 x (k : Int))).toBitVec.toNat : Int) - (2 ^ 32 : Nat) := by
    rw [← BitVec.toInt_eq_toNat_cond]
    exact (t_i32 o).symm
  rw [e] at g
  have b : (x % 4294967296).toNat < 4294967296 := by omega
  have p : 2 ≤ 2 ^ k := by
    have := Nat.pow_le_pow_right (n := 2) (by decide) h0
    omega
  have q : (x % 4294967296).toNat / 2 ^ k ≤ (x % 4294967296).toNat / 2 := Nat.div_le_div_left p (by decide)
  rw [if_pos (by omega)] at g
  rw [g, Int.natCast_ediv]
  congr 1
  omega
theorem byt_e {a : Int} {k : Nat} (ha : okI a) (hk : k = 0 ∨ k = 8 ∨ k = 16 ∨ k = 24) : b8 (b8 (sr32 a (k : Int))) = (if an32 (ur32 a (k : Int)) 255 < 128 then an32 (ur32 a (k : Int)) 255 else an32 (ur32 a (k : Int)) 255 - 256) ∧ 0 ≤ an32 (ur32 a (k : Int)) 255 ∧ an32 (ur32 a (k : Int)) 255 < 256 := by
  have hk32 : k < 32 := by omega
  have o : okI (ur32 a (k : Int)) := ok32 _
  have o2 : okI (sr32 a (k : Int)) := ok_sr _ _
  have o3 : okI (b8 (sr32 a (k : Int))) := ok32 _
  rw [b8_e o3, b8_e o2, an_255 o]
  have e : sr32 a (k : Int) % 256 = ur32 a (k : Int) % 256 := by
    rw [sr_k ha hk32]
    by_cases h0 : 0 < k
    · rw [ur_k hk32 h0]
      rcases hk with rfl | rfl | rfl | rfl
      · omega
      · show a / 256 % 256 = a % 4294967296 / 256 % 256
        omega
      · show a / 65536 % 256 = a % 4294967296 / 65536 % 256
        omega
      · show a / 16777216 % 256 = a % 4294967296 / 16777216 % 256
        omega
    · have : k = 0 := by omega
      subst this
      have e := ur_nat (x := a) hk32
      have g : ur32 a ((0 : Nat) : Int) = if 2 * (i32 (ur32 a ((0 : Nat) : Int))).toBitVec.toNat < 2 ^ 32 then ((i32 (ur32 a ((0 : Nat) : Int))).toBitVec.toNat : Int) else ((i32 (ur32 a ((0 : Nat) : Int))).toBitVec.toNat : Int) - (2 ^ 32 : Nat) := by
        rw [← BitVec.toInt_eq_toNat_cond]
        exact (t_i32 o).symm
      rw [e] at g
      rw [g]
      show a / 1 % 256 = _
      split <;> omega
  rw [e]
  generalize ur32 a (k : Int) % 256 = y at *
  have : 0 ≤ y ∧ y < 256 := by omega
  refine ⟨?_, by omega, by omega⟩
  split <;> split <;> omega
