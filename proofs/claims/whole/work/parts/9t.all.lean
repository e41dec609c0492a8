/-! LAYER 3zan: the shortest ROUND: the class's tables -/
section
variable {A : JA} {h : List Int} {s t σ : JSg} {n : Nat} {x y : Stt}
/-! bits of a long -/
def b64 (x : Int) (k : Nat) : Bool := (i64 x).toBitVec.getLsbD k
theorem b64_0 {k : Nat} : b64 0 k = false := by
  unfold b64
  show (0#64).getLsbD k = false
  exact BitVec.getLsbD_zero
theorem sl1_tw : ∀ k : Nat, k < 64 → (i64 (sl64 1 (k : Int))).toBitVec = BitVec.twoPow 64 k := by decide +kernel
theorem b64_set {x : Int} {k j : Nat} (hk : k < 64) : b64 (or64 x (sl64 1 (k : Int))) j = (b64 x j || decide (j < 64 ∧ k = j)) := by
  unfold b64
  rw [i64_or, Int64.toBitVec_or, BitVec.getLsbD_or, sl1_tw k hk, BitVec.getLsbD_twoPow]
  congr 1
  by_cases a : k = j
  · subst a; simp [hk]
  · simp [a]
theorem b64_tst {x : Int} {k : Nat} (hk : k < 64) : cmpL (an64 x (sl64 1 (k : Int))) 0 = 0 ↔ b64 x k = false := by
  have e : (i64 (an64 x (sl64 1 (k : Int)))).toBitVec = (i64 x).toBitVec &&& BitVec.twoPow 64 k := by
    rw [i64_and, Int64.toBitVec_and, sl1_tw k hk]
  have z : cmpL (an64 x (sl64 1 (k : Int))) 0 = 0 ↔ an64 x (sl64 1 (k : Int)) = 0 := by
    unfold cmpL
    by_cases a : an64 x (sl64 1 (k : Int)) > 0
    · rw [if_pos a]
      constructor
      · intro q; cases q
      · intro q; omega
    · rw [if_neg a]
      by_cases b : an64 x (sl64 1 (k : Int)) = 0
      · rw [if_pos b]; exact ⟨fun _ => b, fun _ => rfl⟩
      · rw [if_neg b]
        constructor
        · intro q; cases q
        · intro q; exact absurd q b
  rw [z]
  unfold b64
  constructor
  · intro q
    rw [q] at e
    have e2 : (0#64).getLsbD k = ((i64 x).toBitVec &&& BitVec.twoPow 64 k).getLsbD k := by
      rw [← e]; rfl
    rw [BitVec.getLsbD_and, BitVec.getLsbD_twoPow, BitVec.getLsbD_zero] at e2
    simpa [hk] using e2.symm
  · intro q
    rw [BitVec.and_twoPow, q] at e
    have e3 : an64 x (sl64 1 (k : Int)) = (Int64.ofBitVec (0#64)).toInt := by
      have : (i64 x &&& i64 (sl64 1 (k : Int))).toBitVec = 0#64 := by
        rw [Int64.toBitVec_and, sl1_tw k hk, BitVec.and_twoPow, q]
        rfl
      show (i64 x &&& i64 (sl64 1 (k : Int))).toInt = _
      show (i64 x &&& i64 (sl64 1 (k : Int))).toBitVec.toInt = _
      rw [this]
      rfl
    rw [e3]
    rfl
/-! what the class calls a place -/
def wl (A : JA) (l : Nat) : Nat := if l = 20 then (if A 151 = 0 then 22 else 20) else l
def wr (A : JA) (r : Nat) : Nat := if r = 20 then (if A 151 = 0 then 22 else 21) else if r % 2 = 0 then r + 1 else r - 1
def cdW (A : JA) (x : Stt) : Nat := x.1 * 1024 + wl A x.2.1 * 32 + wr A x.2.2
theorem wl_lt {l : Nat} (hl : l ≤ 20) : wl A l < 23 := by
  unfold wl; split
  · split <;> omega
  · omega
theorem wr_lt {l : Nat} (hl : l ≤ 20) : wr A l < 23 := by
  unfold wr; split
  · split <;> omega
  · split <;> omega
theorem wl_inj {l m : Nat} (hl : l ≤ 20) (hm : m ≤ 20) (e : wl A l = wl A m) : l = m := by
  unfold wl at e
  by_cases a : A 151 = 0
  · simp only [if_pos a] at e
    split at e <;> split at e <;> omega
  · simp only [if_neg a] at e
    split at e <;> split at e <;> omega
theorem wr_inj {l m : Nat} (hl : l ≤ 20) (hm : m ≤ 20) (e : wr A l = wr A m) : l = m := by
  unfold wr at e
  by_cases a : A 151 = 0
  · simp only [if_pos a] at e
    repeat' split at e
    all_goals omega
  · simp only [if_neg a] at e
    repeat' split at e
    all_goals omega
theorem cdW_inj {x y : Stt} (h1 : x.2.1 ≤ 20) (h2 : x.2.2 ≤ 20) (h3 : y.2.1 ≤ 20) (h4 : y.2.2 ≤ 20) (e : cdW A x = cdW A y) : x = y := by
  unfold cdW at e
  have a1 := wl_lt (A := A) h1
  have a2 := wr_lt (A := A) h2
  have a3 := wl_lt (A := A) h3
  have a4 := wr_lt (A := A) h4
  have e1 : wl A x.2.1 = wl A y.2.1 := by omega
  have e2 : wr A x.2.2 = wr A y.2.2 := by omega
  have e0 : x.1 = y.1 := by omega
  have w1 := wl_inj h1 h3 e1
  have w2 := wr_inj h2 h4 e2
  clear e1 e2 a1 a2 a3 a4 e
  obtain ⟨a, b, c⟩ := x
  obtain ⟨a', b', c'⟩ := y
  dsimp only at *
  rw [e0, w1, w2]
theorem e_placeOf {U l r : Nat} (hU : U ≤ 1024) (hl : l < 32) (hr : r < 32) : f_Rnd_placeOf (U : Int) (l : Int) (r : Int) s = some ((U * 1024 + l * 32 + r : Nat) : Int) := by
  unfold f_Rnd_placeOf
  have e1 : sl32 (U : Int) 10 = ((U <<< 10 : Nat) : Int) := sl_n (k := 10) (by rw [Nat.shiftLeft_eq]; omega) (by omega)
  have e2 : sl32 (l : Int) 5 = ((l <<< 5 : Nat) : Int) := sl_n (k := 5) (by rw [Nat.shiftLeft_eq]; omega) (by omega)
  have w1 : U <<< 10 = U * 1024 := by rw [Nat.shiftLeft_eq]
  have w2 : l <<< 5 = l * 32 := by rw [Nat.shiftLeft_eq]
  have o1 : U <<< 10 ||| l <<< 5 = U * 1024 + l * 32 := by
    rw [← Nat.shiftLeft_add_eq_or_of_lt (i := 10) (show l <<< 5 < 2 ^ 10 by rw [w2]; omega), w1, w2]
  have o2 : (U * 1024 + l * 32) ||| r = U * 1024 + l * 32 + r := by
    have := Nat.shiftLeft_add_eq_or_of_lt (i := 5) (b := r) (show r < 2 ^ 5 by omega) (U * 32 + l)
    rw [Nat.shiftLeft_eq, show (U * 32 + l) * 2 ^ 5 = U * 1024 + l * 32 by omega] at this
    exact this.symm
  rw [e1, e2, or_n (by omega) (by omega), o1, or_n (by omega) (by omega), o2]
/-! whose stones are in hands -/
def orW (A : JA) (h : List Int) (w : Nat) : Nat → Nat
  | 0 => 0
  | m + 1 => if ownA A (h.getD m 0) = (w : Int) then ins (orW A h w m) m else orW A h w m
theorem orW_b {w j : Nat} : ∀ m : Nat, (orW A h w m).testBit j = true ↔ j < m ∧ ownA A (h.getD j 0) = (w : Int) := by
  intro m
  induction m with
  | zero =>
    unfold orW
    rw [Nat.zero_testBit]
    constructor
    · intro g; cases g
    · rintro ⟨g, -⟩; omega
  | succ m ih =>
    unfold orW
    by_cases c : ownA A (h.getD m 0) = (w : Int)
    · rw [if_pos c, ins_b, Bool.or_eq_true, ih, decide_eq_true_iff]
      constructor
      · rintro (⟨g1, g2⟩ | g)
        · exact ⟨by omega, g2⟩
        · subst g; exact ⟨by omega, c⟩
      · rintro ⟨g1, g2⟩
        by_cases e : j = m
        · exact Or.inr e.symm
        · exact Or.inl ⟨by omega, g2⟩
    · rw [if_neg c, ih]
      constructor
      · rintro ⟨g1, g2⟩; exact ⟨by omega, g2⟩
      · rintro ⟨g1, g2⟩
        by_cases e : j = m
        · subst e; exact absurd g2 c
        · exact ⟨by omega, g2⟩
theorem orW_lt {w : Nat} : ∀ m : Nat, orW A h w m < 2 ^ m := by
  intro m
  induction m with
  | zero => exact Nat.two_pow_pos 0
  | succ m ih =>
    unfold orW
    have p : 2 ^ (m + 1) = 2 ^ m * 2 := Nat.pow_succ 2 m
    split
    · exact ins_lt (by omega) (by omega)
    · omega
theorem nz_bit {a : Nat} : a ≠ 0 ↔ ∃ j, a.testBit j = true := by
  constructor
  · intro g
    apply Classical.byContradiction
    intro q
    apply g
    apply Nat.eq_of_testBit_eq
    intro j
    rw [Nat.zero_testBit]
    cases e : a.testBit j with
    | false => rfl
    | true => exact absurd ⟨j, e⟩ q
  · rintro ⟨j, g⟩ rfl
    rw [Nat.zero_testBit] at g
    cases g
abbrev misQ (A : JA) (h : List Int) (U w : Nat) : Prop := orW A h w h.length ≠ 0 ∧ orW A h w h.length &&& U = 0
theorem misQ_iff {U w : Nat} : misQ A h U w ↔ (∃ j, j < h.length ∧ ownA A (h.getD j 0) = (w : Int)) ∧ ∀ j, j < h.length → ownA A (h.getD j 0) = (w : Int) → U.testBit j = false := by
  unfold misQ
  rw [nz_bit]
  constructor
  · rintro ⟨⟨j, g1⟩, g2⟩
    rw [orW_b] at g1
    refine ⟨⟨j, g1⟩, fun i hi ho => ?_⟩
    have a := (orW_b (A := A) (h := h) (w := w) (j := i) h.length).mpr ⟨hi, ho⟩
    have b : (orW A h w h.length &&& U).testBit i = false := by rw [g2, Nat.zero_testBit]
    rw [Nat.testBit_and, a, Bool.true_and] at b
    exact b
  · rintro ⟨⟨j, g1⟩, g2⟩
    refine ⟨⟨j, orW_b _ |>.mpr g1⟩, ?_⟩
    apply Nat.eq_of_testBit_eq
    intro i
    rw [Nat.zero_testBit, Nat.testBit_and]
    cases e : (orW A h w h.length).testBit i with
    | false => rfl
    | true =>
      rw [orW_b] at e
      rw [g2 i e.1 e.2]
      rfl
def cntM (A : JA) (h : List Int) (U : Nat) : Nat → Nat
  | 0 => 0
  | m + 1 => cntM A h U m + if misQ A h U m then 1 else 0
theorem cntM_le {U : Nat} : ∀ m : Nat, cntM A h U m ≤ m := by
  intro m
  induction m with
  | zero => exact Nat.le_refl _
  | succ m ih => unfold cntM; split <;> omega
theorem cntM_0 {U : Nat} : ∀ m : Nat, cntM A h U m = 0 ↔ ∀ w, w < m → ¬ misQ A h U w := by
  intro m
  induction m with
  | zero => exact ⟨fun _ w hw => absurd hw (Nat.not_lt_zero _), fun _ => rfl⟩
  | succ m ih =>
    unfold cntM
    constructor
    · intro g w hw
      by_cases e : w = m
      · subst e
        intro q
        rw [if_pos q] at g
        omega
      · exact ih.mp (by omega) w (by omega)
    · intro g
      rw [if_neg (g m (by omega)), ih.mpr (fun w hw => g w (by omega))]
theorem cntM_ins {U i : Nat} : ∀ m : Nat, cntM A h U m ≤ cntM A h (ins U i) m + if 0 ≤ ownA A (h.getD i 0) ∧ ownA A (h.getD i 0) < m then 1 else 0 := by
  intro m
  induction m with
  | zero => exact Nat.zero_le _
  | succ m ih =>
    unfold cntM
    by_cases q : misQ A h U m
    · rw [if_pos q]
      by_cases e : ownA A (h.getD i 0) = (m : Int)
      · rw [if_pos (show 0 ≤ ownA A (h.getD i 0) ∧ ownA A (h.getD i 0) < ((m + 1 : Nat) : Int) by omega)]
        rw [if_neg (show ¬ (0 ≤ ownA A (h.getD i 0) ∧ ownA A (h.getD i 0) < (m : Int)) by omega)] at ih
        omega
      · have q2 : misQ A h (ins U i) m := by
          rw [misQ_iff] at q ⊢
          refine ⟨q.1, fun j hj ho => ?_⟩
          rw [ins_b, q.2 j hj ho, Bool.false_or, decide_eq_false_iff_not]
          intro z
          subst z
          exact e ho
        rw [if_pos q2]
        by_cases z : 0 ≤ ownA A (h.getD i 0) ∧ ownA A (h.getD i 0) < (m : Int)
        · rw [if_pos z] at ih
          rw [if_pos (show 0 ≤ ownA A (h.getD i 0) ∧ ownA A (h.getD i 0) < ((m + 1 : Nat) : Int) by omega)]
          omega
        · rw [if_neg z] at ih
          omega
    · rw [if_neg q]
      by_cases z : 0 ≤ ownA A (h.getD i 0) ∧ ownA A (h.getD i 0) < (m : Int)
      · rw [if_pos z] at ih
        rw [if_pos (show 0 ≤ ownA A (h.getD i 0) ∧ ownA A (h.getD i 0) < ((m + 1 : Nat) : Int) by omega)]
        omega
      · rw [if_neg z] at ih
        omega
theorem mis_go {U : Nat} (ho : ∀ j, j < h.length → 0 ≤ ownA A (h.getD j 0) ∧ ownA A (h.getD j 0) < 6) : cntM A h U 6 = 0 ↔ goA A h U := by
  rw [cntM_0]
  constructor
  · intro g i hi
    have o := ho i hi
    have q := g (ownA A (h.getD i 0)).toNat (by omega)
    rw [misQ_iff] at q
    apply Classical.byContradiction
    intro z
    apply q
    refine ⟨⟨i, hi, by omega⟩, fun j hj e => ?_⟩
    cases b : U.testBit j with
    | false => rfl
    | true => exact absurd ⟨j, hj, b, by omega⟩ z
  · intro g w _ q
    rw [misQ_iff] at q
    obtain ⟨⟨i, hi, e⟩, q2⟩ := q
    obtain ⟨j, hj, b, e2⟩ := g i hi
    have := q2 j hj (by omega)
    rw [b] at this
    cases this
theorem rc_mis (ho : ∀ j, j < h.length → 0 ≤ ownA A (h.getD j 0) ∧ ownA A (h.getD j 0) < 6) : ∀ (k : Nat) (x : Stt), rc_ A h k x → cntM A h x.1 6 ≤ k := by
  intro k
  induction k with
  | zero =>
    intro x g
    rw [(mis_go ho).mpr g]
    exact Nat.le_refl _
  | succ k ih =>
    rintro x (g | ⟨c, y, h1, h2, h3⟩)
    · rw [(mis_go ho).mpr g]
      omega
    · have a := ih y h3
      obtain ⟨-, y1, -⟩ := mv_some h2
      have b := cntM_ins (A := A) (h := h) (U := x.1) (i := c / 2) 6
      rw [← y1] at b
      split at b <;> omega
end
