/-! LAYER 3zaj: the shortest ROUND: what is meant, and the reference's moves -/
section
/-- pips and layer of what is at an end -/
def eP (A : JA) (h : List Int) (e d : Nat) : Int := if e = 20 then outA A (d : Int) else ((pN A h (e / 2) (if e % 2 = 0 then d else 1 - d) : Nat) : Int)
def eL (A : JA) (h : List Int) (e d : Nat) : Int := if e = 20 then (if A 151 = 0 then -1 else layA A (d : Int)) else ownA A (h.getD (e / 2) 0)
def ly (A : JA) (h : List Int) (i e d : Nat) : Option Nat :=
  if eP A h e d = -1 then some (2 * i)
  else if eL A h e d = ownA A (h.getD i 0) then none
  else if fitB A ((pN A h i 0 : Nat) : Int) (eP A h e d) = true then some (if d = 1 then 2 * i else 2 * i + 1)
  else if fitB A ((pN A h i 1 : Nat) : Int) (eP A h e d) = true then some (if d = 1 then 2 * i + 1 else 2 * i)
  else none
abbrev Stt : Type := Nat × Nat × Nat
def mv (A : JA) (h : List Int) (x : Stt) (c : Nat) : Option Stt :=
  if x.1.testBit (c / 2) = true then none
  else match ly A h (c / 2) (if c % 2 = 0 then x.2.1 else x.2.2) (c % 2) with
    | none => none
    | some e => some (ins x.1 (c / 2), if c % 2 = 0 ∨ (A 151 = 0 ∧ x.1 = 0) then e else x.2.1, if c % 2 = 1 ∨ (A 151 = 0 ∧ x.1 = 0) then e else x.2.2)
def goA (A : JA) (h : List Int) (U : Nat) : Prop := ∀ i, i < h.length → ∃ j, j < h.length ∧ U.testBit j = true ∧ ownA A (h.getD j 0) = ownA A (h.getD i 0)
def rc_ (A : JA) (h : List Int) : Nat → Stt → Prop
  | 0, x => goA A h x.1
  | k + 1, x => goA A h x.1 ∨ ∃ c y, c < 2 * h.length ∧ mv A h x c = some y ∧ rc_ A h k y
def wkA (A : JA) (h : List Int) : Nat → Stt → List Nat → Prop
  | 0, x, l => goA A h x.1 ∧ l = []
  | k + 1, x, l => (goA A h x.1 ∧ l = []) ∨ (¬ goA A h x.1 ∧ ∃ c m y, l = c :: m ∧ c < 2 * h.length ∧ mv A h x c = some y ∧ rc_ A h k y ∧ (∀ e, e < c → ∀ z, mv A h x e = some z → ¬ rc_ A h k z) ∧ wkA A h k y m)
/-- a number for what is at an end -/
def vle (h : List Int) (e : Nat) : Prop := e = 20 ∨ e / 2 < h.length
def rdy (A : JA) (h : List Int) (x : Stt) : Prop := x.1 < 2 ^ h.length ∧ vle h x.2.1 ∧ vle h x.2.2 ∧ (A 151 = 0 → (x.1 = 0 ↔ x.2.1 = 20) ∧ (x.1 = 0 ↔ x.2.2 = 20))
def cdM (x : Stt) : Nat := (x.1 * 22 + x.2.1) * 22 + x.2.2
def H10 (A : JA) (h : List Int) : Prop := h.length ≤ 10 ∧ Hnd A h
variable {A : JA} {h : List Int} {s t : JSg} {n : Nat} {x y : Stt}
theorem rc_go {k : Nat} (g : goA A h x.1) : rc_ A h k x := by
  cases k with
  | zero => exact g
  | succ k => exact Or.inl g
theorem rc_le : ∀ (k : Nat) (x : Stt), rc_ A h k x → rc_ A h (k + 1) x := by
  intro k
  induction k with
  | zero => intro x g; exact Or.inl g
  | succ k ih =>
    rintro x (g | ⟨c, y, h1, h2, h3⟩)
    · exact Or.inl g
    · exact Or.inr ⟨c, y, h1, h2, ih y h3⟩
theorem rc_mo {k : Nat} : ∀ m : Nat, rc_ A h k x → rc_ A h (k + m) x := by
  intro m
  induction m with
  | zero => exact id
  | succ m ih => intro c; exact rc_le _ _ (ih c)
theorem rc_mn {k m : Nat} (hk : k ≤ m) (g : rc_ A h k x) : rc_ A h m x := by
  have := rc_mo (m - k) g
  rwa [show k + (m - k) = m by omega] at this
theorem wk_u : ∀ (k : Nat) (x : Stt) (l m : List Nat), wkA A h k x l → wkA A h k x m → l = m := by
  intro k
  induction k with
  | zero => rintro x l m ⟨-, rfl⟩ ⟨-, rfl⟩; rfl
  | succ k ih =>
    rintro x l m (⟨g, rfl⟩ | ⟨g, c, l', y, rfl, h1, h2, h3, h4, h5⟩) (⟨g', rfl⟩ | ⟨g', c', m', y', rfl, k1, k2, k3, k4, k5⟩)
    · rfl
    · exact absurd g g'
    · exact absurd g' g
    · have e : c = c' := by
        rcases Nat.lt_trichotomy c c' with q | q | q
        · exact absurd h3 (k4 c q y h2)
        · exact q
        · exact absurd k3 (h4 c' q y' k2)
      subst e
      rw [h2] at k2
      cases k2
      rw [ih y _ _ h5 k5]
def isFw (A : JA) (h : List Int) (x : Stt) (v : Nat) : Prop := rc_ A h v x ∧ ∀ w, w < v → ¬ rc_ A h w x
theorem fw_u {v w : Nat} (h1 : isFw A h x v) (h2 : isFw A h x w) : v = w := by
  rcases Nat.lt_trichotomy v w with q | q | q
  · exact absurd h1.1 (h2.2 v q)
  · exact q
  · exact absurd h2.1 (h1.2 w q)
theorem wk_l : ∀ (v : Nat) (x : Stt) (l : List Nat), isFw A h x v → wkA A h v x l → l.length = v := by
  intro v
  induction v with
  | zero => rintro x l - ⟨-, rfl⟩; rfl
  | succ v ih =>
    rintro x l g (⟨g', rfl⟩ | ⟨g', c, m, y, rfl, h1, h2, h3, h4, h5⟩)
    · exact absurd g' (g.2 0 (by omega))
    · have := ih y m ⟨h3, fun w hw q => g.2 (w + 1) (by omega) (Or.inr ⟨c, y, h1, h2, q⟩)⟩ h5
      rw [List.length_cons, this]
theorem go_full (hU : ∀ i, i < h.length → x.1.testBit i = true) : goA A h x.1 := fun i hi => ⟨i, hi, hU i hi, rfl⟩
/-- no longer than stones are left -/
theorem rc_fit : ∀ (k : Nat) (x : Stt), rc_ A h k x → rc_ A h (h.length - pcn h.length x.1) x := by
  intro k
  induction k with
  | zero => intro x g; exact rc_go g
  | succ k ih =>
    rintro x (g | ⟨c, y, h1, h2, h3⟩)
    · exact rc_go g
    · have r := ih y h3
      unfold mv at h2
      by_cases b : x.1.testBit (c / 2) = true
      · rw [if_pos b] at h2; cases h2
      · rw [if_neg b] at h2
        have b' : x.1.testBit (c / 2) = false := by cases q : x.1.testBit (c / 2) with | true => exact absurd q b | false => rfl
        have p := pcn_ins b' h.length
        rw [if_pos (by omega)] at p
        have q := pcn_le (U := ins x.1 (c / 2)) h.length
        have e : h.length - pcn h.length x.1 = (h.length - pcn h.length (ins x.1 (c / 2))) + 1 := by omega
        have y1 : y.1 = ins x.1 (c / 2) := by
          cases z : ly A h (c / 2) (if c % 2 = 0 then x.2.1 else x.2.2) (c % 2) with
          | none => rw [z] at h2; cases h2
          | some w => rw [z] at h2; cases h2; rfl
        have h2' : mv A h x c = some y := by
          unfold mv
          rw [if_neg b]; exact h2
        rw [e, ← y1]
        exact Or.inr ⟨c, y, h1, h2', r⟩
theorem mv_some {c : Nat} (g : mv A h x c = some y) : x.1.testBit (c / 2) = false ∧ y.1 = ins x.1 (c / 2) ∧ ∃ e, ly A h (c / 2) (if c % 2 = 0 then x.2.1 else x.2.2) (c % 2) = some e ∧ y = (ins x.1 (c / 2), if c % 2 = 0 ∨ (A 151 = 0 ∧ x.1 = 0) then e else x.2.1, if c % 2 = 1 ∨ (A 151 = 0 ∧ x.1 = 0) then e else x.2.2) := by
  unfold mv at g
  by_cases b : x.1.testBit (c / 2) = true
  · rw [if_pos b] at g; cases g
  · rw [if_neg b] at g
    have b' : x.1.testBit (c / 2) = false := by cases q : x.1.testBit (c / 2) with | true => exact absurd q b | false => rfl
    cases z : ly A h (c / 2) (if c % 2 = 0 then x.2.1 else x.2.2) (c % 2) with
    | none => rw [z] at g; cases g
    | some w => rw [z] at g; cases g; exact ⟨b', rfl, w, rfl, rfl⟩
theorem ly_in {i e d w : Nat} (g : ly A h i e d = some w) : w = 2 * i ∨ w = 2 * i + 1 := by
  unfold ly at g
  split at g
  · cases g; exact Or.inl rfl
  · split at g
    · cases g
    · split at g
      · cases g; split <;> omega
      · split at g
        · cases g; split <;> omega
        · cases g
theorem mv_rdy {c : Nat} (hh : h.length ≤ 10) (hx : rdy A h x) (hc : c < 2 * h.length) (g : mv A h x c = some y) : rdy A h y ∧ pcn h.length y.1 = pcn h.length x.1 + 1 := by
  obtain ⟨b, y1, e, he, hy⟩ := mv_some g
  have w := ly_in he
  have p := pcn_ins b h.length
  rw [if_pos (by omega)] at p
  have ve : vle h e := by unfold vle; omega
  have e20 : e ≠ 20 := by omega
  obtain ⟨x1, x2, x3, x4⟩ := hx
  refine ⟨⟨by rw [y1]; exact ins_lt x1 (by omega), ?_, ?_, fun a0 => ?_⟩, by rw [y1]; exact p⟩
  · rw [hy]; dsimp only; split
    · exact ve
    · exact x2
  · rw [hy]; dsimp only; split
    · exact ve
    · exact x3
  · have i0 := ins_gt b
    obtain ⟨x5, x6⟩ := x4 a0
    rw [hy]; dsimp only
    refine ⟨⟨fun q => by omega, fun q => ?_⟩, ⟨fun q => by omega, fun q => ?_⟩⟩
    · split at q
      · exact absurd q e20
      · rename_i nn
        exact absurd ⟨a0, x5.mpr q⟩ (fun z => nn (Or.inr z))
    · split at q
      · exact absurd q e20
      · rename_i nn
        exact absurd ⟨a0, x6.mpr q⟩ (fun z => nn (Or.inr z))
theorem cdM_lt (hh : h.length ≤ 10) (hx : rdy A h x) : cdM x < 484 * 2 ^ h.length ∧ x.2.1 ≤ 20 ∧ x.2.2 ≤ 20 ∧ 2 ^ h.length ≤ 1024 ∧ x.1 < 2 ^ h.length := by
  have p : 2 ^ h.length ≤ 1024 := Nat.pow_le_pow_right (n := 2) (by decide) hh
  obtain ⟨x1, x2, x3, -⟩ := hx
  unfold vle at x2 x3
  unfold cdM
  omega
theorem cdM_inj {x y : Stt} (h1 : x.2.1 ≤ 20) (h2 : x.2.2 ≤ 20) (h3 : y.2.1 ≤ 20) (h4 : y.2.2 ≤ 20) (e : cdM x = cdM y) : x = y := by
  unfold cdM at e
  obtain ⟨a, b, c⟩ := x
  obtain ⟨a', b', c'⟩ := y
  dsimp only at *
  have q1 : a = a' := by omega
  have q2 : b = b' := by omega
  have q3 : c = c' := by omega
  rw [q1, q2, q3]
end
