/-! LAYER 3zas: the GAME of two: what is meant -/
section
def wtG (a b : Int) (t : Nat) : Int := if t = 0 then a else b
/-- the pips behind a stone; 7: it does not fit -/
def bhG (A : JA) (h : List Int) (i p : Nat) : Nat := if fitB A ((pN A h i 0 : Nat) : Int) (p : Int) = true then pN A h i 1 else if fitB A ((pN A h i 1 : Nat) : Int) (p : Int) = true then pN A h i 0 else 7
def ovB (A : JA) (h : List Int) (S : Nat) (w : Int) : Bool := (List.range h.length).all fun i => !(decide (ownA A (h.getD i 0) = w)) || S.testBit i
def lyB (A : JA) (h : List Int) (x : Stt) (w : Int) : Bool := (List.range h.length).any fun i => decide (ownA A (h.getD i 0) = w) && (!x.1.testBit i && (decide (bhG A h i x.2.1 ≠ 7) || decide (bhG A h i x.2.2 ≠ 7)))
def nxG (A : JA) (h : List Int) (w : Int) (x : Stt) (c : Nat) : Option Stt :=
  if ownA A (h.getD (c / 2) 0) = w ∧ x.1.testBit (c / 2) = false then
    (if bhG A h (c / 2) (if c % 2 = 0 then x.2.1 else x.2.2) = 7 then none
    else some (ins x.1 (c / 2), if c % 2 = 0 then bhG A h (c / 2) x.2.1 else x.2.1, if c % 2 = 0 then x.2.2 else bhG A h (c / 2) x.2.2))
  else none
def sgT (t : Nat) : Int := if t = 0 then 1 else -1
def mxG (g : Nat → Option Int) (t : Nat) : Nat → Int
  | 0 => -2
  | m + 1 => match g m with
    | none => mxG g t m
    | some u => max (mxG g t m) (sgT t * u)
def pipG (A : JA) (h : List Int) (S : Nat) (w : Int) : Nat → Int
  | 0 => 0
  | m + 1 => if ownA A (h.getD m 0) = w ∧ S.testBit m = false then pipG A h S w m + (((pN A h m 0 : Nat) : Int) + ((pN A h m 1 : Nat) : Int)) else pipG A h S w m
def cmG (a b : Int) : Int := if a < b then 1 else if b < a then -1 else 0
def valG (A : JA) (h : List Int) (a b : Int) : Nat → Stt → Nat → Int
  | 0, _, _ => 0
  | k + 1, x, t =>
    if ovB A h x.1 a = true then 1
    else if ovB A h x.1 b = true then -1
    else if lyB A h x (wtG a b t) = true then sgT t * mxG (fun c => (nxG A h (wtG a b t) x c).map fun y => valG A h a b k y (1 - t)) t (2 * h.length)
    else if lyB A h x (wtG a b (1 - t)) = true then sgT (1 - t) * mxG (fun c => (nxG A h (wtG a b (1 - t)) x c).map fun y => valG A h a b k y (1 - (1 - t))) (1 - t) (2 * h.length)
    else cmG (pipG A h x.1 a h.length) (pipG A h x.1 b h.length)
def VV (A : JA) (h : List Int) (a b : Int) (x : Stt) (t : Nat) : Int := valG A h a b (h.length - pcn h.length x.1 + 1) x t
def rdG (h : List Int) (x : Stt) : Prop := x.1 < 2 ^ h.length ∧ x.2.1 < 7 ∧ x.2.2 < 7
/-- what the moves are worth -/
def gmG (A : JA) (h : List Int) (a b : Int) (x : Stt) (t : Nat) (c : Nat) : Option Int := (nxG A h (wtG a b t) x c).map fun y => VV A h a b y (1 - t)
variable {A : JA} {h : List Int} {a b : Int} {x y : Stt} {t : Nat}
theorem bh_lt (hI : WfI A) (hh : Hnd A h) {i p : Nat} (hi : i < h.length) : bhG A h i p = 7 ∨ bhG A h i p < 7 := by
  have p0 := pN_lt hI hh hi (show 0 < 2 by decide)
  have p1 := pN_lt hI hh hi (show 1 < 2 by decide)
  unfold bhG
  split
  · omega
  · split
    · omega
    · exact Or.inl rfl
theorem nx_some {w : Int} {c : Nat} (g : nxG A h w x c = some y) : ownA A (h.getD (c / 2) 0) = w ∧ x.1.testBit (c / 2) = false ∧ bhG A h (c / 2) (if c % 2 = 0 then x.2.1 else x.2.2) ≠ 7 ∧ y = (ins x.1 (c / 2), if c % 2 = 0 then bhG A h (c / 2) x.2.1 else x.2.1, if c % 2 = 0 then x.2.2 else bhG A h (c / 2) x.2.2) := by
  unfold nxG at g
  by_cases q : ownA A (h.getD (c / 2) 0) = w ∧ x.1.testBit (c / 2) = false
  · rw [if_pos q] at g
    by_cases q2 : bhG A h (c / 2) (if c % 2 = 0 then x.2.1 else x.2.2) = 7
    · rw [if_pos q2] at g; cases g
    · rw [if_neg q2] at g
      cases g
      exact ⟨q.1, q.2, q2, rfl⟩
  · rw [if_neg q] at g; cases g
theorem nx_rd (hI : WfI A) (hh : Hnd A h) (hx : rdG h x) {w : Int} {c : Nat} (hc : c < 2 * h.length) (g : nxG A h w x c = some y) : rdG h y ∧ pcn h.length y.1 = pcn h.length x.1 + 1 := by
  obtain ⟨-, q2, q3, rfl⟩ := nx_some g
  have p := pcn_ins q2 h.length
  rw [if_pos (by omega)] at p
  refine ⟨⟨ins_lt hx.1 (by omega), ?_, ?_⟩, p⟩
  · dsimp only
    by_cases z : c % 2 = 0
    · rw [if_pos z] at q3 ⊢
      rcases bh_lt hI hh (i := c / 2) (p := x.2.1) (by omega) with q | q
      · exact absurd q q3
      · exact q
    · rw [if_neg z]; exact hx.2.1
  · dsimp only
    by_cases z : c % 2 = 0
    · rw [if_pos z]; exact hx.2.2
    · rw [if_neg z] at q3 ⊢
      rcases bh_lt hI hh (i := c / 2) (p := x.2.2) (by omega) with q | q
      · exact absurd q q3
      · exact q
theorem ov_iff {S : Nat} {w : Int} : ovB A h S w = true ↔ ∀ i, i < h.length → ownA A (h.getD i 0) = w → S.testBit i = true := by
  unfold ovB
  rw [List.all_eq_true]
  constructor
  · intro g i hi ho
    have := g i (List.mem_range.mpr hi)
    rw [decide_eq_true ho] at this
    exact this
  · intro g i hi
    have hi := List.mem_range.mp hi
    by_cases c : ownA A (h.getD i 0) = w
    · rw [g i hi c, Bool.or_true]
    · rw [decide_eq_false c]; rfl
theorem ly_iff {w : Int} : lyB A h x w = true ↔ ∃ i, i < h.length ∧ ownA A (h.getD i 0) = w ∧ x.1.testBit i = false ∧ (bhG A h i x.2.1 ≠ 7 ∨ bhG A h i x.2.2 ≠ 7) := by
  unfold lyB
  rw [List.any_eq_true]
  constructor
  · rintro ⟨i, hi, g⟩
    rw [Bool.and_eq_true, Bool.and_eq_true, Bool.or_eq_true, decide_eq_true_iff, decide_eq_true_iff, decide_eq_true_iff, Bool.not_eq_true'] at g
    exact ⟨i, List.mem_range.mp hi, g.1, g.2.1, g.2.2⟩
  · rintro ⟨i, hi, g1, g2, g3⟩
    refine ⟨i, List.mem_range.mpr hi, ?_⟩
    rw [Bool.and_eq_true, Bool.and_eq_true, Bool.or_eq_true, decide_eq_true_iff, decide_eq_true_iff, decide_eq_true_iff, Bool.not_eq_true']
    exact ⟨g1, g2, g3⟩
theorem ly_nx {w : Int} (g : lyB A h x w = true) : ∃ c y, c < 2 * h.length ∧ nxG A h w x c = some y := by
  obtain ⟨i, hi, g1, g2, g3⟩ := ly_iff.mp g
  rcases g3 with g3 | g3
  · have e : ∃ y, nxG A h w x (2 * i) = some y := by
      unfold nxG
      rw [show 2 * i / 2 = i by omega, show 2 * i % 2 = 0 by omega, if_pos ⟨g1, g2⟩, if_neg (by rw [if_pos rfl]; exact g3)]
      exact ⟨_, rfl⟩
    obtain ⟨y, e⟩ := e
    exact ⟨2 * i, y, by omega, e⟩
  · have e : ∃ y, nxG A h w x (2 * i + 1) = some y := by
      unfold nxG
      rw [show (2 * i + 1) / 2 = i by omega, show (2 * i + 1) % 2 = 1 by omega, if_pos ⟨g1, g2⟩, if_neg (by rw [if_neg (by decide)]; exact g3)]
      exact ⟨_, rfl⟩
    obtain ⟨y, e⟩ := e
    exact ⟨2 * i + 1, y, by omega, e⟩
theorem sg_or (t : Nat) : sgT t = 1 ∨ sgT t = -1 := by
  unfold sgT
  split
  · exact Or.inl rfl
  · exact Or.inr rfl
theorem sg_mul {u : Int} (t : Nat) (h1 : -1 ≤ u) (h2 : u ≤ 1) : -1 ≤ sgT t * u ∧ sgT t * u ≤ 1 := by
  rcases sg_or t with q | q <;> rw [q] <;> omega
theorem mx_bd {g : Nat → Option Int} (hg : ∀ c u, g c = some u → -1 ≤ u ∧ u ≤ 1) : ∀ m : Nat, -2 ≤ mxG g t m ∧ mxG g t m ≤ 1 ∧ ∀ c u, c < m → g c = some u → sgT t * u ≤ mxG g t m ∧ -1 ≤ mxG g t m := by
  intro m
  induction m with
  | zero => exact ⟨by unfold mxG; omega, by unfold mxG; omega, fun c u hc => absurd hc (Nat.not_lt_zero _)⟩
  | succ m ih =>
    obtain ⟨i1, i2, i3⟩ := ih
    unfold mxG
    cases e : g m with
    | none =>
      dsimp only
      refine ⟨i1, i2, fun c u hc hu => ?_⟩
      by_cases q : c = m
      · rw [q, e] at hu; cases hu
      · exact i3 c u (by omega) hu
    | some v =>
      dsimp only
      have := sg_mul t (hg m v e).1 (hg m v e).2
      refine ⟨by omega, by omega, fun c u hc hu => ?_⟩
      by_cases q : c = m
      · rw [q, e] at hu; cases hu; omega
      · have := i3 c u (by omega) hu; omega
theorem val_bd : ∀ (k : Nat) (x : Stt) (t : Nat), -1 ≤ valG A h a b k x t ∧ valG A h a b k x t ≤ 1 := by
  intro k
  induction k with
  | zero => intro x t; unfold valG; omega
  | succ k ih =>
    intro x t
    have key : ∀ (s : Nat) (w : Int) (f : Stt → Int), (∀ y, -1 ≤ f y ∧ f y ≤ 1) → lyB A h x w = true → -1 ≤ sgT s * mxG (fun c => (nxG A h w x c).map f) s (2 * h.length) ∧ sgT s * mxG (fun c => (nxG A h w x c).map f) s (2 * h.length) ≤ 1 := by
      intro s w f hf g
      obtain ⟨c, y, hc, e⟩ := ly_nx g
      have bd := mx_bd (t := s) (g := fun c => (nxG A h w x c).map f) (fun c u hu => by
        cases q : nxG A h w x c with
        | none => rw [q] at hu; cases hu
        | some y => rw [q] at hu; cases hu; exact hf y) (2 * h.length)
      have := (bd.2.2 c (f y) hc (by rw [e]; rfl)).2
      exact sg_mul s (by omega) bd.2.1
    unfold valG
    split
    · omega
    · split
      · omega
      · split
        · rename_i g; exact key _ _ _ (fun y => ih y _) g
        · split
          · rename_i g; exact key _ _ _ (fun y => ih y _) g
          · unfold cmG
            split
            · omega
            · split <;> omega
theorem VV_bd : -1 ≤ VV A h a b x t ∧ VV A h a b x t ≤ 1 := val_bd _ _ _
theorem mx_cg {g f : Nat → Option Int} : ∀ m : Nat, (∀ c, c < m → g c = f c) → mxG g t m = mxG f t m := by
  intro m
  induction m with
  | zero => intro _; rfl
  | succ m ih =>
    intro e
    unfold mxG
    rw [e m (by omega), ih (fun c hc => e c (by omega))]
theorem VV_eq (hI : WfI A) (hh : Hnd A h) (hx : rdG h x) : VV A h a b x t = if ovB A h x.1 a = true then 1 else if ovB A h x.1 b = true then -1 else if lyB A h x (wtG a b t) = true then sgT t * mxG (gmG A h a b x t) t (2 * h.length) else if lyB A h x (wtG a b (1 - t)) = true then sgT (1 - t) * mxG (gmG A h a b x (1 - t)) (1 - t) (2 * h.length) else cmG (pipG A h x.1 a h.length) (pipG A h x.1 b h.length) := by
  have key : ∀ s : Nat, mxG (fun c => (nxG A h (wtG a b s) x c).map fun y => valG A h a b (h.length - pcn h.length x.1) y (1 - s)) s (2 * h.length) = mxG (gmG A h a b x s) s (2 * h.length) := by
    intro s
    refine mx_cg _ (fun c hc => ?_)
    unfold gmG
    cases e : nxG A h (wtG a b s) x c with
    | none => rfl
    | some y =>
      have r := nx_rd hI hh hx hc e
      have pl := pcn_le (U := y.1) h.length
      show some _ = some _
      unfold VV
      dsimp only
      rw [show h.length - pcn h.length y.1 + 1 = h.length - pcn h.length x.1 by omega]
  rw [← key, ← key]
  rfl
/-- the first of the best moves -/
def isMv (g : Nat → Option Int) (t m c : Nat) (v : Int) : Prop := c < m ∧ g c = some v ∧ sgT t * v = mxG g t m ∧ ∀ e, e < c → ∀ u, g e = some u → sgT t * u < sgT t * v
theorem isMv_u {g : Nat → Option Int} {m c d : Nat} {u v : Int} (h1 : isMv g t m c u) (h2 : isMv g t m d v) : c = d ∧ u = v := by
  have e : c = d := by
    rcases Nat.lt_trichotomy c d with q | q | q
    · have := h2.2.2.2 c q u h1.2.1
      have := h1.2.2.1
      have := h2.2.2.1
      omega
    · exact q
    · have := h1.2.2.2 d q v h2.2.1
      have := h1.2.2.1
      have := h2.2.2.1
      omega
  subst e
  refine ⟨rfl, ?_⟩
  have := h1.2.1.symm.trans h2.2.1
  cases this
  rfl
end
