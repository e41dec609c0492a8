/-! LAYER 3zv: STONES one after another: what is meant, and how the class spreads -/
section
def pN (A : JA) (h : List Int) (i d : Nat) : Nat := (pipA A (h.getD i 0) d).toNat
def okp (A : JA) (x p : Nat) : Bool := decide (p = 7) || fitB A x p
/-- one more STONE -/
def edg (A : JA) (h : List Int) (U p i d : Nat) : Prop := i < h.length ∧ d < 2 ∧ U.testBit i = false ∧ okp A (pN A h i d) p = true
def can (A : JA) (h : List Int) : Nat → Nat → Nat → Prop
  | 0, _, _ => True
  | k + 1, U, p => ∃ i d, edg A h U p i d ∧ can A h k (ins U i) (pN A h i (1 - d))
def rch (A : JA) (h : List Int) (st : Nat) : Nat → Nat → Nat → Prop
  | 0, U, p => U = 0 ∧ p = st
  | k + 1, U, p => ∃ V q i d, rch A h st k V q ∧ edg A h V q i d ∧ U = ins V i ∧ p = pN A h i (1 - d)
def Hnd (A : JA) (h : List Int) : Prop := h.length ≤ 12 ∧ ∀ i, i < h.length → 0 ≤ h.getD i 0 ∧ h.getD i 0 < A 1
variable {A : JA} {h : List Int} {st : Nat}
theorem pN_lt (hI : WfI A) (hh : Hnd A h) {i d : Nat} (hi : i < h.length) (hd : d < 2) : pN A h i d < 7 ∧ ((pN A h i d : Nat) : Int) = pipA A (h.getD i 0) d := by
  have b := hh.2 i hi
  have := hI.2.2.2.2 (h.getD i 0) d b.1 b.2 (by omega) (by omega)
  unfold pN
  omega
theorem can_le : ∀ (k U p : Nat), can A h (k + 1) U p → can A h k U p := by
  intro k
  induction k with
  | zero => intro U p _; trivial
  | succ k ih =>
    rintro U p ⟨i, d, e, c⟩
    exact ⟨i, d, e, ih _ _ c⟩
theorem can_mo {k U p : Nat} : ∀ m : Nat, can A h (k + m) U p → can A h k U p := by
  intro m
  induction m with
  | zero => exact id
  | succ m ih => intro c; exact ih (can_le _ _ _ c)
theorem rch_s : ∀ (k U p : Nat), rch A h st k U p → U < 2 ^ h.length ∧ (k ≠ 0 → ∃ i d, i < h.length ∧ d < 2 ∧ p = pN A h i (1 - d)) ∧ (h.length ≤ 12 → pcn 12 U = k) := by
  intro k
  induction k with
  | zero =>
    rintro U p ⟨rfl, -⟩
    exact ⟨Nat.two_pow_pos _, fun g => absurd rfl g, fun _ => pcn_0 12⟩
  | succ k ih =>
    rintro U p ⟨V, q, i, d, h1, ⟨e1, e2, e3, e4⟩, rfl, rfl⟩
    have := ih V q h1
    refine ⟨ins_lt this.1 e1, fun _ => ⟨i, d, e1, e2, rfl⟩, fun hl => ?_⟩
    rw [pcn_ins e3, this.2.2 hl, if_pos (by omega)]
theorem rch_can : ∀ (k U p j : Nat), rch A h st k U p → can A h j U p → can A h (k + j) 0 st := by
  intro k
  induction k with
  | zero =>
    rintro U p j ⟨rfl, rfl⟩ c
    rwa [Nat.zero_add]
  | succ k ih =>
    rintro U p j ⟨V, q, i, d, h1, e, rfl, rfl⟩ c
    have := ih V q (j + 1) h1 ⟨i, d, e, c⟩
    rwa [show k + 1 + j = k + (j + 1) by omega]
theorem can_rch : ∀ (j k U p : Nat), rch A h st k U p → can A h j U p → ∃ V q, rch A h st (k + j) V q := by
  intro j
  induction j with
  | zero => intro k U p r _; exact ⟨U, p, r⟩
  | succ j ih =>
    rintro k U p r ⟨i, d, e, c⟩
    obtain ⟨V, q, g⟩ := ih (k + 1) _ _ ⟨U, p, i, d, r, e, rfl, rfl⟩ c
    exact ⟨V, q, by rwa [show k + (j + 1) = k + 1 + j by omega]⟩
def isLg (A : JA) (h : List Int) (U p v : Nat) : Prop := can A h v U p ∧ ¬ can A h (v + 1) U p
theorem isLg_u {U p v w : Nat} (h1 : isLg A h U p v) (h2 : isLg A h U p w) : v = w := by
  rcases Nat.lt_trichotomy v w with g | g | g
  · exact absurd (can_mo (w - (v + 1)) (by rw [show v + 1 + (w - (v + 1)) = w by omega]; exact h2.1)) h1.2
  · exact g
  · exact absurd (can_mo (v - (w + 1)) (by rw [show w + 1 + (v - (w + 1)) = v by omega]; exact h1.1)) h2.2
theorem can_fit : ∀ (k U p : Nat), can A h k U p → k + pcn h.length U ≤ h.length := by
  intro k
  induction k with
  | zero => intro U p _; rw [Nat.zero_add]; exact pcn_le _
  | succ k ih =>
    rintro U p ⟨i, d, ⟨e1, e2, e3, e4⟩, c⟩
    have := ih _ _ c
    rw [pcn_ins e3, if_pos e1] at this
    omega
/-- the first of the STONES that lead on -/
def nxtC (A : JA) (h : List Int) (k U p c : Nat) : Prop := edg A h U p (c / 2) (c % 2) ∧ can A h k (ins U (c / 2)) (pN A h (c / 2) (1 - c % 2))
def fstC (A : JA) (h : List Int) (k U p c : Nat) : Prop := nxtC A h k U p c ∧ ∀ e, e < c → ¬ nxtC A h k U p e
theorem fst_u {k U p c e : Nat} (h1 : fstC A h k U p c) (h2 : fstC A h k U p e) : c = e := by
  rcases Nat.lt_trichotomy c e with g | g | g
  · exact absurd h1.1 (h2.2 c g)
  · exact g
  · exact absurd h2.1 (h1.2 e g)
def wlkP (A : JA) (h : List Int) : Nat → Nat → Nat → List Nat → Prop
  | 0, _, _, l => l = []
  | k + 1, U, p, l => ∃ c m, l = c :: m ∧ fstC A h k U p c ∧ wlkP A h k (ins U (c / 2)) (pN A h (c / 2) (1 - c % 2)) m
theorem wlk_u : ∀ (k U p : Nat) (l m : List Nat), wlkP A h k U p l → wlkP A h k U p m → l = m := by
  intro k
  induction k with
  | zero => rintro U p l m rfl rfl; rfl
  | succ k ih =>
    rintro U p l m ⟨c, l', rfl, h1, h2⟩ ⟨e, m', rfl, h3, h4⟩
    have := fst_u h1 h3
    subst this
    rw [ih _ _ _ _ h2 h4]
theorem wlk_l : ∀ (k U p : Nat) (l : List Nat), wlkP A h k U p l → l.length = k := by
  intro k
  induction k with
  | zero => rintro U p l rfl; rfl
  | succ k ih =>
    rintro U p l ⟨c, l', rfl, h1, h2⟩
    rw [List.length_cons, ih _ _ _ h2]
/-! how the class spreads -/
def tbb (s : JSg) (U p : Nat) : Bool := (s 103 U).toNat.testBit p
/-- places of the chain: its hand, the island's pips, what fits -/
def ChB (A : JA) (h : List Int) (s : JSg) : Prop := IslR s 4 A ∧ s 104 4 = (h.length : Nat) ∧ ∀ j, j < h.length → s 105 j = h.getD j 0
variable {σ s : JSg} {n : Nat}
theorem ChB_ag {t : JSg} (hB : ChB A h s) (g : ∀ a j, (4 ≤ a ∧ a ≤ 10) ∨ (a = 104 ∧ j = 4) ∨ a = 105 → t a j = s a j) : ChB A h t := by
  obtain ⟨b1, b2, b3⟩ := hB
  refine ⟨IslR_ag (fun q j hq => g q j (by omega)) b1, by rw [g _ _ (by omega)]; exact b2, fun j hj => by rw [g _ _ (by omega)]; exact b3 j hj⟩
theorem e_ahead (hL : IslR s 4 A) {x : Nat} (hx : x < 7) : ∃ G : Nat, f_Chn_ahead (x : Int) s = some (G : Int) ∧ G < 256 ∧ ∀ p, p < 8 → G.testBit p = okp A x p := by
  have := hL.2.2.2.2 x (by omega) (by omega)
  obtain ⟨F, hF⟩ : ∃ F : Nat, s 10 x = F := ⟨(s 10 x).toNat, by have : 0 ≤ s (4 + 6) ((x : Int)).toNat := this.1.1; rw [Int.toNat_natCast] at this; have : 0 ≤ s 10 x := this; omega⟩
  have f0 : F < 128 := by
    have : s (4 + 6) ((x : Int)).toNat < 128 := this.1.2
    rw [Int.toNat_natCast] at this
    have : s 10 x < 128 := this
    omega
  refine ⟨F ||| 128, ?_, or8 (by omega) (by decide), fun p hp => ?_⟩
  · unfold f_Chn_ahead
    rw [ck_p (by omega), Int.toNat_natCast, hF]
    exact congrArg some (or_n (a := F) (b := 128) (by omega) (by decide))
  · rw [Nat.testBit_or, show (128 : Nat) = 1 <<< 7 from rfl, bit_one]
    unfold okp
    by_cases e : p = 7
    · subst e; simp
    · have g := this.2 p (by omega) (by omega)
      rw [Int.toNat_natCast, Int.toNat_natCast, show s (4 + 6) x = F from hF, bt_n (by omega)] at g
      rw [g, decide_eq_false e, decide_eq_false (fun q => e q.symm), Bool.or_false, Bool.false_or]
def hitB (A : JA) (s : JSg) (U x : Nat) : Prop := ∃ q, q < 8 ∧ tbb s U q = true ∧ okp A x q = true
theorem e_hit (hL : IslR s 4 A) {U x : Nat} (hx : x < 7) (hT : 0 ≤ s 103 U ∧ s 103 U < 256) : ∃ G : Int, f_Chn_ahead (x : Int) s = some G ∧ (cmpL (an64 (s 103 U) G) 0 = 0 ↔ ¬ hitB A s U x) := by
  obtain ⟨G, g1, g2, g3⟩ := e_ahead hL hx
  refine ⟨G, g1, ?_⟩
  have e : s 103 U = ((s 103 U).toNat : Int) := by omega
  rw [cmpL_0, e, an_n64 (by omega)]
  have := and0_iff (a := (s 103 U).toNat) (b := G) (by omega)
  constructor
  · intro z ⟨q, q1, q2, q3⟩
    exact this.mp (by omega) ⟨q, q1, q2, by rw [g3 q q1]; exact q3⟩
  · intro z
    have := this.mpr (fun ⟨q, q1, q2, q3⟩ => z ⟨q, q1, q2, by rw [← g3 q q1]; exact q3⟩)
    omega
theorem tb_put {U x : Nat} (hx : x < 8) (hT : 0 ≤ s 103 U ∧ s 103 U < 256) : ∃ T : Int, or64 (s 103 U) (sl64 1 (x : Int)) = T ∧ (0 ≤ T ∧ T < 256) ∧ ∀ p, T.toNat.testBit p = (tbb s U p || decide (x = p)) := by
  refine ⟨_, rfl, ?_⟩
  have e : s 103 U = ((s 103 U).toNat : Int) := by omega
  have b := sl1_b x hx
  have o := or8 (a := (s 103 U).toNat) (b := 1 <<< x) (by omega) b
  rw [e, sl1_64 x hx, or64_n (by omega) (by omega)]
  refine ⟨by omega, fun p => ?_⟩
  unfold tbb
  rw [Int.toNat_natCast, Nat.testBit_or, bit_one]
set_option maxRecDepth 100000 in
theorem e_spreadOver {U i : Nat} (hI : WfI A) (hh : Hnd A h) (hB : ChB A h s) (hU : U < 2 ^ h.length) (hi : i < h.length) (hb : U.testBit i = false) (hT : ∀ W, W < 2 ^ h.length → 0 ≤ s 103 W ∧ s 103 W < 256) : Ret (f_Chn_spreadOver (U : Int) (i : Int) s) (fun t => Agr (fun a _ => a = 103) s t ∧ (∀ W, W < 2 ^ h.length → 0 ≤ t 103 W ∧ t 103 W < 256) ∧ (∀ W p, W < 2 ^ h.length → (tbb t W p = true ↔ tbb s W p = true ∨ (W = ins U i ∧ ∃ d, d < 2 ∧ hitB A s U (pN A h i d) ∧ p = pN A h i (1 - d))))) := by
  have l12 := hh.1
  have p12 := pw12 l12
  have hv := ins_lt hU hi
  have hgt := ins_gt hb
  have x0 := pN_lt hI hh hi (show 0 < 2 by decide)
  have x1 := pN_lt hI hh hi (show 1 < 2 by decide)
  have g := hh.2 i hi
  have b28 := hI.2.1
  have l := hB.1.2.2.2.1 _ g.1 g.2
  have l6 : s 6 (h.getD i 0).toNat = (pN A h i 0 : Nat) := l.1.trans x0.2.symm
  have l7 : s 7 (h.getD i 0).toNat = (pN A h i 1 : Nat) := l.2.trans x1.2.symm
  have hc := hB.2.2 i hi
  unfold f_Chn_spreadOver
  rw [ins_e (by omega) (by omega)]
  simp only [lt_u, Int.toNat_natCast]
  rw [hc, l6, l7, ck_p (by omega), ck_p (by omega), ck_p (by omega), ck_p (by omega), ck_p (by omega)]
  obtain ⟨G0, a1, a2⟩ := e_hit (x := pN A h i 0) hB.1 x0.1 (hT U hU)
  rw [a1, b1_s, j1_s]
  have fin : ∀ t : JSg, Agr (fun a _ => a = 103) s t → (∀ W, W < 2 ^ h.length → 0 ≤ t 103 W ∧ t 103 W < 256) → (∀ W p, W < 2 ^ h.length → (tbb t W p = true ↔ tbb s W p = true ∨ (W = ins U i ∧ hitB A s U (pN A h i 0) ∧ p = pN A h i 1))) → Ret (chk (0 ≤ (U : Int) ∧ (U : Int) < 32768) <| bd1 (f_Chn_ahead ((pN A h i 1 : Nat) : Int) t) fun r7 => if (cmpL (an64 (t 103 U) r7) 0) = 0 then (some t) else (chk (0 ≤ ((ins U i : Nat) : Int) ∧ ((ins U i : Nat) : Int) < 32768) <| chk (0 ≤ ((ins U i : Nat) : Int) ∧ ((ins U i : Nat) : Int) < 32768) <| some (sp t 103 (ins U i) (or64 (t 103 (ins U i)) (sl64 1 ((pN A h i 0 : Nat) : Int)))))) (fun t => Agr (fun a _ => a = 103) s t ∧ (∀ W, W < 2 ^ h.length → 0 ≤ t 103 W ∧ t 103 W < 256) ∧ (∀ W p, W < 2 ^ h.length → (tbb t W p = true ↔ tbb s W p = true ∨ (W = ins U i ∧ ∃ d, d < 2 ∧ hitB A s U (pN A h i d) ∧ p = pN A h i (1 - d))))) := by
    intro t t1 t2 t3
    have hBt : IslR t 4 A := IslR_ag (fun q j hq => t1 q j (by omega)) hB.1
    obtain ⟨G1, c1, c2⟩ := e_hit (s := t) (x := pN A h i 1) hBt x1.1 (t2 U hU)
    have hit1 : hitB A t U (pN A h i 1) ↔ hitB A s U (pN A h i 1) := by
      constructor
      · rintro ⟨q, q1, q2, q3⟩
        rcases (t3 U q hU).mp q2 with q2 | q2
        · exact ⟨q, q1, q2, q3⟩
        · omega
      · rintro ⟨q, q1, q2, q3⟩
        exact ⟨q, q1, (t3 U q hU).mpr (Or.inl q2), q3⟩
    rw [ck_p (by omega), c1, b1_s]
    refine rt_ite (fun z => ?_) (fun z => ?_)
    · have nh := fun q => c2.mp z (hit1.mpr q)
      refine rt_some ⟨t1, t2, fun W p hW => (t3 W p hW).trans ?_⟩
      constructor
      · rintro (q | ⟨q1, q2, q3⟩)
        · exact Or.inl q
        · exact Or.inr ⟨q1, 0, by decide, q2, q3⟩
      · rintro (q | ⟨q1, d, q2, q3, q4⟩)
        · exact Or.inl q
        · have : d = 0 ∨ d = 1 := by omega
          rcases this with rfl | rfl
          · exact Or.inr ⟨q1, q3, q4⟩
          · exact absurd q3 nh
    · have yh : hitB A s U (pN A h i 1) := hit1.mp (Classical.byContradiction fun q => z (c2.mpr q))
      obtain ⟨T, d1, d2, d3⟩ := tb_put (s := t) (U := ins U i) (x := pN A h i 0) (by omega) (t2 _ hv)
      rw [ck_p (by omega), ck_p (by omega), d1]
      refine rt_some ⟨ag_sp t1 rfl, fun W hW => ?_, fun W p hW => ?_⟩
      · by_cases e : W = ins U i
        · rw [e, sp_eq]; exact d2
        · rw [sp_nj e]; exact t2 W hW
      · by_cases e : W = ins U i
        · subst e
          unfold tbb at d3 ⊢
          rw [sp_eq, d3, Bool.or_eq_true, decide_eq_true_eq]
          have := t3 (ins U i) p hW
          unfold tbb at this
          rw [this]
          constructor
          · rintro ((q | ⟨q1, q2, q3⟩) | q)
            · exact Or.inl q
            · exact Or.inr ⟨rfl, 0, by decide, q2, q3⟩
            · exact Or.inr ⟨rfl, 1, by decide, yh, q.symm⟩
          · rintro (q | ⟨q1, d, q2, q3, q4⟩)
            · exact Or.inl (Or.inl q)
            · have : d = 0 ∨ d = 1 := by omega
              rcases this with rfl | rfl
              · exact Or.inl (Or.inr ⟨rfl, q3, q4⟩)
              · exact Or.inr q4.symm
        · have := t3 W p hW
          unfold tbb at this ⊢
          rw [sp_nj e, this]
          constructor
          · rintro (q | ⟨q1, -⟩)
            · exact Or.inl q
            · exact absurd q1 e
          · rintro (q | ⟨q1, -⟩)
            · exact Or.inl q
            · exact absurd q1 e
  refine rt_ite (fun z => ?_) (fun z => ?_)
  · have nh := a2.mp z
    refine fin s ag_refl hT (fun W p hW => ⟨Or.inl, ?_⟩)
    rintro (q | ⟨-, q, -⟩)
    · exact q
    · exact absurd q nh
  · have yh : hitB A s U (pN A h i 0) := Classical.byContradiction fun q => z (a2.mpr q)
    obtain ⟨T, d1, d2, d3⟩ := tb_put (s := s) (U := ins U i) (x := pN A h i 1) (by omega) (hT _ hv)
    rw [ck_p (by omega), ck_p (by omega), d1]
    refine fin _ (ag_sp ag_refl rfl) (fun W hW => ?_) (fun W p hW => ?_)
    · by_cases e : W = ins U i
      · rw [e, sp_eq]; exact d2
      · rw [sp_nj e]; exact hT W hW
    · by_cases e : W = ins U i
      · subst e
        unfold tbb at d3 ⊢
        rw [sp_eq, d3, Bool.or_eq_true, decide_eq_true_eq]
        constructor
        · rintro (q | q)
          · exact Or.inl q
          · exact Or.inr ⟨rfl, yh, q.symm⟩
        · rintro (q | ⟨-, -, q⟩)
          · exact Or.inl q
          · exact Or.inr q.symm
      · unfold tbb
        rw [sp_nj e]
        constructor
        · exact Or.inl
        · rintro (q | ⟨q1, -⟩)
          · exact q
          · exact absurd q1 e
end
