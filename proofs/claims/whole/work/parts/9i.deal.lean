/-! LAYER 3za7: the reference deals -/
section
theorem pc_2 : ∀ (k X : Nat), pcn (k + 1) X = X % 2 + pcn k (X / 2) := by
  intro k
  induction k with
  | zero =>
    intro X
    show 0 + (if X.testBit 0 then 1 else 0) = X % 2 + 0
    rw [Nat.testBit_zero]
    have : X % 2 = 0 ∨ X % 2 = 1 := by omega
    rcases this with e | e <;> rw [e] <;> rfl
  | succ k ih =>
    intro X
    show pcn (k + 1) X + (if X.testBit (k + 1) then 1 else 0) = X % 2 + (pcn k (X / 2) + (if (X / 2).testBit k then 1 else 0))
    rw [ih, Nat.testBit_succ]
    omega
theorem and_d2 {a b : Nat} : (a &&& b) / 2 = a / 2 &&& b / 2 := by
  apply Nat.eq_of_testBit_eq
  intro i
  rw [← Nat.testBit_succ, Nat.testBit_and, Nat.testBit_and, Nat.testBit_succ, Nat.testBit_succ]
theorem and_m2 {a b : Nat} (h : a % 2 = 0 ∨ b % 2 = 0) : (a &&& b) % 2 = 0 := by
  have := Nat.testBit_and a b 0
  rw [Nat.testBit_zero, Nat.testBit_zero, Nat.testBit_zero] at this
  have h2 : (a &&& b) % 2 = 0 ∨ (a &&& b) % 2 = 1 := by omega
  rcases h2 with e | e
  · exact e
  · rw [decide_eq_true e] at this
    rcases h with h | h <;> rw [h] at this <;> simp at this
theorem pc_kern : ∀ (k X : Nat), X ≠ 0 → X < 2 ^ k → pcn k (X &&& (X - 1)) + 1 = pcn k X := by
  intro k
  induction k with
  | zero =>
    intro X h0 h1
    rw [Nat.pow_zero] at h1
    omega
  | succ k ih =>
    intro X h0 h1
    rw [Nat.pow_succ] at h1
    rw [pc_2, pc_2, and_d2]
    by_cases g : X % 2 = 0
    · rw [and_m2 (Or.inl g), show (X - 1) / 2 = X / 2 - 1 by omega]
      have := ih (X / 2) (by omega) (by omega)
      omega
    · rw [and_m2 (Or.inr (by omega)), show (X - 1) / 2 = X / 2 by omega, Nat.and_self]
      omega
theorem e_M_bits {σ : JSg} {n X : Nat} (hn : 1000000 < n) (hX : X < 268435456) : f_M_bits n (X : Int) σ = some ((pcn 28 X : Nat) : Int) := by
  apply rt_eq
  unfold f_M_bits
  refine rt_lt (rt_lt ?_)
  refine rt_w2 (I := fun (x y : Int) => ∃ a Y : Nat, x = a ∧ y = Y ∧ Y < 268435456 ∧ a + pcn 28 Y = pcn 28 X) (μ := fun (x y : Int) => (28 - x).toNat) ?_ n _ _ ⟨0, X, rfl, rfl, hX, Nat.zero_add _⟩ (by omega)
  rintro x y ⟨a, Y, rfl, rfl, hY, e⟩ rc hrc
  have l28 := pcn_le (U := X) 28
  refine rt_ite (fun g => ?_) (fun g => ?_)
  · have : Y = 0 := by omega
    subst this
    rw [pcn_0] at e
    exact rt_some (by omega)
  · have pk := pc_kern 28 Y (by omega) hY
    rw [lt_u, lt_u, wi (x := (Y : Int) - 1) (by omega) (by omega), show (Y : Int) - 1 = ((Y - 1 : Nat) : Int) by omega, an_n (by omega), wi (by omega) (by omega)]
    exact hrc _ _ ⟨a + 1, Y &&& (Y - 1), by push_cast; rfl, rfl, Nat.lt_of_le_of_lt Nat.and_le_left hY, by omega⟩ (by omega)
def WN (A : JA) : Nat := (A 0).toNat
def dN (A : JA) (w : Nat) : Nat := (A (194 + w)).toNat
def unP (A : JA) (s : Int) : Bool := !bt (A 193) s.toNat
def unL (A : JA) : List Int := hdL (unP A) (A 1).toNat
def mayB (A : JA) (s : Int) (w : Nat) : Bool := !bt (A (200 + w)) (pipA A s 0).toNat && !bt (A (200 + w)) (pipA A s 1).toNat
/-- w may have stone s; a stone s0 only w0 -/
def alS (A : JA) (s0 w0 : Int) (s : Int) (w : Nat) : Bool := mayB A s w && (decide (s ≠ s0) || decide ((w : Int) = w0))
def alA (A : JA) (s0 w0 : Int) (t w : Nat) : Bool := alS A s0 w0 ((unL A).getD t 0) w
theorem hdL_pre {P : Int → Bool} {i : Nat} : ∀ (m k : Nat), i < (hdL P k).length → (hdL P (k + m)).getD i 0 = (hdL P k).getD i 0 := by
  intro m
  induction m with
  | zero => intro k _; rfl
  | succ m ih =>
    intro k h
    have l := hdL_mo (P := P) m k
    show (if P ((k + m : Nat) : Int) then hdL P (k + m) ++ [((k + m : Nat) : Int)] else hdL P (k + m)).getD i 0 = _
    split
    · rw [List.getD_eq_getElem?_getD, List.getElem?_append_left (by omega), ← List.getD_eq_getElem?_getD]
      exact ih k h
    · exact ih k h
theorem hdL_at {P : Int → Bool} {k K : Nat} (hk : k < K) (hP : P k = true) : (hdL P k).length < (hdL P K).length ∧ (hdL P K).getD (hdL P k).length 0 = k := by
  have e : hdL P (k + 1) = hdL P k ++ [(k : Int)] := by rw [hdL_s, if_pos hP]
  have l := hdL_mo (P := P) (K - (k + 1)) (k + 1)
  rw [show k + 1 + (K - (k + 1)) = K by omega, e, List.length_append] at l
  have l : (hdL P k).length + 1 ≤ (hdL P K).length := l
  refine ⟨by omega, ?_⟩
  have := hdL_pre (P := P) (i := (hdL P k).length) (K - (k + 1)) (k + 1) (by rw [e, List.length_append]; show _ < _ + 1; omega)
  rw [show k + 1 + (K - (k + 1)) = K by omega, e] at this
  rw [this, List.getD_eq_getElem?_getD, List.getElem?_append_right (Nat.le_refl _), Nat.sub_self]
  rfl
theorem un_len {A : JA} {X : Nat} (hX : A 193 = X) (h28 : X < 268435456) : ∀ k : Nat, k ≤ 28 → (hdL (unP A) k).length + pcn k X = k := by
  intro k
  induction k with
  | zero => intro _; rfl
  | succ k ih =>
    intro hk
    have := ih (by omega)
    have e : unP A k = !X.testBit k := by
      unfold unP
      rw [hX, Int.toNat_natCast, bt_n (by omega)]
    show _ + (pcn k X + (if X.testBit k then 1 else 0)) = k + 1
    rw [hdL_s, e]
    cases X.testBit k
    · show (hdL (unP A) k ++ [(k : Int)]).length + (pcn k X + 0) = k + 1
      rw [List.length_append]
      show _ + 1 + _ = _
      omega
    · show (hdL (unP A) k).length + (pcn k X + 1) = k + 1
      omega
theorem pc_hi {X m : Nat} (h : ∀ j, m ≤ j → X.testBit j = false) : ∀ k : Nat, pcn (m + k) X = pcn m X := by
  intro k
  induction k with
  | zero => rfl
  | succ k ih =>
    show pcn (m + k) X + (if X.testBit (m + k) then 1 else 0) = _
    rw [ih, h _ (by omega)]
    rfl
variable {A : JA} {σ s t : JSg} {n : Nat}
theorem e_mayHave {q w : Nat} (hI : WfI A) (hM : WfM A) (hA : s 181 = A) (hq : (q : Int) < A 1) (hw : w < WN A) : f_M_mayHave (q : Int) (w : Int) s = some (bi (mayB A q w)) := by
  have b0 := hI.1
  have b1 := hI.2.1
  have p0 := hI.2.2.2.2 q 0 (by omega) hq (by omega) (by omega)
  have p1 := hI.2.2.2.2 q 1 (by omega) hq (by omega) (by omega)
  unfold f_M_mayHave mayB
  unfold WN at hw
  rw [wi (by omega) (by omega), e_M_pip (by omega) (by omega) (by omega) (by omega), b1_s, e_M_has (by rw [hA]; omega) (by rw [hA]; omega), b1_s, e_M_pip (by omega) (by omega) (by omega) (by omega), b1_s, e_M_has (by rw [hA]; omega) (by rw [hA]; omega), b1_s, hA, ck_p (by omega), ck_p (by omega), show ((200 : Int) + (w : Int)).toNat = 200 + w by omega]
  cases bt (A (200 + w)) (pipA A q 0).toNat <;> cases bt (A (200 + w)) (pipA A q 1).toNat <;> rfl
/-- what comes to place k by those from places before kk, and from kk to those before m -/
def prt (W : Nat) (d : Nat → Nat) (al : Nat → Bool) (ways : Nat → Nat) (kk m k : Nat) : Nat := sumN (fun w => if al w = true ∧ 0 < dgN d k w ∧ (k - scN d w < kk ∨ (k - scN d w = kk ∧ w < m)) then ways (k - scN d w) else 0) W
def ful (W : Nat) (d : Nat → Nat) (al : Nat → Bool) (ways : Nat → Nat) (k : Nat) : Nat := sumN (fun w => if al w = true ∧ 0 < dgN d k w then ways (k - scN d w) else 0) W
theorem prt_le {W : Nat} {d : Nat → Nat} {al : Nat → Bool} {ways : Nat → Nat} {kk m k : Nat} : prt W d al ways kk m k ≤ ful W d al ways k := by
  refine sum_le W (fun w _ => ?_)
  by_cases g : al w = true ∧ 0 < dgN d k w ∧ (k - scN d w < kk ∨ (k - scN d w = kk ∧ w < m))
  · rw [if_pos g, if_pos ⟨g.1, g.2.1⟩]
    exact Nat.le_refl _
  · rw [if_neg g]
    exact Nat.zero_le _
theorem prt_end {W : Nat} {d : Nat → Nat} {al : Nat → Bool} {ways : Nat → Nat} {kk k : Nat} : prt W d al ways kk W k = prt W d al ways (kk + 1) 0 k := by
  refine sum_cg W (fun w hw => ?_)
  by_cases g : al w = true ∧ 0 < dgN d k w ∧ (k - scN d w < kk ∨ (k - scN d w = kk ∧ w < W))
  · rw [if_pos g, if_pos ⟨g.1, g.2.1, by omega⟩]
  · rw [if_neg g, if_neg]
    rintro ⟨g1, g2, g3⟩
    exact g ⟨g1, g2, by omega⟩
theorem prt_all {W : Nat} {d : Nat → Nat} {al : Nat → Bool} {ways : Nat → Nat} {k : Nat} : prt W d al ways (scN d W) 0 k = ful W d al ways k ∨ ¬ k < scN d W := by
  rcases Nat.lt_or_ge k (scN d W) with h | h
  · left
    refine sum_cg W (fun w hw => ?_)
    by_cases g : al w = true ∧ 0 < dgN d k w
    · rw [if_pos g, if_pos ⟨g.1, g.2, by omega⟩]
    · rw [if_neg g, if_neg (fun q => g ⟨q.1, q.2.1⟩)]
  · right; omega
theorem prt_put {W : Nat} {d : Nat → Nat} {al : Nat → Bool} {ways : Nat → Nat} {kk m k : Nat} (hm : m < W) : prt W d al ways kk (m + 1) k = prt W d al ways kk m k + if al m = true ∧ 0 < dgN d k m ∧ k - scN d m = kk then ways kk else 0 := by
  have := sum_lin (f := fun w => if al w = true ∧ 0 < dgN d k w ∧ (k - scN d w < kk ∨ (k - scN d w = kk ∧ w < m + 1)) then ways (k - scN d w) else 0) (g := fun w => if al w = true ∧ 0 < dgN d k w ∧ (k - scN d w < kk ∨ (k - scN d w = kk ∧ w < m)) then ways (k - scN d w) else 0) (m := 1) (i := m) (c := if al m = true ∧ 0 < dgN d k m ∧ k - scN d m = kk then ways kk else 0) W (fun w hw => by
    rw [Nat.one_mul]
    by_cases e : w = m
    · subst e
      rw [if_pos (c := w = w) rfl]
      by_cases g : al w = true ∧ 0 < dgN d k w ∧ k - scN d w = kk
      · rw [if_pos (c := al w = true ∧ 0 < dgN d k w ∧ k - scN d w = kk) g, if_pos ⟨g.1, g.2.1, by omega⟩, if_neg (fun q => by omega), g.2.2, Nat.zero_add]
      · rw [if_neg (c := al w = true ∧ 0 < dgN d k w ∧ k - scN d w = kk) g]
        by_cases g2 : al w = true ∧ 0 < dgN d k w ∧ (k - scN d w < kk ∨ (k - scN d w = kk ∧ w < w + 1))
        · have : k - scN d w ≠ kk := fun q => g ⟨g2.1, g2.2.1, q⟩
          rw [if_pos g2, if_pos ⟨g2.1, g2.2.1, by omega⟩]; rfl
        · rw [if_neg g2, if_neg (fun q => g2 ⟨q.1, q.2.1, by omega⟩)]
    · rw [if_neg (c := w = m) e]
      by_cases g2 : al w = true ∧ 0 < dgN d k w ∧ (k - scN d w < kk ∨ (k - scN d w = kk ∧ w < m))
      · rw [if_pos g2, if_pos ⟨g2.1, g2.2.1, by omega⟩]; rfl
      · rw [if_neg g2, if_neg (fun q => g2 ⟨q.1, q.2.1, by omega⟩)])
  rw [if_pos hm, Nat.one_mul] at this
  exact this
def DlB (A : JA) (s : JSg) : Prop := s 181 = A ∧ ∀ w, w ≤ WN A → s 200 w = (scN (dN A) w : Nat)
theorem wm_d (hI : WfI A) (hM : WfM A) {w : Nat} (hw : w < WN A) : w < 6 ∧ dN A w < 8 ∧ A (194 + w) = (dN A w : Nat) := by
  have b0 := hI.1
  have m := (hM.2.2.1 w (by omega) (by unfold WN at hw; omega)).1
  rw [show ((194 : Int) + (w : Int)).toNat = 194 + w by omega] at m
  unfold WN at hw
  unfold dN
  omega
theorem e_dealOne {q k : Nat} {s0 w0 only : Int} {ways : Nat → Nat} (hn : 1000000 < n) (hI : WfI A) (hM : WfM A) (hB : DlB A s) (hq : (q : Int) < A 1) (ho : only = if (q : Int) = s0 then w0 else -1) (h0 : (q : Int) = s0 → 0 ≤ w0) (hs : scN (dN A) (WN A) ≤ 32768) (hk : k < scN (dN A) (WN A)) (hw : ∀ j, j < scN (dN A) (WN A) → s 198 j = (ways j : Nat)) (hf : ∀ j, j < scN (dN A) (WN A) → ful (WN A) (dN A) (alS A s0 w0 q) ways j < 9223372036854775808) (hc : ∀ j, j < scN (dN A) (WN A) → s 199 j = (prt (WN A) (dN A) (alS A s0 w0 q) ways k 0 j : Nat)) : Ret (f_M_dealOne n (k : Int) (q : Int) only s) (fun t => Agr (fun a _ => a = 199) s t ∧ ∀ j, j < scN (dN A) (WN A) → t 199 j = (prt (WN A) (dN A) (alS A s0 w0 q) ways (k + 1) 0 j : Nat)) := by
  have b0 := hI.1
  unfold f_M_dealOne
  refine rt_lt ?_
  refine rt_w2 (I := fun (x : Int) (u : JSg) => ∃ m : Nat, x = m ∧ m ≤ WN A ∧ Agr (fun a _ => a = 199) s u ∧ ∀ j, j < scN (dN A) (WN A) → u 199 j = (prt (WN A) (dN A) (alS A s0 w0 q) ways k m j : Nat)) (μ := fun (x : Int) (u : JSg) => (6 - x).toNat) ?_ n _ _ ⟨0, rfl, by omega, ag_refl, hc⟩ (by omega)
  rintro x u ⟨m, rfl, hm, ua, uc⟩ rc hrc
  have uA : u 181 = A := (funext fun j => ua 181 j (fun (e : (181 : Nat) = 199) => absurd e (by decide))).trans hB.1
  have W6 : WN A ≤ 6 := by unfold WN; omega
  have wA : A 0 = ((WN A : Nat) : Int) := by unfold WN; omega
  rw [wdM, b1_s, uA, wA]
  refine rt_ite (fun g => ?_) (fun g => ?_)
  · have hmW : m < WN A := by omega
    obtain ⟨d1, d2, d3⟩ := wm_d hI hM hmW
    have u200 : u 200 m = (scN (dN A) m : Nat) := (ua 200 m (fun (e : (200 : Nat) = 199) => absurd e (by decide))).trans (hB.2 m (by omega))
    have u198 : u 198 k = (ways k : Nat) := (ua 198 k (fun (e : (198 : Nat) = 199) => absurd e (by decide))).trans (hw k hk)
    have sp0 := sc_pos (d := dN A) m
    have smo := sc_mo (d := dN A) (show m ≤ WN A by omega)
    rw [j1_s, j0_s, e_mayHave hI hM uA hq hmW, b1_s, wi (x := 194 + (m : Int)) (by omega) (by omega), show ((194 : Int) + (m : Int)).toNat = 194 + m by omega, d3, Int.toNat_natCast, u200, Int.toNat_natCast, u198, wi (x := (m : Int) + 1) (by omega) (by omega)]
    simp only [lt_u]
    /- not given to m -/
    have skip : (∀ j, j < scN (dN A) (WN A) → ¬ (alS A s0 w0 q m = true ∧ 0 < dgN (dN A) j m ∧ j - scN (dN A) m = k)) → Ret (rc ((m : Int) + 1) u) (fun t => Agr (fun a _ => a = 199) s t ∧ ∀ j, j < scN (dN A) (WN A) → t 199 j = (prt (WN A) (dN A) (alS A s0 w0 q) ways (k + 1) 0 j : Nat)) := by
      intro no
      refine hrc _ _ ⟨m + 1, by push_cast; rfl, by omega, ua, fun j hj => ?_⟩ (by omega)
      rw [prt_put hmW, if_neg (no j hj)]
      exact uc j hj
    have give : (mayB A q m = true → alS A s0 w0 q m = true) → Ret (if bi (mayB A q m) = 0 then rc ((m : Int) + 1) u else (chk (0 ≤ (m : Int) ∧ (m : Int) < 7) <| chk (((scN (dN A) m : Nat) : Int) ≠ 0) <| chk (0 ≤ (194 : Int) + m ∧ (194 : Int) + m < 448) <| chk ((w32 (((dN A m : Nat) : Int) + 1)) ≠ 0) <| chk (0 ≤ (194 : Int) + m ∧ (194 : Int) + m < 448) <| if (rm32 (dv32 (k : Int) ((scN (dN A) m : Nat) : Int)) (w32 (((dN A m : Nat) : Int) + 1))) < ((dN A m : Nat) : Int) then (chk (0 ≤ (m : Int) ∧ (m : Int) < 7) <| chk (0 ≤ (w32 ((k : Int) + ((scN (dN A) m : Nat) : Int))) ∧ (w32 ((k : Int) + ((scN (dN A) m : Nat) : Int))) < 32768) <| chk (0 ≤ (k : Int) ∧ (k : Int) < 32768) <| chk (0 ≤ (w32 ((k : Int) + ((scN (dN A) m : Nat) : Int))) ∧ (w32 ((k : Int) + ((scN (dN A) m : Nat) : Int))) < 32768) <| rc ((m : Int) + 1) (sp u 199 (w32 ((k : Int) + ((scN (dN A) m : Nat) : Int))).toNat (w64 ((u 199 (w32 ((k : Int) + ((scN (dN A) m : Nat) : Int))).toNat) + ((ways k : Nat) : Int))))) else rc ((m : Int) + 1) u)) (fun t => Agr (fun a _ => a = 199) s t ∧ ∀ j, j < scN (dN A) (WN A) → t 199 j = (prt (WN A) (dN A) (alS A s0 w0 q) ways (k + 1) 0 j : Nat)) := by
      intro hal
      cases hmy : mayB A q m
      · rw [if_pos by0]
        refine skip (fun j hj ⟨q1, _⟩ => ?_)
        unfold alS at q1
        rw [hmy] at q1
        cases q1
      · rw [if_neg bn0, wi (x := ((dN A m : Nat) : Int) + 1) (by omega) (by omega), dv_p (by omega) (by omega) (by omega) (by omega), rm_p (Int.ediv_nonneg (by omega) (by omega)) (by have := Int.ediv_le_self (a := (k : Int)) ((scN (dN A) m : Nat) : Int) (by omega); omega) (by omega) (by omega), wi (x := (k : Int) + ((scN (dN A) m : Nat) : Int)) (by omega) (by omega), show ((k : Int) + ((scN (dN A) m : Nat) : Int)).toNat = k + scN (dN A) m by omega, show (k : Int) / ((scN (dN A) m : Nat) : Int) % (((dN A m : Nat) : Int) + 1) = ((dgN (dN A) k m : Nat) : Int) from rfl]
        refine rt_chk (by omega) (rt_chk (by omega) (rt_chk (by omega) (rt_chk (by omega) (rt_chk (by omega) ?_))))
        refine rt_ite (fun g2 => ?_) (fun g2 => ?_)
        · have lt : dgN (dN A) k m < dN A m := by omega
          have inn := dg_in hmW hk lt
          have pp := prt_put (W := WN A) (d := dN A) (al := alS A s0 w0 q) (ways := ways) (kk := k) (k := k + scN (dN A) m) hmW
          rw [if_pos ⟨hal hmy, by rw [dg_at lt]; omega, by omega⟩] at pp
          have pl := prt_le (W := WN A) (d := dN A) (al := alS A s0 w0 q) (ways := ways) (kk := k) (m := m + 1) (k := k + scN (dN A) m)
          have fl := hf _ inn
          rw [uc _ inn, wj (by omega) (by omega)]
          refine rt_chk (by omega) (rt_chk (by omega) (rt_chk (by omega) (rt_chk (by omega) (hrc _ _ ⟨m + 1, by push_cast; rfl, by omega, ag_sp ua rfl, fun j hj => ?_⟩ (by omega)))))
          by_cases e : j = k + scN (dN A) m
          · subst e
            rw [sp_eq, pp]
            push_cast
            rfl
          · rw [sp_nj e, prt_put hmW, if_neg]
            · exact uc j hj
            · rintro ⟨q1, q2, q3⟩
              have := (dg_sub q2).1
              omega
        · refine skip (fun j hj ⟨q1, q2, q3⟩ => ?_)
          have := (dg_sub q2).2
          rw [q3] at this
          omega
    subst ho
    by_cases e : (q : Int) = s0
    · have w00 := h0 e
      rw [if_pos e, if_neg (by omega)]
      refine rt_ite (fun g2 => ?_) (fun g2 => ?_)
      · refine give (fun hmy => ?_)
        unfold alS
        rw [hmy, decide_eq_true (show ((m : Nat) : Int) = w0 by omega), Bool.or_true]; rfl
      · refine skip (fun j hj ⟨q1, _⟩ => ?_)
        unfold alS at q1
        rw [decide_eq_false (show ¬ (q : Int) ≠ s0 by omega), decide_eq_false (show ¬ ((m : Nat) : Int) = w0 by omega), Bool.or_self, Bool.and_false] at q1
        cases q1
    · rw [if_neg e, if_pos rfl]
      refine give (fun hmy => ?_)
      unfold alS
      rw [hmy, decide_eq_true (show (q : Int) ≠ s0 from e)]; rfl
  · obtain rfl : m = WN A := by omega
    refine rt_some ⟨ua, fun j hj => ?_⟩
    rw [← prt_end]
    exact uc j hj
end
