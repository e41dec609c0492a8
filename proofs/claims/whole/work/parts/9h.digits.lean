/-! LAYER 3za6: digits -/
section
variable {d : Nat → Nat} {W : Nat}
def scN (d : Nat → Nat) : Nat → Nat
  | 0 => 1
  | w + 1 => scN d w * (d w + 1)
def dgN (d : Nat → Nat) (k w : Nat) : Nat := k / scN d w % (d w + 1)
theorem sc_pos : ∀ w : Nat, 0 < scN d w := by
  intro w
  induction w with
  | zero => exact Nat.one_pos
  | succ w ih => exact Nat.mul_pos ih (Nat.succ_pos _)
theorem sc_dvd {w : Nat} : ∀ u : Nat, w ≤ u → scN d w ∣ scN d u := by
  intro u
  induction u with
  | zero => intro h; rw [show w = 0 by omega]; exact Nat.dvd_refl _
  | succ u ih =>
    intro h
    by_cases e : w = u + 1
    · rw [e]; exact Nat.dvd_refl _
    · exact Nat.dvd_trans (ih (by omega)) (Nat.dvd_mul_right _ _)
theorem dg_le {k w : Nat} : dgN d k w ≤ d w := Nat.le_of_lt_succ (Nat.mod_lt _ (Nat.succ_pos _))
theorem dg_0 {w : Nat} : dgN d 0 w = 0 := by
  unfold dgN
  rw [Nat.zero_div, Nat.zero_mod]
/-- lower digits don't see what is added above -/
theorem dg_lo {k w u : Nat} (h : u < w) : dgN d (k + scN d w) u = dgN d k u := by
  obtain ⟨c, hc⟩ := sc_dvd (d := d) (w := u + 1) w (by omega)
  unfold dgN
  have e : scN d w = scN d u * ((d u + 1) * c) := by rw [hc]; show scN d u * (d u + 1) * c = _; rw [Nat.mul_assoc]
  rw [e, Nat.add_mul_div_left _ _ (sc_pos u), Nat.add_mul_mod_self_left]
theorem dg_at {k w : Nat} (h : dgN d k w < d w) : dgN d (k + scN d w) w = dgN d k w + 1 := by
  unfold dgN at *
  rw [Nat.add_div_right _ (sc_pos w)]
  generalize k / scN d w = x at *
  have e := Nat.div_add_mod x (d w + 1)
  generalize x % (d w + 1) = r at *
  rw [← e, Nat.add_assoc, Nat.mul_add_mod, Nat.mod_eq_of_lt (by omega)]
theorem div_up {k w : Nat} (h : dgN d k w < d w) : (k + scN d w) / scN d (w + 1) = k / scN d (w + 1) := by
  unfold dgN at h
  show (k + scN d w) / (scN d w * (d w + 1)) = k / (scN d w * (d w + 1))
  rw [← Nat.div_div_eq_div_mul, ← Nat.div_div_eq_div_mul, Nat.add_div_right _ (sc_pos w)]
  generalize k / scN d w = x at *
  have e := Nat.div_add_mod x (d w + 1)
  generalize x % (d w + 1) = r at *
  have e2 : x + 1 = (d w + 1) * (x / (d w + 1)) + (r + 1) := by omega
  rw [e2, Nat.mul_add_div (by omega), Nat.div_eq_of_lt (show r + 1 < d w + 1 by omega), Nat.add_zero]
theorem div_hi {k w u : Nat} (h : dgN d k w < d w) (hu : w < u) : (k + scN d w) / scN d u = k / scN d u := by
  obtain ⟨c, hc⟩ := sc_dvd (d := d) (w := w + 1) u (by omega)
  rw [hc, ← Nat.div_div_eq_div_mul, ← Nat.div_div_eq_div_mul, div_up h]
theorem dg_add {k w u : Nat} (h : dgN d k w < d w) : dgN d (k + scN d w) u = dgN d k u + if u = w then 1 else 0 := by
  rcases Nat.lt_trichotomy u w with g | g | g
  · rw [dg_lo g, if_neg (by omega)]; rfl
  · subst g
    rw [dg_at h, if_pos rfl]
  · rw [if_neg (by omega)]
    unfold dgN
    rw [div_hi h g]; rfl
theorem dg_in {k w : Nat} (hw : w < W) (hk : k < scN d W) (h : dgN d k w < d w) : k + scN d w < scN d W := by
  have := div_hi h hw
  rw [Nat.div_eq_of_lt hk] at this
  exact (Nat.div_eq_zero_iff_lt (sc_pos W)).mp this
theorem dg_sub {k w : Nat} (h : 0 < dgN d k w) : scN d w ≤ k ∧ dgN d (k - scN d w) w < d w := by
  have hp := sc_pos (d := d) w
  have h1 : scN d w ≤ k := by
    rcases Nat.lt_or_ge k (scN d w) with g | g
    · unfold dgN at h
      rw [Nat.div_eq_of_lt g, Nat.zero_mod] at h
      exact absurd h (Nat.lt_irrefl _)
    · exact g
  refine ⟨h1, ?_⟩
  obtain ⟨j, rfl⟩ : ∃ j, k = j + scN d w := ⟨k - scN d w, by omega⟩
  rw [Nat.add_sub_cancel]
  unfold dgN at *
  rw [Nat.add_div_right _ hp] at h
  generalize j / scN d w = x at *
  have e := Nat.div_add_mod x (d w + 1)
  have lt := Nat.mod_lt x (Nat.succ_pos (d w))
  generalize hr : x % (d w + 1) = r at *
  rcases Nat.lt_or_ge r (d w) with g | g
  · exact g
  · have er : r = d w := by omega
    subst er
    have e2 : x + 1 = (d w + 1) * (x / (d w + 1) + 1) := by rw [Nat.mul_add, Nat.mul_one]; omega
    rw [e2, Nat.mul_mod_right] at h
    exact absurd h (Nat.lt_irrefl _)
theorem dg_dec {k w u : Nat} (h : 0 < dgN d k w) : dgN d (k - scN d w) u = dec (dgN d k) w u := by
  obtain ⟨h1, h2⟩ := dg_sub h
  have := dg_add (u := u) h2
  rw [show k - scN d w + scN d w = k by omega] at this
  unfold dec
  by_cases e : u = w
  · rw [if_pos e]
    rw [if_pos e] at this
    omega
  · rw [if_neg e]
    rw [if_neg e] at this
    omega
theorem dg_top : ∀ (W w : Nat), w < W → dgN d (scN d W - 1) w = d w := by
  intro W w hw
  obtain ⟨c, hc⟩ := sc_dvd (d := d) (w := w + 1) W (by omega)
  have hp := sc_pos (d := d) w
  have hW := sc_pos (d := d) W
  have c0 : 0 < c := by
    rcases Nat.eq_zero_or_pos c with g | g
    · rw [g, Nat.mul_zero] at hc; omega
    · exact g
  have e1 : scN d W = scN d w * ((d w + 1) * c) := by rw [hc]; show scN d w * (d w + 1) * c = _; rw [Nat.mul_assoc]
  unfold dgN
  obtain ⟨c', rfl⟩ : ∃ x, c = x + 1 := ⟨c - 1, by omega⟩
  have e2 : (d w + 1) * (c' + 1) = (d w + 1) * c' + d w + 1 := by rw [Nat.mul_add, Nat.mul_one]; rfl
  have e3 : scN d W - 1 = scN d w * ((d w + 1) * c' + d w) + (scN d w - 1) := by
    rw [e1, e2, Nat.mul_add, Nat.mul_one]
    omega
  rw [e3, Nat.mul_add_div hp, Nat.div_eq_of_lt (show scN d w - 1 < scN d w by omega), Nat.add_zero, Nat.mul_add_mod, Nat.mod_eq_of_lt (by omega)]
theorem dg_nil : ∀ (W k : Nat), k < scN d W → (∀ w, w < W → dgN d k w = 0) → k = 0 := by
  intro W
  induction W with
  | zero =>
    intro k hk _
    have : scN d 0 = 1 := rfl
    omega
  | succ W ih =>
    intro k hk hz
    have h0 := hz W (by omega)
    unfold dgN at h0
    have hk : k < scN d W * (d W + 1) := hk
    have h1 : k / scN d W < d W + 1 := by rw [Nat.div_lt_iff_lt_mul (sc_pos W), Nat.mul_comm]; exact hk
    rw [Nat.mod_eq_of_lt h1] at h0
    exact ih k ((Nat.div_eq_zero_iff_lt (sc_pos W)).mp h0) (fun w hw => hz w (by omega))
/-- one more -/
theorem dg_odo {k w : Nat} : dgN d (k + 1) w = if scN d w ∣ k + 1 then (if dgN d k w = d w then 0 else dgN d k w + 1) else dgN d k w := by
  unfold dgN
  rw [Nat.succ_div]
  by_cases g : scN d w ∣ k + 1
  · rw [if_pos g, if_pos g]
    generalize k / scN d w = x
    have e := Nat.div_add_mod x (d w + 1)
    have lt := Nat.mod_lt x (Nat.succ_pos (d w))
    generalize x % (d w + 1) = r at *
    by_cases c : r = d w
    · rw [if_pos c]
      have e2 : x + 1 = (d w + 1) * (x / (d w + 1) + 1) := by rw [Nat.mul_add, Nat.mul_one]; omega
      rw [e2, Nat.mul_mod_right]
    · rw [if_neg c, ← e, Nat.add_assoc, Nat.mul_add_mod, Nat.mod_eq_of_lt (by omega)]
  · rw [if_neg g, if_neg g, Nat.add_zero]
theorem dvd_odo {k w : Nat} : scN d (w + 1) ∣ k + 1 ↔ scN d w ∣ k + 1 ∧ dgN d k w = d w := by
  have hp := sc_pos (d := d) w
  constructor
  · intro h
    have h1 : scN d w ∣ k + 1 := Nat.dvd_trans (sc_dvd (w + 1) (by omega)) h
    refine ⟨h1, ?_⟩
    obtain ⟨c, hc⟩ := h
    have hc : k + 1 = scN d w * ((d w + 1) * c) := by rw [hc]; show scN d w * (d w + 1) * c = _; rw [Nat.mul_assoc]
    have : (k + 1) / scN d w = (d w + 1) * c := by rw [hc, Nat.mul_div_cancel_left _ hp]
    rw [Nat.succ_div, if_pos h1] at this
    unfold dgN
    generalize k / scN d w = x at *
    have c0 : 0 < c := by
      rcases Nat.eq_zero_or_pos c with g | g
      · rw [g, Nat.mul_zero] at this; omega
      · exact g
    obtain ⟨c', rfl⟩ : ∃ y, c = y + 1 := ⟨c - 1, by omega⟩
    rw [Nat.mul_add, Nat.mul_one] at this
    have e : x = (d w + 1) * c' + d w := by omega
    rw [e, Nat.mul_add_mod, Nat.mod_eq_of_lt (by omega)]
  · rintro ⟨⟨c, hc⟩, h2⟩
    have e1 : (k + 1) / scN d w = c := by rw [hc, Nat.mul_div_cancel_left _ hp]
    rw [Nat.succ_div, if_pos ⟨c, hc⟩] at e1
    unfold dgN at h2
    generalize k / scN d w = x at *
    have e := Nat.div_add_mod x (d w + 1)
    rw [h2] at e
    refine ⟨x / (d w + 1) + 1, ?_⟩
    show k + 1 = scN d w * (d w + 1) * (x / (d w + 1) + 1)
    rw [hc, Nat.mul_assoc]
    congr 1
    rw [Nat.mul_add, Nat.mul_one]
    omega
theorem st_ineq : ∀ x : Nat, x < 8 → (x + 1) * (5 ^ (x + 1) * 6 ^ 5) ≤ 6 ^ (x + 1) * 5 ^ 6 := by decide +kernel
theorem fin_ineq : ∀ m : Nat, m < 7 → ∀ s : Nat, s < 29 → 6 ^ (s + m) * 5 ^ (6 * m) < 32769 * (5 ^ (s + m) * 6 ^ (5 * m)) := by decide +kernel
theorem sc_ineq : ∀ W : Nat, (∀ w, w < W → d w < 8) → scN d W * (5 ^ (sumN d W + W) * 6 ^ (5 * W)) ≤ 6 ^ (sumN d W + W) * 5 ^ (6 * W) := by
  intro W
  induction W with
  | zero => intro _; exact Nat.le_refl _
  | succ W ih =>
    intro h
    have h1 := ih (fun w hw => h w (by omega))
    have h2 := st_ineq (d W) (h W (by omega))
    have h3 := Nat.mul_le_mul h1 h2
    show scN d W * (d W + 1) * (5 ^ (sumN d W + d W + (W + 1)) * 6 ^ (5 * (W + 1))) ≤ 6 ^ (sumN d W + d W + (W + 1)) * 5 ^ (6 * (W + 1))
    have e1 : 5 ^ (sumN d W + d W + (W + 1)) = 5 ^ (sumN d W + W) * 5 ^ (d W + 1) := by rw [← Nat.pow_add]; congr 1; omega
    have e2 : 6 ^ (sumN d W + d W + (W + 1)) = 6 ^ (sumN d W + W) * 6 ^ (d W + 1) := by rw [← Nat.pow_add]; congr 1; omega
    have e3 : 6 ^ (5 * (W + 1)) = 6 ^ (5 * W) * 6 ^ 5 := by rw [← Nat.pow_add]; congr 1
    have e4 : 5 ^ (6 * (W + 1)) = 5 ^ (6 * W) * 5 ^ 6 := by rw [← Nat.pow_add]; congr 1
    rw [e1, e2, e3, e4]
    generalize 5 ^ (sumN d W + W) = a at *
    generalize 5 ^ (d W + 1) = b at *
    generalize 6 ^ (sumN d W + W) = c at *
    generalize 6 ^ (d W + 1) = f at *
    generalize 6 ^ (5 * W) = g at *
    generalize 5 ^ (6 * W) = i at *
    generalize scN d W = j at *
    generalize d W + 1 = l at *
    calc j * l * (a * b * (g * 6 ^ 5)) = j * (a * g) * (l * (b * 6 ^ 5)) := by
          rw [Nat.mul_mul_mul_comm a b g (6 ^ 5), Nat.mul_mul_mul_comm j l (a * g) (b * 6 ^ 5)]
      _ ≤ c * i * (f * 5 ^ 6) := h3
      _ = c * f * (i * 5 ^ 6) := by rw [Nat.mul_mul_mul_comm c i f (5 ^ 6)]
theorem sc_b (hW : W ≤ 6) (h8 : ∀ w, w < W → d w < 8) (hs : sumN d W ≤ 28) : scN d W ≤ 32768 := by
  have h1 := sc_ineq W h8
  have h2 := fin_ineq W (by omega) (sumN d W) (by omega)
  have h3 := Nat.lt_of_le_of_lt h1 h2
  have := Nat.lt_of_mul_lt_mul_right h3
  omega
theorem sc_mo {w : Nat} (hw : w ≤ W) : scN d w ≤ scN d W := Nat.le_of_dvd (sc_pos W) (sc_dvd W hw)
theorem sc_bb : ∀ W : Nat, W ≤ 6 → (∀ w, w < W → d w < 8) → scN d W ≤ 8 ^ W := by
  intro W
  induction W with
  | zero => intro _ _; exact Nat.le_refl _
  | succ W ih =>
    intro h1 h2
    have := ih (by omega) (fun w hw => h2 w (by omega))
    exact Nat.mul_le_mul this (h2 W (by omega))
end
