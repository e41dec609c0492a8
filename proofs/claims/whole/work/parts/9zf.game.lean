/-! LAYER 3zaz: the GAME of two: the class's value -/
section
variable {A : JA} {h : List Int} {a b : Int} {x y : Stt} {t : Nat} {s σ : JSg} {n : Nat}
def Fq (s : JSg) (q : Nat) : Nat := b2n (b64 (s 103 (q / 32)) (2 * (q % 32))) + 2 * b2n (b64 (s 103 (q / 32)) (2 * (q % 32) + 1))
theorem Fq_lt {q : Nat} : Fq s q < 4 := by
  unfold Fq
  cases b64 (s 103 (q / 32)) (2 * (q % 32)) <;> cases b64 (s 103 (q / 32)) (2 * (q % 32) + 1) <;> decide
theorem Fq_ne {q p v : Nat} (hv : v < 4) (e : p ≠ q) : Fq (sp s 103 (q / 32) (or64 (s 103 (q / 32)) (sl64 (v : Int) ((2 * (q % 32) : Nat) : Int)))) p = Fq s p := by
  unfold Fq
  by_cases c : p / 32 = q / 32
  · rw [c, sp_eq, fld_put (by omega) hv (by omega), fld_put (by omega) hv (by omega), decide_eq_false (show ¬ (v % 2 = 1 ∧ 2 * (p % 32) = 2 * (q % 32)) by omega), decide_eq_false (show ¬ (v / 2 = 1 ∧ 2 * (p % 32) = 2 * (q % 32) + 1) by omega), decide_eq_false (show ¬ (v % 2 = 1 ∧ 2 * (p % 32) + 1 = 2 * (q % 32)) by omega), decide_eq_false (show ¬ (v / 2 = 1 ∧ 2 * (p % 32) + 1 = 2 * (q % 32) + 1) by omega)]
    simp
  · rw [sp_nj c]
theorem Fq_eq {q v : Nat} (hv : v < 4) (e : Fq s q = 0 ∨ Fq s q = v) : Fq (sp s 103 (q / 32) (or64 (s 103 (q / 32)) (sl64 (v : Int) ((2 * (q % 32) : Nat) : Int)))) q = v := by
  unfold Fq at *
  rw [sp_eq, fld_put (by omega) hv (by omega), fld_put (by omega) hv (by omega), decide_eq_false (show ¬ (v / 2 = 1 ∧ 2 * (q % 32) = 2 * (q % 32) + 1) by omega), decide_eq_false (show ¬ (v % 2 = 1 ∧ 2 * (q % 32) + 1 = 2 * (q % 32)) by omega), Bool.or_false, Bool.false_or]
  generalize b64 (s 103 (q / 32)) (2 * (q % 32)) = p0 at *
  generalize b64 (s 103 (q / 32)) (2 * (q % 32) + 1) = p1 at *
  have d0 : decide (v % 2 = 1 ∧ 2 * (q % 32) = 2 * (q % 32)) = decide (v % 2 = 1) := by simp
  have d1 : decide (v / 2 = 1 ∧ 2 * (q % 32) + 1 = 2 * (q % 32) + 1) = decide (v / 2 = 1) := by simp
  rw [d0, d1]
  have k : ∀ v : Nat, v < 4 → ∀ p0 p1 : Bool, (b2n p0 + 2 * b2n p1 = 0 ∨ b2n p0 + 2 * b2n p1 = v) → b2n (p0 || decide (v % 2 = 1)) + 2 * b2n (p1 || decide (v / 2 = 1)) = v := by decide
  exact k v hv p0 p1 e
def TG (A : JA) (h : List Int) (a b : Int) (s : JSg) : Prop := ∀ x t, rdG h x → t < 2 → Fq s (sW h.length x t) = 0 ∨ ((Fq s (sW h.length x t) : Nat) : Int) = 2 + VV A h a b x t
theorem sW_inj {u : Nat} (h10 : h.length ≤ 10) (h1 : rdG h x) (h2 : rdG h y) (ht : t < 2) (hu : u < 2) (e : sW h.length x t = sW h.length y u) : x = y ∧ t = u := by
  obtain ⟨q0, q1, q2⟩ := h1
  obtain ⟨r0, q3, q4⟩ := h2
  unfold sW at e
  obtain ⟨x1, x2, x3⟩ := x
  obtain ⟨y1, y2, y3⟩ := y
  dsimp only at *
  have r1 : cplG h.length x1 = cplG h.length y1 := by omega
  have r2 : x2 = y2 := by omega
  have r3 : x3 = y3 := by omega
  have r4 : t = u := by omega
  have r5 : x1 = y1 := by
    apply Nat.eq_of_testBit_eq
    intro i
    have := congrArg (fun z => z.testBit i) r1
    simp only [cpl_b] at this
    cases c1 : x1.testBit i <;> cases c2 : y1.testBit i <;> cases c3 : decide (i < h.length) <;> rw [c1, c2, c3] at this <;> first | rfl | cases this
  rw [r5, r2, r3]
  exact ⟨rfl, r4⟩
def PW (A : JA) (h : List Int) (a b : Int) (v : Int) (s : JSg) (z : Int × JSg) : Prop := Agr (fun a _ => a = 103) s z.2 ∧ TG A h a b z.2 ∧ z.1 = v
theorem e_vstep {gB : Int → Int → Int → Int → Int → Int → JSg → Option (Int × JSg)} {gV gR : Int → Int → Int → Int → Int → JSg → Option (Int × JSg)} {dep : Nat} (hI : WfI A) (hh : H10 A h) (ha : 0 ≤ a) (hb : 0 ≤ b) (hx : rdG h x) (ht : t < 2) (hC : WG A h a b s) (hT : TG A h a b s) (hd : dep ≤ 22)
    (HR : ¬ ovB A h x.1 a = true → ¬ ovB A h x.1 b = true → Ret (gR (cplG h.length x.1 : Int) (x.2.1 : Int) (x.2.2 : Int) (t : Int) (dep : Int) s) (PW A h a b (VV A h a b x t) s)) : Ret (f_Mat_value_s n gB gV gR (cplG h.length x.1 : Int) (x.2.1 : Int) (x.2.2 : Int) (t : Int) (dep : Int) s) (PW A h a b (VV A h a b x t) s) := by
  have h10 := hh.1
  have p : 2 ^ h.length ≤ 1024 := Nat.pow_le_pow_right (n := 2) (by decide) h10
  have l := cpl_lt hx.1
  have hl := hx.2.1
  have hr := hx.2.2
  have V := VV_eq (a := a) (b := b) (t := t) hI hh.2 hx
  obtain ⟨ma1, ma2⟩ := mk_own (A := A) h10 hx.1 ha
  obtain ⟨mb1, mb2⟩ := mk_own (A := A) h10 hx.1 hb
  have za := mk_0 ma2
  have zb := mk_0 mb2
  unfold f_Mat_value_s
  rw [hC.2.2.1, hC.2.2.2.1, ma1, mb1]
  refine rt_ite (fun g => ?_) (fun g => ?_)
  · rw [if_pos (za.mp (by omega))] at V
    exact rt_some ⟨fun _ _ _ => rfl, hT, V.symm⟩
  · have na : ¬ ovB A h x.1 a = true := fun q => g (by rw [za.mpr q]; rfl)
    rw [if_neg na] at V
    refine rt_ite (fun g2 => ?_) (fun g2 => ?_)
    · rw [if_pos (zb.mp (by omega))] at V
      exact rt_some ⟨fun _ _ _ => rfl, hT, V.symm⟩
    · have nb : ¬ ovB A h x.1 b = true := fun q => g2 (by rw [zb.mpr q]; rfl)
      clear V
      rw [if_neg (show ¬ 22 < (dep : Int) by omega), sW_e (by omega) hl hr ht, lt_u]
      have es : ((cplG h.length x.1 * 8 + x.2.1) * 8 + x.2.2) * 2 + t = sW h.length x t := rfl
      rw [es]
      have sl : sW h.length x t < 131072 := by unfold sW; omega
      have tx := hT x t hx ht
      have ux : ∀ u, TG A h a b u → Fq u (sW h.length x t) = 0 ∨ ((Fq u (sW h.length x t) : Nat) : Int) = 2 + VV A h a b x t := fun u hu => hu x t hx ht
      have inj : ∀ y u, rdG h y → u < 2 → sW h.length y u = sW h.length x t → y = x ∧ u = t := fun y u hy hu e => sW_inj h10 hy hx hu ht e
      generalize sW h.length x t = q at *
      have e1 : sr32 (q : Int) 5 = ((q / 32 : Nat) : Int) := by
        have := sr_n (a := q) (k := 5) (by omega) (by omega)
        rw [Nat.shiftRight_eq_div_pow] at this
        exact this
      have e2 : an32 (q : Int) 31 = ((q % 32 : Nat) : Int) := by
        have := an_n (a := q) (b := 31) (by omega)
        rw [show (31 : Nat) = 2 ^ 5 - 1 from rfl, Nat.and_two_pow_sub_one_eq_mod] at this
        exact this
      have e3 : sl32 ((q % 32 : Nat) : Int) 1 = ((2 * (q % 32) : Nat) : Int) := by
        have := sl_n (a := q % 32) (k := 1) (by rw [Nat.shiftLeft_eq]; omega) (by omega)
        rw [Nat.shiftLeft_eq, show q % 32 * 2 ^ 1 = 2 * (q % 32) by omega] at this
        exact this
      rw [e1, e2, e3, lt_u, lt_u, j0_s, if_neg (show ¬ ((q / 32 : Nat) : Int) < 0 by omega), if_pos (show ((q / 32 : Nat) : Int) < 32768 by omega), Int.toNat_natCast, fld_e (by omega)]
      have eF : b2n (b64 (s 103 (q / 32)) (2 * (q % 32))) + 2 * b2n (b64 (s 103 (q / 32)) (2 * (q % 32) + 1)) = Fq s q := rfl
      rw [eF]
      refine rt_chk (by omega) ?_
      rw [lt_u]
      have vb : -1 ≤ VV A h a b x t ∧ VV A h a b x t ≤ 1 := VV_bd
      refine rt_c2 (fun v u => Agr (fun a _ => a = 103) s u ∧ TG A h a b u ∧ v = 2 + VV A h a b x t) (fun v u hu => ?_) (fun j hj => ?_)
      · obtain ⟨u1, u2, u3⟩ := hu
        rw [u3, wi (by omega) (by omega)]
        exact rt_some ⟨u1, u2, by dsimp only; omega⟩
      · refine rt_ite (fun g3 => ?_) (fun g3 => hj _ _ ⟨fun _ _ _ => rfl, hT, by omega⟩)
        refine rt_b2 (HR na nb) (fun r u hu => ?_)
        obtain ⟨u1, u2, u3⟩ := hu
        have u1 : Agr (fun a _ => a = 103) s u := u1
        have u2 : TG A h a b u := u2
        have u3 : r = VV A h a b x t := u3
        obtain ⟨v, hv⟩ : ∃ v : Nat, w32 (2 + r) = (v : Int) ∧ v < 4 ∧ ((v : Nat) : Int) = 2 + VV A h a b x t := ⟨(2 + r).toNat, by rw [wi (by omega) (by omega)]; omega, by omega, by omega⟩
        obtain ⟨v1, v2, v3⟩ := hv
        rw [v1, lt_u]
        refine rt_chk (by omega) (rt_chk (by omega) (rt_lt (hj _ _ ⟨ag_sp u1 rfl, fun y t' hy ht' => ?_, v3⟩)))
        by_cases e : sW h.length y t' = q
        · obtain ⟨r1, r2⟩ := inj y t' hy ht' e
          rw [e, Fq_eq v2 (by have := ux u u2; omega), r1, r2]
          exact Or.inr v3
        · rw [Fq_ne v2 e]
          exact u2 y t' hy ht'
end
