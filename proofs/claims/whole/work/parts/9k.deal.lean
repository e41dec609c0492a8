/-! LAYER 3za9: the reference deals all -/
section
variable {A : JA} {σ s t : JSg} {n : Nat}
theorem e_M_deal {s0 w0 : Int} (hn : 1000000 < n) (hI : WfI A) (hM : WfM A) (hA : s 181 = A) (h0 : s0 = -1 ∨ 0 ≤ w0) : Ret (f_M_deal n s0 w0 s) (fun z => Agr (fun a _ => a = 198 ∨ a = 199 ∨ a = 200) s z.2 ∧ z.1 = (dealV A s0 w0 : Nat)) := by
  have W6 := w6 hI
  have b1 := hI.2.1
  have b193 := hM.1
  unfold f_M_deal
  refine rt_lt (rt_lt (rt_lt ?_))
  refine rt_w4 (I := fun (x y z : Int) (u : JSg) => ∃ m : Nat, x = (sumN (dN A) m : Nat) ∧ y = (scN (dN A) m : Nat) ∧ z = m ∧ m ≤ WN A ∧ Agr (fun a _ => a = 200) s u ∧ ∀ w, w < m → u 200 w = (scN (dN A) w : Nat)) (μ := fun (x y z : Int) (u : JSg) => (6 - z).toNat) ?_ n _ _ _ _ ⟨0, rfl, rfl, rfl, by omega, ag_refl, fun w hw => absurd hw (Nat.not_lt_zero _)⟩ (by omega)
  rintro x y z u ⟨m, rfl, rfl, rfl, hm, ua, uw⟩ rc hrc
  have uA : u 181 = A := (funext fun j => ua 181 j (fun (e : (181 : Nat) = 200) => absurd e (by decide))).trans hA
  have d8 : ∀ w, w < WN A → dN A w < 8 := fun w hw => (wm_d hI hM hw).2.1
  rw [wdM, b1_s, uA, W6.2]
  refine rt_ite (fun g => ?_) (fun g => ?_)
  · obtain ⟨e1, e2, e3⟩ := wm_d hI hM (show m < WN A by omega)
    have sb : scN (dN A) m ≤ 8 ^ m := sc_bb m (by omega) (fun w hw => d8 w (by omega))
    have p8 : 8 ^ m ≤ 8 ^ 6 := Nat.pow_le_pow_right (by decide) (by omega)
    have scap := sum_cap (f := dN A) (b := 7) m (fun w hw => by have := d8 w (by omega); omega)
    have m42 : m * 7 ≤ 42 := by omega
    have sb2 : scN (dN A) m ≤ 262144 := by have : 8 ^ 6 = 262144 := rfl; omega
    have mul8 : scN (dN A) m * (dN A m + 1) ≤ 262144 * 8 := Nat.mul_le_mul sb2 (by omega)
    have ec : ((scN (dN A) m : Nat) : Int) * (((dN A m : Nat) : Int) + 1) = ((scN (dN A) m * (dN A m + 1) : Nat) : Int) := by push_cast; rfl
    rw [wi (x := 194 + (m : Int)) (by omega) (by omega), show ((194 : Int) + (m : Int)).toNat = 194 + m by omega, Int.toNat_natCast, lt_u, sp_nq (show (181 : Nat) ≠ 200 by decide), uA, e3, wi (x := ((dN A m : Nat) : Int) + 1) (by omega) (by omega), ec, wi (x := ((scN (dN A) m * (dN A m + 1) : Nat) : Int)) (by omega) (by omega), wi (x := ((sumN (dN A) m : Nat) : Int) + ((dN A m : Nat) : Int)) (by omega) (by omega), wi (x := (m : Int) + 1) (by omega) (by omega)]
    refine rt_chk (by omega) (rt_chk (by omega) (rt_lt (rt_chk (by omega) (rt_lt (rt_lt (hrc _ _ _ _ ⟨m + 1, by show _ = ((sumN (dN A) m + dN A m : Nat) : Int); push_cast; rfl, rfl, by push_cast; rfl, by omega, ag_sp ua rfl, fun w hw => ?_⟩ (by omega)))))))
    by_cases e : w = m
    · subst e; rw [sp_eq]
    · rw [sp_nj e]; exact uw w (by omega)
  · obtain rfl : m = WN A := by omega
    clear hrc rc g
    obtain ⟨X, hX⟩ : ∃ X : Nat, A 193 = X := ⟨(A 193).toNat, by omega⟩
    have X28 : X < 268435456 := by omega
    rw [b1_s, Int.toNat_natCast]
    refine rt_chk (by omega) ?_
    generalize hu' : sp u 200 (WN A) ((scN (dN A) (WN A) : Nat) : Int) = u'
    have u'a : Agr (fun a _ => a = 200) s u' := by rw [← hu']; exact ag_sp ua rfl
    have u'A : u' 181 = A := (funext fun j => u'a 181 j (fun (e : (181 : Nat) = 200) => absurd e (by decide))).trans hA
    have hB : DlB A u' := ⟨u'A, fun w hw => by
      rw [← hu']
      by_cases e : w = WN A
      · rw [e, sp_eq]
      · rw [sp_nj e]; exact uw w (by omega)⟩
    clear hu'
    have ul := un_len hX X28 (A 1).toNat (by omega)
    have ph := pc_hi (X := X) (m := (A 1).toNat) (fun j hj => by
      have := hM.2.1 j (by omega)
      rw [hX, Int.toNat_natCast, bt_n (by omega)] at this
      exact this) (28 - (A 1).toNat)
    rw [show (A 1).toNat + (28 - (A 1).toNat) = 28 by omega] at ph
    have ulen : A 1 - ((pcn 28 X : Nat) : Int) = ((unL A).length : Nat) := by unfold unL; omega
    have u28 := un28 hI
    rw [lt_u, stM, b1_s, u'A, hX, e_M_bits hn X28, b1_s, ulen, wi (by omega) (by omega)]
    unfold dealV
    refine rt_ite (fun g => ?_) (fun g => ?_)
    · have gs : sumN (dN A) (WN A) = (unL A).length := by omega
      rw [if_pos gs]
      have hs := sc_b W6.1 d8 (by omega)
      have sp0 := sc_pos (d := dN A) (WN A)
      refine rt_lt ?_
      refine rt_w2 (I := fun (x : Int) (v : JSg) => ∃ k : Nat, x = k ∧ k ≤ scN (dN A) (WN A) ∧ ∀ a j, v a j = if a = 198 ∧ j < k then (if j = 0 then 1 else 0) else u' a j) (μ := fun (x : Int) (v : JSg) => (((scN (dN A) (WN A) : Nat) : Int) - x).toNat) ?_ n _ _ ⟨0, rfl, by omega, fun a j => by rw [if_neg (by omega)]⟩ (by omega)
      rintro x v ⟨k, rfl, hk, va⟩ rc hrc
      refine rt_ite (fun g2 => ?_) (fun g2 => ?_)
      · have nx : ∀ w : Int, w = (if k = 0 then 1 else 0) → Ret (rc ((k : Int) + 1) (sp v 198 k w)) (fun z => Agr (fun a _ => a = 198 ∨ a = 199 ∨ a = 200) s z.2 ∧ z.1 = (CV (WN A) (alA A s0 w0) (unL A).length (dN A) : Nat)) := by
          intro w hw
          refine hrc _ _ ⟨k + 1, by push_cast; rfl, by omega, fun a j => ?_⟩ (by omega)
          rw [sp_at, va]
          by_cases c1 : a = 198
          · subst c1
            by_cases c2 : j = k
            · rw [if_pos rfl, if_pos c2, if_pos (by omega), c2]; exact hw
            · rw [if_pos rfl, if_neg c2]
              by_cases c3 : j < k
              · rw [if_pos ⟨rfl, c3⟩, if_pos (show (198 : Nat) = 198 ∧ j < k + 1 by omega)]
              · rw [if_neg (by omega), if_neg (by omega)]
          · rw [if_neg c1, if_neg (by omega), if_neg (by omega)]
        rw [j1_s, Int.toNat_natCast, wi (by omega) (by omega)]
        simp only [lt_u]
        refine rt_ite (fun g3 => ?_) (fun g3 => ?_)
        · exact rt_chk (by omega) (nx 1 (by rw [if_pos (by omega)]))
        · exact rt_chk (by omega) (nx 0 (by rw [if_neg (by omega)]))
      · have ek : k = scN (dN A) (WN A) := by omega
        subst ek
        clear hrc rc g2 hk
        have va' : Agr (fun a _ => a = 198) u' v := fun a j ha => by rw [va, if_neg (fun q => ha q.1)]
        have v0 : ∀ j, j < scN (dN A) (WN A) → v 198 j = (wyA A s0 w0 0 j : Nat) := by
          intro j hj
          rw [va, if_pos ⟨rfl, hj⟩]
          show _ = (((if sumN (dgN (dN A) j) (WN A) = 0 then 1 else 0) : Nat) : Int)
          by_cases e : j = 0
          · subst e
            rw [if_pos rfl, if_pos ((sum_0 _).mpr (fun w _ => dg_0))]; rfl
          · rw [if_neg e, if_neg (fun q => e (dg_nil _ _ hj ((sum_0 _).mp q)))]; rfl
        refine rt_lt ?_
        refine rt_w2 (I := fun (x : Int) (w : JSg) => ∃ q : Nat, x = q ∧ x ≤ A 1 ∧ Agr (fun a _ => a = 198 ∨ a = 199) u' w ∧ ∀ j, j < scN (dN A) (WN A) → w 198 j = (wyA A s0 w0 (hdL (unP A) q).length j : Nat)) (μ := fun (x : Int) (v : JSg) => (A 1 - x).toNat) ?_ n _ _ ⟨0, rfl, by omega, ag_mono va' (fun a j q => Or.inl q), v0⟩ (by omega)
        clear v0 va' va v
        rintro x v ⟨q, rfl, hq, va, vw⟩ rc hrc
        have hBv : DlB A v := ⟨(funext fun j => va 181 j (by omega)).trans hB.1, fun w hw => (va 200 w (by omega)).trans (hB.2 w hw)⟩
        rw [stM, b1_s, hBv.1]
        refine rt_ite (fun g2 => ?_) (fun g2 => ?_)
        · have nx : ∀ w : JSg, Agr (fun a _ => a = 198 ∨ a = 199) v w → (∀ j, j < scN (dN A) (WN A) → w 198 j = (wyA A s0 w0 (hdL (unP A) (q + 1)).length j : Nat)) → Ret (rc (w32 ((q : Int) + 1)) w) (fun z => Agr (fun a _ => a = 198 ∨ a = 199 ∨ a = 200) s z.2 ∧ z.1 = (CV (WN A) (alA A s0 w0) (unL A).length (dN A) : Nat)) := by
            intro w w1 w2
            rw [wi (by omega) (by omega)]
            exact hrc _ _ ⟨q + 1, by push_cast; rfl, by omega, ag_tr va w1, w2⟩ (by omega)
          rw [e_M_has (by omega) (by omega), b1_s, j1_s]
          simp only [lt_u]
          cases hb : bt (A 193) ((q : Int)).toNat
          · have hP : unP A q = true := by unfold unP; rw [hb]; rfl
            rw [if_pos by0]
            have := e_dealS (s := v) (s0 := s0) (w0 := w0) (q := q) (K := fun s => rc (w32 ((q : Int) + 1)) s) (P := fun z => Agr (fun a _ => a = 198 ∨ a = 199 ∨ a = 200) s z.2 ∧ z.1 = (CV (WN A) (alA A s0 w0) (unL A).length (dN A) : Nat)) hn hI hM hBv g2 hP (fun e => by omega) hs vw (fun t t1 t2 => nx t t1 (by rw [hdL_s, if_pos hP, List.length_append]; exact t2))
            exact this
          · have hP : ¬ unP A q = true := by unfold unP; rw [hb]; decide
            rw [if_neg bn0]
            exact nx v ag_refl (by rw [hdL_s, if_neg hP]; exact vw)
        · have eq : q = (A 1).toNat := by omega
          subst eq
          rw [wi (by omega) (by omega), show (((scN (dN A) (WN A) : Nat) : Int) - 1).toNat = scN (dN A) (WN A) - 1 by omega, vw _ (by omega)]
          refine rt_chk (by omega) (rt_some ⟨fun a j ha => ?_, ?_⟩)
          · exact (va a j (by omega)).trans (u'a a j (by omega))
          · show ((wyA A s0 w0 (hdL (unP A) (A 1).toNat).length (scN (dN A) (WN A) - 1) : Nat) : Int) = _
            unfold wyA
            rw [cv_cg _ (dgN (dN A) (scN (dN A) (WN A) - 1)) (dN A) (fun w hw => dg_top _ _ hw)]
            rfl
    · rw [if_neg (by omega)]
      exact rt_some ⟨ag_mono u'a (fun a j q => Or.inr (Or.inr q)), rfl⟩
end
