/-! LAYER 3za8: the reference deals all -/
section
variable {A : JA} {σ s t : JSg} {n : Nat}
def dealV (A : JA) (s0 w0 : Int) : Nat := if sumN (dN A) (WN A) = (unL A).length then CV (WN A) (alA A s0 w0) (unL A).length (dN A) else 0
theorem w6 (hI : WfI A) : WN A ≤ 6 ∧ A 0 = ((WN A : Nat) : Int) := by
  have := hI.1
  unfold WN
  omega
theorem un28 (hI : WfI A) : (unL A).length ≤ 28 := by
  have := hI.2.1
  have := hdL_len (P := unP A) (A 1).toNat
  unfold unL
  omega
/-- ways as the reference keeps them, behind the first stones -/
def wyA (A : JA) (s0 w0 : Int) (t j : Nat) : Nat := CV (WN A) (alA A s0 w0) t (dgN (dN A) j)
theorem wy_ful {s0 w0 : Int} {q j : Nat} (hq : (q : Int) < A 1) (hP : unP A q = true) : ful (WN A) (dN A) (alS A s0 w0 q) (wyA A s0 w0 (hdL (unP A) q).length) j = wyA A s0 w0 ((hdL (unP A) q).length + 1) j := by
  have e := (hdL_at (P := unP A) (k := q) (K := (A 1).toNat) (by omega) hP).2
  refine sum_cg _ (fun w hw => ?_)
  show (if alS A s0 w0 q w = true ∧ 0 < dgN (dN A) j w then wyA A s0 w0 _ (j - scN (dN A) w) else 0) = (if alA A s0 w0 _ w = true ∧ 0 < dgN (dN A) j w then CV (WN A) (alA A s0 w0) _ (dec (dgN (dN A) j) w) else 0)
  have ea : alA A s0 w0 (hdL (unP A) q).length w = alS A s0 w0 q w := by
    unfold alA unL
    rw [e]
  rw [ea]
  by_cases g : alS A s0 w0 q w = true ∧ 0 < dgN (dN A) j w
  · rw [if_pos g, if_pos g]
    exact cv_cg _ _ _ (fun u _ => dg_dec g.2)
  · rw [if_neg g, if_neg g]
theorem e_dealS {s0 w0 : Int} {q : Nat} {K : JSg → Option (Int × JSg)} {P : Int × JSg → Prop} (hn : 1000000 < n) (hI : WfI A) (hM : WfM A) (hB : DlB A s) (hq : (q : Int) < A 1) (hP : unP A q = true) (h0 : (q : Int) = s0 → 0 ≤ w0) (hs : scN (dN A) (WN A) ≤ 32768) (hw : ∀ j, j < scN (dN A) (WN A) → s 198 j = (wyA A s0 w0 (hdL (unP A) q).length j : Nat)) (hK : ∀ t, Agr (fun a _ => a = 198 ∨ a = 199) s t → (∀ j, j < scN (dN A) (WN A) → t 198 j = (wyA A s0 w0 ((hdL (unP A) q).length + 1) j : Nat)) → Ret (K t) P) : Ret (lt_ 0 fun v27 => wh2 n (fun rc28 (x29 : Int) (s30 : JSg) => if x29 < ((scN (dN A) (WN A) : Nat) : Int) then (chk (0 ≤ x29 ∧ x29 < 32768) <| lt_ (sp s30 199 x29.toNat 0) fun s47 => lt_ (w32 (x29 + 1)) fun v48 => rc28 v48 s47) else (lt_ 0 fun v31 => wh2 n (fun rc32 (x33 : Int) (s34 : JSg) => if x33 < ((scN (dN A) (WN A) : Nat) : Int) then (chk (0 ≤ x33 ∧ x33 < 32768) <| jn1 (fun  (s42 : JSg) => lt_ (w32 (x33 + 1)) fun v43 => rc32 v43 s42) fun j41 => if 0 < (cmpL (s34 198 x33.toNat) 0) then (jn1 (fun (u45 : Int) => bd1 (f_M_dealOne n x33 (q : Int) u45 s34) fun s46 => j41 s46) fun j44 => if (q : Int) = s0 then (j44 w0) else (j44 (-1))) else (j41 s34)) else (lt_ 0 fun v35 => wh2 n (fun rc36 (x37 : Int) (s38 : JSg) => if x37 < ((scN (dN A) (WN A) : Nat) : Int) then (chk (0 ≤ x37 ∧ x37 < 32768) <| chk (0 ≤ x37 ∧ x37 < 32768) <| lt_ (sp s38 198 x37.toNat (s38 199 x37.toNat)) fun s39 => lt_ (w32 (x37 + 1)) fun v40 => rc36 v40 s39) else (K s38)) v35 s34)) v31 s30)) v27 s) P := by
  have fe := fun j => wy_ful (A := A) (s0 := s0) (w0 := w0) (q := q) (j := j) hq hP
  have W6 := w6 hI
  have t28 : (hdL (unP A) q).length + 1 ≤ 28 := by
    have := (hdL_at (P := unP A) (k := q) (K := (A 1).toNat) (by omega) hP).1
    have u := un28 hI
    unfold unL at u
    omega
  have fb : ∀ j, ful (WN A) (dN A) (alS A s0 w0 q) (wyA A s0 w0 (hdL (unP A) q).length) j < 9223372036854775808 := fun j => by
    rw [fe]
    exact cv_b W6.1 t28
  have wb : ∀ j, wyA A s0 w0 (hdL (unP A) q).length j < 9223372036854775808 := fun j => cv_b W6.1 (by omega)
  generalize hS : scN (dN A) (WN A) = S at *
  refine rt_lt ?_
  refine rt_w2 (I := fun (x : Int) (u : JSg) => ∃ k : Nat, x = k ∧ k ≤ S ∧ ∀ a j, u a j = if a = 199 ∧ j < k then 0 else s a j) (μ := fun (x : Int) (u : JSg) => ((S : Int) - x).toNat) ?_ n _ _ ⟨0, rfl, by omega, fun a j => by rw [if_neg (by omega)]⟩ (by omega)
  rintro x u ⟨k, rfl, hk, ua⟩ rc hrc
  refine rt_ite (fun g2 => ?_) (fun g2 => ?_)
  · rw [Int.toNat_natCast, wi (by omega) (by omega)]
    refine rt_chk (by omega) (rt_lt (rt_lt (hrc _ _ ⟨k + 1, by push_cast; rfl, by omega, fun a j => ?_⟩ (by omega))))
    rw [sp_at, ua]
    by_cases c1 : a = 199
    · subst c1
      by_cases c2 : j = k
      · rw [if_pos rfl, if_pos c2, if_pos (by omega)]
      · rw [if_pos rfl, if_neg c2]
        by_cases c3 : j < k
        · rw [if_pos ⟨rfl, c3⟩, if_pos (by omega)]
        · rw [if_neg (by omega), if_neg (by omega)]
    · rw [if_neg c1, if_neg (by omega), if_neg (by omega)]
  · have ek : S = k := by omega
    subst ek
    clear hrc rc g2 hk
    refine rt_lt ?_
    refine rt_w2 (I := fun (x : Int) (v : JSg) => ∃ k : Nat, x = k ∧ k ≤ S ∧ Agr (fun a _ => a = 199) s v ∧ ∀ j, j < S → v 199 j = (prt (WN A) (dN A) (alS A s0 w0 q) (wyA A s0 w0 (hdL (unP A) q).length) k 0 j : Nat)) (μ := fun (x : Int) (u : JSg) => ((S : Int) - x).toNat) ?_ n _ _ ⟨0, rfl, by omega, fun a j ha => by rw [ua, if_neg (fun q => ha q.1)], fun j hj => ?_⟩ (by omega)
    · clear ua u
      rintro x v ⟨k, rfl, hk, va, vc⟩ rc hrc
      have hBv : DlB A v := ⟨(funext fun j => va 181 j (fun (e : (181 : Nat) = 199) => absurd e (by decide))).trans hB.1, fun w hw => (va 200 w (fun (e : (200 : Nat) = 199) => absurd e (by decide))).trans (hB.2 w hw)⟩
      have v198 : ∀ j, j < S → v 198 j = (wyA A s0 w0 (hdL (unP A) q).length j : Nat) := fun j hj => (va 198 j (fun (e : (198 : Nat) = 199) => absurd e (by decide))).trans (hw j hj)
      refine rt_ite (fun g2 => ?_) (fun g2 => ?_)
      · have nx : ∀ w : JSg, Agr (fun a _ => a = 199) v w → (∀ j, j < S → w 199 j = (prt (WN A) (dN A) (alS A s0 w0 q) (wyA A s0 w0 (hdL (unP A) q).length) (k + 1) 0 j : Nat)) → Ret (rc ((k : Int) + 1) w) P := fun w w1 w2 => hrc _ _ ⟨k + 1, by push_cast; rfl, by omega, ag_tr va w1, w2⟩ (by omega)
        rw [j1_s, j1_s, Int.toNat_natCast, v198 k (by omega), wi (by omega) (by omega)]
        simp only [lt_u]
        have wk := wb k
        refine rt_chk (by omega) (rt_ite (fun g3 => ?_) (fun g3 => ?_))
        · have go : ∀ only : Int, only = (if (q : Int) = s0 then w0 else -1) → Ret (bd1 (f_M_dealOne n (k : Int) (q : Int) only v) fun s46 => rc ((k : Int) + 1) s46) P := by
            intro only ho
            refine rt_b1 (e_dealOne (s := v) hn hI hM hBv hq ho h0 (by rw [hS]; omega) (by rw [hS]; omega) (by rw [hS]; exact v198) (fun j _ => fb j) (by rw [hS]; exact vc)) (fun w hw2 => ?_)
            rw [hS] at hw2
            exact nx w hw2.1 hw2.2
          refine rt_ite (fun e => go _ (by rw [if_pos e])) (fun e => go _ (by rw [if_neg e]))
        · have z : wyA A s0 w0 (hdL (unP A) q).length k = 0 := by
            unfold cmpL at g3
            by_cases c : ((wyA A s0 w0 (hdL (unP A) q).length k : Nat) : Int) > 0
            · rw [if_pos c] at g3; omega
            · omega
          refine nx v ag_refl (fun j hj => ?_)
          rw [vc j hj, ← prt_end]
          refine congrArg (fun x : Nat => (x : Int)) (sum_cg _ (fun w hw2 => ?_))
          show (if alS A s0 w0 q w = true ∧ 0 < dgN (dN A) j w ∧ (j - scN (dN A) w < k ∨ (j - scN (dN A) w = k ∧ w < 0)) then wyA A s0 w0 (hdL (unP A) q).length (j - scN (dN A) w) else 0) = (if alS A s0 w0 q w = true ∧ 0 < dgN (dN A) j w ∧ (j - scN (dN A) w < k ∨ (j - scN (dN A) w = k ∧ w < WN A)) then wyA A s0 w0 (hdL (unP A) q).length (j - scN (dN A) w) else 0)
          by_cases c : alS A s0 w0 q w = true ∧ 0 < dgN (dN A) j w ∧ (j - scN (dN A) w < k ∨ (j - scN (dN A) w = k ∧ w < 0))
          · rw [if_pos c, if_pos ⟨c.1, c.2.1, by omega⟩]
          · rw [if_neg c]
            by_cases c2 : alS A s0 w0 q w = true ∧ 0 < dgN (dN A) j w ∧ (j - scN (dN A) w < k ∨ (j - scN (dN A) w = k ∧ w < WN A))
            · rw [if_pos c2]
              have : j - scN (dN A) w = k := by
                rcases c2.2.2 with q1 | q1
                · exact absurd ⟨c2.1, c2.2.1, Or.inl q1⟩ c
                · exact q1.1
              rw [this, z]
            · rw [if_neg c2]
      · have ek : k = S := by omega
        subst ek
        clear hrc rc g2 hk
        have vf : ∀ j, j < k → v 199 j = (wyA A s0 w0 ((hdL (unP A) q).length + 1) j : Nat) := by
          intro j hj
          have := prt_all (W := WN A) (d := dN A) (al := alS A s0 w0 q) (ways := wyA A s0 w0 (hdL (unP A) q).length) (k := j)
          rw [hS] at this
          rcases this with e | e
          · rw [vc j hj, ← fe j, e]
          · exact absurd hj e
        refine rt_lt ?_
        refine rt_w2 (I := fun (x : Int) (w : JSg) => ∃ m : Nat, x = m ∧ m ≤ k ∧ ∀ a j, w a j = if a = 198 ∧ j < m then v 199 j else v a j) (μ := fun (x : Int) (u : JSg) => ((k : Int) - x).toNat) ?_ n _ _ ⟨0, rfl, by omega, fun a j => by rw [if_neg (by omega)]⟩ (by omega)
        rintro x w ⟨m, rfl, hm, wa⟩ rc hrc
        refine rt_ite (fun g2 => ?_) (fun g2 => ?_)
        · rw [Int.toNat_natCast, wi (by omega) (by omega), wa 199 m, if_neg (by omega)]
          refine rt_chk (by omega) (rt_chk (by omega) (rt_lt (rt_lt (hrc _ _ ⟨m + 1, by push_cast; rfl, by omega, fun a j => ?_⟩ (by omega)))))
          rw [sp_at, wa]
          by_cases c1 : a = 198
          · subst c1
            by_cases c2 : j = m
            · rw [if_pos rfl, if_pos c2, if_pos (by omega), c2]
            · rw [if_pos rfl, if_neg c2]
              by_cases c3 : j < m
              · rw [if_pos ⟨rfl, c3⟩, if_pos (by omega)]
              · rw [if_neg (by omega), if_neg (by omega)]
          · rw [if_neg c1, if_neg (by omega), if_neg (by omega)]
        · have em : m = k := by omega
          subst em
          refine hK w (fun a j ha => ?_) (fun j hj => ?_)
          · rw [wa, if_neg (by omega)]
            exact va a j (by omega)
          · rw [wa, if_pos ⟨rfl, hj⟩]
            exact vf j hj
    · rw [ua, if_pos ⟨rfl, hj⟩]
      have : prt (WN A) (dN A) (alS A s0 w0 q) (wyA A s0 w0 (hdL (unP A) q).length) 0 0 j = 0 := (sum_0 _).mpr (fun w _ => if_neg (by omega))
      rw [this]
      rfl
end
