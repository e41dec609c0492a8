/-! LAYER 3r: write -/
def lsC (p j : Nat) : Prop := (p = 0 ∧ j = 18) ∨ (p = 2 ∧ j = 12) ∨ (p = 104 ∧ j = 6) ∨ p = 106 ∨ (p = 107 ∧ j = 12) ∨ p = 113 ∨ (p = 114 ∧ j = 7) ∨ p = 121 ∨ p = 122 ∨ (p = 179 ∧ (j = 10 ∨ j = 28 ∨ j = 32 ∨ j = 36 ∨ j = 39)) ∨ p = 191 ∨ p = 194 ∨ p = 196 ∨ p = 201
theorem inv_lst {σ τ : JSg} (H : Inv σ) (h : ∀ a j, ¬ (lsC a j ∨ scr a j) → τ a j = σ a j) (hZ : LstR τ) : Inv τ := by
  unfold lsC scr at h
  have e1 : τ 181 = σ 181 := funext fun j => h _ _ (by omega)
  have e2 : τ 185 = σ 185 := funext fun j => h _ _ (by omega)
  have e3 : pwA τ = pwA σ := by
    unfold pwA
    rw [e1, h 179 23 (by omega)]
  obtain ⟨h1, h2, h3, h4, h5, h6, h7⟩ := H
  unfold Inv
  rw [e1, e2, e3, h 179 23 (by omega)]
  refine ⟨h1, WorR_ag (fun q j hq => h q j ?_) h2, TapR_ag (fun q j hq => h q j (by omega)) h3, h4, ⟨ImgR_ag (fun q j hq => h q j ?_) h5.1, ImgR_ag (fun q j hq => h q j ?_) h5.2⟩, PasR_ag (fun q j hq => h q j (by omega)) h6, hZ⟩
  · unfold worC at hq
    omega
  · unfold worC at hq
    omega
  · unfold worC at hq
    omega
def txA (A : JA) (j : Int) : Int := if j % 2 = 1 then 32 else 48 + sidA A (rwA A (j / 2 / 2)) (j / 2 % 2)
def plen (k : Int) : Int := if k = 0 then 0 else 2 * k - 1
section
variable {σ u : JSg} {n : Nat} {A : JA} {k L b : Int}
def WTx (σ : JSg) (A : JA) (u : JSg) (k : Int) : Prop := u 0 18 = plen k ∧ (∀ j : Nat, (j : Int) < plen k → u 122 j = txA A j) ∧ ∀ a j, ¬ ((a = 0 ∧ j = 18) ∨ a = 122) → u a j = σ a j
def MTx (σ : JSg) (A : JA) (u : JSg) (k : Int) : Prop := u 179 39 = plen k ∧ (∀ j : Nat, (j : Int) < plen k → u 196 j = txA A j) ∧ ∀ a j, ¬ ((a = 179 ∧ j = 39) ∨ a = 196) → u a j = σ a j
theorem b8_id (h : 0 ≤ b ∧ b < 128) : b8 b = b := by
  rw [b8_e ⟨by omega, by omega⟩, if_pos (by omega)]
  omega
theorem e_W_wb (hL : u 0 18 = L) (h : 0 ≤ L ∧ L < 112) (hb : 0 ≤ b ∧ b < 128) : f_W_writeByte b u = some (sp (sp u 122 L.toNat b) 0 18 (L + 1)) := by
  unfold f_W_writeByte
  rw [hL, if_pos h.2, ck_p h, b8_id (b := b) hb, b8_id hb, lt_u, sp_nq (by decide), hL, wi (by omega) (by omega), lt_u]
theorem e_W_wp (hk : 0 ≤ k ∧ k < 56) (hb : 0 ≤ b ∧ b ≤ 6) (hx : txA A (2 * k) = 48 + b) (h : WTx σ A u k) : Ret (f_W_writePips b u) (fun v => WTx σ A v (k + 1)) := by
  obtain ⟨h1, h2, h3⟩ := h
  have e1 : plen (k + 1) = 2 * k + 1 := by unfold plen; rw [if_neg (by omega)]; omega
  unfold f_W_writePips
  rw [wi (by omega) (by omega)]
  refine rt_c1 (fun t => t 0 18 = 2 * k ∧ (∀ j : Nat, (j : Int) < 2 * k → t 122 j = txA A j) ∧ ∀ a j, ¬ ((a = 0 ∧ j = 18) ∨ a = 122) → t a j = σ a j) (fun t ht => ?_) (fun j1 hj => ?_)
  · obtain ⟨t1, t2, t3⟩ := ht
    rw [e_W_wb t1 (by omega) (by omega), b1_s]
    refine rt_some ⟨by rw [sp_eq, e1], fun j hj => ?_, fun a j ha => ?_⟩
    · rw [e1] at hj
      rw [sp_nq (by decide), sp_at, if_pos rfl]
      by_cases c : j = (2 * k).toNat
      · rw [if_pos c, ← hx]; congr 1; omega
      · rw [if_neg c]; exact t2 j (by omega)
    · rw [sp_at]
      by_cases c : a = 0
      · rw [if_pos c, if_neg (by omega), sp_nq (by omega)]; exact t3 a j ha
      · rw [if_neg c, sp_nq (by omega)]; exact t3 a j ha
  · rw [h1]
    refine rt_ite (fun g => ?_) (fun g => ?_)
    · have e2 : plen k = 2 * k - 1 := by
        unfold plen at g ⊢
        split at g <;> rw [if_neg (by omega)]
      rw [e_W_wb (L := 2 * k - 1) (by rw [h1, e2]) (by omega) (by omega), b1_s]
      refine hj _ ⟨by rw [sp_eq]; omega, fun j hj => ?_, fun a j ha => ?_⟩
      · rw [sp_nq (by decide), sp_at, if_pos rfl]
        by_cases c : j = (2 * k - 1).toNat
        · rw [if_pos c]
          unfold txA
          rw [if_pos (by omega)]
        · rw [if_neg c]; exact h2 j (by omega)
      · rw [sp_at]
        by_cases c : a = 0
        · rw [if_pos c, if_neg (by omega), sp_nq (by omega)]; exact h3 a j ha
        · rw [if_neg c, sp_nq (by omega)]; exact h3 a j ha
    · have e2 : k = 0 := by
        unfold plen at g
        split at g <;> omega
      have e3 : plen k = 0 := by unfold plen; rw [if_pos e2]
      exact hj _ ⟨by omega, fun j hj => by omega, h3⟩
theorem e_W_write (hn : 1000000 < n) (hI : WfI A) (hW : WfR A) (hL : IslR σ 4 A) (hR : RowR σ 11 A) : Ret (f_W_write n σ) (fun z => z.1 = plen (2 * A 151) ∧ WTx σ A z.2 (2 * A 151)) := by
  have b1 := hI.2.1
  have rr := hW.2.1
  unfold f_W_write
  refine rt_lt (rt_lt ?_)
  refine rt_w2 (I := fun i u => (0 ≤ i ∧ i ≤ A 151) ∧ WTx σ A u (2 * i)) (μ := fun i u => (A 151 - i).toNat) ?_ n _ _ ⟨by omega, by rw [sp_eq]; rfl, fun j hj => absurd hj (by show ¬ (j : Int) < 0; omega), fun a j ha => ?_⟩ (by omega)
  · rintro i u ⟨⟨i0, i1⟩, hu⟩ rc hrc
    have uR : RowR u 11 A := RowR_ag (fun q j hq => hu.2.2 q j (by omega)) hR
    have uL : IslR u 4 A := IslR_ag (fun q j hq => hu.2.2 q j (by omega)) hL
    rw [uR.1]
    refine rt_ite (fun h => ?_) (fun h => ?_)
    · have c := wf_rw hI hW i0 h
      have q0 := sid_in hI (c := rwA A i) (d := 0) c.2.2.1 c.2.2.2.1 (by omega) (by omega)
      have q1 := sid_in hI (c := rwA A i) (d := 1) c.2.2.1 c.2.2.2.1 (by omega) (by omega)
      rw [show u 14 i.toNat = rwA A i / 2 from (uR.2.2.1 i i0 h).1, e_Row_sideOf hI hW uL uR i0 h (by omega) (by omega), b1_s]
      refine rt_chk (by omega) (rt_b1 (e_W_wp (k := 2 * i) (by omega) q0 (by unfold txA; rw [if_neg (by omega), show 2 * (2 * i) / 2 / 2 = i by omega, show 2 * (2 * i) / 2 % 2 = 0 by omega]) hu) (fun v hv => ?_))
      have vR : RowR v 11 A := RowR_ag (fun q j hq => hv.2.2 q j (by omega)) hR
      have vL : IslR v 4 A := IslR_ag (fun q j hq => hv.2.2 q j (by omega)) hL
      rw [show v 14 i.toNat = rwA A i / 2 from (vR.2.2.1 i i0 h).1, e_Row_sideOf hI hW vL vR i0 h (by omega) (by omega), b1_s]
      refine rt_chk (by omega) (rt_b1 (e_W_wp (k := 2 * i + 1) (by omega) q1 (by unfold txA; rw [if_neg (by omega), show 2 * (2 * i + 1) / 2 / 2 = i by omega, show 2 * (2 * i + 1) / 2 % 2 = 1 by omega]) hv) (fun x hx => ?_))
      rw [lt_u, wi (by omega) (by omega)]
      exact hrc _ _ ⟨by omega, by rw [show 2 * (i + 1) = 2 * i + 1 + 1 by omega]; exact hx⟩ (by omega)
    · have : i = A 151 := by omega
      subst this
      exact rt_some ⟨hu.1, hu⟩
  · rw [sp_at]
    by_cases c : a = 0
    · rw [if_pos c, if_neg (by omega)]
    · rw [if_neg c]
theorem e_M_write (hn : 1000000 < n) (hI : WfI (σ 181)) (hW : WfR (σ 181)) : Ret (f_M_write n σ) (fun z => z.1 = plen (2 * σ 181 151) ∧ MTx (sp σ 179 0 0) (σ 181) z.2 (2 * σ 181 151)) := by
  have b1 := hI.2.1
  have rr := hW.2.1
  generalize hA : σ 181 = A at *
  unfold f_M_write
  refine rt_lt (rt_lt (rt_lt ?_))
  refine rt_w2 (I := fun k u => (0 ≤ k ∧ k ≤ 2 * A 151) ∧ MTx (sp σ 179 0 0) A u k) (μ := fun k u => (2 * A 151 - k).toNat) ?_ n _ _ ⟨by omega, by rw [sp_eq]; rfl, fun j hj => absurd hj (by show ¬ (j : Int) < 0; omega), fun a j ha => ?_⟩ (by omega)
  · rintro k u ⟨⟨i0, i1⟩, h1, h2, h3⟩ rc hrc
    have uA : u 181 = A := (funext fun j => h3 181 j (by omega)).trans (by rw [sp_nq (by decide), hA])
    rw [rmM, b1_s, uA, wi (by omega) (by omega)]
    refine rt_ite (fun h => ?_) (fun h => ?_)
    · have c := wf_rw hI hW (i := k / 2) (by omega) (by omega)
      have q := sid_in hI (c := rwA A (k / 2)) (d := k % 2) c.2.2.1 c.2.2.2.1 (by omega) (by omega)
      have e1 : plen (k + 1) = 2 * k + 1 := by unfold plen; rw [if_neg (by omega)]; omega
      refine rt_c1 (fun t => t 179 39 = 2 * k ∧ (∀ j : Nat, (j : Int) < 2 * k → t 196 j = txA A j) ∧ ∀ a j, ¬ ((a = 179 ∧ j = 39) ∨ a = 196) → t a j = sp σ 179 0 0 a j) (fun t ht => ?_) (fun j8 h8 => ?_)
      · obtain ⟨t1, t2, t3⟩ := ht
        have tA : t 181 = A := (funext fun j => t3 181 j (by omega)).trans (by rw [sp_nq (by decide), hA])
        rw [dv_p i0 (by omega) (by omega) (by omega), rm_p i0 (by omega) (by omega) (by omega), e_M_rowPip (by rw [tA]; exact hI) (by rw [tA]; exact hW) (by omega) (by rw [tA]; omega) (by omega) (by omega), b1_s, tA, t1, wi (x := 48 + _) (by omega) (by omega)]
        refine rt_chk (by omega) (rt_lt ?_)
        rw [sp_nq (q := 179) (p := 196) (by decide), t1, wi (x := 2 * k + 1) (by omega) (by omega), wi (x := k + 1) (by omega) (by omega)]
        refine rt_lt (rt_lt (hrc _ _ ⟨by omega, by rw [sp_eq, e1], fun j hj => ?_, fun a j ha => ?_⟩ (by omega)))
        · rw [e1] at hj
          rw [sp_nq (by decide), sp_at, if_pos rfl]
          by_cases c : j = (2 * k).toNat
          · rw [if_pos c]
            unfold txA
            rw [if_neg (by omega), show (j : Int) / 2 = k by omega]
          · rw [if_neg c]; exact t2 j (by omega)
        · rw [sp_at]
          by_cases c : a = 179
          · rw [if_pos c, if_neg (by omega), sp_nq (by omega)]; exact t3 a j ha
          · rw [if_neg c, sp_nq (by omega)]; exact t3 a j ha
      · refine rt_ite (fun g => ?_) (fun g => ?_)
        · have e2 : plen k = 2 * k - 1 := by unfold plen; rw [if_neg (by omega)]
          rw [h1, e2]
          refine rt_chk (by omega) (rt_lt ?_)
          rw [sp_nq (q := 179) (p := 196) (by decide), h1, e2, wi (x := 2 * k - 1 + 1) (by omega) (by omega)]
          refine rt_lt (h8 _ ⟨by rw [sp_eq]; omega, fun j hj => ?_, fun a j ha => ?_⟩)
          · rw [sp_nq (by decide), sp_at, if_pos rfl]
            by_cases c : j = (2 * k - 1).toNat
            · rw [if_pos c]
              unfold txA
              rw [if_pos (by omega)]
            · rw [if_neg c]; exact h2 j (by omega)
          · rw [sp_at]
            by_cases c : a = 179
            · rw [if_pos c, if_neg (by omega), sp_nq (by omega)]; exact h3 a j ha
            · rw [if_neg c, sp_nq (by omega)]; exact h3 a j ha
        · have e2 : k = 0 := by omega
          have e3 : plen k = 0 := by unfold plen; rw [if_pos e2]
          exact h8 _ ⟨by omega, fun j hj => by omega, h3⟩
    · have : k = 2 * A 151 := by omega
      subst this
      exact rt_some ⟨h1, h1, h2, h3⟩
  · rw [sp_at]
    by_cases c : a = 179
    · rw [if_pos c, if_neg (by omega)]
    · rw [if_neg c]
end
theorem op_write : Op_write Inv := by
  intro σ H
  have hI := in_I H
  have hW := in_W H
  have b1 := hI.2.1
  have rr := hW.2.1
  obtain ⟨z, e1, e2, e3⟩ := e_W_write hNN hI hW (in_L H) (in_R H)
  have zA : z.2 181 = σ 181 := funext fun j => e3.2.2 181 j (by omega)
  obtain ⟨y, f1, f2, f3⟩ := e_M_write (σ := z.2) hNN (by rw [zA]; exact hI) (by rw [zA]; exact hW)
  rw [zA] at f2 f3
  have hp : 0 ≤ plen (2 * σ 181 151) ∧ plen (2 * σ 181 151) ≤ 111 := by
    unfold plen
    split <;> omega
  obtain ⟨g1, g2, g3⟩ := e3
  obtain ⟨k1, k2, k3⟩ := f3
  have ag : ∀ a j, ¬ ((a = 0 ∧ j = 18) ∨ a = 122 ∨ (a = 179 ∧ (j = 0 ∨ j = 39)) ∨ a = 196) → y.2 a j = σ a j := by
    intro a j h
    rw [k3 a j (by omega), sp_at]
    by_cases c : a = 179
    · rw [if_pos c, if_neg (by omega)]; exact g3 a j (by omega)
    · rw [if_neg c]; exact g3 a j (by omega)
  have y18 : y.2 0 18 = plen (2 * σ 181 151) := by rw [k3 _ _ (by omega), sp_nq (by decide), g1]
  have y122 : ∀ j : Nat, (j : Int) < plen (2 * σ 181 151) → y.2 122 j = txA (σ 181) j := fun j hj => by rw [k3 _ _ (by omega), sp_nq (by decide)]; exact g2 j hj
  obtain ⟨z1, z2, z3, z4, z5, z6⟩ := in_Z H
  refine ⟨plen (2 * σ 181 151), z.2, y.2, by rw [← e2]; exact e1, by rw [← f2]; exact f1, inv_lst H (fun a j h => ag a j (by unfold lsC scr at h; omega)) ?_⟩
  have q106 : y.2 106 = σ 106 := funext fun j => ag _ _ (by omega)
  have q113 : y.2 113 = σ 113 := funext fun j => ag _ _ (by omega)
  have q191 : y.2 191 = σ 191 := funext fun j => ag _ _ (by omega)
  have q194 : y.2 194 = σ 194 := funext fun j => ag _ _ (by omega)
  have q201 : y.2 201 = σ 201 := funext fun j => ag _ _ (by omega)
  unfold LstR
  rw [q106, q113, q191, q194, q201, ag 2 12 (by omega), ag 179 10 (by omega), ag 104 6 (by omega), ag 179 28 (by omega), ag 107 12 (by omega), ag 179 32 (by omega), ag 114 7 (by omega), ag 179 36 (by omega), ag 121 2 (by omega), ag 121 4 (by omega), ag 121 5 (by omega), ag 121 6 (by omega), y18, k1]
  refine ⟨z1, z2, z3, z4, z5, rfl, by omega, fun i i0 i1 => ?_⟩
  have t1 := y122 i.toNat (by omega)
  have t2 := k2 i.toNat (by omega)
  rw [t1, t2]
  have tb : 0 ≤ txA (σ 181) (i.toNat : Nat) ∧ txA (σ 181) (i.toNat : Nat) < 128 := by
    unfold txA
    by_cases c : ((i.toNat : Nat) : Int) % 2 = 1
    · rw [if_pos c]; omega
    · rw [if_neg c]
      have hl : ((i.toNat : Nat) : Int) / 2 / 2 < σ 181 151 := by
        unfold plen at i1
        split at i1 <;> omega
      have c := wf_rw hI hW (i := ((i.toNat : Nat) : Int) / 2 / 2) (by omega) hl
      have q := sid_in hI (c := rwA (σ 181) (((i.toNat : Nat) : Int) / 2 / 2)) (d := ((i.toNat : Nat) : Int) / 2 % 2) c.2.2.1 c.2.2.2.1 (by omega) (by omega)
      omega
  rw [an_255 ⟨by omega, by omega⟩]
  omega
