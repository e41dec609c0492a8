/-! LAYER 3h: rows that are kept, on both sides -/
section
variable {σ τ : JSg} {n p q : Nat} {A : JA}
def rowC (p a j : Nat) : Prop := (a = p ∧ j = 4) ∨ (p + 1 ≤ a ∧ a ≤ p + 6)
theorem acp_z {p q n i : Nat} {σ : JSg} (h : i < n) : acp σ p 0 q 0 n q i = σ p i := by
  rw [acp_eq (by omega) (by omega)]
  congr 1
  omega
theorem e_Row_copy {ip iq : Nat} (hd : p + 6 < q ∨ q + 6 < p) : ∃ τ, f_Row_copyFrom p ip q iq σ = some τ ∧ Agr (rowC p) σ τ ∧ τ p 4 = σ q 4 ∧ (∀ i, i < 28 → τ (p + 1) i = σ (q + 1) i ∧ τ (p + 2) i = σ (q + 2) i ∧ τ (p + 3) i = σ (q + 3) i ∧ τ (p + 4) i = σ (q + 4) i) ∧ (∀ i, i < 6 → τ (p + 5) i = σ (q + 5) i ∧ τ (p + 6) i = σ (q + 6) i) := by
  unfold f_Row_copyFrom rowC
  refine ⟨_, rfl, ?_, ?_, ?_, ?_⟩
  · refine ag_acp (ag_acp (ag_acp (ag_acp (ag_acp (ag_acp (ag_sp ag_refl ?_) ?_) ?_) ?_) ?_) ?_) ?_ <;> intros <;> omega
  · rw [acp_ne (by omega), acp_ne (by omega), acp_ne (by omega), acp_ne (by omega), acp_ne (by omega), acp_ne (by omega), sp_eq]
  · intro i hi
    refine ⟨?_, ?_, ?_, ?_⟩ <;> simp (disch := omega) only [acp_ne, acp_z, sp_nq]
  · intro i hi
    refine ⟨?_, ?_⟩ <;> simp (disch := omega) only [acp_ne, acp_z, sp_nq]
theorem RowR_cp (hI : WfI A) (hW : WfR A) (h4 : τ p 4 = σ q 4) (h28 : ∀ i, i < 28 → τ (p + 1) i = σ (q + 1) i ∧ τ (p + 2) i = σ (q + 2) i ∧ τ (p + 3) i = σ (q + 3) i ∧ τ (p + 4) i = σ (q + 4) i) (h6 : ∀ i, i < 6 → τ (p + 5) i = σ (q + 5) i ∧ τ (p + 6) i = σ (q + 6) i) (H : RowR σ q A) : RowR τ p A := by
  have b0 := hI.1
  have b1 := hI.2.1
  obtain ⟨r0, r1, r2, r3, r4⟩ := H
  refine ⟨h4.trans r0, fun s s0 s1 => ?_, fun i i0 i1 => ?_, fun w w0 w1 => ?_, by rw [(h28 0 (by omega)).2.2.1]; exact r4⟩
  · have g := h28 s.toNat (by omega)
    rw [g.1, g.2.1]; exact r1 s s0 s1
  · have c := wf_rw hI hW i0 i1
    have g := h28 i.toNat (by omega)
    have g2 := h28 (rwA A i / 2).toNat (by omega)
    rw [g.2.2.1, g2.2.2.2]; exact r2 i i0 i1
  · have g := h6 w.toNat (by omega)
    rw [g.1, g.2]; exact r3 w w0 w1
/-- the past behind the class's keeping and ahead of the reference's -/
def PasK (σ : JSg) : Prop := (0 ≤ σ 179 22 ∧ σ 179 22 ≤ 8) ∧ σ 0 8 = min (σ 179 22 + 1) 8 ∧ (0 ≤ σ 0 9 ∧ σ 0 9 < 8) ∧ ∀ j : Int, 0 ≤ j → j < σ 0 8 → WfR (if j + 1 = σ 0 8 then σ 181 else pasA σ (if σ 179 22 = 8 then j + 1 else j)) ∧ RowR σ (pasP σ j) (if j + 1 = σ 0 8 then σ 181 else pasA σ (if σ 179 22 = 8 then j + 1 else j))
def kpC (a j : Nat) : Prop := (a = 0 ∧ (j = 8 ∨ j = 9)) ∨ (123 ≤ a ∧ a ≤ 178)
theorem e_W_keep (H : Inv σ) : ∃ τ, f_W_keepPast σ = some τ ∧ Agr kpC σ τ ∧ PasK τ := by
  have P := in_P H
  have hI := in_I H
  have hW := in_W H
  obtain ⟨c0, ⟨c1, c2⟩, ⟨c3, c4⟩, c5⟩ := P
  obtain ⟨υ, u1, u2, u3, u4, u5⟩ := e_Row_copy (σ := σ) (p := 123 + 7 * (σ 0 9).toNat) (q := 11) (ip := 4) (iq := 4) (by omega)
  have rN : RowR υ (123 + 7 * (σ 0 9).toNat) (σ 181) := RowR_cp hI hW u3 u4 u5 (in_R H)
  have ug : ∀ a j, ¬ (123 + 7 * (σ 0 9).toNat ≤ a ∧ a ≤ 129 + 7 * (σ 0 9).toNat) → υ a j = σ a j := fun a j h => u2 a j (by unfold rowC; omega)
  have e9 : υ 0 9 = σ 0 9 := ug 0 9 (by omega)
  have e8 : υ 0 8 = σ 0 8 := ug 0 8 (by omega)
  have e22 : υ 179 22 = σ 179 22 := ug 179 22 (by omega)
  have eA : υ 181 = σ 181 := funext fun j => ug 181 j (by omega)
  have e184 : υ 184 = σ 184 := funext fun j => ug 184 j (by omega)
  generalize hn9 : (σ 0 9 + 1) % 8 = n9
  generalize hn8 : min (σ 179 22 + 1) 8 = n8
  have hτ : f_W_keepPast σ = some (sp (sp υ 0 9 n9) 0 8 n8) := by
    unfold f_W_keepPast
    rw [ck_p (by omega), u1, b1_s, lt_u, e9, wi (by omega) (by omega), rm_p (by omega) (by omega) (by omega) (by omega), lt_u, sp_nj (by decide), e8, c0, wi (by omega) (by omega), hn9, hn8]
  have tg : ∀ a j, ¬ (a = 0 ∧ (j = 8 ∨ j = 9)) → sp (sp υ 0 9 n9) 0 8 n8 a j = υ a j := by
    intro a j h
    rw [sp_at, sp_at]
    by_cases ha : a = 0
    · rw [if_pos ha, if_neg (by omega), if_pos ha, if_neg (by omega)]
    · rw [if_neg ha, if_neg ha]
  have t9 : sp (sp υ 0 9 n9) 0 8 n8 0 9 = n9 := by rw [sp_nj (by decide), sp_eq]
  have t8 : sp (sp υ 0 9 n9) 0 8 n8 0 8 = n8 := sp_eq
  refine ⟨_, hτ, ?_, ?_⟩
  · intro a j h
    unfold kpC at h
    rw [tg a j (by omega), ug a j (by omega)]
  · generalize sp (sp υ 0 9 n9) 0 8 n8 = τ at *
    have g22 : τ 179 22 = σ 179 22 := (tg 179 22 (by omega)).trans e22
    have gA : τ 181 = σ 181 := (funext fun j => tg 181 j (by omega)).trans eA
    have g184 : τ 184 = σ 184 := (funext fun j => tg 184 j (by omega)).trans e184
    have ga : ∀ j, pasA τ j = pasA σ j := fun j => by unfold pasA; rw [gA, g184]
    have gp : ∀ j, pasP τ j = 123 + 7 * ((n9 + 8 - n8 + j) % 8).toNat := fun j => by unfold pasP; rw [t9, t8]
    refine ⟨by omega, by rw [t8, g22, hn8], by omega, fun j j0 j1 => ?_⟩
    rw [gA, ga, g22, gp, t8]
    rw [t8] at j1
    by_cases hj : j + 1 = n8
    · rw [if_pos hj]
      refine ⟨hW, ?_⟩
      have e : ((n9 + 8 - n8 + j) % 8).toNat = (σ 0 9).toNat := by omega
      rw [e]
      exact RowR_ag (fun a i h => tg a i (by omega)) rN
    · rw [if_neg hj]
      by_cases h8 : σ 179 22 = 8
      · rw [if_pos h8]
        have g := c5 (j + 1) (by omega) (by omega)
        refine ⟨g.1, ?_⟩
        have e : ((n9 + 8 - n8 + j) % 8).toNat = ((σ 0 9 + 8 - σ 0 8 + (j + 1)) % 8).toNat := by omega
        rw [e]
        refine RowR_ag (fun a i h => ?_) g.2
        unfold pasP at h
        have ne : ((σ 0 9 + 8 - σ 0 8 + (j + 1)) % 8).toNat ≠ (σ 0 9).toNat := by omega
        rw [tg a i (by omega), ug a i (by omega)]
      · rw [if_neg h8]
        have g := c5 j (by omega) (by omega)
        refine ⟨g.1, ?_⟩
        have e : ((n9 + 8 - n8 + j) % 8).toNat = ((σ 0 9 + 8 - σ 0 8 + j) % 8).toNat := by omega
        rw [e]
        refine RowR_ag (fun a i h => ?_) g.2
        unfold pasP at h
        have ne : ((σ 0 9 + 8 - σ 0 8 + j) % 8).toNat ≠ (σ 0 9).toNat := by omega
        rw [tg a i (by omega), ug a i (by omega)]
theorem PasK_ag (h : ∀ q j, (q = 0 ∧ (j = 8 ∨ j = 9)) ∨ (123 ≤ q ∧ q ≤ 178) ∨ (q = 179 ∧ j = 22) ∨ q = 181 ∨ q = 184 → τ q j = σ q j) (H : PasK σ) : PasK τ := by
  have e1 : τ 181 = σ 181 := funext fun j => h _ _ (by omega)
  have e2 : τ 184 = σ 184 := funext fun j => h _ _ (by omega)
  have ep : pasP τ = pasP σ := by
    funext j
    unfold pasP
    rw [h 0 8 (by omega), h 0 9 (by omega)]
  have ea : pasA τ = pasA σ := by
    funext j
    unfold pasA
    rw [e1, e2]
  unfold PasK at *
  rw [ep, ea, e1, h 0 8 (by omega), h 0 9 (by omega), h 179 22 (by omega)]
  refine ⟨H.1, H.2.1, H.2.2.1, fun j h0 h1 => ⟨(H.2.2.2 j h0 h1).1, ?_⟩⟩
  refine RowR_ag (fun q i hq => h q i ?_) (H.2.2.2 j h0 h1).2
  unfold pasP at hq
  omega
/-- the reference's row of rows, moved by one -/
theorem snap_cp {Z : Type} {k : JSg → Option Z} {P : Z → Prop} (hn : 1000000 < n) (hm : 0 ≤ σ 179 22 ∧ σ 179 22 < 8) (hk : ∀ τ, (∀ a j, ¬ (a = 184 ∧ (125 * σ 179 22).toNat ≤ j ∧ j < (125 * σ 179 22).toNat + 125) → τ a j = σ a j) → (∀ j, j < 125 → τ 184 ((125 * σ 179 22).toNat + j) = σ 181 (67 + j)) → Ret (k τ) P) : Ret (wh2 n (fun rc4 (x5 : Int) (s6 : JSg) => if x5 < 125 then (chk (0 ≤ (w32 (67 + x5)) ∧ (w32 (67 + x5)) < 448) <| chk (0 ≤ (w32 ((w32 (125 * (s6 179 22))) + x5)) ∧ (w32 ((w32 (125 * (s6 179 22))) + x5)) < 1000) <| lt_ (sp s6 184 (w32 ((w32 (125 * (s6 179 22))) + x5)).toNat (s6 181 (w32 (67 + x5)).toNat)) fun s8 => lt_ (w32 (x5 + 1)) fun v9 => rc4 v9 s8) else (k s6)) 0 σ) P := by
  refine rt_w2 (I := fun x s => (0 ≤ x ∧ x ≤ 125) ∧ (∀ a j, ¬ (a = 184 ∧ (125 * σ 179 22).toNat ≤ j ∧ j < (125 * σ 179 22).toNat + x.toNat) → s a j = σ a j) ∧ (∀ j : Nat, (j : Int) < x → s 184 ((125 * σ 179 22).toNat + j) = σ 181 (67 + j))) (μ := fun x s => (125 - x).toNat) ?_ n 0 σ ⟨by omega, fun _ _ _ => rfl, fun j h => by omega⟩ (by omega)
  rintro x s ⟨⟨x0, x1⟩, e1, e2⟩ rc hrc
  have e22 : s 179 22 = σ 179 22 := e1 179 22 (by omega)
  refine rt_ite (fun h => ?_) (fun h => ?_)
  · have e181 : s 181 (67 + x).toNat = σ 181 (67 + x).toNat := e1 181 _ (by omega)
    rw [e22, wi (x := 67 + x) (by omega) (by omega), wi (x := 125 * σ 179 22) (by omega) (by omega), wi (x := 125 * σ 179 22 + x) (by omega) (by omega), wi (x := x + 1) (by omega) (by omega), e181]
    refine rt_chk (by omega) (rt_chk (by omega) (rt_lt (rt_lt ?_)))
    refine hrc _ _ ⟨by omega, fun a j hj => ?_, fun j hj => ?_⟩ (by omega)
    · rw [sp_at]
      by_cases ha : a = 184
      · rw [if_pos ha, if_neg (by omega), e1 a j (by omega)]
      · rw [if_neg ha, e1 a j (by omega)]
    · rw [sp_at, if_pos rfl]
      by_cases hx : (j : Int) = x
      · rw [if_pos (by omega)]
        congr 1
        omega
      · rw [if_neg (by omega)]
        exact e2 j (by omega)
  · have : x = 125 := by omega
    subst this
    exact hk s (fun a j hj => e1 a j hj) (fun j hj => e2 j (by omega))
theorem snap_sh {Z : Type} {k : JSg → Option Z} {P : Z → Prop} (hn : 1000000 < n) (hk : ∀ τ, (∀ a j, ¬ (a = 184 ∧ j < 875) → τ a j = σ a j) → (∀ j, j < 875 → τ 184 j = σ 184 (125 + j)) → Ret (k τ) P) : Ret (wh2 n (fun rc11 (x12 : Int) (s13 : JSg) => if x12 < 1000 then (chk (0 ≤ x12 ∧ x12 < 1000) <| chk (0 ≤ (w32 (x12 - 125)) ∧ (w32 (x12 - 125)) < 1000) <| lt_ (sp s13 184 (w32 (x12 - 125)).toNat (s13 184 x12.toNat)) fun s15 => lt_ (w32 (x12 + 1)) fun v16 => rc11 v16 s15) else (k s13)) 125 σ) P := by
  refine rt_w2 (I := fun x s => (125 ≤ x ∧ x ≤ 1000) ∧ (∀ a j : Nat, ¬ (a = 184 ∧ (j : Int) < x - 125) → s a j = σ a j) ∧ (∀ j : Nat, (j : Int) < x - 125 → s 184 j = σ 184 (125 + j))) (μ := fun x s => (1000 - x).toNat) ?_ n 125 σ ⟨by omega, fun _ _ _ => rfl, fun j h => by omega⟩ (by omega)
  rintro x s ⟨⟨x0, x1⟩, e1, e2⟩ rc hrc
  refine rt_ite (fun h => ?_) (fun h => ?_)
  · have e3 : s 184 x.toNat = σ 184 x.toNat := e1 184 _ (by omega)
    rw [wi (x := x - 125) (by omega) (by omega), wi (x := x + 1) (by omega) (by omega), e3]
    refine rt_chk (by omega) (rt_chk (by omega) (rt_lt (rt_lt ?_)))
    refine hrc _ _ ⟨by omega, fun a j hj => ?_, fun j hj => ?_⟩ (by omega)
    · rw [sp_at]
      by_cases ha : a = 184
      · rw [if_pos ha, if_neg (by omega), e1 a j (by omega)]
      · rw [if_neg ha, e1 a j (by omega)]
    · rw [sp_at, if_pos rfl]
      by_cases hx : (j : Int) = x - 125
      · rw [if_pos (by omega)]
        congr 1
        omega
      · rw [if_neg (by omega)]
        exact e2 j (by omega)
  · have : x = 1000 := by omega
    subst this
    exact hk s (fun a j hj => e1 a j (by omega)) (fun j hj => e2 j (by omega))
def snC (a j : Nat) : Prop := (a = 179 ∧ j = 22) ∨ a = 184
theorem e_M_snap (hn : 1000000 < n) (hI : WfI (σ 181)) (K : PasK σ) : Ret (f_M_snap n σ) (fun τ => Agr snC σ τ ∧ PasR τ) := by
  obtain ⟨⟨c1, c2⟩, c0, ⟨c3, c4⟩, c5⟩ := K
  have b0 := hI.1
  have b1 := hI.2.1
  unfold f_M_snap
  refine rt_c1 (fun s => (0 ≤ s 179 22 ∧ s 179 22 < 8) ∧ Agr snC σ s ∧ σ 0 8 = s 179 22 + 1 ∧ ∀ j : Int, 0 ≤ j → j < s 179 22 → ∀ k, k < 125 → s 184 (125 * j.toNat + k) = σ 184 (125 * (if σ 179 22 = 8 then j + 1 else j).toNat + k)) (fun s hs => ?_) (fun j1 h1 => ?_)
  · obtain ⟨s0, s1, s2, s3⟩ := hs
    refine rt_lt (snap_cp hn s0 (fun τ t1 t2 => rt_lt (rt_some ?_)))
    have g22 : τ 179 22 = s 179 22 := t1 179 22 (by omega)
    rw [g22, wi (by omega) (by omega)]
    have ag : ∀ a j, ¬ snC a j → sp τ 179 22 (s 179 22 + 1) a j = σ a j := by
      intro a j h
      unfold snC at h
      rw [sp_at]
      by_cases ha : a = 179
      · rw [if_pos ha, if_neg (by omega), t1 a j (by omega)]
        exact s1 a j (by unfold snC; omega)
      · rw [if_neg ha, t1 a j (by omega)]
        exact s1 a j (by unfold snC; omega)
    refine ⟨ag, ?_⟩
    have f22 : sp τ 179 22 (s 179 22 + 1) 179 22 = s 179 22 + 1 := sp_eq
    have f184 : sp τ 179 22 (s 179 22 + 1) 184 = τ 184 := sp_nq (by decide)
    generalize sp τ 179 22 (s 179 22 + 1) = υ at *
    have fA : υ 181 = σ 181 := funext fun j => ag 181 j (by unfold snC; omega)
    have f8 : υ 0 8 = σ 0 8 := ag 0 8 (by unfold snC; omega)
    have f9 : υ 0 9 = σ 0 9 := ag 0 9 (by unfold snC; omega)
    have fp : ∀ j, pasP υ j = pasP σ j := fun j => by unfold pasP; rw [f8, f9]
    refine ⟨by rw [f8, f22, s2], by omega, by omega, fun j j0 j1 => ?_⟩
    have g := c5 j j0 (by omega)
    have key : ∀ k : Nat, k ≤ 1 ∨ (67 ≤ k ∧ k < 192) → pasA υ j k = (if j + 1 = σ 0 8 then σ 181 else pasA σ (if σ 179 22 = 8 then j + 1 else j)) k := by
      intro k hk
      unfold pasA
      by_cases ck : 67 ≤ k ∧ k < 192
      · rw [ovl_in ck, f184]
        unfold shf
        by_cases hj : j + 1 = σ 0 8
        · rw [if_pos hj]
          have e : 125 * j.toNat = (125 * s 179 22).toNat := by omega
          rw [e, t2 (k - 67) (by omega)]
          have f1 := s1 181 k (by unfold snC; omega)
          rw [show 67 + (k - 67) = k by omega]
          exact f1
        · rw [if_neg hj, ovl_in ck]
          show τ 184 (125 * j.toNat + (k - 67)) = σ 184 (125 * _ + (k - 67))
          rw [t1 184 _ (by omega)]
          exact s3 j j0 (by omega) _ (by omega)
      · rw [ovl_lo ck, fA]
        by_cases hj : j + 1 = σ 0 8
        · rw [if_pos hj]
        · rw [if_neg hj, ovl_lo ck]
    have z : ∀ k : Nat, k ≤ 1 → (if j + 1 = σ 0 8 then σ 181 else pasA σ (if σ 179 22 = 8 then j + 1 else j)) k = σ 181 k := by
      intro k hk
      by_cases hj : j + 1 = σ 0 8
      · rw [if_pos hj]
      · rw [if_neg hj]
        exact ovl_lo (by omega)
    have g151 := g.1.2.1
    rw [z 1 (by omega)] at g151
    rw [fp]
    refine ⟨WfR_cg (by rw [z 1 (by omega)]; omega) key g.1, RowR_cg (by rw [z 0 (by omega), z 1 (by omega)]; omega) key (RowR_ag (fun a i h => ag a i ?_) g.2)⟩
    unfold pasP at h
    unfold snC
    omega
  · refine rt_ite (fun h8 => ?_) (fun h8 => ?_)
    · refine rt_lt (snap_sh hn (fun τ t1 t2 => rt_lt ?_))
      have g22 : τ 179 22 = 8 := (t1 179 22 (by omega)).trans h8
      rw [g22, wi (by omega) (by omega)]
      refine h1 _ ⟨by rw [sp_eq]; omega, ?_, by rw [sp_eq]; omega, fun j j0 j1 k hk => ?_⟩
      · intro a j h
        unfold snC at h
        rw [sp_at]
        by_cases ha : a = 179
        · rw [if_pos ha, if_neg (by omega), t1 a j (by omega)]
        · rw [if_neg ha, t1 a j (by omega)]
      · rw [sp_eq] at j1
        rw [sp_nq (by decide), if_pos h8, t2 _ (by omega)]
        congr 1
        omega
    · refine h1 _ ⟨by omega, ag_refl, by omega, fun j j0 j1 k hk => ?_⟩
      rw [if_neg h8]
end
