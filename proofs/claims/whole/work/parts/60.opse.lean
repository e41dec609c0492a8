/-! LAYER 3k: the calls that change the row -/
section
variable {σ τ : JSg} {n p ip : Nat} {A : JA}
theorem PasK_cg (hI : WfI (σ 181)) (hk : ∀ k : Nat, k ≤ 1 ∨ (67 ≤ k ∧ k < 192) → τ 181 k = σ 181 k) (h : ∀ q j, (q = 0 ∧ (j = 8 ∨ j = 9)) ∨ (123 ≤ q ∧ q ≤ 178) ∨ (q = 179 ∧ j = 22) ∨ q = 184 → τ q j = σ q j) (H : PasK σ) : PasK τ := by
  have e2 : τ 184 = σ 184 := funext fun j => h _ _ (by omega)
  have ep : pasP τ = pasP σ := by
    funext j
    unfold pasP
    rw [h 0 8 (by omega), h 0 9 (by omega)]
  have b0 := hI.1
  have b1 := hI.2.1
  have ea : ∀ j : Int, ∀ k : Nat, k ≤ 1 ∨ (67 ≤ k ∧ k < 192) → pasA τ j k = pasA σ j k := by
    intro j k hk2
    unfold pasA
    by_cases c : 67 ≤ k ∧ k < 192
    · rw [ovl_in c, ovl_in c, e2]
    · rw [ovl_lo c, ovl_lo c]; exact hk k (by omega)
  unfold PasK at *
  rw [ep, h 0 8 (by omega), h 0 9 (by omega), h 179 22 (by omega)]
  refine ⟨H.1, H.2.1, H.2.2.1, fun j h0 h1 => ?_⟩
  have g := H.2.2.2 j h0 h1
  have ek : ∀ k : Nat, k ≤ 1 ∨ (67 ≤ k ∧ k < 192) → (if j + 1 = σ 0 8 then τ 181 else pasA τ (if σ 179 22 = 8 then j + 1 else j)) k = (if j + 1 = σ 0 8 then σ 181 else pasA σ (if σ 179 22 = 8 then j + 1 else j)) k := by
    intro k hk2
    by_cases c : j + 1 = σ 0 8
    · rw [if_pos c, if_pos c]; exact hk k hk2
    · rw [if_neg c, if_neg c]; exact ea _ k hk2
  have z : ∀ k : Nat, k ≤ 1 → (if j + 1 = σ 0 8 then σ 181 else pasA σ (if σ 179 22 = 8 then j + 1 else j)) k = σ 181 k := by
    intro k hk
    by_cases hj : j + 1 = σ 0 8
    · rw [if_pos hj]
    · rw [if_neg hj]
      exact ovl_lo (by omega)
  have g151 := g.1.2.1
  rw [z 1 (by omega)] at g151
  refine ⟨WfR_cg (by rw [z 1 (by omega)]; omega) ek g.1, RowR_cg (by rw [z 0 (by omega), z 1 (by omega)]; omega) ek (RowR_ag (fun q i hq => h q i ?_) g.2)⟩
  unfold pasP at hq
  omega
def rwC (p j : Nat) : Prop := (p = 0 ∧ (j = 8 ∨ j = 9)) ∨ (p = 11 ∧ j = 4) ∨ (12 ≤ p ∧ p ≤ 17) ∨ p = 121 ∨ (123 ≤ p ∧ p ≤ 178) ∨ (p = 179 ∧ j = 22) ∨ (p = 181 ∧ 67 ≤ j ∧ j < 192) ∨ p = 184 ∨ p = 201 ∨ scr p j
theorem inv_row (H : Inv σ) (h : Agr rwC σ τ) (hW : WfR (τ 181)) (hR : RowR τ 11 (τ 181)) (hP : PasR τ) (hZ : LstR τ) : Inv τ := by
  unfold Agr rwC scr at h
  have ek : ∀ k : Nat, ¬ (67 ≤ k ∧ k < 192) → τ 181 k = σ 181 k := fun k hk => h 181 k (by omega)
  have eN : τ 185 = σ 185 := funext fun j => h _ _ (by omega)
  have ep : pwA τ = pwA σ := by unfold pwA; rw [h 179 23 (by omega), ek 3 (by omega)]
  obtain ⟨⟨h1, -, h1m⟩, ⟨g1, g2, -, g4, g5⟩, h3, h4, h5, -, -⟩ := H
  have b1 := h1.2.1
  refine ⟨⟨WfI_cg (fun k hk _ => ek k (by omega)) h1, hW, WfM_cg (ek 1 (by omega)) (fun k _ _ => ek k (by omega)) (fun k _ _ => ek k (by omega)) h1m⟩, ⟨?_, ?_, hR, ?_, ?_⟩, TapR_ag (fun q j hq => h q j (by omega)) h3, ?_, ⟨ImgR_ag (fun q j hq => h q j ?_) h5.1, ImgR_ag (fun q j hq => h q j ?_) h5.2⟩, hP, hZ⟩
  · exact IslR_cg (by omega) (fun k hk _ => ek k (by omega)) (IslR_ag (fun q j hq => h q j (by omega)) g1)
  · rw [eN, ep]
    exact IslX_cg (fun k hk _ => ek k (by omega)) (IslX_ag (fun q j hq => h q j (by omega)) g2)
  · exact MemR_cg (fun k _ _ => ek k (by omega)) (MemR_ag (fun q j hq => h q j (by omega)) g4)
  · have e1 : τ 22 = σ 22 := funext fun j => h _ _ (by omega)
    have e2 : τ 23 = σ 23 := funext fun j => h _ _ (by omega)
    have e3 : τ 24 = σ 24 := funext fun j => h _ _ (by omega)
    have e4 : τ 21 0 = σ 21 0 := h 21 0 (by omega)
    have e5 : τ 21 1 = σ 21 1 := h 21 1 (by omega)
    refine senR_cg (A := σ 181) (fun k _ _ => ek k (by omega)) ?_
    show senR (τ 21 0) (τ 21 1) (τ 22) (τ 23) (τ 24) (σ 181)
    rw [e1, e2, e3, e4, e5]
    exact g5
  · rw [h 179 23 (by omega)]; exact h4
  · unfold worC at hq
    omega
  · unfold worC at hq
    omega
/-- the frame of a call that keeps the past and changes the row: the class's half -/
theorem keep_go {α : Type} {f : JSg → Option α} {st : α → JSg} {R : α → Prop} (H : Inv σ) (hf : ∀ υ, IslR υ 4 (σ 181) → RowR υ 11 (σ 181) → υ 181 = σ 181 → Ret (f υ) (fun z => R z ∧ Agr (rowC 11) υ (st z))) : ∃ υ z, f_W_keepPast σ = some υ ∧ f υ = some z ∧ R z ∧ PasK (st z) ∧ (∀ a j, ¬ (kpC a j ∨ rowC 11 a j) → st z a j = σ a j) := by
  obtain ⟨υ, h1, h2, h3⟩ := e_W_keep H
  have eA : υ 181 = σ 181 := funext fun j => h2 181 j (by unfold kpC; omega)
  obtain ⟨z, hz, hr, ha⟩ := hf υ (IslR_ag (fun q j hq => h2 q j (by unfold kpC; omega)) (in_L H)) (RowR_ag (fun q j hq => h2 q j (by unfold kpC; omega)) (in_R H)) eA
  refine ⟨υ, z, h1, hz, hr, PasK_ag (fun q j hq => ha q j (by unfold rowC; omega)) h3, fun a j h => ?_⟩
  rw [ha a j (fun q => h (Or.inr q)), h2 a j (fun q => h (Or.inl q))]
/-- the reference's half: τ stands behind the class's half -/
theorem snap_go {α : Type} {f : JSg → Option α} {st : α → JSg} {R : α → Prop} {B : JA} (hn : 1000000 < n) (H : Inv σ) (hg : ∀ a j, ¬ (kpC a j ∨ rowC 11 a j ∨ scr a j) → τ a j = σ a j) (hK : PasK τ) (hR : RowR τ 11 B) (hB : WfR B) (hlo : ∀ k : Nat, ¬ (67 ≤ k ∧ k < 192) → B k = σ 181 k) (hf : ∀ υ, υ 181 = σ 181 → Ret (f υ) (fun z => R z ∧ (∀ a j, a ≠ 181 → st z a j = υ a j) ∧ st z 181 = B)) : ∃ υ z, f_M_snap n τ = some υ ∧ f υ = some z ∧ R z ∧ Inv (st z) := by
  have hI := in_I H
  have eA : τ 181 = σ 181 := funext fun j => hg 181 j (by unfold kpC rowC scr; omega)
  obtain ⟨υ, h1, h2, h3⟩ := e_M_snap hn (by rw [eA]; exact hI) hK
  have fA : υ 181 = σ 181 := (funext fun j => h2 181 j (by unfold snC; omega)).trans eA
  obtain ⟨z, hz, hr, z1, z2⟩ := hf υ fA
  have ag : ∀ a j, ¬ (kpC a j ∨ rowC 11 a j ∨ scr a j ∨ snC a j ∨ a = 181) → st z a j = σ a j := by
    intro a j h
    rw [z1 a j (fun q => h (by simp [q])), h2 a j (fun q => h (by simp [q]))]
    exact hg a j (fun q => h (by rcases q with q | q | q <;> simp [q]))
  refine ⟨υ, z, h1, hz, hr, inv_row H (fun a j h => ?_) (by rw [z2]; exact hB) (by rw [z2]; exact RowR_ag (fun q j hq => by rw [z1 q j (by omega), h2 q j (by unfold snC; omega)]) hR) (PasR_cg (σ := υ) (by rw [fA]; exact hI) (fun k hk => by rw [z2, fA]; exact hlo k (by omega)) (fun q j hq => z1 q j (by omega)) h3) (LstR_ag (fun q j hq => ag q j (by unfold kpC rowC scr snC; omega)) (in_Z H))⟩
  · by_cases ha : a = 181
    · subst ha
      unfold rwC at h
      rw [z2]
      exact hlo j (by omega)
    · refine ag a j (fun q => h ?_)
      unfold rwC
      unfold kpC rowC snC at q
      rcases q with q | q | q | q | q
      · omega
      · omega
      · simp [q]
      · omega
      · exact absurd q ha
/-! the smaller changes -/
def whN (A : JA) (s v : Int) : JA := fun k => if (k : Int) = 95 + s then v else A k
def wilN (A : JA) (w h : Int) : JA := fun k => if 67 ≤ k ∧ (k : Int) < 67 + A 1 ∧ A k = w ∧ A (k + 28) ≠ 2 then h else A k
theorem whN_wf {s v : Int} (hI : WfI A) (hW : WfR A) (hs : 0 ≤ s ∧ s < A 1) (h2 : whrA A s ≠ 2) (hv : 0 ≤ v ∧ v < 2) : WfR (whN A s v) := by
  have b := hI.2.1
  have rr := hW.2.1
  have lo : ∀ k : Nat, k < 95 ∨ 123 ≤ k → whN A s v k = A k := fun k hk => if_neg (by omega)
  have hwh : ∀ d : Int, 0 ≤ d → d < 28 → whrA (whN A s v) d = if d = s then v else whrA A d := by
    intro d d0 d1
    unfold whrA whN
    by_cases g : d = s
    · rw [if_pos (by omega), if_pos g]
    · rw [if_neg (by omega), if_neg g]
  have er : ∀ i : Int, 0 ≤ i → rwA (whN A s v) i = rwA A i := fun i i0 => lo _ (by omega)
  refine ⟨fun d d0 d1 => ?_, ?_, fun i i0 i1 => ?_, fun i j i0 ij j1 => ?_⟩
  · rw [lo 1 (by omega)] at d1
    have g := hW.1 d d0 d1
    rw [show ownA (whN A s v) d = ownA A d from lo _ (by omega), show lyrA (whN A s v) d = lyrA A d from lo _ (by omega), lo 0 (by omega), hwh d d0 (by omega)]
    split
    · exact ⟨g.1, by omega, fun q => by omega⟩
    · exact g
  · rw [lo 151 (by omega), lo 1 (by omega)]; exact rr
  · rw [lo 151 (by omega)] at i1
    have g := hW.2.2.1 i i0 i1
    rw [er i i0, lo 1 (by omega), hwh _ (by omega) (by omega), if_neg (not_in_row hW h2 i0 i1)]
    exact g
  · rw [lo 151 (by omega)] at j1
    rw [er i i0, er j (by omega)]
    exact hW.2.2.2 i j i0 ij j1
theorem whN_row {s v : Int} (hI : WfI A) (hW : WfR A) (hs : 0 ≤ s ∧ s < A 1) (hR : RowR σ p A) : RowR (sp σ (p + 2) s.toNat v) p (whN A s v) := by
  have b := hI.2.1
  have rr := hW.2.1
  have lo : ∀ k : Nat, k < 95 ∨ 123 ≤ k → whN A s v k = A k := fun k hk => if_neg (by omega)
  obtain ⟨r0, r1, r2, r3, r4⟩ := hR
  refine ⟨?_, fun d d0 d1 => ⟨?_, ?_⟩, fun i i0 i1 => ?_, fun x x0 x1 => ?_, by rw [sp_nq (by omega)]; exact r4⟩
  · rw [sp_nq (by omega), lo 151 (by omega)]; exact r0
  · rw [lo 1 (by omega)] at d1
    rw [sp_nq (by omega), show ownA (whN A s v) d = ownA A d from lo _ (by omega)]; exact (r1 d d0 d1).1
  · rw [lo 1 (by omega)] at d1
    rw [sp_at, if_pos rfl]
    unfold whrA whN
    by_cases g : d = s
    · rw [if_pos (by omega), if_pos (by omega)]
    · rw [if_neg (by omega), if_neg (by omega)]; exact (r1 d d0 d1).2
  · rw [lo 151 (by omega)] at i1
    rw [sp_nq (by omega), sp_nq (by omega), show rwA (whN A s v) i = rwA A i from lo _ (by omega)]; exact r2 i i0 i1
  · rw [lo 0 (by omega)] at x1
    rw [sp_nq (by omega), sp_nq (by omega), lo _ (by omega), lo _ (by omega)]; exact r3 x x0 x1
theorem turN_rw (hI : WfI A) (hW : WfR A) {i : Int} (i0 : 0 ≤ i) (i1 : i < A 151) : rwA (turN A) i / 2 = rwA A i / 2 ∧ (rwA (turN A) i % 2 = if i = A 151 - 1 then 1 - rwA A i % 2 else rwA A i % 2) ∧ 0 ≤ rwA (turN A) i ∧ rwA (turN A) i < 2 * A 1 := by
  have c := wf_rw hI hW i0 i1
  have g := hW.2.2.1 i i0 i1
  have rr := hW.2.1
  have e : rwA (turN A) i = if i = A 151 - 1 then xr32 (rwA A i) 1 else rwA A i := by
    show turN A (152 + i).toNat = _
    unfold turN
    by_cases h : i = A 151 - 1
    · rw [if_pos (by omega), if_pos h]; rfl
    · rw [if_neg (by omega), if_neg h]; rfl
  rw [e]
  by_cases h : i = A 151 - 1
  · rw [if_pos h, if_pos h, xr_one (by omega)]
    split <;> omega
  · rw [if_neg h, if_neg h]
    omega
theorem turN_lo {k : Nat} (hW : WfR A) (h : k < 152 ∨ 152 + A 151 ≤ (k : Int)) (hn0 : A 151 ≠ 0) : turN A k = A k := by
  have rr := hW.2.1
  exact if_neg (by omega)
theorem turN_wf (hI : WfI A) (hW : WfR A) (hn0 : A 151 ≠ 0) : WfR (turN A) := by
  have b := hI.2.1
  have rr := hW.2.1
  have lo : ∀ k : Nat, k < 152 → turN A k = A k := fun k hk => turN_lo hW (Or.inl hk) hn0
  refine ⟨fun d d0 d1 => ?_, ?_, fun i i0 i1 => ?_, fun i j i0 ij j1 => ?_⟩
  · rw [lo 1 (by omega)] at d1
    rw [show ownA (turN A) d = ownA A d from lo _ (by omega), show lyrA (turN A) d = lyrA A d from lo _ (by omega), show whrA (turN A) d = whrA A d from lo _ (by omega), lo 0 (by omega)]
    exact hW.1 d d0 d1
  · rw [lo 151 (by omega), lo 1 (by omega)]; exact rr
  · rw [lo 151 (by omega)] at i1
    have g := hW.2.2.1 i i0 i1
    have t := turN_rw hI hW i0 i1
    rw [lo 1 (by omega)]
    refine ⟨t.2.2.1, t.2.2.2, ?_⟩
    rw [t.1, show whrA (turN A) (rwA A i / 2) = whrA A (rwA A i / 2) from lo _ (by omega)]
    exact g.2.2
  · rw [lo 151 (by omega)] at j1
    rw [(turN_rw hI hW i0 (by omega)).1, (turN_rw hI hW (i := j) (by omega) j1).1]
    exact hW.2.2.2 i j i0 ij j1
theorem e_Row_turn (hI : WfI A) (hW : WfR A) (hR : RowR σ p A) (hn0 : A 151 ≠ 0) : Ret (f_Row_turnLast p ip σ) (fun τ => Agr (rowC p) σ τ ∧ RowR τ p (turN A)) := by
  have b0 := hI.1
  have b := hI.2.1
  have rr := hW.2.1
  have lo : ∀ k : Nat, k < 152 ∨ 152 + A 151 ≤ (k : Int) → turN A k = A k := fun k hk => turN_lo hW hk hn0
  have ee : endA A 1 = A 151 - 1 := by unfold endA; rw [if_neg (by omega)]
  have c := wf_rw hI hW (i := A 151 - 1) (by omega) (by omega)
  have r := hR.2.2.1 (A 151 - 1) (by omega) (by omega)
  unfold f_Row_turnLast
  rw [e_Row_lastAt hI hW hR hn0, b1_s, lt_u, ee, r.2, wi (by omega) (by omega)]
  refine rt_chk (by omega) (rt_chk (by omega) (rt_lt (rt_some ⟨ag_sp ag_refl (by unfold rowC; omega), ?_⟩)))
  obtain ⟨r0, r1, r2, r3, r4⟩ := hR
  refine ⟨?_, fun d d0 d1 => ⟨?_, ?_⟩, fun i i0 i1 => ?_, fun x x0 x1 => ?_, by rw [sp_nq (by omega)]; exact r4⟩
  · rw [sp_nq (by omega), lo 151 (by omega)]; exact r0
  · rw [lo 1 (by omega)] at d1
    rw [sp_nq (by omega), show ownA (turN A) d = ownA A d from lo _ (by omega)]; exact (r1 d d0 d1).1
  · rw [lo 1 (by omega)] at d1
    rw [sp_nq (by omega), show whrA (turN A) d = whrA A d from lo _ (by omega)]; exact (r1 d d0 d1).2
  · rw [lo 151 (by omega)] at i1
    have t := turN_rw hI hW i0 i1
    rw [t.1, t.2.1, sp_nq (q := p + 3) (by omega)]
    refine ⟨(r2 i i0 i1).1, ?_⟩
    rw [sp_at, if_pos rfl]
    by_cases h : i = A 151 - 1
    · rw [if_pos (by rw [h]), if_pos h, h]
    · have ne := hW.2.2.2 i (A 151 - 1) i0 (by omega) (by omega)
      have c2 := wf_rw hI hW i0 i1
      rw [if_neg (by omega), if_neg h]; exact (r2 i i0 i1).2
  · rw [lo 0 (by omega)] at x1
    rw [sp_nq (by omega), sp_nq (by omega), lo _ (by omega), lo _ (by omega)]; exact r3 x x0 x1
theorem e_M_turn (hI : WfI (σ 181)) (hW : WfR (σ 181)) (hn0 : σ 181 151 ≠ 0) : Ret (f_M_turnLast σ) (fun τ => (∀ a j, a ≠ 181 → τ a j = σ a j) ∧ τ 181 = turN (σ 181)) := by
  have b := hI.2.1
  have rr := hW.2.1
  unfold f_M_turnLast
  rw [rmM, b1_s, wi (x := 152 + σ 181 151) (by omega) (by omega), wi (by omega) (by omega)]
  refine rt_chk (by omega) (rt_chk (by omega) (rt_lt (rt_some ⟨fun a j ha => by rw [sp_nq ha], ?_⟩)))
  funext k
  rw [sp_at, if_pos rfl]
  unfold turN
  by_cases h : (k : Int) = 152 + σ 181 151 - 1
  · have : k = (152 + σ 181 151 - 1).toNat := by omega
    rw [if_pos this, if_pos h, ← this]
  · rw [if_neg (by omega), if_neg h]
theorem wilN_wf {w h : Int} (hI : WfI A) (hW : WfR A) (hh : 0 ≤ h ∧ h < A 0) : WfR (wilN A w h) := by
  have b := hI.2.1
  have rr := hW.2.1
  have lo : ∀ k : Nat, k < 67 ∨ 67 + A 1 ≤ (k : Int) → wilN A w h k = A k := fun k hk => if_neg (by omega)
  refine ⟨fun d d0 d1 => ?_, ?_, fun i i0 i1 => ?_, fun i j i0 ij j1 => ?_⟩
  · rw [lo 1 (by omega)] at d1
    have g := hW.1 d d0 d1
    rw [show lyrA (wilN A w h) d = lyrA A d from lo _ (by omega), show whrA (wilN A w h) d = whrA A d from lo _ (by omega), lo 0 (by omega)]
    have eo : ownA (wilN A w h) d = if ownA A d = w ∧ whrA A d ≠ 2 then h else ownA A d := by
      unfold ownA whrA wilN
      rw [show (67 + d).toNat + 28 = (95 + d).toNat by omega]
      by_cases c : A (67 + d).toNat = w ∧ A (95 + d).toNat ≠ 2
      · rw [if_pos (by omega), if_pos c]
      · rw [if_neg (by omega), if_neg c]
    rw [eo]
    refine ⟨?_, g.2.1, fun q => ?_⟩
    · split
      · exact hh
      · exact g.1
    · rw [if_neg (fun z => z.2 q)]; exact g.2.2 q
  · rw [lo 151 (by omega), lo 1 (by omega)]; exact rr
  · rw [lo 151 (by omega)] at i1
    have g := hW.2.2.1 i i0 i1
    rw [show rwA (wilN A w h) i = rwA A i from lo _ (by omega), lo 1 (by omega), show whrA (wilN A w h) (rwA A i / 2) = whrA A (rwA A i / 2) from lo _ (by omega)]
    exact g
  · rw [lo 151 (by omega)] at j1
    rw [show rwA (wilN A w h) i = rwA A i from lo _ (by omega), show rwA (wilN A w h) j = rwA A j from lo _ (by omega)]
    exact hW.2.2.2 i j i0 ij j1
def wilB (A : JA) (w s : Int) : Bool := decide (ownA A s = w ∧ whrA A s ≠ 2)
theorem e_Row_bequeath {w h : Int} (hn : 1000000 < n) (hd : ip + 6 < p) (hI : WfI A) (hW : WfR A) (hL : IslR σ ip A) (hR : RowR σ p A) (hh : w ≠ h) : Ret (f_Row_bequeath n p ip w h σ) (fun z => z.1 = cntP (wilB A w) (A 1) 0 0 ∧ Agr (rowC p) σ z.2 ∧ RowR z.2 p (wilN A w h)) := by
  have b0 := hI.1
  have b := hI.2.1
  have rr := hW.2.1
  unfold f_Row_bequeath
  refine rt_lt (rt_lt ?_)
  refine rt_w3 (I := fun x i u => (0 ≤ i ∧ i ≤ A 1) ∧ (0 ≤ x ∧ x ≤ i) ∧ cntP (wilB A w) (A 1) i x = cntP (wilB A w) (A 1) 0 0 ∧ (∀ a j, a ≠ p + 1 → u a j = σ a j) ∧ ∀ d : Int, 0 ≤ d → d < A 1 → u (p + 1) d.toNat = if d < i ∧ wilB A w d = true then h else ownA A d) (μ := fun x i u => (A 1 - i).toNat) ?_ n _ _ _ ⟨by omega, by omega, rfl, fun _ _ _ => rfl, fun d d0 d1 => by rw [if_neg (by omega)]; exact (hR.2.1 d d0 d1).1⟩ (by omega)
  rintro x i u ⟨⟨i0, i1⟩, ⟨x0, x1⟩, e1, u1, u2⟩ rc hrc
  rw [u1 ip 2 (by omega), hL.2.1]
  refine rt_ite (fun c => ?_) (fun c => ?_)
  · rw [cnt_s c] at e1
    have g := hR.2.1 i i0 c
    rw [u2 i i0 c, if_neg (by omega), u1 (p + 2) _ (by omega), g.2]
    refine rt_chk (by omega) ?_
    refine rt_c2 (fun y t => y = cond (wilB A w i) (x + 1) x ∧ (∀ a j, a ≠ p + 1 → t a j = σ a j) ∧ ∀ d : Int, 0 ≤ d → d < A 1 → t (p + 1) d.toNat = if d < i + 1 ∧ wilB A w d = true then h else ownA A d) (fun y t ht => ?_) (fun j7 h7 => ?_)
    · obtain ⟨rfl, t1, t2⟩ := ht
      rw [lt_u, wi (by omega) (by omega)]
      refine hrc _ _ _ ⟨by omega, ?_, e1, t1, t2⟩ (by omega)
      cases wilB A w i
      · rw [cond_false]; omega
      · rw [cond_true]; omega
    · have mis : wilB A w i = false → Ret (j7 x u) (fun z => z.1 = cntP (wilB A w) (A 1) 0 0 ∧ Agr (rowC p) σ z.2 ∧ RowR z.2 p (wilN A w h)) := by
        intro q
        refine h7 _ _ ⟨by rw [q]; rfl, u1, fun d d0 d1 => ?_⟩
        rw [u2 d d0 d1]
        by_cases e : d = i
        · rw [if_neg (by omega), if_neg (by rw [e, q]; simp)]
        · by_cases k : d < i ∧ wilB A w d = true
          · rw [if_pos k, if_pos ⟨by omega, k.2⟩]
          · rw [if_neg k, if_neg (fun z => k ⟨by omega, z.2⟩)]
      refine rt_ite (fun q => ?_) (fun q => mis (decide_eq_false (fun z => q z.1)))
      refine rt_chk (by omega) (rt_ite (fun q2 => mis (decide_eq_false (fun z => z.2 q2))) (fun q2 => ?_))
      have ht : wilB A w i = true := decide_eq_true ⟨q, q2⟩
      rw [wi (by omega) (by omega)]
      refine rt_chk (by omega) (rt_lt (rt_lt (h7 _ _ ⟨by rw [ht]; rfl, fun a j ha => by rw [sp_nq ha]; exact u1 a j ha, fun d d0 d1 => ?_⟩)))
      rw [sp_at, if_pos rfl]
      by_cases e : d = i
      · rw [if_pos (by omega), if_pos ⟨by omega, by rw [e]; exact ht⟩]
      · rw [if_neg (by omega), u2 d d0 d1]
        by_cases k : d < i ∧ wilB A w d = true
        · rw [if_pos k, if_pos ⟨by omega, k.2⟩]
        · rw [if_neg k, if_neg (fun z => k ⟨by omega, z.2⟩)]
  · rw [cnt_e (by omega)] at e1
    have lo : ∀ k : Nat, k < 67 ∨ 67 + A 1 ≤ (k : Int) → wilN A w h k = A k := fun k hk => if_neg (by omega)
    obtain ⟨r0, r1, r2, r3, r4⟩ := hR
    refine rt_some ⟨e1, fun a j q => u1 a j (by unfold rowC at q; omega), ?_, fun d d0 d1 => ⟨?_, ?_⟩, fun i i0 i1 => ?_, fun x x0 x1 => ?_, by dsimp only; rw [u1 _ _ (by omega)]; exact r4⟩
    · show u p 4 = _
      rw [u1 _ _ (by omega), lo 151 (by omega)]; exact r0
    · rw [lo 1 (by omega)] at d1
      show u (p + 1) _ = _
      rw [u2 d d0 d1]
      unfold wilB ownA whrA wilN
      rw [show (67 + d).toNat + 28 = (95 + d).toNat by omega]
      show (if d < i ∧ decide (A (67 + d).toNat = w ∧ A (95 + d).toNat ≠ 2) = true then h else A (67 + d).toNat) = _
      by_cases c2 : A (67 + d).toNat = w ∧ A (95 + d).toNat ≠ 2
      · rw [if_pos ⟨by omega, decide_eq_true c2⟩, if_pos (by omega)]
      · rw [if_neg (fun z => c2 (of_decide_eq_true z.2)), if_neg (by omega)]
    · rw [lo 1 (by omega)] at d1
      show u (p + 2) _ = _
      rw [u1 _ _ (by omega), show whrA (wilN A w h) d = whrA A d from lo _ (by omega)]; exact (r1 d d0 d1).2
    · rw [lo 151 (by omega)] at i1
      show u (p + 3) _ = _ ∧ u (p + 4) _ = _
      rw [u1 _ _ (by omega), u1 _ _ (by omega), show rwA (wilN A w h) i = rwA A i from lo _ (by omega)]; exact r2 i i0 i1
    · rw [lo 0 (by omega)] at x1
      show u (p + 5) _ = _ ∧ u (p + 6) _ = _
      rw [u1 _ _ (by omega), u1 _ _ (by omega), lo _ (by omega), lo _ (by omega)]; exact r3 x x0 x1
end
