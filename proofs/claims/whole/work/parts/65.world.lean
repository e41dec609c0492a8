/-! LAYER 3p: whole worlds copied -/
section
variable {σ τ : JSg} {p q : Nat} {A N : JA} {pw : Int}
def islC (p a j : Nat) : Prop := (a = p ∧ j ≤ 6) ∨ (p + 1 ≤ a ∧ a ≤ p + 6)
def memC (p a j : Nat) : Prop := (a = p ∧ (j = 0 ∨ j = 1 ∨ j = 3)) ∨ a = p + 1 ∨ a = p + 2
def senC (p a j : Nat) : Prop := (a = p ∧ j ≤ 1) ∨ (p + 1 ≤ a ∧ a ≤ p + 3)
theorem e_Isl_copy (hd : p + 6 < q ∨ q + 6 < p) (hb : σ q 6 = 0 ∨ σ q 6 = 1) : ∃ τ, f_Isl_copyFrom p q σ = some τ ∧ Agr (islC p) σ τ ∧ (τ p 0 = σ q 0 ∧ τ p 1 = σ q 1 ∧ τ p 2 = σ q 2 ∧ τ p 3 = σ q 3 ∧ τ p 4 = σ q 4 ∧ τ p 5 = σ q 5 ∧ τ p 6 = σ q 6) ∧ (∀ i, i < 6 → τ (p + 1) i = σ (q + 1) i) ∧ (∀ i, i < 28 → τ (p + 2) i = σ (q + 2) i ∧ τ (p + 3) i = σ (q + 3) i ∧ τ (p + 4) i = σ (q + 4) i) ∧ (∀ i, i < 7 → τ (p + 5) i = σ (q + 5) i ∧ τ (p + 6) i = σ (q + 6) i) := by
  unfold f_Isl_copyFrom
  simp (disch := omega) only [lt_u, sp_nq]
  rw [ck_p hb]
  refine ⟨_, rfl, ?_, ⟨?_, ?_, ?_, ?_, ?_, ?_, ?_⟩, ?_, ?_, ?_⟩
  · unfold islC
    refine ag_acp (ag_acp (ag_acp (ag_acp (ag_acp (ag_acp (ag_sp (ag_sp (ag_sp (ag_sp (ag_sp (ag_sp (ag_sp ag_refl ?_) ?_) ?_) ?_) ?_) ?_) ?_) ?_) ?_) ?_) ?_) ?_) ?_ <;> intros <;> omega
  · simp (disch := omega) only [acp_ne, sp_nj, sp_eq]
  · simp (disch := omega) only [acp_ne, sp_nj, sp_eq]
  · simp (disch := omega) only [acp_ne, sp_nj, sp_eq]
  · simp (disch := omega) only [acp_ne, sp_nj, sp_eq]
  · simp (disch := omega) only [acp_ne, sp_nj, sp_eq]
  · simp (disch := omega) only [acp_ne, sp_nj, sp_eq]
  · simp (disch := omega) only [acp_ne, sp_nj, sp_eq]
  · intro i hi
    simp (disch := omega) only [acp_ne, acp_z, sp_nq]
  · intro i hi
    refine ⟨?_, ?_, ?_⟩ <;> simp (disch := omega) only [acp_ne, acp_z, sp_nq]
  · intro i hi
    refine ⟨?_, ?_⟩ <;> simp (disch := omega) only [acp_ne, acp_z, sp_nq]
theorem e_Mem_copy (hd : p + 2 < q ∨ q + 2 < p) : ∃ τ, f_Mem_copyFrom p q σ = some τ ∧ Agr (memC p) σ τ ∧ (τ p 0 = σ q 0 ∧ τ p 1 = σ q 1 ∧ τ p 3 = σ q 3) ∧ (∀ i, i < 6 → τ (p + 1) i = σ (q + 1) i ∧ τ (p + 2) i = σ (q + 2) i) := by
  unfold f_Mem_copyFrom
  simp (disch := omega) only [lt_u, sp_nq]
  refine ⟨_, rfl, ?_, ⟨?_, ?_, ?_⟩, ?_⟩
  · unfold memC
    refine ag_acp (ag_acp (ag_sp (ag_sp (ag_sp ag_refl ?_) ?_) ?_) ?_) ?_ <;> intros <;> omega
  · simp (disch := omega) only [acp_ne, sp_nj, sp_eq]
  · simp (disch := omega) only [acp_ne, sp_nj, sp_eq]
  · simp (disch := omega) only [acp_ne, sp_nj, sp_eq]
  · intro i hi
    refine ⟨?_, ?_⟩ <;> simp (disch := omega) only [acp_ne, acp_z, sp_nq]
theorem e_Sen_copy (hd : p + 3 < q ∨ q + 3 < p) : ∃ τ, f_Sen_copyFrom p q σ = some τ ∧ Agr (senC p) σ τ ∧ (τ p 0 = σ q 0 ∧ τ p 1 = σ q 1) ∧ (∀ i, i < 40 → τ (p + 1) i = σ (q + 1) i ∧ τ (p + 2) i = σ (q + 2) i ∧ τ (p + 3) i = σ (q + 3) i) := by
  unfold f_Sen_copyFrom
  simp (disch := omega) only [lt_u, sp_nq]
  refine ⟨_, rfl, ?_, ⟨?_, ?_⟩, ?_⟩
  · unfold senC
    refine ag_acp (ag_acp (ag_acp (ag_sp (ag_sp ag_refl ?_) ?_) ?_) ?_) ?_ <;> intros <;> omega
  · simp (disch := omega) only [acp_ne, sp_nj, sp_eq]
  · simp (disch := omega) only [acp_ne, sp_nj, sp_eq]
  · intro i hi
    refine ⟨?_, ?_, ?_⟩ <;> simp (disch := omega) only [acp_ne, acp_z, sp_nq]
def cpW (σ τ : JSg) (w q : Nat) : Prop := (τ (w + 1) 1 = σ (q + 1) 1 ∧ τ (w + 1) 2 = σ (q + 1) 2 ∧ τ (w + 1) 3 = σ (q + 1) 3 ∧ τ (w + 1) 4 = σ (q + 1) 4 ∧ τ (w + 1) 5 = σ (q + 1) 5 ∧ τ (w + 1) 6 = σ (q + 1) 6) ∧ (∀ i, i < 6 → τ (w + 2) i = σ (q + 2) i) ∧ (∀ i, i < 28 → τ (w + 3) i = σ (q + 3) i ∧ τ (w + 4) i = σ (q + 4) i) ∧ (∀ i, i < 7 → τ (w + 6) i = σ (q + 6) i ∧ τ (w + 7) i = σ (q + 7) i) ∧ τ (w + 8) 4 = σ (q + 8) 4 ∧ (∀ i, i < 28 → τ (w + 9) i = σ (q + 9) i ∧ τ (w + 10) i = σ (q + 10) i ∧ τ (w + 11) i = σ (q + 11) i ∧ τ (w + 12) i = σ (q + 12) i) ∧ (∀ i, i < 6 → τ (w + 13) i = σ (q + 13) i ∧ τ (w + 14) i = σ (q + 14) i) ∧ (τ (w + 15) 0 = σ (q + 15) 0 ∧ τ (w + 15) 3 = σ (q + 15) 3) ∧ (∀ i, i < 6 → τ (w + 16) i = σ (q + 16) i ∧ τ (w + 17) i = σ (q + 17) i) ∧ (τ (w + 18) 0 = σ (q + 18) 0 ∧ τ (w + 18) 1 = σ (q + 18) 1) ∧ (∀ i, i < 40 → τ (w + 19) i = σ (q + 19) i ∧ τ (w + 20) i = σ (q + 20) i ∧ τ (w + 21) i = σ (q + 21) i)
theorem IslR_cp (hI : WfI A) (h : τ p 1 = σ q 1 ∧ τ p 2 = σ q 2 ∧ τ p 3 = σ q 3) (h28 : ∀ i, i < 28 → τ (p + 2) i = σ (q + 2) i ∧ τ (p + 3) i = σ (q + 3) i) (h7 : ∀ i, i < 7 → τ (p + 6) i = σ (q + 6) i) (H : IslR σ q A) : IslR τ p A := by
  have b1 := hI.2.1
  obtain ⟨g0, g1, g2, g3, g4⟩ := H
  refine ⟨h.1.trans g0, h.2.1.trans g1, h.2.2.trans g2, fun s s0 s1 => ?_, fun n n0 n1 => ?_⟩
  · have k := h28 s.toNat (by omega)
    rw [k.1, k.2]; exact g3 s s0 s1
  · rw [h7 n.toNat (by omega)]; exact g4 n n0 n1
theorem IslX_cp (hI : WfI A) (h : τ p 4 = σ q 4 ∧ τ p 5 = σ q 5 ∧ τ p 6 = σ q 6) (h6 : ∀ i, i < 6 → τ (p + 1) i = σ (q + 1) i) (h7 : ∀ i, i < 7 → τ (p + 5) i = σ (q + 5) i) (H : IslX σ q A N pw) : IslX τ p A N pw := by
  have b0 := hI.1
  obtain ⟨g0, g1, g2, g3, g4⟩ := H
  refine ⟨h.1.trans g0, h.2.1.trans g1, by rw [h.2.2]; exact g2, fun s s0 s1 => ?_, fun w w0 w1 => ?_⟩
  · rw [h7 s.toNat (by omega)]; exact g3 s s0 s1
  · rw [h6 w.toNat (by omega)]; exact g4 w w0 w1
theorem WorR_cp {w : Nat} (hA : WfA A) (h : cpW σ τ w q) (H : WorR σ q A N pw) : WorR τ w A N pw := by
  obtain ⟨c1, c2, c3, c4, c5, c6, c7, c8, c9, c10, c11⟩ := h
  obtain ⟨g1, g2, g3, g4, g5⟩ := H
  refine ⟨IslR_cp hA.1 ⟨c1.1, c1.2.1, c1.2.2.1⟩ (fun i hi => ⟨(c3 i hi).1, (c3 i hi).2⟩) (fun i hi => (c4 i hi).2) g1, IslX_cp hA.1 ⟨c1.2.2.2.1, c1.2.2.2.2.1, c1.2.2.2.2.2⟩ (fun i hi => c2 i hi) (fun i hi => (c4 i hi).1) g2, RowR_cp hA.1 hA.2.1 c5 (fun i hi => c6 i hi) (fun i hi => c7 i hi) g3, ⟨c8.1.trans g4.1, c8.2.trans g4.2.1, fun x x0 x1 => ?_⟩, ?_⟩
  · have k := c9 x.toNat (by omega)
    rw [show w + 15 + 1 = w + 16 from rfl, show w + 15 + 2 = w + 17 from rfl, k.1, k.2]
    exact g4.2.2 x x0 x1
  · rw [c10.1, c10.2]
    rcases g5 with k | ⟨k1, k2, L, k3, k4, k5, k6, k7⟩
    · exact Or.inl k
    · refine Or.inr ⟨k1, k2, L, k3, k4, k5, k6, fun i x hx => ?_⟩
      have hl : i < L.length := (List.getElem?_eq_some_iff.mp hx).1
      have c := c11 i (by omega)
      rw [c.1, c.2.1, c.2.2]
      exact k7 i x hx
def wldC (w a j : Nat) : Prop := w + 1 ≤ a ∧ a ≤ w + 21
theorem e_Wld_copy (hd : p + 22 < q ∨ q + 22 < p) (hb : σ (q + 1) 6 = 0 ∨ σ (q + 1) 6 = 1) : ∃ τ, f_Wld_copyFrom p q σ = some τ ∧ Agr (wldC p) σ τ ∧ cpW σ τ p q := by
  unfold f_Wld_copyFrom
  obtain ⟨s1, e1, a1, i1, i2, i3, i4⟩ := e_Isl_copy (σ := σ) (p := p + 1) (q := q + 1) (by omega) hb
  obtain ⟨s2, e2, a2, r1, r2, r3⟩ := e_Row_copy (σ := s1) (p := p + 8) (q := q + 8) (ip := p + 1) (iq := q + 1) (by omega)
  obtain ⟨s3, e3, a3, m1, m2⟩ := e_Mem_copy (σ := s2) (p := p + 15) (q := q + 15) (by omega)
  obtain ⟨s4, e4, a4, n1, n2⟩ := e_Sen_copy (σ := s3) (p := p + 18) (q := q + 18) (by omega)
  unfold islC at a1
  unfold rowC at a2
  unfold memC at a3
  unfold senC at a4
  have A1 : ∀ a j, ¬ (p + 1 ≤ a ∧ a ≤ p + 7) → s1 a j = σ a j := fun a j h => a1 a j (by omega)
  have A2 : ∀ a j, ¬ (p + 1 ≤ a ∧ a ≤ p + 14) → s2 a j = σ a j := fun a j h => (a2 a j (by omega)).trans (A1 a j (by omega))
  have A3 : ∀ a j, ¬ (p + 1 ≤ a ∧ a ≤ p + 17) → s3 a j = σ a j := fun a j h => (a3 a j (by omega)).trans (A2 a j (by omega))
  have B1 : ∀ a j, p + 1 ≤ a → a ≤ p + 7 → s4 a j = s1 a j := fun a j h g => ((a4 a j (by omega)).trans (a3 a j (by omega))).trans (a2 a j (by omega))
  have B2 : ∀ a j, p + 8 ≤ a → a ≤ p + 14 → s4 a j = s2 a j := fun a j h g => (a4 a j (by omega)).trans (a3 a j (by omega))
  have B3 : ∀ a j, p + 15 ≤ a → a ≤ p + 17 → s4 a j = s3 a j := fun a j h g => a4 a j (by omega)
  refine ⟨s4, by rw [e1, b1_s, e2, b1_s, e3, b1_s, e4, b1_s], fun a j h => ?_, ?_⟩
  · unfold wldC at h
    rw [a4 a j (by omega), A3 a j (by omega)]
  · refine ⟨⟨?_, ?_, ?_, ?_, ?_, ?_⟩, fun i hi => ?_, fun i hi => ⟨?_, ?_⟩, fun i hi => ⟨?_, ?_⟩, ?_, fun i hi => ⟨?_, ?_, ?_, ?_⟩, fun i hi => ⟨?_, ?_⟩, ⟨?_, ?_⟩, fun i hi => ⟨?_, ?_⟩, ⟨?_, ?_⟩, fun i hi => ⟨?_, ?_, ?_⟩⟩
    · rw [B1 _ _ (by omega) (by omega)]; exact i1.2.1
    · rw [B1 _ _ (by omega) (by omega)]; exact i1.2.2.1
    · rw [B1 _ _ (by omega) (by omega)]; exact i1.2.2.2.1
    · rw [B1 _ _ (by omega) (by omega)]; exact i1.2.2.2.2.1
    · rw [B1 _ _ (by omega) (by omega)]; exact i1.2.2.2.2.2.1
    · rw [B1 _ _ (by omega) (by omega)]; exact i1.2.2.2.2.2.2
    · rw [B1 _ _ (by omega) (by omega)]; exact i2 i hi
    · rw [B1 _ _ (by omega) (by omega)]; exact (i3 i hi).1
    · rw [B1 _ _ (by omega) (by omega)]; exact (i3 i hi).2.1
    · rw [B1 _ _ (by omega) (by omega)]; exact (i4 i hi).1
    · rw [B1 _ _ (by omega) (by omega)]; exact (i4 i hi).2
    · rw [B2 _ _ (by omega) (by omega), r1, A1 _ _ (by omega)]
    · rw [B2 _ _ (by omega) (by omega), ← A1 (q + 9) i (by omega)]; exact (r2 i hi).1
    · rw [B2 _ _ (by omega) (by omega), ← A1 (q + 10) i (by omega)]; exact (r2 i hi).2.1
    · rw [B2 _ _ (by omega) (by omega), ← A1 (q + 11) i (by omega)]; exact (r2 i hi).2.2.1
    · rw [B2 _ _ (by omega) (by omega), ← A1 (q + 12) i (by omega)]; exact (r2 i hi).2.2.2
    · rw [B2 _ _ (by omega) (by omega), ← A1 (q + 13) i (by omega)]; exact (r3 i hi).1
    · rw [B2 _ _ (by omega) (by omega), ← A1 (q + 14) i (by omega)]; exact (r3 i hi).2
    · rw [B3 _ _ (by omega) (by omega), ← A2 (q + 15) 0 (by omega)]; exact m1.1
    · rw [B3 _ _ (by omega) (by omega), ← A2 (q + 15) 3 (by omega)]; exact m1.2.2
    · rw [B3 _ _ (by omega) (by omega), ← A2 (q + 16) i (by omega)]; exact (m2 i hi).1
    · rw [B3 _ _ (by omega) (by omega), ← A2 (q + 17) i (by omega)]; exact (m2 i hi).2
    · rw [n1.1, A3 _ _ (by omega)]
    · rw [n1.2, A3 _ _ (by omega)]
    · rw [← A3 (q + 19) i (by omega)]; exact (n2 i hi).1
    · rw [← A3 (q + 20) i (by omega)]; exact (n2 i hi).2.1
    · rw [← A3 (q + 21) i (by omega)]; exact (n2 i hi).2.2
/-- alike as far as a world reaches -/
theorem WorR_cg2 {w : Nat} {B M : JA} (hA : WfA A) (h : ∀ k : Nat, k < 448 → k ≠ 3 → B k = A k) (hN : ∀ k : Nat, k < 6 → M k = N k) (H : WorR σ w A N pw) : WorR σ w B M pw := by
  obtain ⟨h1, h2, h3, h4, h5⟩ := H
  have b0 := hA.1.1
  have b1 := hA.1.2.1
  have b2 := hA.2.1.2.1
  refine ⟨IslR_cg (by omega) (fun k _ hk => h k (by omega) hk) h1, ?_, RowR_cg (by omega) (fun k hk => h k (by omega) (by omega)) h3, MemR_cg (fun k _ _ => h k (by omega) (by omega)) h4, senR_cg (fun k _ _ => h k (by omega) (by omega)) h5⟩
  obtain ⟨x0, x1, x2, x3, x4⟩ := IslX_cg (A := A) (B := B) (fun k _ hk => h k (by omega) hk) h2
  refine ⟨x0, x1, x2, x3, fun v v0 v1 => ?_⟩
  rw [h 0 (by omega) (by omega)] at v1
  rw [hN _ (by omega)]
  exact h2.2.2.2.2 v v0 v1
theorem WfA_cg2 {B : JA} (hA : WfA A) (h : ∀ k : Nat, k < 448 → k ≠ 3 → B k = A k) : WfA B :=
  ⟨WfI_cg (fun k _ hk => h k (by omega) hk) hA.1, WfR_cg (by have := hA.1.2.1; omega) (fun k hk => h k (by omega) (by omega)) hA.2.1, WfM_cg (h 1 (by omega) (by omega)) (fun k _ _ => h k (by omega) (by omega)) (fun k _ _ => h k (by omega) (by omega)) hA.2.2⟩
theorem ImgR_ag2 {k : Nat} (h : ∀ a j, worC (49 + 23 * k) a j ∨ (a = 49 + 23 * k ∧ j = 4) ∨ (a = 183 ∧ 448 * k ≤ j ∧ j < 448 * k + 448) ∨ (a = 187 ∧ 6 * k ≤ j ∧ j < 6 * k + 6) ∨ (a = 188 ∧ j = k) → τ a j = σ a j) (hb : σ 188 k = 1 → τ 179 23 = 1) (H : ImgR σ k) : ImgR τ k := by
  unfold ImgR at *
  rw [h 188 k (by omega), h (49 + 23 * k) 4 (by omega)]
  refine ⟨H.1, ?_⟩
  rcases H.2 with H | ⟨h1, h2, h3, h4⟩
  · exact Or.inl H
  · have ek : ∀ i : Nat, i < 448 → i ≠ 3 → shf (τ 183) (448 * k) i = shf (σ 183) (448 * k) i := fun i hi _ => h 183 _ (by omega)
    refine Or.inr ⟨h1, hb h1, WfA_cg2 h3 ek, ?_⟩
    rw [h 183 (448 * k + 3) (by omega)]
    exact WorR_cg2 h3 ek (fun i hi => h 187 _ (by omega)) (WorR_ag (fun q j hq => h q j (Or.inl hq)) h4)
end
/-! copying in the reference -/
section
variable {σ : JSg} {n : Nat} {Z : Type} {P : Z → Prop}
theorem img_cp {a : Int} {k : JSg → Option Z} (hn : 1000000 < n) (ha : 0 ≤ a ∧ a ≤ 1) (hk : ∀ τ, (∀ x j, ¬ (x = 183 ∧ 448 * a.toNat ≤ j ∧ j < 448 * a.toNat + 448) → τ x j = σ x j) → (∀ j, j < 448 → τ 183 (448 * a.toNat + j) = σ 181 j) → Ret (k τ) P) : Ret (wh2 n (fun rc5 (x6 : Int) (s7 : JSg) => if x6 < 448 then (chk (0 ≤ x6 ∧ x6 < 448) <| chk (0 ≤ (w32 ((w32 (448 * a)) + x6)) ∧ (w32 ((w32 (448 * a)) + x6)) < 896) <| lt_ (sp s7 183 (w32 ((w32 (448 * a)) + x6)).toNat (s7 181 x6.toNat)) fun s15 => lt_ (w32 (x6 + 1)) fun v16 => rc5 v16 s15) else (k s7)) 0 σ) P := by
  refine rt_w2 (I := fun x s => (0 ≤ x ∧ x ≤ 448) ∧ (∀ y j : Nat, ¬ (y = 183 ∧ 448 * a.toNat ≤ j ∧ (j : Int) < 448 * a + x) → s y j = σ y j) ∧ (∀ j : Nat, (j : Int) < x → s 183 (448 * a.toNat + j) = σ 181 j)) (μ := fun x s => (448 - x).toNat) ?_ n 0 σ ⟨by omega, fun _ _ _ => rfl, fun j h => by omega⟩ (by omega)
  rintro x s ⟨⟨x0, x1⟩, e1, e2⟩ rc hrc
  refine rt_ite (fun h => ?_) (fun h => ?_)
  · rw [wi (x := 448 * a) (by omega) (by omega), wi (x := 448 * a + x) (by omega) (by omega), wi (x := x + 1) (by omega) (by omega), e1 181 _ (by omega)]
    refine rt_chk (by omega) (rt_chk (by omega) (rt_lt (rt_lt (hrc _ _ ⟨by omega, fun y j hj => ?_, fun j hj => ?_⟩ (by omega)))))
    · rw [sp_at]
      by_cases c : y = 183
      · rw [if_pos c, if_neg (by omega)]; exact e1 y j (by omega)
      · rw [if_neg c]; exact e1 y j (by omega)
    · rw [sp_at, if_pos rfl]
      by_cases c : (j : Int) = x
      · rw [if_pos (by omega)]; congr 1; omega
      · rw [if_neg (by omega)]; exact e2 j (by omega)
  · exact hk s (fun y j hj => e1 y j (by omega)) (fun j hj => e2 j (by omega))
theorem img_nm {a : Int} {k : JSg → Option Z} (hn : 1000000 < n) (ha : 0 ≤ a ∧ a ≤ 1) (hk : ∀ τ, (∀ x j, ¬ (x = 187 ∧ 6 * a.toNat ≤ j ∧ j < 6 * a.toNat + 6) → τ x j = σ x j) → (∀ j, j < 6 → τ 187 (6 * a.toNat + j) = σ 185 j) → Ret (k τ) P) : Ret (wh2 n (fun rc9 (x10 : Int) (s11 : JSg) => if x10 < 6 then (chk (0 ≤ x10 ∧ x10 < 6) <| chk (0 ≤ (w32 ((w32 (6 * a)) + x10)) ∧ (w32 ((w32 (6 * a)) + x10)) < 12) <| lt_ (sp s11 187 (w32 ((w32 (6 * a)) + x10)).toNat (s11 185 x10.toNat)) fun s13 => lt_ (w32 (x10 + 1)) fun v14 => rc9 v14 s13) else (k s11)) 0 σ) P := by
  refine rt_w2 (I := fun x s => (0 ≤ x ∧ x ≤ 6) ∧ (∀ y j : Nat, ¬ (y = 187 ∧ 6 * a.toNat ≤ j ∧ (j : Int) < 6 * a + x) → s y j = σ y j) ∧ (∀ j : Nat, (j : Int) < x → s 187 (6 * a.toNat + j) = σ 185 j)) (μ := fun x s => (6 - x).toNat) ?_ n 0 σ ⟨by omega, fun _ _ _ => rfl, fun j h => by omega⟩ (by omega)
  rintro x s ⟨⟨x0, x1⟩, e1, e2⟩ rc hrc
  refine rt_ite (fun h => ?_) (fun h => ?_)
  · rw [wi (x := 6 * a) (by omega) (by omega), wi (x := 6 * a + x) (by omega) (by omega), wi (x := x + 1) (by omega) (by omega), e1 185 _ (by omega)]
    refine rt_chk (by omega) (rt_chk (by omega) (rt_lt (rt_lt (hrc _ _ ⟨by omega, fun y j hj => ?_, fun j hj => ?_⟩ (by omega)))))
    · rw [sp_at]
      by_cases c : y = 187
      · rw [if_pos c, if_neg (by omega)]; exact e1 y j (by omega)
      · rw [if_neg c]; exact e1 y j (by omega)
    · rw [sp_at, if_pos rfl]
      by_cases c : (j : Int) = x
      · rw [if_pos (by omega)]; congr 1; omega
      · rw [if_neg (by omega)]; exact e2 j (by omega)
  · exact hk s (fun y j hj => e1 y j (by omega)) (fun j hj => e2 j (by omega))
theorem rst_cp {a : Int} {k : JSg → Option Z} (hn : 1000000 < n) (ha : 0 ≤ a ∧ a ≤ 1) (hk : ∀ τ, (∀ x j, ¬ (x = 181 ∧ j < 448) → τ x j = σ x j) → (∀ j, j < 448 → τ 181 j = σ 183 (448 * a.toNat + j)) → Ret (k τ) P) : Ret (wh2 n (fun rc4 (x5 : Int) (s6 : JSg) => if x5 < 448 then (chk (0 ≤ (w32 ((w32 (448 * a)) + x5)) ∧ (w32 ((w32 (448 * a)) + x5)) < 896) <| chk (0 ≤ x5 ∧ x5 < 448) <| lt_ (sp s6 181 x5.toNat (s6 183 (w32 ((w32 (448 * a)) + x5)).toNat)) fun s14 => lt_ (w32 (x5 + 1)) fun v15 => rc4 v15 s14) else (k s6)) 0 σ) P := by
  refine rt_w2 (I := fun x s => (0 ≤ x ∧ x ≤ 448) ∧ (∀ y j : Nat, ¬ (y = 181 ∧ (j : Int) < x) → s y j = σ y j) ∧ (∀ j : Nat, (j : Int) < x → s 181 j = σ 183 (448 * a.toNat + j))) (μ := fun x s => (448 - x).toNat) ?_ n 0 σ ⟨by omega, fun _ _ _ => rfl, fun j h => by omega⟩ (by omega)
  rintro x s ⟨⟨x0, x1⟩, e1, e2⟩ rc hrc
  refine rt_ite (fun h => ?_) (fun h => ?_)
  · rw [wi (x := 448 * a) (by omega) (by omega), wi (x := 448 * a + x) (by omega) (by omega), wi (x := x + 1) (by omega) (by omega), e1 183 _ (by omega)]
    refine rt_chk (by omega) (rt_chk (by omega) (rt_lt (rt_lt (hrc _ _ ⟨by omega, fun y j hj => ?_, fun j hj => ?_⟩ (by omega)))))
    · rw [sp_at]
      by_cases c : y = 181
      · rw [if_pos c, if_neg (by omega)]; exact e1 y j (by omega)
      · rw [if_neg c]; exact e1 y j (by omega)
    · rw [sp_at, if_pos rfl]
      by_cases c : (j : Int) = x
      · rw [if_pos (by omega)]; congr 1; omega
      · rw [if_neg (by omega)]; exact e2 j (by omega)
  · exact hk s (fun y j hj => e1 y j (by omega)) (fun j hj => e2 j (by omega))
theorem rst_nm {a : Int} {k : JSg → Option Z} (hn : 1000000 < n) (ha : 0 ≤ a ∧ a ≤ 1) (hk : ∀ τ, (∀ x j, ¬ (x = 185 ∧ j < 6) → τ x j = σ x j) → (∀ j, j < 6 → τ 185 j = σ 187 (6 * a.toNat + j)) → Ret (k τ) P) : Ret (wh2 n (fun rc8 (x9 : Int) (s10 : JSg) => if x9 < 6 then (chk (0 ≤ (w32 ((w32 (6 * a)) + x9)) ∧ (w32 ((w32 (6 * a)) + x9)) < 12) <| chk (0 ≤ x9 ∧ x9 < 6) <| lt_ (sp s10 185 x9.toNat (s10 187 (w32 ((w32 (6 * a)) + x9)).toNat)) fun s12 => lt_ (w32 (x9 + 1)) fun v13 => rc8 v13 s12) else (k s10)) 0 σ) P := by
  refine rt_w2 (I := fun x s => (0 ≤ x ∧ x ≤ 6) ∧ (∀ y j : Nat, ¬ (y = 185 ∧ (j : Int) < x) → s y j = σ y j) ∧ (∀ j : Nat, (j : Int) < x → s 185 j = σ 187 (6 * a.toNat + j))) (μ := fun x s => (6 - x).toNat) ?_ n 0 σ ⟨by omega, fun _ _ _ => rfl, fun j h => by omega⟩ (by omega)
  rintro x s ⟨⟨x0, x1⟩, e1, e2⟩ rc hrc
  refine rt_ite (fun h => ?_) (fun h => ?_)
  · rw [wi (x := 6 * a) (by omega) (by omega), wi (x := 6 * a + x) (by omega) (by omega), wi (x := x + 1) (by omega) (by omega), e1 187 _ (by omega)]
    refine rt_chk (by omega) (rt_chk (by omega) (rt_lt (rt_lt (hrc _ _ ⟨by omega, fun y j hj => ?_, fun j hj => ?_⟩ (by omega)))))
    · rw [sp_at]
      by_cases c : y = 185
      · rw [if_pos c, if_neg (by omega)]; exact e1 y j (by omega)
      · rw [if_neg c]; exact e1 y j (by omega)
    · rw [sp_at, if_pos rfl]
      by_cases c : (j : Int) = x
      · rw [if_pos (by omega)]; congr 1; omega
      · rw [if_neg (by omega)]; exact e2 j (by omega)
  · exact hk s (fun y j hj => e1 y j (by omega)) (fun j hj => e2 j (by omega))
end
