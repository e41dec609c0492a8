/-! LAYER 3zi: the call of an ISLAND -/
section
variable {σ τ : JSg} {n p : Nat}
def Fin (z y : JSg) : Prop := (WfI (y 182) ∧ symQ (y 182)) ∧ IslR z 4 (y 182) ∧ IslX z 4 (y 182) (y 186) (y 182 3) ∧ (∀ s : Int, 0 ≤ s → s < y 182 1 → z 12 s.toNat = ownA (y 182) s ∧ z 13 s.toNat = 0 ∧ 0 ≤ ownA (y 182) s ∧ ownA (y 182) s < y 182 0) ∧ (z 11 4 = 0 ∧ z 18 0 = 0 ∧ z 18 3 = 0 ∧ z 21 0 = 0) ∧ (∀ i, i < 6 → z 16 i = 0 ∧ z 17 i = 0 ∧ z 19 i = 0 ∧ z 20 i = 0) ∧ (∀ k : Nat, 95 ≤ k → k < 192 → y 182 k = 0) ∧ z 2 12 = y 179 10 ∧ z 0 8 = 0 ∧ (∀ k : Nat, k < 448 → y 181 k = if k < 192 then y 182 k else 0) ∧ (∀ k : Nat, k < 6 → y 185 k = y 186 k) ∧ y 179 22 = 0
def wyC (a j : Nat) : Prop := wxC a j ∨ seC a j ∨ (a = 0 ∧ j = 8)
def IR (σ τ : JSg) (z y : Int × JSg) : Prop := z.1 = y.1 ∧ ∃ s0 t0, BgP 900 σ τ s0 t0 ∧ ((FR z.2 y.2 ∧ Agr wxC s0 z.2 ∧ Agr mrC t0 y.2) ∨ (Fin z.2 y.2 ∧ Agr wyC s0 z.2 ∧ Agr mxC t0 y.2))
theorem s_island (hn : 1000000 < n) (h23 : τ 179 23 = 0 ∨ τ 179 23 = 1) (h1 : σ 0 1 = τ 179 2) (h2 : 0 ≤ τ 179 2 ∧ τ 179 2 ≤ 940) (h3 : ∀ i : Int, 0 ≤ i → i < τ 179 2 → (0 ≤ τ 180 i.toNat ∧ τ 180 i.toNat < 256) ∧ σ 1 i.toNat = if τ 180 i.toNat < 128 then τ 180 i.toNat else τ 180 i.toNat - 256) : Sm (f_W_island n σ) (f_M_island n τ) (IR σ τ) := by
  unfold f_W_island f_M_island
  refine sm_b11 (s_take hn h23 h1 h2 h3) (fun s0 t0 hB => ?_)
  obtain ⟨⟨z0, zs⟩, ⟨y0, ys⟩, e1, e2, e3, e4⟩ := s_all hn hB.1 (hB.2.2.2.1.trans hB.2.2.2.2.1.symm)
  rw [e1, e2, b2_s]
  rcases e4 with ⟨a1, a2, a3, a4⟩ | ⟨a1, a2, a3, a4, a5, a6, a7, a8⟩
  · have a1 : z0 = 0 := a1
    have a2 : y0 = w32 (-1 - ys 179 11) := a2
    have a3 : FR zs ys := a3
    rw [if_pos a1]
    refine sm_some ⟨?_, s0, t0, hB, Or.inl ⟨a3, e3, a4⟩⟩
    show w32 (-1 - zs 2 13) = y0
    rw [a2, a3.2]
  · have a1 : z0 = 1 := a1
    have a2 : y0 = zs 27 0 := a2
    have a3 : IslP zs ys := a3
    rw [if_neg (by omega)]
    obtain ⟨p1, p2, ⟨p3, p3a, p3b, p3c, p3d, p3e⟩, p4, p5, p6, p7, p8, p9⟩ := a3
    obtain ⟨s', f1, f2, f3, f4, f5, f6, f7, f8⟩ := e_settle (σ := zs) hn p4
    rw [f1, b1_s, lt_u]
    refine sm_some ⟨?_, s0, t0, hB, Or.inr ⟨?_, ?_, a8⟩⟩
    · show sp s' 0 8 0 4 0 = y0
      rw [sp_nq (by decide), f3.1, a2]
    · have eq : ∀ a j, a ≠ 0 → sp s' 0 8 0 a j = s' a j := fun a j h => by rw [sp_nq h]
      show Fin (sp s' 0 8 0) ys
      have e28 : ys 182 1 ≤ 28 := p1.2.1.2
      refine ⟨⟨p1, p2⟩, ⟨?_, ?_, ?_, fun s q0 q1 => ?_, fun w w0 w1 => ?_⟩, ⟨?_, ?_, ?_, fun w w0 w1 => ?_, fun w w0 w1 => ?_⟩, fun s q0 q1 => ?_, ?_, fun i hi => ?_, p8, ?_, sp_eq, a5, a6, a7⟩
      · rw [eq _ _ (by decide), f3.2.1]; exact p3
      · rw [eq _ _ (by decide), f3.2.2.1]; exact p3a
      · rw [eq _ _ (by decide), f3.2.2.2.1]; exact p3b
      · rw [eq _ _ (by decide), eq _ _ (by decide), (f5 _ (by omega)).1, (f5 _ (by omega)).2.1]
        exact ⟨(p6 s q0 q1).1, (p6 s q0 q1).2.1⟩
      · have := a4 w w0 w1
        unfold fitD at this
        rw [eq _ _ (by decide), (f6 _ (by omega)).2]; exact this
      · rw [eq _ _ (by decide), f3.2.2.2.2.1]; exact p3c
      · rw [eq _ _ (by decide), f3.2.2.2.2.2.1]; exact p3d
      · rw [eq _ _ (by decide), f3.2.2.2.2.2.2]; exact p4
      · rw [eq _ _ (by decide), (f6 _ (by omega)).1]; exact p7 w w0 w1
      · have b0 := p1.1
        rw [eq _ _ (by decide), f4 _ (by omega)]; exact p5 w w0 w1
      · rw [eq _ _ (by decide), eq _ _ (by decide), (f5 _ (by omega)).2.2.1, (f5 _ (by omega)).2.2.2]
        exact ⟨(p6 s q0 q1).2.2.1, rfl, (p6 s q0 q1).2.2.2.1, (p6 s q0 q1).2.2.2.2⟩
      · rw [eq _ _ (by decide), eq _ _ (by decide), eq _ _ (by decide), eq _ _ (by decide)]; exact f7
      · rw [eq _ _ (by decide), eq _ _ (by decide), eq _ _ (by decide), eq _ _ (by decide)]; exact f8 i hi
      · rw [eq _ _ (by decide), f2 2 12 (by unfold seC; omega)]; exact p9
    · exact ag_sp (ag_tr (ag_mono e3 (fun a j q => Or.inl q)) (ag_mono f2 (fun a j q => Or.inr (Or.inl q)))) (Or.inr (Or.inr ⟨rfl, rfl⟩))
end
