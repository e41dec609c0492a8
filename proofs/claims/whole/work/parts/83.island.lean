/-! LAYER 3zh: the ISLAND settled -/
section
variable {σ τ : JSg} {n p : Nat}
def seC (a j : Nat) : Prop := 4 ≤ a ∧ a ≤ 21 ∧ a ≠ 14
theorem e_settle (hn : 1000000 < n) (hb : σ 27 6 = 0 ∨ σ 27 6 = 1) : Ret (f_Wld_settle n 3 27 σ) (fun s => Agr seC σ s ∧ (s 4 0 = σ 27 0 ∧ s 4 1 = σ 27 1 ∧ s 4 2 = σ 27 2 ∧ s 4 3 = σ 27 3 ∧ s 4 4 = σ 27 4 ∧ s 4 5 = σ 27 5 ∧ s 4 6 = σ 27 6) ∧ (∀ i, i < 6 → s 5 i = σ 28 i) ∧ (∀ i, i < 28 → s 6 i = σ 29 i ∧ s 7 i = σ 30 i ∧ s 12 i = σ 31 i ∧ s 13 i = 0) ∧ (∀ i, i < 7 → s 9 i = σ 32 i ∧ s 10 i = σ 33 i) ∧ (s 11 4 = 0 ∧ s 18 0 = 0 ∧ s 18 3 = 0 ∧ s 21 0 = 0) ∧ (∀ i, i < 6 → s 16 i = 0 ∧ s 17 i = 0 ∧ s 19 i = 0 ∧ s 20 i = 0)) := by
  obtain ⟨s1, e1, a1, c1, c2, c3, c4⟩ := e_Isl_copy (σ := σ) (p := 4) (q := 27) (by omega) hb
  unfold f_Wld_settle f_Row_begin f_Mem_clear f_Sen_clear
  simp only [Nat.reduceAdd, lt_u]
  rw [e1, b1_s]
  obtain ⟨s2, e2, q2⟩ := e_fill (n := n) (p := 13) (N := 28) (v := 0) (σ := sp s1 11 4 0) (by omega) (by omega)
  obtain ⟨s3, e3, q3⟩ := e_fill (n := n) (p := 15) (N := 28) (v := 0) (σ := s2) (by omega) (by omega)
  obtain ⟨s4, e4, q4⟩ := e_fill (n := n) (p := 16) (N := 6) (v := 0) (σ := s3) (by omega) (by omega)
  obtain ⟨s5, e5, q5⟩ := e_fill (n := n) (p := 17) (N := 6) (v := 0) (σ := s4) (by omega) (by omega)
  rw [e2, b1_s, e3, b1_s, e4, b1_s, e5, b1_s, b1_s]
  obtain ⟨s6, e6, q6⟩ := e_fill (n := n) (p := 19) (N := 6) (v := 0) (σ := sp (sp (sp (acp s5 8 0 12 0 28) 18 0 0) 18 1 0) 18 3 0) (by omega) (by omega)
  obtain ⟨s7, e7, q7⟩ := e_fill (n := n) (p := 20) (N := 6) (v := 0) (σ := s6) (by omega) (by omega)
  rw [e6, b1_s, e7, b1_s, b1_s, b1_s]
  clear e1 e2 e3 e4 e5 e6 e7
  refine rt_some ⟨fun a j hh => ?_, ?_, fun i hi => ?_, fun i hi => ?_, fun i hi => ?_, ?_, fun i hi => ?_⟩
  · unfold seC at hh
    rw [sp_nq (by omega), sp_nq (by omega), q7, if_neg (by omega), q6, if_neg (by omega), sp_nq (by omega), sp_nq (by omega), sp_nq (by omega), acp_ne (by omega), q5, if_neg (by omega), q4, if_neg (by omega), q3, if_neg (by omega), q2, if_neg (by omega), sp_nq (by omega)]
    exact a1 a j (by unfold islC; omega)
  · simp (disch := omega) only [sp_nq, q7, if_neg, q6, acp_ne, q5, q4, q3, q2]
    exact c1
  · simp (disch := omega) only [sp_nq, q7, if_neg, q6, acp_ne, q5, q4, q3, q2]
    exact c2 i hi
  · simp (disch := omega) only [sp_nq, q7, if_neg, q6, acp_ne, acp_z, q5, q4, q3, q2, if_pos]
    exact ⟨(c3 i hi).1, (c3 i hi).2.1, (c3 i hi).2.2, if_pos ⟨trivial, hi⟩⟩
  · simp (disch := omega) only [sp_nq, q7, if_neg, q6, acp_ne, q5, q4, q3, q2]
    exact c4 i hi
  · simp (disch := omega) only [sp_nq, q7, if_neg, q6, acp_ne, q5, q4, q3, q2, sp_eq, sp_nj]
    exact ⟨trivial, trivial, trivial, trivial⟩
  · simp (disch := omega) only [sp_nq, q7, if_neg, q6, acp_ne, q5, q4, q3, q2, if_pos]
    exact ⟨if_pos ⟨trivial, hi⟩, if_pos ⟨trivial, hi⟩, if_pos ⟨trivial, hi⟩, if_pos ⟨trivial, hi⟩⟩
end
