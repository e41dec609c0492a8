/-! LAYER 3ze: the tape taken -/
section
variable {σ τ : JSg} {n p : Nat} {c : JA} {size lim q : Int}
def mbC (a j : Nat) : Prop := (a = 179 ∧ (j = 0 ∨ j = 2 ∨ j = 3 ∨ j = 4 ∨ j = 5 ∨ j = 10 ∨ j = 23)) ∨ (a = 181 ∧ j = 3)
theorem e_M_begin (h23 : τ 179 23 = 0 ∨ τ 179 23 = 1) : ∃ t8, f_M_begin n lim τ = bd1 (f_M_go n t8) (fun s9 => some s9) ∧ t8 179 2 = 0 ∧ t8 179 3 = τ 179 2 ∧ t8 179 4 = lim ∧ t8 179 10 = 0 ∧ t8 179 5 = 0 ∧ t8 179 23 = 1 ∧ t8 181 3 = pwA τ ∧ Agr mbC τ t8 := by
  unfold f_M_begin f_M_layAll f_M_take pwA
  rw [lt_u, sp_nj (show (23 : Nat) ≠ 0 by decide)]
  by_cases g : τ 179 23 = 0
  · rw [if_pos g, if_pos g]
    simp only [lt_u, b1_s, b2_s]
    refine ⟨_, rfl, ?_, ?_, ?_, ?_, ?_, ?_, ?_, ag_sp (ag_sp (ag_sp (ag_sp (ag_sp (ag_sp (ag_sp (ag_sp ag_refl (by unfold mbC; omega)) (by unfold mbC; omega)) (by unfold mbC; omega)) (by unfold mbC; omega)) (by unfold mbC; omega)) (by unfold mbC; omega)) (by unfold mbC; omega)) (by unfold mbC; omega)⟩
    all_goals simp (disch := omega) only [sp_eq, sp_nj, sp_nq]
  · rw [if_neg g, if_neg g]
    simp only [lt_u, b1_s, b2_s]
    refine ⟨_, rfl, ?_, ?_, ?_, ?_, ?_, ?_, ?_, ag_sp (ag_sp (ag_sp (ag_sp (ag_sp (ag_sp ag_refl (by unfold mbC; omega)) (by unfold mbC; omega)) (by unfold mbC; omega)) (by unfold mbC; omega)) (by unfold mbC; omega)) (by unfold mbC; omega)⟩
    all_goals simp (disch := omega) only [sp_eq, sp_nj, sp_nq]
    omega
def bwC (a j : Nat) : Prop := (a = 0 ∧ j = 1) ∨ (a = 2 ∧ 1 ≤ j)
def bmC (a j : Nat) : Prop := (a = 179 ∧ (j ≤ 12 ∨ j = 23)) ∨ (a = 181 ∧ j = 3)
def BgP (lim : Int) (σ τ s t : JSg) : Prop := TR (τ 180) (τ 179 2) lim 0 s t ∧ s 0 1 = 0 ∧ t 179 2 = 0 ∧ s 2 12 = 0 ∧ t 179 10 = 0 ∧ t 179 23 = 1 ∧ t 181 3 = pwA τ ∧ Agr bwC σ s ∧ Agr bmC τ t
theorem s_take (hn : 1000000 < n) (h23 : τ 179 23 = 0 ∨ τ 179 23 = 1) (h1 : σ 0 1 = τ 179 2) (h2 : 0 ≤ τ 179 2 ∧ τ 179 2 ≤ 940) (h3 : ∀ i : Int, 0 ≤ i → i < τ 179 2 → (0 ≤ τ 180 i.toNat ∧ τ 180 i.toNat < 256) ∧ σ 1 i.toNat = if τ 180 i.toNat < 128 then τ 180 i.toNat else τ 180 i.toNat - 256) : Sm (f_W_takeTape n lim σ) (f_M_begin n lim τ) (BgP lim σ τ) := by
  obtain ⟨t8, e, m2, m3, m4, m10, m5, m23, m181, ma⟩ := e_M_begin (n := n) (lim := lim) h23
  rw [e]
  unfold f_W_takeTape f_Tok_begin
  simp only [lt_u]
  rw [h1, show min (τ 179 2) 940 = τ 179 2 by omega]
  generalize hs : sp (sp (sp (sp (sp σ 2 1 (τ 179 2)) 2 2 lim) 2 3 0) 2 12 0) 2 13 0 = s5
  have s1 : s5 2 1 = τ 179 2 ∧ s5 2 2 = lim ∧ s5 2 3 = 0 ∧ s5 2 12 = 0 := by
    rw [← hs]
    simp (disch := omega) only [sp_eq, sp_nj]
    exact ⟨trivial, trivial, trivial, trivial⟩
  have sa : Agr bwC σ s5 := by
    rw [← hs]
    exact ag_sp (ag_sp (ag_sp (ag_sp (ag_sp ag_refl (by unfold bwC; omega)) (by unfold bwC; omega)) (by unfold bwC; omega)) (by unfold bwC; omega)) (by unfold bwC; omega)
  clear hs
  have hb : wbR s5 (τ 180) (τ 179 2) := ⟨s1.1, h2, fun i i0 i1 => by rw [sa 1 _ (by unfold bwC; omega)]; exact ⟨(h3 i i0 i1).2, (h3 i i0 i1).1⟩⟩
  have hm : msB (τ 180) (τ 179 2) lim 0 t8 := ⟨m3, m4, h2, fun i i0 i1 => by rw [ma 180 _ (by unfold mbC; omega)]; exact ⟨rfl, (h3 i i0 i1).1⟩⟩
  obtain ⟨w, w1, w2, w3⟩ := e_Tok_step (p := 0) hn hb s1.2.1 ⟨by omega, h2.1⟩ s1.2.2.1
  obtain ⟨m, n1, n2, n3⟩ := e_M_go (p := 0) (lim := lim) hn hm ⟨by omega, h2.1⟩ m5
  rw [w1, n1, b1_s, b1_s, b1_s]
  refine sm_some ⟨tr_ag ⟨w2, n2⟩ (fun x j hh => by rw [sp_nq (by omega)]) (fun _ _ _ => rfl), sp_eq, ?_, ?_, ?_, ?_, ?_, ?_, ?_⟩
  · rw [n3 _ _ (by unfold mtkC; omega)]; exact m2
  · rw [sp_nq (by decide), w3 _ _ (by unfold wtkC; omega)]; exact s1.2.2.2
  · rw [n3 _ _ (by unfold mtkC; omega)]; exact m10
  · rw [n3 _ _ (by unfold mtkC; omega)]; exact m23
  · rw [n3 _ _ (by unfold mtkC; omega)]; exact m181
  · exact ag_sp (ag_tr sa (ag_mono w3 (fun a j q => by unfold wtkC at q; unfold bwC; omega))) (by unfold bwC; omega)
  · exact ag_tr (ag_mono ma (fun a j q => by unfold mbC at q; unfold bmC; omega)) (ag_mono n3 (fun a j q => by unfold mtkC at q; unfold bmC; omega))
end
