/-! LAYER 3zb5: op_game -/
section
variable {σ : JSg}
theorem gw_ok {a j : Nat} (q : wgC a j ∨ gmC a j) : lsC a j ∨ scr a j := by
  rcases q with ((⟨rfl, q⟩ | rfl) | rfl | ⟨rfl, rfl⟩) | (⟨rfl, q⟩ | rfl | rfl)
  · right; unfold scr; omega
  · right; unfold scr; omega
  · right; unfold scr; omega
  · left; unfold lsC; omega
  · by_cases e : j = 36
    · left; unfold lsC; omega
    · right; unfold scr; omega
  · right; unfold scr; omega
  · right; unfold scr; omega
theorem gb_sc {a j : Nat} (q : gaC a j ∨ gbC a j) : scr a j := by
  rcases q with (⟨rfl, q⟩ | rfl) | (⟨rfl, rfl⟩ | rfl)
  · unfold scr; omega
  · unfold scr; omega
  · unfold scr; omega
  · unfold scr; omega
theorem op_game : Op_game Inv := by
  intro σ H a b _ _
  have hI := in_I H
  have hW := in_W H
  have hL := in_L H
  have hR := in_R H
  have eR : σ 11 4 = σ 181 151 := hR.1
  by_cases g : (0 ≤ a ∧ a < σ 181 0) ∧ (0 ≤ b ∧ b < σ 181 0) ∧ a ≠ b ∧ σ 181 151 ≠ 0
  · obtain ⟨g1, g2, g3, g4⟩ := g
    obtain ⟨⟨r, σ1⟩, e1, e2⟩ := e_judge (n := NN) hNN hI hW g1.1 g2.1 g3 g4 hL hR
    have w1 : f_W_game NN a b σ = some (r, σ1) := by
      unfold f_W_game
      rw [e_W_isWidow hL, b1_s, decide_eq_true g1, if_neg bn0, e_W_isWidow hL, b1_s, decide_eq_true g2, if_neg bn0, if_neg g3, eR, if_neg g4, e1, b2_s]
    have ag : Agr wgC σ σ1 := by
      rcases e2 with ⟨-, -, q⟩ | ⟨-, q, -⟩
      · exact ag_mono q (fun a j z => Or.inl z)
      · exact q
    have A1 : σ1 181 = σ 181 := funext fun j => ag 181 j (by unfold wgC gaC; omega)
    obtain ⟨⟨r2, σ2⟩, f1, f2⟩ := e_M_game (σ := σ1) (a := a) (b := b) hNN (by rw [A1]; exact hI) (by rw [A1]; exact hW)
    rw [A1] at f2
    rcases e2 with ⟨e4, e3, e5⟩ | ⟨e3, -, e4, e5⟩
    · rcases f2 with ⟨f4, -, f5⟩ | ⟨f3, -⟩
      · have e4 : r = -2 := e4
        have f4 : r2 = -2 := f4
        have e5 : Agr gaC σ σ1 := e5
        have f5 : Agr gbC σ1 σ2 := f5
        refine ⟨-2, σ1, σ2, by rw [w1, e4], by rw [f1, f4], inv_ag (fun a j hq => ?_) H⟩
        exact (f5 a j (fun q => hq (gb_sc (Or.inr q)))).trans (e5 a j (fun q => hq (gb_sc (Or.inl q))))
      · have := f3.2.2.2.2
        omega
    · rcases f2 with ⟨-, f3, -⟩ | ⟨-, gg, f4, f5⟩
      · exact absurd ⟨g1, g2, g3, g4, e3⟩ f3
      · have e4 : r = VV (σ 181) (gmL (σ 181) a b) a b (x0G (σ 181)) 0 := e4
        have f4 : r2 = VV (σ 181) (gmL (σ 181) a b) a b (x0G (σ 181)) 0 := f4
        have e5 : FsP (σ 181) (gmL (σ 181) a b) a b (σ1 114 7) := e5
        have f5 : FsP (σ 181) (gmL (σ 181) a b) a b (σ2 179 36) := f5
        have gg : Agr gmC σ1 σ2 := gg
        have all : ∀ a j, ¬ (wgC a j ∨ gmC a j) → σ2 a j = σ a j := fun a j hq => (gg a j (fun q => hq (Or.inr q))).trans (ag a j (fun q => hq (Or.inl q)))
        refine ⟨_, σ1, σ2, by rw [w1, e4], by rw [f1, f4], inv_lst H (fun a j hq => all a j (fun q => hq (gw_ok q))) ?_⟩
        obtain ⟨z1, z2, z3, z4, z5, z6⟩ := in_Z H
        unfold wgC gaC gmC at all
        refine ⟨?_, ?_, ?_, ?_, ?_, ?_⟩
        · rw [all 2 12 (by omega), all 179 10 (by omega)]; exact z1
        · have q106 : σ2 106 = σ 106 := funext fun j => all 106 j (by omega)
          have q191 : σ2 191 = σ 191 := funext fun j => all 191 j (by omega)
          rw [q106, q191, all 104 6 (by omega), all 179 28 (by omega)]; exact z2
        · have q113 : σ2 113 = σ 113 := funext fun j => all 113 j (by omega)
          have q194 : σ2 194 = σ 194 := funext fun j => all 194 j (by omega)
          rw [q113, q194, all 107 12 (by omega), all 179 32 (by omega)]; exact z3
        · rw [gg 114 7 (by unfold gmC; omega)]
          exact fs_u e5 f5
        · have q201 : σ2 201 = σ 201 := funext fun j => all 201 j (by omega)
          rw [q201, all 121 2 (by omega), all 121 4 (by omega), all 121 5 (by omega), all 121 6 (by omega)]; exact z5
        · have q122 : σ2 122 = σ 122 := funext fun j => all 122 j (by omega)
          have q196 : σ2 196 = σ 196 := funext fun j => all 196 j (by omega)
          rw [q122, q196, all 0 18 (by omega), all 179 39 (by omega)]; exact z6
  · obtain ⟨⟨r2, σ2⟩, f1, f2⟩ := e_M_game (σ := σ) (a := a) (b := b) hNN hI hW
    have w1 : f_W_game NN a b σ = some (-2, σ) := by
      unfold f_W_game
      rw [e_W_isWidow hL, b1_s]
      by_cases q1 : 0 ≤ a ∧ a < σ 181 0
      · rw [decide_eq_true q1, if_neg bn0, e_W_isWidow hL, b1_s]
        by_cases q2 : 0 ≤ b ∧ b < σ 181 0
        · rw [decide_eq_true q2, if_neg bn0]
          by_cases q3 : a = b
          · rw [if_pos q3]
          · rw [if_neg q3, eR]
            by_cases q4 : σ 181 151 = 0
            · rw [if_pos q4]
            · exact absurd ⟨q1, q2, q3, q4⟩ g
        · rw [decide_eq_false q2, if_pos by0]
      · rw [decide_eq_false q1, if_pos by0]
    rcases f2 with ⟨f4, -, f5⟩ | ⟨f3, -⟩
    · have f4 : r2 = -2 := f4
      have f5 : Agr gbC σ σ2 := f5
      exact ⟨-2, σ, σ2, w1, by rw [f1, f4], inv_ag (fun a j hq => f5 a j (fun q => hq (gb_sc (Or.inr q)))) H⟩
    · exact absurd ⟨f3.1, f3.2.1, f3.2.2.1, f3.2.2.2.1⟩ g
end
