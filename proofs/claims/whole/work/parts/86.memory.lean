/-! LAYER 3zk: a MEMORY read on both sides -/
section
theorem or_bd28 {x k : Int} (hx : 0 ≤ x ∧ x < 268435456) (hk : 0 ≤ k ∧ k < 28) : 0 ≤ or32 x (sl32 1 k) ∧ or32 x (sl32 1 k) < 268435456 := by
  obtain ⟨a, rfl⟩ : ∃ a : Nat, x = a := ⟨x.toNat, by omega⟩
  obtain ⟨m, rfl⟩ : ∃ m : Nat, k = m := ⟨k.toNat, by omega⟩
  have h : ∀ m : Nat, m < 28 → 1 <<< m < 268435456 := by decide +kernel
  have hm := h m (by omega)
  have e : sl32 1 (m : Int) = ((1 <<< m : Nat) : Int) := sl_n (a := 1) (k := m) (by omega) (by omega)
  rw [e, or_n (by omega) (by omega)]
  have := Nat.or_lt_two_pow (n := 28) (x := a) (y := 1 <<< m) (by omega) (by omega)
  omega
variable {σ τ : JSg} {n p : Nat} {c : JA} {size lim q : Int}
/-- what a MEMORY is read against -/
def BkP (σ τ : JSg) : Prop := WfI (τ 181) ∧ IslR σ 4 (τ 181) ∧ ∀ w : Int, 0 ≤ w → w < τ 181 0 → nmR (σ 5 w.toNat) (τ 185 w.toNat)
/-- the memories in the making: the class's fresh one at 41, the reference's row 197 -/
def MemP (σ τ : JSg) : Prop := (σ 41 1 = τ 179 41 ∧ 0 ≤ τ 179 41 ∧ τ 179 41 < 128) ∧ (σ 41 3 = τ 197 1 ∧ 0 ≤ τ 197 1 ∧ τ 197 1 < 268435456) ∧ (∀ s : Int, τ 181 1 ≤ s → bt (τ 197 1) s.toNat = false) ∧ (∀ w : Int, 0 ≤ w → w < 6 → (σ 42 w.toNat = τ 197 (2 + w).toNat ∧ 0 ≤ τ 197 (2 + w).toNat ∧ τ 197 (2 + w).toNat ≤ 7) ∧ (σ 43 w.toNat = τ 197 (8 + w).toNat ∧ 0 ≤ τ 197 (8 + w).toNat ∧ τ 197 (8 + w).toNat < 128)) ∧ σ 2 12 = τ 179 10
def wrM (a j : Nat) : Prop := (a = 2 ∧ 3 ≤ j) ∨ (a = 41 ∧ 1 ≤ j) ∨ a = 42 ∨ a = 43
def mrM (a j : Nat) : Prop := (a = 179 ∧ ((5 ≤ j ∧ j ≤ 13) ∨ j = 41)) ∨ (a = 197 ∧ 1 ≤ j)
theorem MemP_ag {s t : JSg} (h : MemP σ τ) (h1 : ∀ a j, (a = 41 ∧ (j = 1 ∨ j = 3)) ∨ a = 42 ∨ a = 43 ∨ (a = 2 ∧ j = 12) → s a j = σ a j) (h2 : ∀ a j, a = 181 ∨ (a = 197 ∧ 1 ≤ j) ∨ (a = 179 ∧ (j = 41 ∨ j = 10)) → t a j = τ a j) : MemP s t := by
  obtain ⟨a1, a2, a3, a4, a5⟩ := h
  refine ⟨?_, ?_, fun d d0 => ?_, fun w w0 w1 => ?_, ?_⟩
  · rw [h1 _ _ (by omega), h2 _ _ (by omega)]; exact a1
  · rw [h1 _ _ (by omega), h2 _ _ (by omega)]; exact a2
  · rw [h2 181 1 (by omega)] at d0
    rw [h2 _ _ (by omega)]; exact a3 d d0
  · rw [h1 _ _ (by omega), h1 _ _ (by omega), h2 _ _ (by omega), h2 _ _ (by omega)]; exact a4 w w0 w1
  · rw [h1 _ _ (by omega), h2 _ _ (by omega)]; exact a5
theorem BkP_ag {s t : JSg} (h : BkP σ τ) (h1 : ∀ a j, 4 ≤ a ∧ a ≤ 21 → s a j = σ a j) (h2 : ∀ a j, a = 181 ∨ a = 185 → t a j = τ a j) : BkP s t := by
  obtain ⟨a1, a2, a3⟩ := h
  have e1 : t 181 = τ 181 := funext fun j => h2 _ _ (by omega)
  unfold BkP
  rw [e1]
  refine ⟨a1, IslR_ag (fun q j hq => h1 q j (by omega)) a2, fun w w0 w1 => ?_⟩
  rw [h1 _ _ (by omega), h2 _ _ (by omega)]; exact a3 w w0 w1
/-- how a LINE of a MEMORY ends -/
def LmP (c : JA) (size lim : Int) (σ τ : JSg) (nx : Int) (z y : Int × JSg) : Prop := Agr wrM σ z.2 ∧ Agr mrM τ y.2 ∧ ((z.1 = 0 ∧ y.1 = 0 ∧ FR z.2 y.2) ∨ (z.1 = 1 ∧ y.1 = 1 ∧ MemP z.2 y.2 ∧ ∃ p', TR c size lim p' z.2 y.2 ∧ nx ≤ p'))
theorem wm_f {s t : JSg} (h : Agr wrM σ s) (g : Agr ftC s t) : Agr wrM σ t := ag_tr h (ag_mono g (fun a j q => by unfold ftC at q; unfold wrM; omega))
theorem mm_f {s t : JSg} (h : Agr mrM σ s) (g : Agr fmC s t) : Agr mrM σ t := ag_tr h (ag_mono g (fun a j q => by unfold fmC at q; unfold mrM; omega))
theorem wm_t {s t : JSg} (h : Agr wrM σ s) (g : Agr wtkC s t) : Agr wrM σ t := ag_tr h (ag_mono g (fun a j q => by unfold wtkC at q; unfold wrM; omega))
theorem mm_t {s t : JSg} (h : Agr mrM σ s) (g : Agr mtkC s t) : Agr mrM σ t := ag_tr h (ag_mono g (fun a j q => by unfold mtkC at q; unfold mrM; omega))
theorem wm_2 {s t : JSg} (h : Agr wrM σ s) (g : Agr wtkF s t) : Agr wrM σ t := ag_tr h (ag_mono g (fun a j q => by unfold wtkF at q; unfold wrM; omega))
theorem mm_2 {s t : JSg} (h : Agr mrM σ s) (g : Agr mtkF s t) : Agr mrM σ t := ag_tr h (ag_mono g (fun a j q => by unfold mtkF at q; unfold mrM; omega))
theorem wf_2 {s : JSg} (h : Agr wtkC2 σ s) : Agr wtkF σ s := ag_mono h (fun a j q => by unfold wtkC2 at q; unfold wtkF; omega)
theorem mf_2 {s : JSg} (h : Agr mtkC2 σ s) : Agr mtkF σ s := ag_mono h (fun a j q => by unfold mtkC2 at q; unfold mtkF; omega)
theorem lm_fail {s t : JSg} {k nx q' : Int} (h1 : Agr wrM σ s) (h2 : Agr mrM τ t) (h : TR c size lim q' s t) (hk : k = 1 ∨ t 179 7 ≠ 1) : Sm (bd2 (f_Tok_fail k s) fun r s' => chk (r = 0 ∨ r = 1) <| some (r, s')) (bd2 (f_M_bad k t) fun r s' => chk (r = 0 ∨ r = 1) <| some (r, s')) (LmP c size lim σ τ nx) := by
  obtain ⟨s', t', f1, f2, f3, f4, f5⟩ := tr_fail h hk
  rw [f1, f2, b2_s, b2_s, ck_p (Or.inl rfl), ck_p (Or.inl rfl)]
  exact sm_some ⟨wm_f h1 f4, mm_f h2 f5, Or.inl ⟨rfl, rfl, f3⟩⟩
theorem lm_step {s t : JSg} {nx q' : Int} (hn : 1000000 < n) (h1 : Agr wrM σ s) (h2 : Agr mrM τ t) (h : TR c size lim q' s t) (hP : MemP s t) (hx : nx ≤ s 2 3) : Sm (bd1 (f_Tok_step n s) fun s6 => some ((1 : Int), s6)) (bd1 (f_M_go n t) fun s7 => some ((1 : Int), s7)) (LmP c size lim σ τ nx) := by
  refine sm_b11 (tr_step hn h) (fun s6 t6 h6 => sm_some ⟨wm_t h1 h6.2.1, mm_t h2 h6.2.2, Or.inr ⟨rfl, rfl, MemP_ag hP (fun a j q => h6.2.1 a j (by unfold wtkC; omega)) (fun a j q => h6.2.2 a j (by unfold mtkC; omega)), s 2 3, h6.1, hx⟩⟩)
theorem s_readSeen (hn : 1000000 < n) (h : TR c size lim q σ τ) (hB : BkP σ τ) (hP : MemP σ τ) : Sm (f_Mem_readSeen n 41 4 σ) (f_M_readSeen n τ) (LmP c size lim σ τ (σ 2 3)) := by
  have nx0 := tr_nx h
  unfold f_Mem_readSeen f_M_readSeen
  refine sm_b11 (tr_step hn h) (fun s t hs => ?_)
  obtain ⟨h1, h2, h3⟩ := hs
  have w1 := wm_t (σ := σ) ag_refl h2
  have m1 := mm_t (σ := τ) ag_refl h3
  have nx1 := tr_nx h1
  refine s_two hn h1 (fun s t ws mt fr => sm_some ⟨wm_2 w1 ws, mm_2 m1 mt, Or.inl ⟨rfl, rfl, fr⟩⟩) (fun a b s3 t3 q' a0 b0 h4 sa sb tb ws mt qq s24 => ?_)
  have w2 := wm_2 w1 (wf_2 ws)
  have m2 := mm_2 m1 (mf_2 mt)
  have e2 : ∀ a j, a ≠ 2 ∨ j = 12 → s3 a j = σ a j := fun a j q => (ws a j (by unfold wtkC2; omega)).trans (h2 a j (by unfold wtkC; omega))
  have f2 : ∀ a j, a ≠ 179 ∨ j = 10 ∨ j = 41 → t3 a j = τ a j := fun a j q => (mt a j (by unfold mtkC2; omega)).trans (h3 a j (by unfold mtkC; omega))
  have f181 : t3 181 = τ 181 := funext fun j => f2 181 j (by omega)
  have ne1 : t3 179 7 ≠ 1 := by
    rcases tr_kd h4 with ⟨h1, h2, h3⟩ | ⟨h1, h2, h3⟩ | ⟨h1, h2, h3, h4⟩ | ⟨h1, h2, h3, h4⟩ | ⟨h1, h2, h3, h4⟩ <;> omega
  have hB3 : BkP s3 t3 := BkP_ag hB (fun a j q => e2 a j (by omega)) (fun a j q => f2 a j (by omega))
  have hP3 : MemP s3 t3 := MemP_ag hP (fun a j q => e2 a j (by omega)) (fun a j q => f2 a j (by omega))
  obtain ⟨k1, k2, k3⟩ := hB3
  obtain ⟨a1, a2, a3, a4, a5⟩ := hP3
  rw [sa, sb, tb, e_Isl_stoneWith hn k1 k2, e_M_findStone hn (by decide) k1.2.1.1 k1.2.1.2, b1_s, b1_s]
  simp only [lt_u, j0_s]
  refine sm_ite Iff.rfl (fun _ _ => lm_fail w2 m2 h4 (Or.inr ne1)) (fun g _ => ?_)
  have gi := findA_in g
  generalize findA (t3 181) a b = d at *
  have v28 := k1.2.1.2
  unfold f_Mem_hasSeen
  rw [a2.1, an_bi (b := bt (t3 197 1) d.toNat) (by omega) (by omega) rfl, b1_s, e_M_has (by omega) (by omega), b1_s]
  refine sm_ite Iff.rfl (fun g1 _ => ?_) (fun _ _ => lm_fail w2 m2 h4 (Or.inr ne1))
  have xb := or_bd28 (x := t3 197 1) (k := d) a2.2 (by omega)
  have xt : ∀ j : Nat, bt (or32 (t3 197 1) (sl32 1 d)) j = (bt (t3 197 1) j || decide ((j : Int) = d)) := fun j => by rw [bt_or, bt_bit (by omega) (by omega)]
  generalize or32 (t3 197 1) (sl32 1 d) = x at *
  refine lm_step hn (ag_sp w2 (by unfold wrM; omega)) (ag_sp m2 (by unfold mrM; omega)) (tr_ag h4 (fun x j hh => by rw [sp_nq (by omega)]) (fun x j hh => by rw [sp_nq (by omega)])) ⟨?_, ?_, fun e e0 => ?_, fun w w0 w1 => ?_, ?_⟩ (by rw [sp_nq (by decide)]; have := tr_nx h4; omega)
  · rw [sp_nj (by decide), sp_nq (by decide)]; exact a1
  · rw [sp_eq, sp_eq]; exact ⟨rfl, xb⟩
  · rw [sp_nq (by decide)] at e0
    rw [sp_eq, xt, a3 e e0, decide_eq_false (by omega)]; rfl
  · rw [sp_nq (show (42 : Nat) ≠ 41 by decide), sp_nj (show (2 + w).toNat ≠ 1 by omega), sp_nq (show (43 : Nat) ≠ 41 by decide), sp_nj (show (8 + w).toNat ≠ 1 by omega)]; exact a4 w w0 w1
  · rw [sp_nq (by decide), sp_nq (by decide)]; exact a5
end
