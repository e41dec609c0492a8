/-! LAYER 3t: days -/
def dX (x : Int) : Int := w32 (w32 (x * 1103515245) + 12345)
def dR (x n : Int) : Int := rm32 (ur32 (dX x) 8) n
theorem dR_in {x n : Int} (h : 0 < n ∧ n < 2147483648) : 0 ≤ dR x n ∧ dR x n < n := by
  unfold dR
  have e : ur32 (dX x) 8 = dX x % 4294967296 / (2 ^ 8 : Nat) := ur_k (k := 8) (by decide) (by decide)
  rw [e, rm_p (by omega) (by omega) h.1 h.2]
  exact ⟨Int.emod_nonneg _ (by omega), Int.emod_lt_of_pos _ h.1⟩
theorem kth_all {P : Int → Bool} {N k : Int} : ∀ (f : Nat) (i c : Int), (N - i).toNat = f → 0 ≤ c → (k < 0 ∨ c + (N - i) ≤ k) → i ≤ N → kth P k N i c = .inr (cntP P N i c) := by
  intro f
  induction f with
  | zero => intro i c h _ _ _; rw [kth_e (by omega), cnt_e (by omega)]
  | succ f ih =>
    intro i c h h0 hk hi
    rw [kth_s (by omega), cnt_s (by omega)]
    cases P i
    · rw [cond_false, cond_false]; exact ih _ _ (by omega) h0 (by omega) (by omega)
    · rw [cond_true, cond_true, if_neg (by omega)]; exact ih _ _ (by omega) (by omega) (by omega) (by omega)
theorem kth_in {P : Int → Bool} {N k : Int} : ∀ (f : Nat) (i c : Int), (N - i).toNat = f → c ≤ k → k < cntP P N i c → ∃ s, kth P k N i c = .inl s ∧ i ≤ s ∧ s < N ∧ P s = true := by
  intro f
  induction f with
  | zero =>
    intro i c h h0 hk
    rw [cnt_e (by omega)] at hk
    omega
  | succ f ih =>
    intro i c h h0 hk
    rw [cnt_s (by omega)] at hk
    rw [kth_s (by omega)]
    cases g : P i
    · rw [g] at hk
      obtain ⟨s, h1, h2, h3, h4⟩ := ih (i + 1) c (by omega) h0 hk
      exact ⟨s, by rw [cond_false]; exact h1, by omega, h3, h4⟩
    · rw [g] at hk
      rw [cond_true]
      by_cases e : c = k
      · exact ⟨i, by rw [if_pos e], by omega, by omega, g⟩
      · obtain ⟨s, h1, h2, h3, h4⟩ := ih (i + 1) (c + 1) (by omega) (by omega) hk
        exact ⟨s, by rw [if_neg e]; exact h1, by omega, h3, h4⟩
section
variable {σ : JSg} {n p ip : Nat} {A : JA}
theorem e_Row_heldAt {w k : Int} (hn : 1000000 < n) (hI : WfI A) (hL : IslR σ ip A) (hR : RowR σ p A) : f_Row_heldAt n p ip w k σ = some (match kth (ownB A w 0) k (A 1) 0 0 with | .inl s => s | .inr _ => -1) := by
  have b1 := hI.2.1
  apply rt_eq
  unfold f_Row_heldAt
  refine rt_lt (rt_lt ?_)
  refine rt_w2 (I := fun x i => (0 ≤ i ∧ i ≤ A 1) ∧ (0 ≤ x ∧ x ≤ i) ∧ kth (ownB A w 0) k (A 1) i x = kth (ownB A w 0) k (A 1) 0 0) (μ := fun x i => (A 1 - i).toNat) ?_ n _ _ ⟨by omega, by omega, rfl⟩ (by omega)
  rintro x i ⟨⟨i0, i1⟩, ⟨x0, x1⟩, e1⟩ rc hrc
  rw [hL.2.1]
  refine rt_ite (fun h => ?_) (fun h => ?_)
  · rw [kth_s h] at e1
    rw [e_Row_isHeldBy hI hR i0 h, b1_s, j1_s, wi (x := i + 1) (by omega) (by omega), show decide (ownA A i = w ∧ whrA A i = 0) = ownB A w 0 i from rfl]
    simp only [lt_u]
    cases c : ownB A w 0 i
    · rw [c] at e1
      rw [if_pos by0]
      exact hrc _ _ ⟨by omega, by omega, e1⟩ (by omega)
    · rw [c, cond_true] at e1
      rw [if_neg bn0]
      refine rt_ite (fun d => ?_) (fun d => ?_)
      · rw [if_pos d] at e1
        exact rt_some (by rw [← e1])
      · rw [if_neg d] at e1
        rw [wi (by omega) (by omega)]
        exact hrc _ _ ⟨by omega, by omega, e1⟩ (by omega)
  · rw [kth_e (by omega)] at e1
    exact rt_some (by rw [← e1])
theorem e_M_inHand {w k : Int} (hn : 1000000 < n) (hI : WfI (σ 181)) : f_M_inHand n w k σ = some (match kth (ownB (σ 181) w 0) k (σ 181 1) 0 0 with | .inl s => s | .inr c => c) := by
  have b1 := hI.2.1
  apply rt_eq
  unfold f_M_inHand
  refine rt_lt (rt_lt ?_)
  refine rt_w2 (I := fun x i => (0 ≤ i ∧ i ≤ σ 181 1) ∧ (0 ≤ x ∧ x ≤ i) ∧ kth (ownB (σ 181) w 0) k (σ 181 1) i x = kth (ownB (σ 181) w 0) k (σ 181 1) 0 0) (μ := fun x i => (σ 181 1 - i).toNat) ?_ n _ _ ⟨by omega, by omega, rfl⟩ (by omega)
  rintro x i ⟨⟨i0, i1⟩, ⟨x0, x1⟩, e1⟩ rc hrc
  rw [stM, b1_s]
  refine rt_ite (fun h => ?_) (fun h => ?_)
  · rw [kth_s h] at e1
    rw [e_M_isHeld i0 (by omega), j1_s, b1_s, wi (x := i + 1) (by omega) (by omega), wi (x := 67 + i) (by omega) (by omega), ck_p (by omega), show σ 181 (67 + i).toNat = ownA (σ 181) i from rfl]
    simp only [lt_u]
    have hit : ownB (σ 181) w 0 i = true → Ret (if x = k then some i else rc (w32 (x + 1)) (i + 1)) (fun z => z = match kth (ownB (σ 181) w 0) k (σ 181 1) 0 0 with | .inl s => s | .inr c => c) := by
      intro c
      rw [c, cond_true] at e1
      refine rt_ite (fun d => ?_) (fun d => ?_)
      · rw [if_pos d] at e1
        exact rt_some (by rw [← e1])
      · rw [if_neg d] at e1
        rw [wi (by omega) (by omega)]
        exact hrc _ _ ⟨by omega, by omega, e1⟩ (by omega)
    have mis : ownB (σ 181) w 0 i = false → Ret (rc x (i + 1)) (fun z => z = match kth (ownB (σ 181) w 0) k (σ 181 1) 0 0 with | .inl s => s | .inr c => c) := by
      intro c
      rw [c] at e1
      exact hrc _ _ ⟨by omega, by omega, e1⟩ (by omega)
    refine rt_ite (fun c => ?_) (fun c => mis (decide_eq_false (fun q => c q.1)))
    by_cases d : whrA (σ 181) i = 0
    · rw [decide_eq_true d, if_neg bn0]
      exact hit (decide_eq_true ⟨c, d⟩)
    · rw [decide_eq_false d, if_pos by0]
      exact mis (decide_eq_false (fun q => d q.2))
  · rw [kth_e (by omega)] at e1
    exact rt_some (by rw [← e1])
theorem e_W_draw {m : Int} (hm : 0 < m) : f_Day_draw m σ = some (dR (σ 121 1) m, sp σ 121 1 (dX (σ 121 1))) := by
  unfold f_Day_draw
  rw [lt_u, if_pos hm, ck_p (by omega), sp_eq]
  rfl
theorem e_M_draw {m : Int} (hm : 0 < m) : f_M_draw m σ = some (dR (σ 179 45) m, sp σ 179 45 (dX (σ 179 45))) := by
  unfold f_M_draw
  rw [lt_u, ck_p (by omega), sp_eq]
  rfl
end
/-! one day -/
def dvW (A : JA) (x : Int) : Int := dR x (A 0)
def dvH (A : JA) (x : Int) : Int := cntP (ownB A (dvW A x) 0) (A 1) 0 0
def dvS (A : JA) (x : Int) : Int := match kth (ownB A (dvW A x) 0) (dR (dX x) (dvH A x)) (A 1) 0 0 with | .inl s => s | .inr _ => -1
def dvE (x : Int) : Int := dR (dX (dX x)) 2
def dvL (A : JA) (x : Int) : Bool := decide (dvH A x ≠ 0) && decide (whyA A (dvW A x) (dvS A x) (dvE x) = 0)
def dvA (A : JA) (x : Int) : JA := if dvL A x = true then layN A (dvW A x) (dvS A x) (dvE x) else A
def dvX (A : JA) (x : Int) : Int := if dvH A x = 0 then dX x else dX (dX (dX x))
def dcA (A : JA) (x : Int) : JA := if dR x 8 = 0 ∧ 0 < A 151 then catN A (dR (dX x) 2) else A
def dcX (x : Int) : Int := if dR x 8 = 0 then dX (dX x) else dX x
def dtA (A : JA) (x : Int) : JA := if dR x 4 = 0 ∧ 0 < A 151 then turN A else A
section
variable {σ u : JSg} {n : Nat} {A : JA} {x : Int}
/-- what stays in a day -/
def dyK (A B : JA) : Prop := WfI B ∧ WfR B ∧ ∀ k : Nat, ¬ (67 ≤ k ∧ k < 192) → B k = A k
theorem dyK_refl (hI : WfI A) (hW : WfR A) : dyK A A := ⟨hI, hW, fun _ _ => rfl⟩
theorem dyK_tr {B C : JA} (h1 : dyK A B) (h2 : dyK B C) : dyK A C := ⟨h2.1, h2.2.1, fun k hk => (h2.2.2 k hk).trans (h1.2.2 k hk)⟩
theorem dv_ok (hI : WfI A) (hW : WfR A) (h0 : 0 < A 0) (hh : dvH A x ≠ 0) : (0 ≤ dvW A x ∧ dvW A x < A 0) ∧ (0 < dvH A x ∧ dvH A x ≤ 28) ∧ (0 ≤ dvS A x ∧ dvS A x < A 1) ∧ ownA A (dvS A x) = dvW A x ∧ whrA A (dvS A x) = 0 ∧ (0 ≤ dvE x ∧ dvE x ≤ 1) ∧ kth (ownB A (dvW A x) 0) (dR (dX x) (dvH A x)) (A 1) 0 0 = .inl (dvS A x) := by
  have b0 := hI.1
  have b1 := hI.2.1
  have d1 := dR_in (x := x) (n := A 0) (by omega)
  have bd := cnt_bd (P := ownB A (dvW A x) 0) (N := A 1) _ 0 0 rfl
  have hb : 0 < dvH A x ∧ dvH A x ≤ 28 := by unfold dvH at hh ⊢; omega
  have d2 := dR_in (x := dX x) (n := dvH A x) (by omega)
  have d3 := dR_in (x := dX (dX x)) (n := 2) (by omega)
  obtain ⟨s, s1, s2, s3, s4⟩ := kth_in (P := ownB A (dvW A x) 0) (N := A 1) (k := dR (dX x) (dvH A x)) _ 0 0 rfl d2.1 d2.2
  have es : dvS A x = s := by unfold dvS; rw [s1]
  have ow := of_decide_eq_true s4
  rw [es]
  exact ⟨d1, hb, ⟨s2, s3⟩, ow.1, ow.2, by unfold dvE; omega, s1⟩
theorem dvA_K (hI : WfI A) (hW : WfR A) (h0 : 0 < A 0) : dyK A (dvA A x) := by
  have b1 := hI.2.1
  have b0 := hI.1
  unfold dvA
  by_cases c : dvL A x = true
  · rw [if_pos c]
    unfold dvL at c
    rw [Bool.and_eq_true, decide_eq_true_iff, decide_eq_true_iff] at c
    have ok := dv_ok hI hW h0 c.1
    have rm := row_room hI hW ok.2.2.1.1 ok.2.2.1.2 (by omega)
    have rr := hW.2.1
    have lo : ∀ k : Nat, ¬ (67 ≤ k ∧ k < 192) → layN A (dvW A x) (dvS A x) (dvE x) k = A k := fun k hk => layN_lo (by omega) (by omega) (by omega)
    exact ⟨WfI_cg (fun k hk _ => lo k (by omega)) hI, layN_wf hI hW ok.2.2.1 ok.2.2.2.2.1 ok.2.2.2.1, lo⟩
  · rw [if_neg c]; exact dyK_refl hI hW
theorem catN_lo {e : Int} {k : Nat} (hI : WfI A) (hW : WfR A) (hn0 : A 151 ≠ 0) (hk : ¬ (67 ≤ k ∧ k < 192)) : catN A e k = A k := by
  have rr := hW.2.1
  have b1 := hI.2.1
  have eb := endA_in (e := e) hW hn0
  have c := wf_rw hI hW eb.1 eb.2
  unfold catN
  rw [if_neg (by omega), if_neg (by omega), if_neg (by omega)]
theorem dcA_K (hI : WfI A) (hW : WfR A) : dyK A (dcA A x) := by
  unfold dcA
  by_cases c : dR x 8 = 0 ∧ 0 < A 151
  · rw [if_pos c]
    have d := dR_in (x := dX x) (n := 2) (by omega)
    exact ⟨WfI_cg (fun k hk _ => catN_lo hI hW (by omega) (by omega)) hI, catN_wf hI hW (by omega) (by omega), fun k hk => catN_lo hI hW (by omega) hk⟩
  · rw [if_neg c]; exact dyK_refl hI hW
theorem dtA_K (hI : WfI A) (hW : WfR A) : dyK A (dtA A x) := by
  have rr := hW.2.1
  have b1 := hI.2.1
  unfold dtA
  by_cases c : dR x 4 = 0 ∧ 0 < A 151
  · rw [if_pos c]
    have lo : ∀ k : Nat, ¬ (67 ≤ k ∧ k < 192) → turN A k = A k := fun k hk => turN_lo hW (by omega) (by omega)
    exact ⟨WfI_cg (fun k hk _ => lo k (by omega)) hI, turN_wf hI hW (by omega), lo⟩
  · rw [if_neg c]; exact dyK_refl hI hW
/-- the class in a day: row at 11, the days' own cells at 121 -/
def dyC (a j : Nat) : Prop := rowC 11 a j ∨ a = 121
def DW (σ : JSg) (A : JA) (x l c t r : Int) (u : JSg) : Prop := RowR u 11 A ∧ IslR u 4 A ∧ Agr dyC σ u ∧ u 121 1 = x ∧ u 121 3 = l ∧ u 121 4 = c ∧ u 121 5 = t ∧ u 121 6 = r ∧ u 121 2 = σ 121 2
theorem DW_sp {l c t r y : Int} (h : DW σ A x l c t r u) : DW σ A y l c t r (sp u 121 1 y) := by
  obtain ⟨h1, h2, h3, h4, h5, h6, h7, h8, h9⟩ := h
  exact ⟨RowR_ag (fun q j hq => sp_at.trans (if_neg (by omega))) h1, IslR_ag (fun q j hq => sp_at.trans (if_neg (by omega))) h2, ag_sp h3 (Or.inr rfl), sp_eq, by rw [sp_nj (by decide)]; exact h5, by rw [sp_nj (by decide)]; exact h6, by rw [sp_nj (by decide)]; exact h7, by rw [sp_nj (by decide)]; exact h8, by rw [sp_nj (by decide)]; exact h9⟩
theorem DW_row {B : JA} {v : JSg} {l c t r : Int} (hb : A 1 ≤ 28) (hK : ∀ k : Nat, ¬ (67 ≤ k ∧ k < 192) → B k = A k) (h : DW σ A x l c t r u) (ha : Agr (rowC 11) u v) (hR : RowR v 11 B) : DW σ B x l c t r v := by
  obtain ⟨h1, h2, h3, h4, h5, h6, h7, h8, h9⟩ := h
  have e : ∀ j, v 121 j = u 121 j := fun j => ha 121 j (by unfold rowC; omega)
  refine ⟨hR, IslR_cg hb (fun k hk _ => hK k (by omega)) (IslR_ag (fun q j hq => ha q j (by unfold rowC; omega)) h2), fun a j hj => ?_, ?_, ?_, ?_, ?_, ?_, ?_⟩
  · rw [ha a j (fun q => hj (Or.inl q))]; exact h3 a j hj
  · rw [e]; exact h4
  · rw [e]; exact h5
  · rw [e]; exact h6
  · rw [e]; exact h7
  · rw [e]; exact h8
  · rw [e]; exact h9
theorem DW_l {l c t r y : Int} (h : DW σ A x l c t r u) : DW σ A x y c t r (sp u 121 3 y) := by
  obtain ⟨h1, h2, h3, h4, h5, h6, h7, h8, h9⟩ := h
  exact ⟨RowR_ag (fun q j hq => sp_at.trans (if_neg (by omega))) h1, IslR_ag (fun q j hq => sp_at.trans (if_neg (by omega))) h2, ag_sp h3 (Or.inr rfl), by rw [sp_nj (by decide)]; exact h4, sp_eq, by rw [sp_nj (by decide)]; exact h6, by rw [sp_nj (by decide)]; exact h7, by rw [sp_nj (by decide)]; exact h8, by rw [sp_nj (by decide)]; exact h9⟩
theorem DW_c {l c t r y : Int} (h : DW σ A x l c t r u) : DW σ A x l y t r (sp u 121 4 y) := by
  obtain ⟨h1, h2, h3, h4, h5, h6, h7, h8, h9⟩ := h
  exact ⟨RowR_ag (fun q j hq => sp_at.trans (if_neg (by omega))) h1, IslR_ag (fun q j hq => sp_at.trans (if_neg (by omega))) h2, ag_sp h3 (Or.inr rfl), by rw [sp_nj (by decide)]; exact h4, by rw [sp_nj (by decide)]; exact h5, sp_eq, by rw [sp_nj (by decide)]; exact h7, by rw [sp_nj (by decide)]; exact h8, by rw [sp_nj (by decide)]; exact h9⟩
theorem DW_t {l c t r y : Int} (h : DW σ A x l c t r u) : DW σ A x l c y r (sp u 121 5 y) := by
  obtain ⟨h1, h2, h3, h4, h5, h6, h7, h8, h9⟩ := h
  exact ⟨RowR_ag (fun q j hq => sp_at.trans (if_neg (by omega))) h1, IslR_ag (fun q j hq => sp_at.trans (if_neg (by omega))) h2, ag_sp h3 (Or.inr rfl), by rw [sp_nj (by decide)]; exact h4, by rw [sp_nj (by decide)]; exact h5, by rw [sp_nj (by decide)]; exact h6, sp_eq, by rw [sp_nj (by decide)]; exact h8, by rw [sp_nj (by decide)]; exact h9⟩
theorem DW_r {l c t r y : Int} (h : DW σ A x l c t r u) : DW σ A x l c t y (sp u 121 6 y) := by
  obtain ⟨h1, h2, h3, h4, h5, h6, h7, h8, h9⟩ := h
  exact ⟨RowR_ag (fun q j hq => sp_at.trans (if_neg (by omega))) h1, IslR_ag (fun q j hq => sp_at.trans (if_neg (by omega))) h2, ag_sp h3 (Or.inr rfl), by rw [sp_nj (by decide)]; exact h4, by rw [sp_nj (by decide)]; exact h5, by rw [sp_nj (by decide)]; exact h6, by rw [sp_nj (by decide)]; exact h7, sp_eq, by rw [sp_nj (by decide)]; exact h9⟩
theorem e_W_visit {l c t r : Int} (hn : 1000000 < n) (hI : WfI A) (hW : WfR A) (h0 : 0 < A 0) (hl : 0 ≤ l ∧ l < 1000 ∧ 0 ≤ r ∧ r < 1000) (h : DW σ A x l c t r u) : Ret (f_Day_tryVisit n u) (fun v => DW σ (dvA A x) (dvX A x) (if dvL A x = true then l + 1 else l) c t (if dvH A x ≠ 0 ∧ dvL A x = false then r + 1 else r) v) := by
  have b0 := hI.1
  have b1 := hI.2.1
  have hx : u 121 1 = x := h.2.2.2.1
  have h41 : u 4 1 = A 0 := h.2.1.1
  unfold f_Day_tryVisit
  rw [h41, e_W_draw h0, b2_s, hx, lt_u]
  have k1 := DW_sp (y := dX x) h
  rw [show dR x (A 0) = dvW A x from rfl, e_Row_owned hn hI k1.2.1 k1.1, b1_s, lt_u, show cntP (ownB A (dvW A x) 0) (A 1) 0 0 = dvH A x from rfl]
  refine rt_ite (fun g => ?_) (fun g => ?_)
  · have e1 : dvL A x = false := by unfold dvL; rw [decide_eq_false (by omega)]; rfl
    refine rt_some ?_
    unfold dvA dvX
    rw [e1, if_neg (by decide), if_pos g, if_neg (by decide), if_neg (by omega)]
    exact k1
  · have ok := dv_ok hI hW h0 g
    rw [e_W_draw (by omega), b2_s, sp_eq]
    have k2 := DW_sp (y := dX (dX x)) k1
    rw [e_Row_heldAt hn hI k2.2.1 k2.1, b1_s, lt_u, show (match kth (ownB A (dvW A x) 0) (dR (dX x) (dvH A x)) (A 1) 0 0 with | .inl s => s | .inr _ => -1) = dvS A x from rfl]
    rw [e_W_draw (by omega), b2_s, sp_eq, lt_u, show dR (dX (dX x)) 2 = dvE x from rfl]
    have k3 := DW_sp (y := dX (dX (dX x))) k2
    refine rt_c0 (dvL A x = false) (fun hc => ?_) (fun j13 h13 => ?_)
    · refine rt_lt (rt_some ?_)
      unfold dvA dvX
      rw [hc, if_neg (by decide), if_neg g, if_neg (by decide), if_pos ⟨g, rfl⟩, k3.2.2.2.2.2.2.2.1, wi (by omega) (by omega)]
      exact DW_r k3
    · rw [if_neg (by omega), e_Row_refusal hI hW k3.2.1 k3.1 ok.2.2.1.1 ok.2.2.1.2 ok.2.2.2.2.2.1.1 ok.2.2.2.2.2.1.2, b1_s]
      refine rt_ite (fun g2 => ?_) (fun g2 => h13 (by unfold dvL; rw [decide_eq_false g2, Bool.and_false]))
      have e1 : dvL A x = true := by unfold dvL; rw [decide_eq_true g, decide_eq_true g2]; rfl
      have kA := dvA_K (x := x) hI hW h0
      refine rt_b1 (e_Row_put hn (by decide) hI hW k3.2.1 k3.1 ok.2.2.1 ok.2.2.2.2.1 ok.2.2.2.1 ok.2.2.2.2.2.1) (fun v hv => rt_lt (rt_some ?_))
      have eB : dvA A x = layN A (dvW A x) (dvS A x) (dvE x) := if_pos e1
      have k4 := DW_row (B := dvA A x) (by omega) kA.2.2 k3 hv.1 (by rw [eB]; exact hv.2)
      unfold dvX
      rw [e1, if_neg g, if_pos rfl, if_neg (fun q => by cases q.2), k4.2.2.2.2.1, wi (by omega) (by omega)]
      exact DW_l k4
theorem e_W_dcat {l c t r : Int} (hn : 1000000 < n) (hI : WfI A) (hW : WfR A) (hl : 0 ≤ c ∧ c < 1000) (h : DW σ A x l c t r u) : Ret (f_Day_tryCat n u) (fun v => DW σ (dcA A x) (dcX x) l (if dR x 8 = 0 ∧ 0 < A 151 then c + 1 else c) t r v) := by
  have b1 := hI.2.1
  have hx : u 121 1 = x := h.2.2.2.1
  unfold f_Day_tryCat
  rw [e_W_draw (by decide), b2_s, hx]
  have k1 := DW_sp (y := dX x) h
  refine rt_ite (fun g => ?_) (fun g => ?_)
  · have d := dR_in (x := dX x) (n := 2) (by omega)
    rw [e_W_draw (by decide), b2_s, sp_eq, lt_u]
    have k2 := DW_sp (y := dX (dX x)) k1
    rw [k2.1.1]
    refine rt_ite (fun g2 => ?_) (fun g2 => ?_)
    · refine rt_b2 (e_Row_takeOff hn hI hW k2.1 (by omega) (by omega)) (fun y v hv => rt_lt (rt_some ?_))
      have eB : dcA A x = catN A (dR (dX x) 2) := if_pos ⟨g, g2⟩
      have kA := dcA_K (x := x) hI hW
      have k4 := DW_row (B := dcA A x) (by omega) kA.2.2 k2 hv.2.1 (by rw [eB]; exact hv.2.2)
      unfold dcX
      rw [if_pos g, if_pos ⟨g, g2⟩, show v 121 4 = c from k4.2.2.2.2.2.1, wi (by omega) (by omega)]
      exact DW_c k4
    · refine rt_some ?_
      unfold dcA dcX
      rw [if_neg (fun q => g2 q.2), if_pos g, if_neg (fun q => g2 q.2)]
      exact k2
  · refine rt_some ?_
    unfold dcA dcX
    rw [if_neg (fun q => g q.1), if_neg g, if_neg (fun q => g q.1)]
    exact k1
theorem e_W_dtide {l c t r : Int} (hI : WfI A) (hW : WfR A) (hl : 0 ≤ t ∧ t < 1000) (h : DW σ A x l c t r u) : Ret (f_Day_tryTide u) (fun v => DW σ (dtA A x) (dX x) l c (if dR x 4 = 0 ∧ 0 < A 151 then t + 1 else t) r v) := by
  have b1 := hI.2.1
  have hx : u 121 1 = x := h.2.2.2.1
  unfold f_Day_tryTide
  rw [e_W_draw (by decide), b2_s, hx]
  have k1 := DW_sp (y := dX x) h
  refine rt_ite (fun g => ?_) (fun g => ?_)
  · rw [k1.1.1]
    refine rt_ite (fun g2 => ?_) (fun g2 => ?_)
    · refine rt_b1 (e_Row_turn hI hW k1.1 (by omega)) (fun v hv => rt_lt (rt_some ?_))
      have eB : dtA A x = turN A := if_pos ⟨g, g2⟩
      have kA := dtA_K (x := x) hI hW
      have k4 := DW_row (B := dtA A x) (by omega) kA.2.2 k1 hv.1 (by rw [eB]; exact hv.2)
      rw [if_pos ⟨g, g2⟩, k4.2.2.2.2.2.2.1, wi (by omega) (by omega)]
      exact DW_t k4
    · refine rt_some ?_
      unfold dtA
      rw [if_neg (fun q => g2 q.2), if_neg (fun q => g2 q.2)]
      exact k1
  · refine rt_some ?_
    unfold dtA
    rw [if_neg (fun q => g q.1), if_neg (fun q => g q.1)]
    exact k1
end
