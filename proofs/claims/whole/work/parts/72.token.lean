/-! LAYER 3w: keywords; a whole TOKEN -/
def kwL : List (List Nat) := [[23, 9, 4, 15, 23], [19, 20, 15, 14, 5], [6, 15, 18, 7, 9, 22, 5], [17, 21, 1, 18, 18, 5, 12], [16, 1, 23, 14], [4, 5, 1, 12], [19, 5, 5, 14], [16, 1, 19, 19, 5, 4], [15, 18], [1, 14, 4], [14, 15, 20], [4, 15, 21, 2, 12, 5], [12, 1, 9, 4], [8, 5, 12, 4], [15, 6], [6, 9, 20, 19], [16, 9, 16, 19], [8, 9, 7, 8], [12, 15, 23], [16, 12, 1, 3, 5]]
def kwE (b k : Nat) : Int := ((en_ b (kwL.getD k []) 0 : Nat) : Int)
def khS : Nat → Int × Int
  | 0 => (1, 0)
  | i + 1 => if txc 1 (i : Int) = 32 then ((khS i).1 + 1, 0) else ((khS i).1, or64 (sl64 (khS i).2 5) (an32 (txc 1 (i : Int)) 31))
theorem kh_a : ((List.range 106).all fun j => !(txc 1 (j : Int) == 32) || (List.range 20).any fun k => khS j == ((k : Int) + 1, kwE 32 k)) = true := by decide +kernel
theorem kh_b : ((List.range 20).all fun k => (List.range 106).any fun j => txc 1 (j : Int) == 32 && khS j == ((k : Int) + 1, kwE 32 k)) = true := by decide +kernel
theorem kh_c : ((List.range 107).all fun j => decide (1 ≤ (khS j).1) && decide ((khS j).1 ≤ 21)) = true := by decide +kernel
theorem cmpL_0 {x y : Int} : cmpL x y = 0 ↔ x = y := by
  unfold cmpL
  constructor
  · intro h
    split at h
    · omega
    · split at h
      · assumption
      · omega
  · intro h
    rw [if_neg (by omega), if_pos h]
def keyP (b : Nat) (r x : Int) : Prop := (r = 0 ∧ ∀ k : Nat, k < 20 → x ≠ kwE b k) ∨ ∃ k : Nat, k < 20 ∧ r = (k : Int) + 1 ∧ x = kwE b k
section
variable {σ : JSg} {n : Nat}
theorem e_Tok_key (hn : 1000000 < n) : Ret (f_Tok_keyHere n σ) (fun r => keyP 32 r (σ 2 7)) := by
  have ha := List.all_eq_true.mp kh_a
  have hb := List.all_eq_true.mp kh_b
  have hc := List.all_eq_true.mp kh_c
  unfold f_Tok_keyHere
  refine rt_lt (rt_lt (rt_lt ?_))
  refine rt_w3 (I := fun (o w i : Int) => ∃ j : Nat, i = j ∧ j ≤ 106 ∧ (o, w) = khS j ∧ ∀ m : Nat, m < j → txc 1 (m : Int) = 32 → (khS m).2 ≠ σ 2 7) (μ := fun (o w i : Int) => (106 - i).toNat) ?_ n _ _ _ ⟨0, rfl, by omega, rfl, fun m hm => by omega⟩ (by omega)
  rintro o w i ⟨j, rfl, j1, e1, e2⟩ rc hrc
  have eo : o = (khS j).1 := by rw [← e1]
  have ew : w = (khS j).2 := by rw [← e1]
  have bo := hc j (List.mem_range.mpr (by omega))
  rw [Bool.and_eq_true, decide_eq_true_iff, decide_eq_true_iff, ← eo] at bo
  refine rt_ite (fun h => ?_) (fun h => ?_)
  · refine rt_chk (by omega) (rt_lt ?_)
    rw [j2_s]
    simp only [lt_u]
    rw [wi (x := (j : Int) + 1) (by omega) (by omega)]
    refine rt_ite (fun g => rt_ite (fun g2 => ?_) (fun g2 => ?_)) (fun g => ?_)
    · have a := ha j (List.mem_range.mpr (by omega))
      rw [g] at a
      have a2 : ((List.range 20).any fun k => khS j == ((k : Int) + 1, kwE 32 k)) = true := by simpa using a
      obtain ⟨k, k1, k2⟩ := List.any_eq_true.mp a2
      have k3 := eq_of_beq k2
      refine rt_some (Or.inr ⟨k, List.mem_range.mp k1, ?_, ?_⟩)
      · rw [eo, k3]
      · rw [← cmpL_0.mp g2, ew, k3]
    · rw [wi (by omega) (by omega)]
      refine hrc _ _ _ ⟨j + 1, by omega, by omega, ?_, fun m hm g3 => ?_⟩ (by omega)
      · show _ = if txc 1 (j : Int) = 32 then _ else _
        rw [if_pos g, eo]
      · by_cases c : m = j
        · rw [c, ← ew]; exact fun q => g2 (cmpL_0.mpr q)
        · exact e2 m (by omega) g3
    · refine hrc _ _ _ ⟨j + 1, by omega, by omega, ?_, fun m hm g3 => ?_⟩ (by omega)
      · show _ = if txc 1 (j : Int) = 32 then _ else _
        rw [if_neg g, eo, ew]
      · by_cases c : m = j
        · rw [c] at g3; exact absurd g3 g
        · exact e2 m (by omega) g3
  · refine rt_some (Or.inl ⟨rfl, fun k hk => ?_⟩)
    obtain ⟨m, m1, m2⟩ := List.any_eq_true.mp (hb k (List.mem_range.mpr hk))
    rw [Bool.and_eq_true] at m2
    have g := e2 m (by have := List.mem_range.mp m1; omega) (eq_of_beq m2.1)
    rw [eq_of_beq m2.2] at g
    exact fun q => g q.symm
end
def sgB (c : JA) (q : Int) : Bool := decide (c q.toNat = 59 ∨ c q.toNat = 60 ∨ c q.toNat = 61 ∨ c q.toNat = 62 ∨ c q.toNat = 40 ∨ c q.toNat = 41)
theorem txi_sg : ((List.range 256).all fun k => (decide (txi 0 (c16 (k : Int)) < 0)) == !(decide ((k : Int) = 59 ∨ (k : Int) = 60 ∨ (k : Int) = 61 ∨ (k : Int) = 62 ∨ (k : Int) = 40 ∨ (k : Int) = 41))) = true := by decide +kernel
def WT (c : JA) (size lim p : Int) (σ : JSg) : Prop := wbR σ c size ∧ σ 2 2 = lim ∧ (0 ≤ p ∧ p ≤ size) ∧ ∃ q, SkE c size p q ∧
  (((size ≤ q ∨ lim ≤ q) ∧ σ 2 3 = q ∧ σ 2 4 = (if lim < size then 1 else 0) ∧ σ 2 5 = min size lim ∧ σ 2 6 = 0)
  ∨ (q < size ∧ q < lim ∧ σ 2 5 = q ∧ (isL c q || isD c q) = false ∧ σ 2 3 = q + 1 ∧ σ 2 6 = 0 ∧ ((sgB c q = true ∧ σ 2 4 = 5 ∧ σ 2 9 = c q.toNat) ∨ (sgB c q = false ∧ σ 2 4 = 2)))
  ∨ (q < size ∧ q < lim ∧ σ 2 5 = q ∧ (isL c q || isD c q) = true ∧ ∃ e, RunE c size q e ∧ σ 2 3 = e ∧ σ 2 4 = rkS c q e ∧ (rkS c q e = 4 → σ 2 8 = nuV c q e) ∧ (rkS c q e ≠ 3 → σ 2 6 = 0) ∧ (rkS c q e = 3 → σ 2 7 = nmV 32 c q e ∧ keyP 32 (σ 2 6) (nmV 32 c q e))))
def wtkC (a j : Nat) : Prop := a = 2 ∧ (j = 3 ∨ j = 4 ∨ j = 5 ∨ j = 6 ∨ j = 7 ∨ j = 8 ∨ j = 9)
section
variable {σ : JSg} {n : Nat} {c : JA} {size lim p : Int}
theorem e_Tok_step (hn : 1000000 < n) (hb : wbR σ c size) (hl : σ 2 2 = lim) (hp : 0 ≤ p ∧ p ≤ size) (h3 : σ 2 3 = p) : Ret (f_Tok_step n σ) (fun τ => WT c size lim p τ ∧ Agr wtkC σ τ) := by
  obtain ⟨b1, b2, b3⟩ := hb
  unfold f_Tok_step
  refine rt_lt (rt_lt ?_)
  generalize hs : sp (sp σ 2 6 0) 2 9 0 = s
  have sg : Agr wtkC σ s := by rw [← hs]; exact ag_sp (ag_sp ag_refl (by unfold wtkC; omega)) (by unfold wtkC; omega)
  have s6 : s 2 6 = 0 := by rw [← hs, sp_nj (by decide), sp_eq]
  have s3 : s 2 3 = p := by rw [← hs, sp_nj (by decide), sp_nj (by decide), h3]
  refine rt_w1 (I := fun (u : JSg) => ∃ q, (p ≤ q ∧ q ≤ size) ∧ (∀ i, p ≤ i → i < q → isB c i = true) ∧ u 2 3 = q ∧ u 2 6 = 0 ∧ Agr wtkC σ u) (μ := fun (u : JSg) => (size - u 2 3).toNat) ?_ n _ ⟨p, by omega, fun i _ _ => by omega, s3, s6, sg⟩ (by rw [s3]; omega)
  rintro u ⟨q, ⟨q0, q1⟩, qb, u3, u6, ug⟩ rc hrc
  have u1 : u 2 1 = size := (ug 2 1 (by unfold wtkC; omega)).trans b1
  have u2 : u 2 2 = lim := (ug 2 2 (by unfold wtkC; omega)).trans hl
  have ub : ∀ i : Int, 0 ≤ i → i < size → u 1 i.toNat = sg8 (c i.toNat) ∧ 0 ≤ c i.toNat ∧ c i.toNat < 256 := fun i i0 i1 => by
    have := b3 i i0 i1
    rw [ug 1 _ (by unfold wtkC; omega)]
    exact this
  refine rt_c0 (SkE c size p q) (fun hk => ?_) (fun j5 h5 => ?_)
  · refine rt_lt ?_
    rw [u3]
    generalize hv : sp u 2 5 q = v
    have vg : Agr wtkC σ v := by rw [← hv]; exact ag_sp ug (by unfold wtkC; omega)
    have v3 : v 2 3 = q := by rw [← hv, sp_nj (by decide), u3]
    have v5 : v 2 5 = q := by rw [← hv, sp_eq]
    have v6 : v 2 6 = 0 := by rw [← hv, sp_nj (by decide), u6]
    have v1 : v 2 1 = size := (vg 2 1 (by unfold wtkC; omega)).trans b1
    have v2 : v 2 2 = lim := (vg 2 2 (by unfold wtkC; omega)).trans hl
    have vb : wbR v c size := ⟨v1, b2, fun i i0 i1 => by
      have := b3 i i0 i1
      rw [vg 1 _ (by unfold wtkC; omega)]
      exact this⟩
    refine rt_c0 (size ≤ q ∨ lim ≤ q) (fun hc => ?_) (fun j7 h7 => ?_)
    · rw [j1_s, v2, v1]
      have fin : ∀ x : Int, x = (if lim < size then 1 else 0) → Ret (lt_ (sp v 2 4 x) fun s10 => lt_ (sp s10 2 5 (min (s10 2 1) (s10 2 2))) fun s11 => some s11) (fun τ => WT c size lim p τ ∧ Agr wtkC σ τ) := by
        intro x hx
        refine rt_lt (rt_lt (rt_some ⟨⟨⟨?_, b2, fun i i0 i1 => ?_⟩, ?_, hp, q, hk, Or.inl ⟨hc, ?_, ?_, ?_, ?_⟩⟩, ?_⟩))
        · rw [sp_nj (by decide), sp_nj (by decide)]; exact v1
        · rw [sp_nq (by decide), sp_nq (by decide)]; exact vb.2.2 i i0 i1
        · rw [sp_nj (by decide), sp_nj (by decide)]; exact v2
        · rw [sp_nj (by decide), sp_nj (by decide)]; exact v3
        · rw [sp_nj (by decide), sp_eq, hx]
        · rw [sp_eq, sp_nj (by decide), sp_nj (by decide), v1, v2]
        · rw [sp_nj (by decide), sp_nj (by decide)]; exact v6
        · exact ag_sp (ag_sp vg (by unfold wtkC; omega)) (by unfold wtkC; omega)
      exact rt_ite (fun g => fin 1 (by rw [if_pos g])) (fun g => fin 0 (by rw [if_neg g]))
    · rw [v3, v1, v2]
      refine rt_ite (fun g1 => rt_ite (fun g2 => ?_) (fun g2 => h7 (Or.inr (by omega)))) (fun g1 => h7 (Or.inl (by omega)))
      refine rt_b1 (e_Tok_run hn vb (by omega) v3) (fun w hw => ?_)
      obtain ⟨e, w1, w2, w3, w4, w5, w6⟩ := hw
      have wg : Agr wtkC σ w := ag_tr vg (ag_mono w6 (fun a j h => by unfold rnC at h; unfold wtkC; omega))
      have w_5 : w 2 5 = q := (w6 2 5 (by unfold rnC; omega)).trans v5
      have w_6 : w 2 6 = 0 := (w6 2 6 (by unfold rnC; omega)).trans v6
      have wb : wbR w c size := ⟨(w6 2 1 (by unfold rnC; omega)).trans v1, b2, fun i i0 i1 => by
        rw [w6 1 _ (by unfold rnC; omega)]
        exact vb.2.2 i i0 i1⟩
      have w_2 : w 2 2 = lim := (w6 2 2 (by unfold rnC; omega)).trans v2
      rw [w2, w_5, w3]
      have cb := b3 q (by omega) g1
      refine rt_ite (fun g3 => ?_) (fun g3 => ?_)
      · have al : (isL c q || isD c q) = false := by
          rcases w1.2.2.2 with g | g
          · omega
          · rwa [g3] at g
        unfold f_Tok_readSign
        rw [w2, g3]
        have w1q : w 1 q.toNat = sg8 (c q.toNat) := (wb.2.2 q (by omega) g1).1
        rw [w1q]
        have e255 : an32 (sg8 (c q.toNat)) 255 = c q.toNat := by
          rw [an_255 (by unfold sg8; constructor <;> (split <;> omega))]
          unfold sg8
          split <;> omega
        rw [e255, ck_p (by omega), lt_u, j1_s]
        have tx := List.all_eq_true.mp txi_sg (c q.toNat).toNat (List.mem_range.mpr (by omega))
        rw [show (((c q.toNat).toNat : Nat) : Int) = c q.toNat by omega] at tx
        have tx2 : decide (txi 0 (c16 (c q.toNat)) < 0) = !sgB c q := eq_of_beq tx
        have fin : ∀ x : Int, ((sgB c q = true ∧ x = 5) ∨ (sgB c q = false ∧ x = 2)) → Ret (bd1 (lt_ (sp w 2 4 x) fun s4 => lt_ (sp s4 2 9 (c q.toNat)) fun s5 => lt_ (sp s5 2 3 (w32 ((s5 2 3) + 1))) fun s6 => some s6) fun s15 => some s15) (fun τ => WT c size lim p τ ∧ Agr wtkC σ τ) := by
          intro x hx
          rw [lt_u, lt_u, sp_nj (i := 3) (j := 9) (by decide), sp_nj (i := 3) (j := 4) (by decide), w2, g3, wi (by omega) (by omega), lt_u, b1_s]
          refine rt_some ⟨⟨⟨?_, b2, fun i i0 i1 => ?_⟩, ?_, hp, q, hk, Or.inr (Or.inl ⟨g1, g2, ?_, al, sp_eq, ?_, ?_⟩)⟩, ?_⟩
          · rw [sp_nj (by decide), sp_nj (by decide), sp_nj (by decide)]; exact wb.1
          · rw [sp_nq (by decide), sp_nq (by decide), sp_nq (by decide)]; exact wb.2.2 i i0 i1
          · rw [sp_nj (by decide), sp_nj (by decide), sp_nj (by decide)]; exact w_2
          · rw [sp_nj (by decide), sp_nj (by decide), sp_nj (by decide)]; exact w_5
          · rw [sp_nj (by decide), sp_nj (by decide), sp_nj (by decide)]; exact w_6
          · rw [sp_nj (i := 4) (by decide), sp_nj (i := 4) (by decide), sp_eq, sp_nj (i := 9) (by decide), sp_eq]
            rcases hx with ⟨a, b⟩ | ⟨a, b⟩
            · exact Or.inl ⟨a, b, rfl⟩
            · exact Or.inr ⟨a, b⟩
          · exact ag_sp (ag_sp (ag_sp wg (by unfold wtkC; omega)) (by unfold wtkC; omega)) (by unfold wtkC; omega)
        by_cases g4 : txi 0 (c16 (c q.toNat)) < 0
        · rw [decide_eq_true g4] at tx2
          rw [if_pos g4]
          exact fin 2 (Or.inr ⟨by cases h : sgB c q <;> rw [h] at tx2 <;> simp at tx2 ⊢, rfl⟩)
        · rw [decide_eq_false g4] at tx2
          rw [if_neg g4]
          exact fin 5 (Or.inl ⟨by cases h : sgB c q <;> rw [h] at tx2 <;> simp at tx2 ⊢, rfl⟩)
      · have al : (isL c q || isD c q) = true := w1.2.2.1 q (by omega) (by have := w1.1; omega)
        refine rt_ite (fun g4 => ?_) (fun g4 => ?_)
        · refine rt_b1 (e_Tok_key hn) (fun r hr => rt_lt (rt_some ?_))
          have nk : nD_ c q e = 0 ∧ nL_ c q e ≤ 7 := by
            unfold rkS at g4
            split at g4
            · assumption
            · split at g4 <;> omega
          have w7 := w4 nk.1 nk.2
          rw [w7] at hr
          refine ⟨⟨⟨?_, b2, fun i i0 i1 => ?_⟩, ?_, hp, q, hk, Or.inr (Or.inr ⟨g1, g2, ?_, al, e, w1, ?_, ?_, fun h => by omega, fun h => absurd g4 h, fun _ => ⟨?_, ?_⟩⟩)⟩, ?_⟩
          · rw [sp_nj (by decide)]; exact wb.1
          · rw [sp_nq (by decide)]; exact wb.2.2 i i0 i1
          · rw [sp_nj (by decide)]; exact w_2
          · rw [sp_nj (by decide)]; exact w_5
          · rw [sp_nj (by decide)]; exact w2
          · rw [sp_nj (by decide)]; exact w3
          · rw [sp_nj (by decide)]; exact w7
          · rw [sp_eq]; exact hr
          · exact ag_sp wg (by unfold wtkC; omega)
        · refine rt_some ⟨⟨wb, w_2, hp, q, hk, Or.inr (Or.inr ⟨g1, g2, w_5, al, e, w1, w2, w3, fun h => ?_, fun _ => w_6, fun h => absurd h g4⟩)⟩, wg⟩
          have nk : nL_ c q e = 0 ∧ nD_ c q e ≤ 3 := by
            unfold rkS at h
            split at h
            · omega
            · split at h <;> omega
          exact w5 nk.1 nk.2
  · rw [u3, u1]
    refine rt_ite (fun g => ?_) (fun g => h5 ⟨q0, Or.inl q1, qb, Or.inl (by omega)⟩)
    have cb := ub q (by omega) g
    rw [cb.1]
    have s32 : sg8 (c q.toNat) = 32 ↔ c q.toNat = 32 := by unfold sg8; split <;> omega
    have s10 : sg8 (c q.toNat) = 10 ↔ c q.toNat = 10 := by unfold sg8; split <;> omega
    refine rt_chk (by omega) (rt_c0 (isB c q = true) (fun hc => ?_) (fun j16 h16 => ?_))
    · rw [wi (by omega) (by omega)]
      refine rt_lt (hrc _ ⟨q + 1, by omega, fun i i0 i1 => ?_, sp_eq, by rw [sp_nj (by decide)]; exact u6, ag_sp ug (by unfold wtkC; omega)⟩ (by rw [sp_eq, u3]; omega))
      by_cases e : i = q
      · rw [e]; exact hc
      · exact qb i i0 (by omega)
    · refine rt_ite (fun g1 => h16 (decide_eq_true (Or.inl (s32.mp g1)))) (fun g1 => rt_chk (by omega) (rt_ite (fun g2 => h16 (decide_eq_true (Or.inr (s10.mp g2)))) (fun g2 => h5 ⟨q0, Or.inl q1, qb, Or.inr (decide_eq_false (fun z => ?_))⟩)))
      rcases z with z | z
      · exact g1 (s32.mpr z)
      · exact g2 (s10.mpr z)
end
