/-! LAYER 3zo: ALL and COND side by side -/
section
variable {σ τ s t : JSg} {n p d : Nat} {c : JA} {size lim q : Int}
def wrS (a j : Nat) : Prop := (a = 2 ∧ 3 ≤ j) ∨ (a = 44 ∧ j ≤ 1) ∨ a = 45 ∨ a = 46 ∨ a = 47
def mrS (a j : Nat) : Prop := (a = 179 ∧ ((5 ≤ j ∧ j ≤ 13) ∨ (48 ≤ j ∧ j ≤ 51))) ∨ a = 202
def SnP (d : Nat) (σ τ : JSg) : Prop := (σ 44 1 = τ 179 48 ∧ σ 44 0 = τ 179 49) ∧ (0 ≤ σ 44 1 ∧ σ 44 1 ≤ 2 * σ 44 0) ∧ (0 ≤ σ 44 0 ∧ σ 44 0 ≤ 20) ∧ τ 179 50 = 8 - d ∧ σ 2 12 = τ 179 10
def SnR (c : JA) (size lim : Int) (σ τ : JSg) (z y : Int × JSg) : Prop := Agr wrS σ z.2 ∧ Agr mrS τ y.2 ∧ ((z.1 = 0 ∧ y.1 = 0 ∧ FR z.2 y.2) ∨ (z.1 = 1 ∧ y.1 = 1 ∧ (∃ L, GrP σ τ z.2 y.2 L (y.2 179 51)) ∧ ∃ p', TR c size lim p' z.2 y.2))
def PoP (n d : Nat) (f : Int → JSg → Option (Int × JSg)) (g : JSg → Option (Int × JSg)) : Prop := ∀ (c : JA) (size lim q : Int) (σ τ : JSg), TR c size lim q σ τ → BkP σ τ → SnP d σ τ → Sm (f (8 - d) σ) (g τ) (SnR c size lim σ τ)
theorem zs_f {s t : JSg} (h : Agr wrS σ s) (g : Agr ftC s t) : Agr wrS σ t := ag_tr h (ag_mono g (fun a j q => by unfold ftC at q; unfold wrS; omega))
theorem zm_f {s t : JSg} (h : Agr mrS σ s) (g : Agr fmC s t) : Agr mrS σ t := ag_tr h (ag_mono g (fun a j q => by unfold fmC at q; unfold mrS; omega))
theorem zs_t {s t : JSg} (h : Agr wrS σ s) (g : Agr wtkC s t) : Agr wrS σ t := ag_tr h (ag_mono g (fun a j q => by unfold wtkC at q; unfold wrS; omega))
theorem zm_t {s t : JSg} (h : Agr mrS σ s) (g : Agr mtkC s t) : Agr mrS σ t := ag_tr h (ag_mono g (fun a j q => by unfold mtkC at q; unfold mrS; omega))
theorem zbk {s t : JSg} (hB : BkP σ τ) (h : Agr wrS σ s) (g : Agr mrS τ t) : BkP s t := BkP_ag hB (fun a j hh => h a j (by unfold wrS; omega)) (fun a j hh => g a j (by unfold mrS; omega))
theorem sn_fail {s t : JSg} {k q' : Int} (h1 : Agr wrS σ s) (h2 : Agr mrS τ t) (h : TR c size lim q' s t) (hk : k = 1 ∨ t 179 7 ≠ 1) : Sm (bd2 (f_Tok_fail k s) fun r s' => chk (r = 0 ∨ r = 1) <| some (r, s')) (bd2 (f_M_bad k t) fun r s' => chk (r = 0 ∨ r = 1) <| some (r, s')) (SnR c size lim σ τ) := by
  obtain ⟨s', t', f1, f2, f3, f4, f5⟩ := tr_fail h hk
  rw [f1, f2, b2_s, b2_s, ck_p (Or.inl rfl), ck_p (Or.inl rfl)]
  exact sm_some ⟨zs_f h1 f4, zm_f h2 f5, Or.inl ⟨rfl, rfl, f3⟩⟩
theorem st_bin (hn : 1000000 < n) {f : Int → JSg → Option (Int × JSg)} {g : JSg → Option (Int × JSg)} (kw w b : Int) (hwd : ∀ (c : JA) (size lim q : Int) (σ τ : JSg), TR c size lim q σ τ → f_M_isWord kw τ = some (bi (decide (σ 2 6 = w)))) (hw : (b = 2 ∧ w = 10) ∨ (b = 3 ∧ w = 9)) (hf : PoP n d f g) : PoP n d (fun a3 σ => bd2 (f a3 σ) fun r1 s2 => if r1 = 0 then (some (0, s2)) else (lt_ 0 fun v3 => wh2 n (fun rc4 (x5 : Int) (s6 : JSg) => if x5 < 20 then (if (s6 2 6) = w then (bd1 (f_Tok_step n s6) fun s7 => bd2 (f a3 s7) fun r8 s9 => if r8 = 0 then (some (0, s9)) else (bd2 (f_Sen_add 44 w 0 0 s9) fun r10 s11 => lt_ (w32 (x5 + 1)) fun v12 => rc4 v12 s11)) else (some (1, s6))) else (some (1, s6))) v3 s2))
    (fun σ => bd2 (g σ) fun r1 s2 => if r1 = 0 then (some (0, s2)) else (lt_ (s2 179 51) fun v3 => wh2 n (fun rc4 (x5 : Int) (s6 : JSg) => bd1 (f_M_isWord kw s6) fun r7 => if r7 = 0 then (lt_ (sp s6 179 51 x5) fun s8 => some (1, s8)) else (bd1 (f_M_go n s6) fun s9 => bd2 (g s9) fun r10 s11 => if r10 = 0 then (some (0, s11)) else (bd2 (f_M_saysOne b x5 (s11 179 51) 0 s11) fun r12 s13 => lt_ r12 fun v14 => rc4 v14 s13))) v3 s2)) := by
  intro c size lim q σ τ h hB hS
  obtain ⟨⟨i1, i2⟩, i3, i4, i5, i6⟩ := id hS
  refine sm_b22 (hf c size lim q σ τ h hB hS) ?_
  rintro r s r' t ⟨c1, c2, c3⟩
  have c1 : Agr wrS σ s := c1
  have c2 : Agr mrS τ t := c2
  rcases c3 with ⟨b1, b2, b3⟩ | ⟨b1, b2, ⟨L, b3⟩, p', b4⟩
  · have b1 : r = 0 := b1
    have b2 : r' = 0 := b2
    rw [if_pos b1, if_pos b2]
    exact sm_some ⟨c1, c2, Or.inl ⟨rfl, rfl, b3⟩⟩
  · have b1 : r = 1 := b1
    have b2 : r' = 1 := b2
    have b3 : GrP σ τ s t L (t 179 51) := b3
    have b4 : TR c size lim p' s t := b4
    have b5 := b3.2.1
    unfold OnR at b5
    rw [if_neg (by omega), if_neg (by omega), lt_u, lt_u]
    refine sm_w22 (I := fun (x : Int) (u : JSg) (y : Int) (v : JSg) => ∃ L, GrP σ τ u v L y ∧ (0 ≤ x ∧ x + 1 ≤ u 44 0 - σ 44 0) ∧ (∃ p', TR c size lim p' u v) ∧ Agr wrS σ u ∧ Agr mrS τ v) (μ := fun (x : Int) (u : JSg) => (20 - x).toNat) ?_ n n _ _ _ _ ⟨L, b3, by omega, ⟨p', b4⟩, c1, c2⟩ (by omega) (by omega)
    clear c1 c2 b1 b2 b3 b4 b5 h
    rintro x u y v ⟨L, hG, hx, ⟨p1, hT⟩, wu, mv⟩ rc rd hrc
    obtain ⟨g1, ⟨o1, o2, o3, o4, o5⟩, g3, g4, g5⟩ := id hG
    rw [if_pos (by omega), hwd _ _ _ _ _ _ hT, b1_s]
    by_cases gk : u 2 6 = w
    · rw [if_pos gk, decide_eq_true gk, if_neg bn0]
      refine sm_b11 (tr_step hn hT) (fun s7 t7 hs => ?_)
      obtain ⟨h7, h8, h9⟩ := hs
      have w7 := zs_t wu h8
      have m7 := zm_t mv h9
      have hB7 : BkP s7 t7 := zbk hB w7 m7
      have hG7 : GrP σ τ s7 t7 L y := gp_ag hG (fun a j hh => h8 a j (by unfold wtkC; omega)) (fun a j hh => h9 a j (by unfold mtkC; omega))
      obtain ⟨j1, ⟨l1, l2, l3, l4, l5⟩, j3, j4, j5⟩ := id hG7
      have jl := j1.2.1
      have hu : s7 44 0 = u 44 0 := h8 44 0 (by unfold wtkC; omega)
      have hS7 : SnP d s7 t7 := ⟨⟨j1.1, l1⟩, by omega, by omega, by omega, j5⟩
      obtain ⟨⟨r1, s9⟩, ⟨r1', t9⟩, e1, e2, k1, k2, k3⟩ := hf c size lim _ s7 t7 h7 hB7 hS7
      have k1 : Agr wrS s7 s9 := k1
      have k2 : Agr mrS t7 t9 := k2
      rw [e1, e2, b2_s, b2_s]
      rcases k3 with ⟨b1, b2, b3⟩ | ⟨b1, b2, ⟨L2, b3⟩, p2, b4⟩
      · have b1 : r1 = 0 := b1
        have b2 : r1' = 0 := b2
        rw [if_pos b1, if_pos b2]
        exact sm_some ⟨ag_tr w7 k1, ag_tr m7 k2, Or.inl ⟨rfl, rfl, b3⟩⟩
      · have b1 : r1 = 1 := b1
        have b2 : r1' = 1 := b2
        have b3 : GrP s7 t7 s9 t9 L2 (t9 179 51) := b3
        have b4 : TR c size lim p2 s9 t9 := b4
        obtain ⟨q1, ⟨n1, n2, n3, n4, n5⟩, q3, q4, q5⟩ := id b3
        have ql := q1.2.1
        have q11 := q1.1
        rw [if_neg (by omega), if_neg (by omega)]
        obtain ⟨s11, a1, a2, a3, a4, a5, a6⟩ := e_addW (s := s9) (a := w) (b := 0) (w := 0) (by omega)
        obtain ⟨t13, m1, m2, m3, m4, m5, m6, m8⟩ := e_saysM (t := t9) (a := b) (b := y) (e := t9 179 51) (w := 0) (by omega)
        rw [a1, m1, b2_s, b2_s, lt_u, lt_u, wi (by omega) (by omega)]
        have T1 : TreeR (t13 202) (t9 179 48) y L := tree_mo j4 (by omega) (fun j hj => (m8 202 j (by omega)).trans (q1.2.2.2.2 j (by omega)))
        have T2 : TreeR (t13 202) (t9 179 48) (t9 179 51) L2 := tree_mo q4 (by omega) (fun j hj => m8 202 j (by omega))
        refine hrc _ _ _ _ ⟨L ++ L2 ++ [(w, 0, 0)], ⟨gq_app (gq_app j1 i3.1 q1) i3.1 (gq_1 q11 (by omega) a2 a3 a4 a5 a6 m2 m8), ⟨?_, ?_, ?_, ?_, ?_⟩, ?_, ?_, ?_⟩, ?_, ⟨p2, tr_ag b4 (fun a j hh => a6 a j (by omega)) (fun a j hh => m8 a j (by omega))⟩, ?_, ?_⟩ (by omega)
        · rw [a6 44 0 (by omega), m8 179 49 (by omega)]; exact n1
        · rw [a6 44 0 (by omega)]; omega
        · rw [a6 44 0 (by omega)]; omega
        · rw [a6 44 0 (by omega), List.length_append, List.length_append]
          show ((L.length + L2.length + 1 : Nat) : Int) ≤ _
          push_cast
          omega
        · rw [a6 44 0 (by omega), lv_ap, lv_ap, lv_op (show w < 12 by omega)]
          push_cast
          omega
        · rw [m8 179 50 (by omega)]; omega
        · rw [a2, q11]
          exact tree_bin (by omega) hw m3 m4 m5 T1 T2
        · rw [a6 2 12 (by omega), m8 179 10 (by omega)]; exact q5
        · rw [a6 44 0 (by omega)]; omega
        · exact ag_tr (ag_tr w7 k1) (fun a j hh => a6 a j (by unfold wrS at hh; omega))
        · exact ag_tr (ag_tr m7 k2) (fun a j hh => m8 a j (by unfold mrS at hh; omega))
    · rw [if_neg gk, decide_eq_false gk, if_pos by0, lt_u]
      refine sm_some ⟨wu, ag_sp mv (by unfold mrS; omega), Or.inr ⟨rfl, rfl, ⟨L, ?_⟩, p1, tr_ag hT (fun _ _ _ => rfl) (fun a j hh => ?_)⟩⟩
      · show GrP σ τ u (sp v 179 51 y) L (sp v 179 51 y 179 51)
        rw [sp_eq]
        refine gp_ag hG (fun _ _ _ => rfl) (fun a j hh => ?_)
        rw [sp_at]
        by_cases e : a = 179
        · rw [if_pos e, if_neg (by omega)]
        · rw [if_neg e]
      · show sp v 179 51 y a j = v a j
        rw [sp_at]
        by_cases e : a = 179
        · rw [if_pos e, if_neg (by omega)]
        · rw [if_neg e]
theorem st_both (hn : 1000000 < n) {f ei bo : Int → JSg → Option (Int × JSg)} {g or_ an_ br nt : JSg → Option (Int × JSg)} (hf : PoP n d f g) : PoP n d (f_Sen_readBoth_s n 44 4 ei bo f) (f_M_readAnd_s n or_ an_ g br nt) := st_bin hn 9 10 2 (fun _ _ _ _ _ _ h => tr_word h (k := 9) (by decide)) (Or.inl ⟨rfl, rfl⟩) hf
theorem st_either (hn : 1000000 < n) {f ei on : Int → JSg → Option (Int × JSg)} {g or_ on_ br nt : JSg → Option (Int × JSg)} (hf : PoP n d f g) : PoP n d (f_Sen_readEither_s n 44 4 ei f on) (f_M_readOr_s n or_ g on_ br nt) := st_bin hn 8 9 3 (fun _ _ _ _ _ _ h => tr_word h (k := 8) (by decide)) (Or.inr ⟨rfl, rfl⟩) hf
theorem wf_lp {Y : Type} {J : Int → Option Y} (h : TR c size lim q σ τ) : ∀ (k m : Nat) (x : Int), (20 - x).toNat = k → k < m → 10 ≤ x → x ≤ 20 → (¬ (11 ≤ σ 2 6 ∧ σ 2 6 ≤ x)) → wh1 m (fun rc4 (x5 : Int) => if 19 < x5 then J x5 else (bd1 (f_M_isWord x5 τ) fun r36 => if r36 = 0 then (rc4 (w32 (x5 + 1))) else J x5)) x = J (if 11 ≤ σ 2 6 ∧ σ 2 6 ≤ 20 then σ 2 6 - 1 else 20) := by
  intro k
  induction k with
  | zero =>
    intro m x hk hm h0 h1 h2
    obtain ⟨m, rfl⟩ : ∃ j, m = j + 1 := ⟨m - 1, by omega⟩
    obtain rfl : x = 20 := by omega
    rw [if_neg h2]
    rfl
  | succ k ih =>
    intro m x hk hm h0 h1 h2
    obtain ⟨m, rfl⟩ : ∃ j, m = j + 1 := ⟨m - 1, by omega⟩
    show (if 19 < x then J x else (bd1 (f_M_isWord x τ) fun r36 => if r36 = 0 then (wh1 m _ (w32 (x + 1))) else J x)) = _
    have e := tr_word h (k := x.toNat) (by omega)
    rw [show ((x.toNat : Nat) : Int) = x by omega] at e
    rw [if_neg (by omega), e, b1_s]
    by_cases g : σ 2 6 = x + 1
    · rw [decide_eq_true g, if_neg bn0, if_pos (by omega), g]
      congr 1
      omega
    · rw [decide_eq_false g, if_pos by0, wi (by omega) (by omega)]
      exact ih m (x + 1) (by omega) (by omega) (by omega) (by omega) (by omega)
end
