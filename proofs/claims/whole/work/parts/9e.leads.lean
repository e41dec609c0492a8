/-! LAYER 3za3: leads, the reference -/
section
variable {A : JA} {h : List Int} {st m : Nat} {σ s t u : JSg} {n : Nat}
theorem cnt_put {P Q : Int → Bool} {N x : Int} (hx : 0 ≤ x ∧ x < N) (h0 : P x = false) (h1 : Q x = true) (hq : ∀ y, 0 ≤ y → y < N → y ≠ x → Q y = P y) : cntP Q N 0 0 = cntP P N 0 0 + 1 := by
  have sh : ∀ (p y z : Int), cond (P p) (y + z + 1) (y + z) = cond (P p) (y + 1) y + z := by
    intro p y z
    cases P p
    · rfl
    · show y + z + 1 = y + 1 + z
      omega
  have := fo_one (g := fun s x => cond (P s) (x + 1) x) (g' := fun s x => cond (Q s) (x + 1) x) (N := N) (M := x) sh (fun p y p0 p1 => by
    by_cases e : p = x
    · subst e
      rw [h0, h1, if_pos rfl]
      rfl
    · rw [hq p p0 p1 e, if_neg e, Int.add_zero]) _ 0 0 rfl (by omega)
  rw [if_pos hx] at this
  exact this
theorem cnt_lt {P : Int → Bool} {N x : Int} (hx : 0 ≤ x ∧ x < N) (h0 : P x = false) : cntP P N 0 0 < N := by
  have := cnt_put (P := P) (Q := fun y => if y = x then true else P y) hx h0 (if_pos rfl) (fun y _ _ hy => if_neg hy)
  have b := cnt_bd (P := fun y => if y = x then true else P y) (N := N) _ 0 0 rfl
  omega
theorem cnt_none {P : Int → Bool} {N : Int} : ∀ (k : Nat) (i x : Int), (N - i).toNat = k → (∀ y, i ≤ y → y < N → P y = false) → cntP P N i x = x := by
  intro k
  induction k with
  | zero => intro i x h _; exact cnt_e (by omega)
  | succ k ih =>
    intro i x h hp
    rw [cnt_s (by omega), hp i (by omega) (by omega)]
    exact ih _ _ (by omega) (fun y y0 y1 => hp y (by omega) y1)
def mkd (u : JSg) (x : Int) : Bool := decide (u 190 x.toNat ≠ -1)
def pq (u : JSg) (j : Nat) : Nat := pcn 12 ((u 192 j).toNat / 7)
def cod (U p : Nat) : Nat := 7 * U + p
theorem cod_u {U p V q : Nat} (hp : p < 7) (hq : q < 7) (e : cod U p = cod V q) : U = V ∧ p = q := by
  unfold cod at e
  omega
theorem pq_e {U p j : Nat} (hp : p < 7) (e : u 192 j = ((cod U p : Nat) : Int)) : pq u j = pcn 12 U := by
  unfold pq
  rw [e, Int.toNat_natCast]
  congr 1
  unfold cod
  omega
/-- while all that can be reached is looked through; F: what is done of the one looked at -/
def BfP (A : JA) (h : List Int) (st m Q at_ : Nat) (u : JSg) (F : Nat → Nat → Prop) : Prop := at_ ≤ Q ∧ (∀ j, j < Q → ∃ U p, U < 2 ^ h.length ∧ p < 7 ∧ u 192 j = ((cod U p : Nat) : Int) ∧ rch A h st (pcn 12 U) U p ∧ u 190 (cod U p) = ((pcn 12 U : Nat) : Int)) ∧ (∀ U p, U < 2 ^ h.length → p < 7 → u 190 (cod U p) ≠ -1 → ∃ j, j < Q ∧ u 192 j = ((cod U p : Nat) : Int)) ∧ (∀ i j, i ≤ j → j < Q → pq u i ≤ pq u j) ∧ (at_ < Q → ∀ j, j < Q → pq u j ≤ pq u at_ + 1) ∧ (∀ j U p, j < at_ → u 192 j = ((cod U p : Nat) : Int) → p < 7 → fitB A p m = false ∧ ∀ i d, edg A h U p i d → u 190 (cod (ins U i) (pN A h i (1 - d))) ≠ -1) ∧ u 190 st ≠ -1 ∧ cntP (mkd u) (7 * ((2 ^ h.length : Nat) : Int)) 0 0 = Q ∧ ∀ U p, u 192 at_ = ((cod U p : Nat) : Int) → p < 7 → at_ < Q → ∀ i d, F i d → edg A h U p i d → u 190 (cod (ins U i) (pN A h i (1 - d))) ≠ -1
/-- whatever is nearer is looked at already -/
theorem bf_near {Q at_ : Nat} {F : Nat → Nat → Prop} (hI : WfI A) (hh : Hnd A h) (hs : st < 7) (hB : BfP A h st m Q at_ u F) (K : Nat) (hK : (at_ < Q ∧ K = pq u at_) ∨ (at_ = Q ∧ 20 ≤ K)) : ∀ (k U p : Nat), rch A h st k U p → k ≤ K → u 190 (cod U p) ≠ -1 ∧ (k < K → ∃ j, j < at_ ∧ u 192 j = ((cod U p : Nat) : Int)) := by
  obtain ⟨b1, b2, b3, b4, b5, b6, b7, b8, b9⟩ := hB
  have l12 := hh.1
  have near : ∀ (k U p : Nat), rch A h st k U p → k < K → p < 7 → u 190 (cod U p) ≠ -1 → ∃ j, j < at_ ∧ u 192 j = ((cod U p : Nat) : Int) := by
    intro k U p r hk hp nz
    obtain ⟨hU, -, pk⟩ := rch_s _ _ _ r
    have pk := pk l12
    obtain ⟨j, j1, j2⟩ := b3 U p hU hp nz
    rcases hK with ⟨k1, k2⟩ | ⟨k1, k2⟩
    · refine ⟨j, ?_, j2⟩
      rcases Nat.lt_or_ge j at_ with g | g
      · exact g
      · have := b4 at_ j g j1
        rw [pq_e hp j2] at this
        omega
    · exact ⟨j, by omega, j2⟩
  intro k
  induction k with
  | zero =>
    rintro U p ⟨rfl, rfl⟩ hk
    have e : cod 0 p = p := by unfold cod; omega
    have nz : u 190 (cod 0 p) ≠ -1 := by rw [e]; exact b7
    exact ⟨nz, fun g => near 0 0 p ⟨rfl, rfl⟩ g hs nz⟩
  | succ k ih =>
    rintro U p ⟨V, q, i, d, r, e, rfl, rfl⟩ hk
    obtain ⟨-, j, j1, j2⟩ := ih V q r (by omega) |>.imp id (fun g => g (by omega))
    have q7 : q < 7 := by
      cases k with
      | zero => rw [r.2]; exact hs
      | succ k =>
        obtain ⟨-, g, -⟩ := rch_s _ _ _ r
        obtain ⟨i', d', h1, h2, rfl⟩ := g (by omega)
        exact (pN_lt hI hh h1 (show 1 - d' < 2 by omega)).1
    have nz := (b6 j V q j1 j2 q7).2 i d e
    exact ⟨nz, fun g => near (k + 1) _ _ ⟨V, q, i, d, r, e, rfl, rfl⟩ g (pN_lt hI hh e.1 (show 1 - d < 2 by omega)).1 nz⟩
theorem bf_put {Q at_ U p i d : Nat} {F G : Nat → Nat → Prop} (hI : WfI A) (hh : Hnd A h) (hs : st < 7) (hB : BfP A h st m Q at_ u F) (ha : at_ < Q) (hU : U < 2 ^ h.length) (hp : p < 7) (hj : u 192 at_ = ((cod U p : Nat) : Int)) (hG : ∀ i' d', G i' d' → F i' d' ∨ (i' = i ∧ d' = d)) (e : edg A h U p i d) (nz : u 190 (cod (ins U i) (pN A h i (1 - d))) = -1) : Q < 28672 ∧ BfP A h st m (Q + 1) at_ (sp (sp u 190 (cod (ins U i) (pN A h i (1 - d))) (u 190 (cod U p) + 1)) 192 Q ((cod (ins U i) (pN A h i (1 - d)) : Nat) : Int)) G := by
  have l12 := hh.1
  have p12 := pw12 l12
  obtain ⟨b1, b2, b3, b4, b5, b6, b7, b8, b9⟩ := hB
  have hV := ins_lt hU e.1
  have x1 := (pN_lt hI hh e.1 (show 1 - d < 2 by have := e.2.1; omega)).1
  have pU : u 190 (cod U p) = ((pcn 12 U : Nat) : Int) ∧ rch A h st (pcn 12 U) U p := by
    obtain ⟨U', p', c1, c2, c3, c4, c5⟩ := b2 at_ ha
    rw [hj] at c3
    obtain ⟨rfl, rfl⟩ := cod_u (U := U) (V := U') hp c2 (by omega)
    exact ⟨c5, c4⟩
  have pV : pcn 12 (ins U i) = pcn 12 U + 1 := by
    rw [pcn_ins e.2.2.1, if_pos (by have := e.1; omega)]
  have hpa := pq_e hp hj
  generalize hc : cod (ins U i) (pN A h i (1 - d)) = c at *
  have cN : c < 7 * 2 ^ h.length := by unfold cod at hc; omega
  have c0 : mkd u (c : Int) = false := by
    unfold mkd
    rw [Int.toNat_natCast, nz]
    rfl
  have lt := cnt_lt (P := mkd u) (N := 7 * ((2 ^ h.length : Nat) : Int)) (x := (c : Int)) (by omega) c0
  have Q1 : Q < 28672 := by omega
  rw [pU.1]
  have s192 : ∀ j, j ≠ Q → sp (sp u 190 c (((pcn 12 U : Nat) : Int) + 1)) 192 Q (c : Int) 192 j = u 192 j := fun j hj => by rw [sp_nj hj, sp_nq (by decide)]
  have s192Q : sp (sp u 190 c (((pcn 12 U : Nat) : Int) + 1)) 192 Q (c : Int) 192 Q = (c : Int) := sp_eq
  have s190 : ∀ j, j ≠ c → sp (sp u 190 c (((pcn 12 U : Nat) : Int) + 1)) 192 Q (c : Int) 190 j = u 190 j := fun j hj => by rw [sp_nq (by decide), sp_nj hj]
  have s190c : sp (sp u 190 c (((pcn 12 U : Nat) : Int) + 1)) 192 Q (c : Int) 190 c = ((pcn 12 U : Nat) : Int) + 1 := by rw [sp_nq (by decide), sp_eq]
  generalize sp (sp u 190 c (((pcn 12 U : Nat) : Int) + 1)) 192 Q (c : Int) = v at *
  have keep : ∀ j, u 190 j ≠ -1 → v 190 j ≠ -1 := by
    intro j hj
    by_cases g : j = c
    · subst g; omega
    · rw [s190 j g]; exact hj
  have pqk : ∀ j, j < Q → pq v j = pq u j := fun j hj => by unfold pq; rw [s192 j (by omega)]
  have pqQ : pq v Q = pcn 12 U + 1 := by
    rw [← pV]
    exact pq_e x1 (by rw [s192Q, hc])
  refine ⟨Q1, by omega, fun j hj => ?_, fun V q hV' hq nz' => ?_, fun i' j' hij hj' => ?_, fun _ j' hj' => ?_, fun j' V q hj' hv hq => ?_, keep _ b7, ?_, fun V q hv hq _ i' d' g e' => ?_⟩
  · by_cases g : j = Q
    · subst g
      refine ⟨ins U i, pN A h i (1 - d), hV, x1, by rw [s192Q, hc], ?_, by rw [hc, s190c, pV]; push_cast; rfl⟩
      rw [pV]
      exact ⟨U, p, i, d, pU.2, e, rfl, rfl⟩
    · obtain ⟨V, q, d1, d2, d3, d4, d5⟩ := b2 j (by omega)
      refine ⟨V, q, d1, d2, by rw [s192 j g]; exact d3, d4, ?_⟩
      have ne : cod V q ≠ c := fun q' => by
        rw [q', nz] at d5
        omega
      rw [s190 _ ne]; exact d5
  · by_cases g : cod V q = c
    · exact ⟨Q, by omega, by rw [s192Q, g]⟩
    · rw [s190 _ g] at nz'
      obtain ⟨j, j1, j2⟩ := b3 V q hV' hq nz'
      exact ⟨j, by omega, by rw [s192 j (by omega)]; exact j2⟩
  · by_cases g : j' = Q
    · subst g
      rw [pqQ]
      by_cases g2 : i' = j'
      · subst g2; omega
      · rw [pqk i' (by omega)]
        have := b5 ha i' (by omega)
        omega
    · rw [pqk i' (by omega), pqk j' (by omega)]
      exact b4 i' j' hij (by omega)
  · rw [pqk at_ ha]
    by_cases g : j' = Q
    · subst g; omega
    · rw [pqk j' (by omega)]
      exact b5 ha j' (by omega)
  · rw [s192 j' (by omega)] at hv
    have := b6 j' V q hj' hv hq
    exact ⟨this.1, fun i' d' e' => keep _ (this.2 i' d' e')⟩
  · have := cnt_put (P := mkd u) (Q := mkd v) (N := 7 * ((2 ^ h.length : Nat) : Int)) (x := (c : Int)) (by omega) c0 (by unfold mkd; rw [Int.toNat_natCast, s190c]; exact decide_eq_true (by omega)) (fun y _ _ hy => by
      unfold mkd
      by_cases g : y.toNat = c
      · have : y ≤ 0 := by omega
        have : c = 0 := by omega
        subst this
        rw [g, s190c, nz]
        exfalso
        unfold cod at hc
        have := ins_gt e.2.2.1
        omega
      · rw [s190 _ g])
    rw [this, b8]
    push_cast
    rfl
  · rw [s192 at_ (by omega)] at hv
    rcases hG i' d' g with g | ⟨rfl, rfl⟩
    · exact keep _ (b9 V q hv hq ha i' d' g e')
    · rw [hj] at hv
      obtain ⟨rfl, rfl⟩ := cod_u (U := U) (V := V) hp hq (by omega)
      rw [hc, s190c]
      omega
theorem bf_skip {Q at_ U p i d : Nat} {F G : Nat → Nat → Prop} (hB : BfP A h st m Q at_ u F) (hp : p < 7) (hj : u 192 at_ = ((cod U p : Nat) : Int)) (hG : ∀ i' d', G i' d' → F i' d' ∨ (i' = i ∧ d' = d)) (ne : edg A h U p i d → u 190 (cod (ins U i) (pN A h i (1 - d))) ≠ -1) : BfP A h st m Q at_ u G := by
  obtain ⟨b1, b2, b3, b4, b5, b6, b7, b8, b9⟩ := hB
  refine ⟨b1, b2, b3, b4, b5, b6, b7, b8, fun V q hv hq ha i' d' g e' => ?_⟩
  rcases hG i' d' g with g | ⟨rfl, rfl⟩
  · exact b9 V q hv hq ha i' d' g e'
  · rw [hj] at hv
    obtain ⟨rfl, rfl⟩ := cod_u (U := U) (V := V) hp hq (by omega)
    exact ne e'
theorem bf_next {Q at_ U p : Nat} {F : Nat → Nat → Prop} (hB : BfP A h st m Q at_ u F) (ha : at_ < Q) (hp : p < 7) (hj : u 192 at_ = ((cod U p : Nat) : Int)) (hF : ∀ i d, i < h.length → d < 2 → F i d) (nf : fitB A p m = false) : BfP A h st m Q (at_ + 1) u (fun _ _ => False) := by
  obtain ⟨b1, b2, b3, b4, b5, b6, b7, b8, b9⟩ := hB
  refine ⟨by omega, b2, b3, b4, fun g j hj' => ?_, fun j V q hj' hv hq => ?_, b7, b8, fun V q hv hq ha' i d g => g.elim⟩
  · have := b4 at_ (at_ + 1) (by omega) g
    have := b5 ha j hj'
    omega
  · by_cases g : j = at_
    · subst g
      rw [hj] at hv
      obtain ⟨rfl, rfl⟩ := cod_u (U := U) (V := V) hp hq (by omega)
      exact ⟨nf, fun i d e => b9 _ _ hj hp ha i d (hF i d e.1 e.2.1) e⟩
    · exact b6 j V q (by omega) hv hq
end
