/-! LAYER 3zal: the shortest ROUND: the reference's memory -/
section
variable {A : JA} {h : List Int} {s t : JSg} {n : Nat} {x y : Stt}
def orN (A : JA) (h : List Int) (P : Nat → Bool) : Nat → Nat
  | 0 => 0
  | m + 1 => if P m = true then ins (orN A h P m) (ownA A (h.getD m 0)).toNat else orN A h P m
theorem orN_b {P : Nat → Bool} {q : Nat} : ∀ m : Nat, (orN A h P m).testBit q = true ↔ ∃ j, j < m ∧ P j = true ∧ (ownA A (h.getD j 0)).toNat = q := by
  intro m
  induction m with
  | zero =>
    unfold orN
    rw [Nat.zero_testBit]
    constructor
    · intro g; cases g
    · rintro ⟨j, g, -⟩; omega
  | succ m ih =>
    unfold orN
    by_cases c : P m = true
    · rw [if_pos c, ins_b, Bool.or_eq_true, ih, decide_eq_true_iff]
      constructor
      · rintro (⟨j, g1, g2⟩ | g)
        · exact ⟨j, by omega, g2⟩
        · exact ⟨m, by omega, c, g⟩
      · rintro ⟨j, g1, g2, g3⟩
        by_cases e : j = m
        · subst e; exact Or.inr g3
        · exact Or.inl ⟨j, by omega, g2, g3⟩
    · rw [if_neg c, ih]
      constructor
      · rintro ⟨j, g1, g2⟩
        exact ⟨j, by omega, g2⟩
      · rintro ⟨j, g1, g2, g3⟩
        by_cases e : j = m
        · subst e; exact absurd g2 c
        · exact ⟨j, by omega, g2, g3⟩
theorem orN_lt {P : Nat → Bool} (ho : ∀ j, j < h.length → (ownA A (h.getD j 0)).toNat < 6) : ∀ m : Nat, m ≤ h.length → orN A h P m < 2 ^ 6 := by
  intro m
  induction m with
  | zero => intro _; exact Nat.two_pow_pos 6
  | succ m ih =>
    intro hm
    unfold orN
    split
    · exact ins_lt (ih (by omega)) (ho m (by omega))
    · exact ih (by omega)
theorem go_iff {U : Nat} (h0 : ∀ j, j < h.length → 0 ≤ ownA A (h.getD j 0)) : orN A h (fun j => U.testBit j) h.length = orN A h (fun _ => true) h.length ↔ goA A h U := by
  constructor
  · intro e i hi
    have := (orN_b (A := A) (h := h) (P := fun _ => true) (q := (ownA A (h.getD i 0)).toNat) h.length).mpr ⟨i, hi, rfl, rfl⟩
    rw [← e, orN_b] at this
    obtain ⟨j, g1, g2, g3⟩ := this
    have a := h0 i hi
    have b := h0 j g1
    exact ⟨j, g1, g2, by omega⟩
  · intro g
    apply Nat.eq_of_testBit_eq
    intro q
    have e : (orN A h (fun j => U.testBit j) h.length).testBit q = true ↔ (orN A h (fun _ => true) h.length).testBit q = true := by
      rw [orN_b, orN_b]
      constructor
      · rintro ⟨j, g1, -, g3⟩
        exact ⟨j, g1, rfl, g3⟩
      · rintro ⟨i, g1, -, g3⟩
        obtain ⟨j, k1, k2, k3⟩ := g i g1
        exact ⟨j, k1, k2, by rw [k3]; exact g3⟩
    cases a : (orN A h (fun j => U.testBit j) h.length).testBit q <;> cases b : (orN A h (fun _ => true) h.length).testBit q
    · rfl
    · rw [a, b] at e; exact absurd (e.mpr rfl) (by decide)
    · rw [a, b] at e; exact absurd (e.mp rfl) (by decide)
    · rfl
def GS (A : JA) (h : List Int) (s : JSg) : Prop := s 179 33 = (orN A h (fun _ => true) h.length : Nat)
theorem e_isAll {U : Nat} (hn : 1000000 < n) (hI : WfI A) (hW : WfR A) (hh : H10 A h) (hB : MhB A h s) (hG : GS A h s) (hU : U < 2 ^ h.length) : Ret (f_M_isAll n (U : Int) ((h.length : Nat) : Int) s) (fun z => (z = 1 ∧ goA A h U) ∨ (z = 0 ∧ ¬ goA A h U)) := by
  have h10 := hh.1
  have p : 2 ^ h.length ≤ 1024 := Nat.pow_le_pow_right (n := 2) (by decide) h10
  have ho : ∀ j, j < h.length → 0 ≤ ownA A (h.getD j 0) := fun j hj => (own_6 hI hW hh.2 hj).2.1
  have ho6 : ∀ j, j < h.length → (ownA A (h.getD j 0)).toNat < 6 := fun j hj => by have := own_6 hI hW hh.2 hj; omega
  unfold f_M_isAll
  refine rt_lt (rt_lt ?_)
  refine rt_w2 (I := fun (x : Int) (z : Int) => ∃ m : Nat, z = m ∧ m ≤ h.length ∧ x = (orN A h (fun j => U.testBit j) m : Nat)) (μ := fun (x : Int) (z : Int) => ((h.length : Int) - z).toNat) ?_ n _ _ ⟨0, rfl, by omega, rfl⟩ (by omega)
  rintro x z ⟨m, rfl, hm, rfl⟩ rc hrc
  refine rt_ite (fun g => ?_) (fun g => ?_)
  · have ml : m < h.length := by omega
    have o := own_6 hI hW hh.2 ml
    have l6 := orN_lt (P := fun j => U.testBit j) ho6 m (by omega)
    unfold f_M_has
    rw [has_n (by omega) (by omega)]
    have st : ∀ v : Int, v = (orN A h (fun j => U.testBit j) (m + 1) : Nat) → Ret (lt_ (w32 ((m : Int) + 1)) fun v9 => rc v v9) (fun z => (z = 1 ∧ goA A h U) ∨ (z = 0 ∧ ¬ goA A h U)) := by
      intro v hv
      rw [lt_u, wi (by omega) (by omega)]
      exact hrc _ _ ⟨m + 1, by push_cast; rfl, by omega, hv⟩ (by omega)
    have e1 : orN A h (fun j => U.testBit j) (m + 1) = if U.testBit m = true then ins (orN A h (fun j => U.testBit j) m) (ownA A (h.getD m 0)).toNat else orN A h (fun j => U.testBit j) m := rfl
    simp only [j1_s]
    cases b : U.testBit m
    · rw [if_neg (show ¬ (false = true) by decide), if_neg (show ¬ (0 : Int) = 1 by decide), b1_s, if_pos rfl]
      refine st _ ?_
      rw [e1, b, if_neg (by decide)]
    · rw [if_pos rfl, if_pos (show (1 : Int) = 1 from rfl), b1_s, if_neg (show ¬ (1 : Int) = 0 by decide), Int.toNat_natCast, hB.2 m ml, wi (by omega) (by omega), hB.1]
      have e2 := ins_e (U := orN A h (fun j => U.testBit j) m) (i := (ownA A (h.getD m 0)).toNat) (by omega) (by omega)
      rw [show (((ownA A (h.getD m 0)).toNat : Nat) : Int) = A (67 + h.getD m 0).toNat by rw [show A (67 + h.getD m 0).toNat = ownA A (h.getD m 0) from rfl]; omega] at e2
      rw [e2]
      refine rt_chk (by omega) (rt_chk (by omega) (rt_lt (st _ ?_)))
      rw [e1, b, if_pos rfl]
  · have em : m = h.length := by omega
    subst em
    rw [show s 179 33 = _ from hG]
    refine rt_ite (fun g => rt_some (Or.inl ⟨rfl, (go_iff ho).mp (by omega)⟩)) (fun g => rt_some (Or.inr ⟨rfl, fun q => g ?_⟩))
    rw [(go_iff ho).mpr q]
def FwV (A : JA) (h : List Int) (x : Stt) (v : Nat) : Prop := (isFw A h x v ∧ v ≤ 10) ∨ (v = 99 ∧ ∀ w, ¬ rc_ A h w x)
theorem fwV_u {v w : Nat} (h1 : FwV A h x v) (h2 : FwV A h x w) : v = w := by
  rcases h1 with ⟨h1, -⟩ | ⟨h1, k1⟩ <;> rcases h2 with ⟨h2, -⟩ | ⟨h2, k2⟩
  · exact fw_u h1 h2
  · exact absurd h1.1 (k2 v)
  · exact absurd h2.1 (k1 w)
  · omega
def MF (A : JA) (h : List Int) (s : JSg) : Prop := ∀ x, rdy A h x → s 193 (cdM x) = -2 ∨ ∃ v : Nat, s 193 (cdM x) = v ∧ FwV A h x v
def BF (A : JA) (h : List Int) (x : Stt) (b : Nat) (F : Nat → Prop) : Prop := (goA A h x.1 ∧ b = 0) ∨ (¬ goA A h x.1 ∧ (1 ≤ b ∧ b ≤ 99) ∧ (b = 99 ∨ ∃ c y, c < 2 * h.length ∧ mv A h x c = some y ∧ rc_ A h (b - 1) y) ∧ ∀ c, c < 2 * h.length → F c → ∀ y, mv A h x c = some y → ∀ w, w + 1 < b → ¬ rc_ A h w y)
theorem bf_end (hh : h.length ≤ 10) {b : Nat} {F : Nat → Prop} (hb : BF A h x b F) (hF : ∀ c, c < 2 * h.length → F c) : FwV A h x b := by
  rcases hb with ⟨g, rfl⟩ | ⟨g, b1, b2, b3⟩
  · exact Or.inl ⟨⟨g, fun w hw => by omega⟩, by omega⟩
  · have no : ∀ w, w < b → w ≤ 10 → ¬ rc_ A h w x := by
      intro w hw hw2 q
      cases w with
      | zero => exact g q
      | succ w =>
        rcases q with q | ⟨c, y, q1, q2, q3⟩
        · exact g q
        · exact b3 c q1 (hF c q1) y q2 w hw q3
    rcases b2 with rfl | ⟨c, y, q1, q2, q3⟩
    · refine Or.inr ⟨rfl, fun w q => ?_⟩
      have := rc_fit w x q
      exact no _ (by omega) (by omega) this
    · have r : rc_ A h b x := by
        cases b with
        | zero => omega
        | succ b => exact Or.inr ⟨c, y, q1, q2, q3⟩
      have r2 := rc_fit b x r
      have bl : b ≤ 10 := by
        apply Nat.le_of_not_lt
        intro q
        exact no _ (by omega) (by omega) r2
      exact Or.inl ⟨⟨r, fun w hw => no w hw (by omega)⟩, bl⟩
theorem e_fewest (hn : 1000000 < n) (hI : WfI A) (hW : WfR A) (hh : H10 A h) : ∀ (f : Nat) (x : Stt) (s : JSg), h.length - pcn h.length x.1 < f → rdy A h x → MhB A h s → GS A h s → MF A h s → Ret (fg_M_fewestFrom n f (cdM x : Int) ((h.length : Nat) : Int) s) (fun z => Agr (fun a _ => a = 193) s z.2 ∧ MF A h z.2 ∧ ∃ v : Nat, z.1 = v ∧ FwV A h x v) := by
  intro f
  induction f with
  | zero => intro x s hf; omega
  | succ f ih =>
    intro x s hf hx hB hG hM
    have h10 := hh.1
    obtain ⟨c1, c2, c3, c4, c5⟩ := cdM_lt hh.1 hx
    show Ret (f_M_fewestFrom_s n (fg_M_fewestFrom n f) (cdM x : Int) ((h.length : Nat) : Int) s) _
    unfold f_M_fewestFrom_s
    rw [Int.toNat_natCast]
    refine rt_chk (by omega) (rt_ite (fun g => ?_) (fun g => ?_))
    · refine rt_lt ?_
      have ez : dv32 (cdM x : Int) 484 = (x.1 : Int) := by
        rw [dv_p (by omega) (by omega) (by omega) (by omega)]
        unfold cdM
        omega
      rw [ez]
      refine rt_b1 (e_isAll hn hI hW hh hB hG c5) (fun r hr => ?_)
      refine rt_c1 (fun b => ∃ b' : Nat, b = b' ∧ BF A h x b' (fun c => c < 0)) (fun b hb => ?_) (fun j hj => ?_)
      · obtain ⟨b, rfl, hb⟩ := hb
        rw [lt_u]
        refine rt_w3 (I := fun (b z : Int) (u : JSg) => ∃ b' m : Nat, b = b' ∧ z = m ∧ m ≤ h.length ∧ Agr (fun a _ => a = 193) s u ∧ MF A h u ∧ BF A h x b' (fun c => c < 2 * m)) (μ := fun (b z : Int) (u : JSg) => ((h.length : Int) - z).toNat) ?_ n _ _ _ ⟨b, 0, rfl, rfl, by omega, fun _ _ _ => rfl, hM, hb⟩ (by omega)
        rintro b z u ⟨b, m, rfl, rfl, hm, ua, uM, hb⟩ rc hrc
        have b99 : b ≤ 99 := by
          rcases hb with ⟨-, q⟩ | ⟨-, q, -⟩ <;> omega
        have fin : (∀ c, c < 2 * h.length → c < 2 * m) ∨ b = 0 → Ret (chk (0 ≤ (cdM x : Int) ∧ (cdM x : Int) < 495616) <| lt_ (sp u 193 (cdM x) (b : Int)) fun s11 => some ((b : Int), s11)) (fun z => Agr (fun a _ => a = 193) s z.2 ∧ MF A h z.2 ∧ ∃ v : Nat, z.1 = v ∧ FwV A h x v) := by
          intro q
          have fw : FwV A h x b := by
            rcases q with q | q
            · exact bf_end h10 hb q
            · rcases hb with ⟨g1, g2⟩ | ⟨-, g2, -⟩
              · rw [g2]
                exact Or.inl ⟨⟨g1, fun w hw => by omega⟩, by omega⟩
              · omega
          refine rt_chk (by omega) (rt_lt (rt_some ⟨ag_sp ua rfl, fun y hy => ?_, b, rfl, fw⟩))
          dsimp only
          by_cases e : cdM y = cdM x
          · have d := cdM_lt h10 hy
            have := cdM_inj d.2.1 d.2.2.1 c2 c3 e
            subst this
            exact Or.inr ⟨b, by rw [sp_eq], fw⟩
          · rw [sp_nj e]; exact uM y hy
        rw [j0_s]
        refine rt_ite (fun g1 => ?_) (fun g1 => fin (Or.inl (fun c hc => by omega)))
        refine rt_ite (fun g2 => ?_) (fun g2 => fin (Or.inr (by omega)))
        rw [lt_u]
        refine rt_w3 (I := fun (b z : Int) (u : JSg) => ∃ b' d : Nat, b = b' ∧ z = d ∧ d ≤ 2 ∧ Agr (fun a _ => a = 193) s u ∧ MF A h u ∧ BF A h x b' (fun c => c < 2 * m + d)) (μ := fun (b z : Int) (u : JSg) => ((2 : Int) - z).toNat) ?_ n _ _ _ ⟨b, 0, rfl, rfl, by omega, ua, uM, hb⟩ (by omega)
        rintro b z u ⟨b, d, rfl, rfl, hd, ua, uM, hb⟩ rc2 hrc2
        have b99 : b ≤ 99 := by
          rcases hb with ⟨-, q⟩ | ⟨-, q, -⟩ <;> omega
        have hBu : MhB A h u := MhB_ag hB (fun a j hq => ua a j (by omega))
        have hGu : GS A h u := (ua 179 33 (by decide)).trans hG
        refine rt_ite (fun g3 => ?_) (fun g3 => ?_)
        · have ml : m < h.length := by omega
          have d2 : d < 2 := by omega
          rw [e_moved hI hW hh hBu hx ml d2, b1_s, lt_u]
          refine rt_c2 (fun b u => ∃ b' : Nat, b = b' ∧ Agr (fun a _ => a = 193) s u ∧ MF A h u ∧ BF A h x b' (fun c => c < 2 * m + (d + 1))) (fun b u hu => ?_) (fun j20 h20 => ?_)
          · obtain ⟨b, rfl, u1, u2, u3⟩ := hu
            rw [lt_u, wi (by omega) (by omega)]
            exact hrc2 _ _ _ ⟨b, d + 1, rfl, by push_cast; rfl, by omega, u1, u2, u3⟩ (by omega)
          · cases e : mv A h x (2 * m + d) with
            | none =>
              rw [if_pos (show omv none = -1 from rfl)]
              refine h20 _ _ ⟨b, rfl, ua, uM, ?_⟩
              rcases hb with hb | ⟨q1, q2, q3, q4⟩
              · exact Or.inl hb
              · refine Or.inr ⟨q1, q2, q3, fun c hc hc2 y hy w hw => ?_⟩
                by_cases k : c = 2 * m + d
                · rw [k, e] at hy; cases hy
                · exact q4 c hc (by omega) y hy w hw
            | some y =>
              have r := mv_rdy h10 hx (c := 2 * m + d) (by omega) e
              have pl := pcn_le (U := y.1) h.length
              rw [if_neg (show ¬ omv (some y) = -1 by show ¬ ((cdM y : Nat) : Int) = -1; omega)]
              show Ret (bd2 (fg_M_fewestFrom n f (cdM y : Int) ((h.length : Nat) : Int) u) _) _
              refine rt_b2 (ih y u (by omega) r.1 hBu hGu uM) (fun v t ht => ?_)
              obtain ⟨t1, t2, v', t3, t4⟩ := ht
              have t3 : v = ((v' : Nat) : Int) := t3
              subst t3
              have v99 : v' ≤ 99 := by
                rcases t4 with ⟨-, q⟩ | ⟨q, -⟩ <;> omega
              have t1 : Agr (fun a _ => a = 193) u t := t1
              have t2 : MF A h t := t2
              have ta := ag_tr ua t1
              rw [wi (by omega) (by omega)]
              refine rt_ite (fun g4 => ?_) (fun g4 => ?_)
              · have hBt : MhB A h t := MhB_ag hB (fun a j hq => ta a j (by omega))
                have hGt : GS A h t := (ta 179 33 (by decide)).trans hG
                show Ret (bd2 (fg_M_fewestFrom n f (cdM y : Int) ((h.length : Nat) : Int) t) _) _
                refine rt_b2 (ih y t (by omega) r.1 hBt hGt t2) (fun v2 t' ht' => ?_)
                obtain ⟨k1, k2, v3, k3, k4⟩ := ht'
                have k3 : v2 = ((v3 : Nat) : Int) := k3
                subst k3
                have := fwV_u t4 k4
                subst this
                have k1 : Agr (fun a _ => a = 193) t t' := k1
                rw [lt_u, wi (by omega) (by omega)]
                refine h20 _ _ ⟨v' + 1, by push_cast; rfl, ag_tr ta k1, k2, ?_⟩
                rcases hb with ⟨-, q⟩ | ⟨q1, q2, q3, q4⟩
                · omega
                · refine Or.inr ⟨q1, by omega, Or.inr ⟨2 * m + d, y, by omega, e, ?_⟩, fun c hc hc2 y' hy w hw => ?_⟩
                  · rcases t4 with ⟨q, -⟩ | ⟨q, -⟩
                    · exact q.1
                    · omega
                  · by_cases k : c = 2 * m + d
                    · rw [k, e] at hy
                      cases hy
                      rcases t4 with ⟨q, -⟩ | ⟨-, q⟩
                      · exact q.2 w (by omega)
                      · exact q w
                    · exact q4 c hc (by omega) y' hy w (by omega)
              · refine h20 _ _ ⟨b, rfl, ta, t2, ?_⟩
                rcases hb with hb | ⟨q1, q2, q3, q4⟩
                · exact Or.inl hb
                · refine Or.inr ⟨q1, q2, q3, fun c hc hc2 y' hy w hw => ?_⟩
                  by_cases k : c = 2 * m + d
                  · rw [k, e] at hy
                    cases hy
                    rcases t4 with ⟨q, -⟩ | ⟨-, q⟩
                    · exact q.2 w (by omega)
                    · exact q w
                  · exact q4 c hc (by omega) y' hy w hw
        · rw [lt_u, wi (by omega) (by omega)]
          have d2 : d = 2 := by omega
          subst d2
          exact hrc _ _ _ ⟨b, m + 1, rfl, by push_cast; rfl, by omega, ua, uM, hb⟩ (by omega)
      · rcases hr with ⟨rfl, q⟩ | ⟨rfl, q⟩
        · rw [if_neg (by decide), lt_u]
          exact hj _ ⟨0, rfl, Or.inl ⟨q, rfl⟩⟩
        · rw [if_pos rfl]
          exact hj _ ⟨99, rfl, Or.inr ⟨q, by omega, Or.inl rfl, fun c _ hc => absurd hc (Nat.not_lt_zero _)⟩⟩
    · refine rt_chk (by omega) (rt_some ⟨fun _ _ _ => rfl, hM, ?_⟩)
      rcases hM x hx with q | q
      · exact absurd q g
      · exact q
end
