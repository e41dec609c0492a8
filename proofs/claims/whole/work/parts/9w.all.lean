/-! LAYER 3zaq: the shortest ROUND: the class's search, whole -/
section
variable {A : JA} {h : List Int} {s t σ : JSg} {n : Nat} {x y : Stt}
def Fl (A : JA) (h : List Int) (m : Nat) (cut : Int) (y : Stt) : Prop := ¬ rc_ A h (m - pcn h.length y.1) y ∧ (cut = 0 → ∀ w, ¬ rc_ A h w y)
theorem fl_mo {m : Nat} {c d : Int} (g : Fl A h m c y) (e : d = 0 → c = 0) : Fl A h m d y := ⟨g.1, fun q => g.2 (e q)⟩
def TI (A : JA) (h : List Int) (s : JSg) (m d : Nat) : Prop := ∀ y, rdy A h y → En A s y → d ≤ pcn h.length y.1 → Fl A h m (s 107 10) y
def seA (d : Nat) (a j : Nat) : Prop := a = 103 ∨ (a = 107 ∧ j = 10) ∨ (a = 112 ∧ d ≤ j)
def SP (A : JA) (h : List Int) (m d : Nat) (x : Stt) (s : JSg) (z : Int × JSg) : Prop := Agr (seA d) s z.2 ∧ ((z.1 = 1 ∧ ∃ l, wkA A h (m - d) x l ∧ ∀ j, j < l.length → z.2 112 (d + j) = codeC h (l.getD j 0)) ∨ (z.1 = 0 ∧ Fl A h m (z.2 107 10) x ∧ TI A h z.2 m d ∧ (∀ y, rdy A h y → pcn h.length y.1 < d → En A z.2 y → En A s y) ∧ (z.2 107 10 = 0 → s 107 10 = 0)))
theorem wk_go {k : Nat} (g : goA A h x.1) : wkA A h k x [] := by
  cases k with
  | zero => exact ⟨g, rfl⟩
  | succ k => exact Or.inl ⟨g, rfl⟩
theorem wk_rc : ∀ (k : Nat) (x : Stt) (l : List Nat), wkA A h k x l → rc_ A h k x := by
  intro k
  cases k with
  | zero => rintro x l ⟨g, -⟩; exact g
  | succ k =>
    rintro x l (⟨g, -⟩ | ⟨-, c, m, y, -, h1, h2, h3, -, -⟩)
    · exact Or.inl g
    · exact Or.inr ⟨c, y, h1, h2, h3⟩
theorem En_ag {t : JSg} (e : ∀ j, t 103 j = s 103 j) : En A t y ↔ En A s y := by
  unfold En
  rw [e]
theorem e_sstep {m : Nat} {gs gs' : Int → Int → Int → Int → JSg → Option (Int × JSg)} {gb : Int → Int → Int → Int → Int → JSg → Option (Int × JSg)} (hn : 1000000 < n) (hI : WfI A) (hW : WfR A) (hh : H10 A h) (hm : m ≤ 11) (hB : RB A h s) (h9 : s 107 9 = (m : Nat)) (hx : rdy A h x) (hT : TI A h s m (pcn h.length x.1)) (IH : ∀ y t, rdy A h y → pcn h.length y.1 = pcn h.length x.1 + 1 → RB A h t → t 107 9 = (m : Nat) → TI A h t m (pcn h.length x.1 + 1) → Ret (gs (y.1 : Int) (wl A y.2.1 : Int) (wr A y.2.2 : Int) ((pcn h.length x.1 + 1 : Nat) : Int) t) (SP A h m (pcn h.length x.1 + 1) y t)) : Ret (f_Rnd_search_s n gs' (f_Rnd_searchBehind_s n gs gb) (x.1 : Int) (wl A x.2.1 : Int) (wr A x.2.2 : Int) ((pcn h.length x.1 : Nat) : Int) s) (SP A h m (pcn h.length x.1) x s) := by
  have h10 := hh.1
  have ho : ∀ j, j < h.length → 0 ≤ ownA A (h.getD j 0) ∧ ownA A (h.getD j 0) < 6 := fun j hj => (own_6 hI hW hh.2 hj).2
  obtain ⟨-, c2, c3, c4, c5⟩ := cdM_lt h10 hx
  have a2 := wl_lt (A := A) c2
  have a3 := wr_lt (A := A) c3
  have pl := pcn_le (U := x.1) h.length
  have ml := cntM_le (A := A) (h := h) (U := x.1) 6
  generalize hd : pcn h.length x.1 = d at *
  unfold f_Rnd_search_s
  rw [e_missing hn hh hB, b1_s, lt_u]
  refine rt_ite (fun g => rt_some ⟨fun _ _ _ => rfl, Or.inl ⟨rfl, [], wk_go ((mis_go ho).mp (by omega)), fun j hj => absurd hj (Nat.not_lt_zero _)⟩⟩) (fun g => ?_)
  have ng : ¬ goA A h x.1 := fun q => g (by rw [(mis_go ho).mpr q]; rfl)
  have free : ∃ i, i < h.length ∧ x.1.testBit i = false := by
    apply Classical.byContradiction
    intro q
    apply ng
    apply go_full
    intro i hi
    cases b : x.1.testBit i with
    | true => rfl
    | false => exact absurd ⟨i, hi, b⟩ q
  have dN : d + 1 ≤ h.length := by
    obtain ⟨i, hi, hb⟩ := free
    have p := pcn_ins hb h.length
    rw [if_pos hi] at p
    have := pcn_le (U := ins x.1 i) h.length
    omega
  rw [j0_s, h9, wi (by omega) (by omega)]
  refine rt_ite (fun g2 => ?_) (fun g2 => ?_)
  · refine rt_lt (rt_some ⟨ag_sp ag_refl (Or.inr (Or.inl ⟨rfl, rfl⟩)), Or.inr ⟨rfl, ⟨fun q => ?_, fun q => ?_⟩, fun y hy he hp => ?_, fun y hy hp he => ?_, fun q => ?_⟩⟩)
    · rw [hd] at q
      have := rc_mis ho _ _ q
      omega
    · dsimp only at q
      rw [sp_eq] at q
      cases q
    · dsimp only at he ⊢
      have e2 : En A s y := (En_ag (fun j => by show sp s 107 10 1 103 j = s 103 j; rw [sp_nq (show (103 : Nat) ≠ 107 by decide)])).mp he
      refine fl_mo (hT y hy e2 hp) (fun q => ?_)
      rw [sp_eq] at q
      cases q
    · exact (En_ag (fun j => by show sp s 107 10 1 103 j = s 103 j; rw [sp_nq (show (103 : Nat) ≠ 107 by decide)])).mp he
    · dsimp only at q
      rw [sp_eq] at q
      cases q
  · rw [if_pos (show (d : Int) < 10 by omega), e_placeOf (by omega) (by omega) (by omega), b1_s]
    have ec : x.1 * 1024 + wl A x.2.1 * 32 + wr A x.2.2 = cdW A x := rfl
    rw [ec]
    have cl : cdW A x < 2097152 := by unfold cdW; omega
    rcases e_enter (s := s) cl with ⟨b1, b2⟩ | ⟨b1, b2⟩
    · rw [b2, b2_s, if_pos rfl]
      exact rt_some ⟨fun _ _ _ => rfl, Or.inr ⟨rfl, hT x hx b1 (by omega), hT, fun _ _ _ q => q, id⟩⟩
    · rw [b2, b2_s, if_neg (show ¬ (1 : Int) = 0 by decide), lt_u]
      generalize hs1 : sp s 103 (cdW A x / 64) (or64 (s 103 (cdW A x / 64)) (sl64 1 ((cdW A x % 64 : Nat) : Int))) = s1
      have s1g : ∀ a j, a ≠ 103 → s1 a j = s a j := fun a j q => by rw [← hs1, sp_nq q]
      have s1e : ∀ y, En A s1 y ↔ En A s y ∨ cdW A y = cdW A x := fun y => by rw [← hs1]; exact en_put
      clear hs1 b2
      refine rt_w2 (I := fun (z : Int) (u : JSg) => ∃ c : Nat, z = c ∧ c ≤ 2 * h.length ∧ Agr (seA d) s u ∧ TI A h u m (d + 1) ∧ (∀ y, rdy A h y → pcn h.length y.1 < d + 1 → En A u y → En A s y ∨ y = x) ∧ (u 107 10 = 0 → s 107 10 = 0) ∧ ∀ e, e < c → ∀ y, mv A h x e = some y → Fl A h m (u 107 10) y) (μ := fun (z : Int) (u : JSg) => (2 * (h.length : Int) - z).toNat) ?_ n _ _ ⟨0, rfl, by omega, fun a j hq => s1g a j (fun q => hq (Or.inl q)), fun y hy he hp => ?_, fun y hy hp he => ?_, fun q => ?_, fun e he => absurd he (Nat.not_lt_zero _)⟩ (by omega)
      · rintro z u ⟨c, rfl, hc, ua, uT, uE, uc, uF⟩ rc hrc
        have hBu : RB A h u := RB_ag hB (fun a j hq => ua a j (by unfold seA; omega))
        rw [hBu.2.1, wi (x := 2 * ((h.length : Nat) : Int)) (by omega) (by omega)]
        refine rt_ite (fun g3 => ?_) (fun g3 => ?_)
        · have hi : c / 2 < h.length := by omega
          have ci := code_in hI hh.2 hi
          have gh := hh.2.2 _ hi
          have b28 := hI.2.1
          have e1 : w32 (2 * h.getD (c / 2) 0) = 2 * h.getD (c / 2) 0 := wi (by omega) (by omega)
          have e2 : w32 (2 * h.getD (c / 2) 0 + ((c % 2 : Nat) : Int)) = codeC h c := wi (by omega) (by omega)
          rw [sr1_n (by omega), an1_n (by omega), Int.toNat_natCast, Int.toNat_natCast, hBu.2.2.1 _ hi, e1, e2, has_n (by omega) (by omega)]
          refine rt_chk (by omega) (rt_chk (by omega) (rt_lt ?_))
          generalize hv : sp u 112 d (codeC h c) = v
          have vg : ∀ a j, ¬ (a = 112 ∧ j = d) → v a j = u a j := by
            intro a j q
            rw [← hv, sp_at]
            by_cases q1 : a = 112
            · rw [if_pos q1, if_neg (fun q2 => q ⟨q1, q2⟩)]
            · rw [if_neg q1]
          have vd : v 112 d = codeC h c := by rw [← hv, sp_eq]
          have vA : Agr (seA d) s v := ag_tr ua (fun a j hq => vg a j (fun q => hq (by rw [q.1, q.2]; exact Or.inr (Or.inr ⟨rfl, Nat.le_refl _⟩))))
          have vT : TI A h v m (d + 1) := fun y hy he hp => by
            rw [vg 107 10 (by omega)]
            exact uT y hy ((En_ag (fun j => vg _ _ (by omega))).mp he) hp
          have vE : ∀ y, rdy A h y → pcn h.length y.1 < d + 1 → En A v y → En A s y ∨ y = x := fun y hy hp he => uE y hy hp ((En_ag (fun j => vg _ _ (by omega))).mp he)
          have vc : v 107 10 = 0 → s 107 10 = 0 := fun q => uc ((vg 107 10 (by omega)) ▸ q)
          have vF : ∀ e, e < c → ∀ y, mv A h x e = some y → Fl A h m (v 107 10) y := fun e he y hy => by
            rw [vg 107 10 (by omega)]; exact uF e he y hy
          have vB : RB A h v := RB_ag hB (fun a j hq => vA a j (by unfold seA; omega))
          have v9 : v 107 9 = (m : Nat) := (vA 107 9 (by unfold seA; omega)).trans h9
          refine rt_c1 (fun (w : JSg) => Agr (seA d) s w ∧ TI A h w m (d + 1) ∧ (∀ y, rdy A h y → pcn h.length y.1 < d + 1 → En A w y → En A s y ∨ y = x) ∧ (w 107 10 = 0 → s 107 10 = 0) ∧ ∀ e, e < c + 1 → ∀ y, mv A h x e = some y → Fl A h m (w 107 10) y) (fun w hw => ?_) (fun j hj => ?_)
          · rw [lt_u, wi (by omega) (by omega)]
            exact hrc _ _ ⟨c + 1, by push_cast; rfl, by omega, hw⟩ (by omega)
          · have skip : mv A h x c = none → ∀ e, e < c + 1 → ∀ y, mv A h x e = some y → Fl A h m (v 107 10) y := by
              intro q e he y hy
              by_cases q2 : e = c
              · rw [q2, q] at hy; cases hy
              · exact vF e (by omega) y hy
            cases b : x.1.testBit (c / 2)
            · rw [if_neg (show ¬ (false = true) by decide), if_pos rfl, e_behind hI hW hh vB hx (by omega) b (by omega)]
              cases e : mv A h x c with
              | none =>
                rw [b2_s, if_pos rfl]
                exact hj _ ⟨vA, vT, vE, vc, skip e⟩
              | some y =>
                have r := mv_rdy h10 hx (c := c) (by omega) e
                rw [hd] at r
                dsimp only
                refine rt_b2 (R := SP A h m (d + 1) y v) (rt_b2 (IH y v r.1 r.2 vB v9 vT) (fun q w hw => ?_)) (fun q w hw => ?_)
                · refine rt_chk ?_ (rt_some hw)
                  rcases hw.2 with q2 | q2
                  · exact Or.inr q2.1
                  · exact Or.inl q2.1
                · obtain ⟨w1, w2⟩ := hw
                  have w1 : Agr (seA (d + 1)) v w := w1
                  have wA : Agr (seA d) s w := ag_tr vA (ag_mono w1 (fun a j q => by unfold seA at *; omega))
                  rcases w2 with ⟨w2, l, w3, w4⟩ | ⟨w2, w3, w4, w5, w6⟩
                  · have w2 : q = 1 := w2
                    rw [if_neg (by rw [w2]; decide)]
                    refine rt_some ⟨wA, Or.inl ⟨rfl, c :: l, ?_, fun j hj2 => ?_⟩⟩
                    · have em : m - d = (m - (d + 1)) + 1 := by omega
                      rw [em]
                      refine Or.inr ⟨ng, c, l, y, rfl, by omega, e, wk_rc _ _ _ w3, fun e' he' z hz => ?_, w3⟩
                      have f := (vF e' he' z hz).1
                      have rz := (mv_rdy h10 hx (c := e') (by omega) hz).2
                      rw [hd] at rz
                      rw [rz] at f
                      exact f
                    · cases j with
                      | zero =>
                        show w 112 (d + 0) = codeC h c
                        rw [Nat.add_zero, w1 112 d (by unfold seA; omega), vd]
                      | succ j =>
                        have := w4 j (by rw [List.length_cons] at hj2; omega)
                        have e5 : w 112 (d + 1 + j) = codeC h (l.getD j 0) := this
                        show w 112 (d + (j + 1)) = codeC h (l.getD j 0)
                        rw [← e5]
                        congr 1
                        omega
                  · have w2 : q = 0 := w2
                    have w6 : w 107 10 = 0 → v 107 10 = 0 := w6
                    rw [if_pos w2]
                    refine hj _ ⟨wA, w4, fun z hz hp he => vE z hz hp (w5 z hz hp he), fun q2 => vc (w6 q2), fun e' he' z hz => ?_⟩
                    by_cases q2 : e' = c
                    · rw [q2, e] at hz
                      cases hz
                      exact w3
                    · exact fl_mo (vF e' (by omega) z hz) w6
            · rw [if_pos rfl, if_neg (show ¬ (1 : Int) = 0 by decide)]
              refine hj _ ⟨vA, vT, vE, vc, skip ?_⟩
              unfold mv
              rw [if_pos b]
        · have ce : c = 2 * h.length := by omega
          subst ce
          have fx : Fl A h m (u 107 10) x := by
            refine ⟨fun q => ?_, fun q w hw => ?_⟩
            · rw [hd, show m - d = (m - (d + 1)) + 1 by omega] at q
              rcases q with q | ⟨c, y, q1, q2, q3⟩
              · exact ng q
              · have f := (uF c q1 y q2).1
                have rz := (mv_rdy h10 hx (c := c) (by omega) q2).2
                rw [hd] at rz
                rw [rz] at f
                exact f q3
            · cases w with
              | zero => exact ng hw
              | succ w =>
                rcases hw with hw | ⟨c, y, q1, q2, q3⟩
                · exact ng hw
                · exact (uF c q1 y q2).2 q w q3
          refine rt_some ⟨ua, Or.inr ⟨rfl, fx, fun y hy he hp => ?_, fun y hy hp he => ?_, uc⟩⟩
          · by_cases q : d + 1 ≤ pcn h.length y.1
            · exact uT y hy he q
            · rcases uE y hy (by omega) he with q2 | q2
              · exact fl_mo (hT y hy q2 hp) uc
              · rw [q2]; exact fx
          · rcases uE y hy (by omega) he with q2 | q2
            · exact q2
            · rw [q2, hd] at hp; omega
      · rw [s1g 107 10 (by decide)]
        rcases (s1e y).mp he with q | q
        · exact hT y hy q (by omega)
        · have dy := cdM_lt h10 hy
          have := cdW_inj dy.2.1 dy.2.2.1 c2 c3 q
          rw [this, hd] at hp
          omega
      · rcases (s1e y).mp he with q | q
        · exact Or.inl q
        · have dy := cdM_lt h10 hy
          exact Or.inr (cdW_inj dy.2.1 dy.2.2.1 c2 c3 q)
      · rw [← s1g 107 10 (by decide)]; exact q
theorem e_search {m : Nat} (hn : 1000000 < n) (hI : WfI A) (hW : WfR A) (hh : H10 A h) (hm : m ≤ 11) (f : Nat) : ∀ (k : Nat) (x : Stt) (s : JSg), h.length - pcn h.length x.1 ≤ k → RB A h s → s 107 9 = (m : Nat) → rdy A h x → TI A h s m (pcn h.length x.1) → Ret ((fg_Rnd_search n (f + 2 * k + 2)).1 (x.1 : Int) (wl A x.2.1 : Int) (wr A x.2.2 : Int) ((pcn h.length x.1 : Nat) : Int) s) (SP A h m (pcn h.length x.1) x s) := by
  intro k
  induction k with
  | zero =>
    intro x s hk hB h9 hx hT
    refine e_sstep (gs := (fg_Rnd_search n f).1) (gs' := (fg_Rnd_search n (f + 1)).1) (gb := (fg_Rnd_search n f).2) hn hI hW hh hm hB h9 hx hT (fun y t hy hp => ?_)
    have := pcn_le (U := y.1) h.length
    omega
  | succ k ih =>
    intro x s hk hB h9 hx hT
    refine e_sstep (gs := (fg_Rnd_search n (f + 2 * k + 2)).1) (gs' := (fg_Rnd_search n (f + 2 * k + 3)).1) (gb := (fg_Rnd_search n (f + 2 * k + 2)).2) hn hI hW hh hm hB h9 hx hT (fun y t hy hp tB t9 tT => ?_)
    have := ih y t (by omega) tB t9 hy (by rw [hp]; exact tT)
    rw [hp] at this
    exact this
end
