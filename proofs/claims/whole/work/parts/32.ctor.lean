def RLt : List (Nat × Nat × Nat) := [(0, 0, 1), (2, 0, 1), (0, 2, 2), (4, 7, 5), (4, 8, 6), (4, 9, 7), (4, 10, 8), (4, 11, 9), (4, 12, 10), (3, 0, 4), (11, 1, 12), (11, 2, 13), (11, 3, 14), (11, 5, 15), (11, 6, 16), (11, 7, 17), (11, 0, 4), (3, 1, 11), (18, 2, 19), (18, 4, 20), (3, 2, 18), (21, 2, 22), (21, 3, 23), (21, 4, 24), (21, 5, 25), (3, 3, 21), (0, 3, 3), (27, 7, 28), (27, 8, 29), (27, 9, 30), (27, 10, 31), (27, 11, 32), (27, 12, 33), (26, 0, 27), (34, 1, 35), (34, 2, 36), (34, 3, 37), (34, 5, 38), (34, 6, 39), (34, 7, 40), (34, 0, 27), (26, 1, 34), (41, 2, 42), (41, 4, 43), (26, 2, 41), (44, 2, 45), (44, 3, 46), (44, 4, 47), (44, 5, 48), (26, 3, 44), (0, 4, 26), (50, 7, 51), (50, 8, 52), (50, 9, 53), (50, 10, 54), (50, 11, 55), (50, 12, 56), (49, 0, 50), (57, 1, 58), (57, 2, 59), (57, 3, 60), (57, 5, 61), (57, 6, 62), (57, 7, 63), (57, 0, 50), (49, 1, 57), (64, 2, 65), (64, 4, 66), (49, 2, 64), (67, 2, 68), (67, 3, 69), (67, 4, 70), (67, 5, 71), (49, 3, 67), (0, 5, 49), (73, 7, 74), (73, 8, 75), (73, 9, 76), (73, 10, 77), (73, 11, 78), (73, 12, 79), (72, 0, 73), (80, 1, 81), (80, 2, 82), (80, 3, 83), (80, 5, 84), (80, 6, 85), (80, 7, 86), (80, 0, 73), (72, 1, 80), (87, 2, 88), (87, 4, 89), (72, 2, 87), (90, 2, 91), (90, 3, 92), (90, 4, 93), (90, 5, 94), (72, 3, 90), (0, 6, 72), (0, 7, 95), (96, 1, 97), (96, 2, 98), (96, 3, 99), (96, 5, 100), (96, 6, 101), (96, 7, 102), (96, 0, 4), (0, 10, 96), (0, 11, 103), (104, 3, 105), (104, 5, 106), (104, 0, 11), (104, 1, 4), (104, 2, 103), (0, 12, 104), (107, 3, 108), (107, 5, 109), (107, 6, 110), (107, 7, 111), (107, 8, 112), (107, 11, 113), (107, 0, 11), (107, 1, 4), (107, 2, 103), (0, 13, 107), (114, 3, 115), (114, 0, 11), (114, 1, 4), (114, 2, 103), (0, 14, 114), (116, 3, 117), (116, 4, 118), (116, 6, 119), (116, 7, 120), (116, 0, 4), (116, 1, 18), (116, 2, 103), (0, 15, 116), (121, 0, 11), (0, 16, 121), (0, 17, 122), (123, 1, 124), (123, 2, 125), (123, 3, 126), (123, 5, 127), (123, 6, 128), (123, 7, 129), (123, 0, 4), (95, 0, 123), (130, 1, 131), (130, 2, 132), (130, 3, 133), (130, 5, 134), (130, 6, 135), (130, 7, 136), (130, 0, 4), (95, 1, 130), (137, 1, 138), (137, 2, 139), (137, 3, 140), (137, 5, 141), (137, 6, 142), (137, 7, 143), (137, 0, 4), (95, 2, 137), (144, 1, 145), (144, 2, 146), (144, 3, 147), (144, 5, 148), (144, 6, 149), (144, 7, 150), (144, 0, 4), (95, 3, 144), (151, 1, 152), (151, 2, 153), (151, 3, 154), (151, 5, 155), (151, 6, 156), (151, 7, 157), (151, 0, 4), (95, 4, 151), (158, 1, 159), (158, 2, 160), (158, 3, 161), (158, 5, 162), (158, 6, 163), (158, 7, 164), (158, 0, 4), (95, 5, 158), (165, 1, 166), (165, 2, 167), (165, 3, 168), (165, 5, 169), (165, 6, 170), (165, 7, 171), (165, 0, 4), (95, 6, 165), (172, 1, 173), (172, 2, 174), (172, 3, 175), (172, 5, 176), (172, 6, 177), (172, 7, 178), (172, 0, 4), (95, 7, 172), (179, 1, 180), (179, 14, 181), (179, 15, 182), (179, 16, 183), (179, 17, 184), (179, 18, 185), (179, 19, 186), (179, 20, 187), (179, 21, 188), (179, 25, 189), (179, 26, 190), (179, 27, 191), (179, 29, 192), (179, 30, 193), (179, 31, 194), (179, 37, 195), (179, 38, 196), (179, 40, 197), (179, 42, 198), (179, 43, 199), (179, 44, 200), (179, 46, 201), (179, 47, 202)]
def SLt : List (Nat × Nat × Int) := [(4, 5, 5), (10, 0, 1), (10, 1, 2), (10, 2, 4), (10, 3, 8), (10, 4, 16), (10, 5, 32), (10, 6, 64), (27, 5, 5), (33, 0, 1), (33, 1, 2), (33, 2, 4), (33, 3, 8), (33, 4, 16), (33, 5, 32), (33, 6, 64), (50, 5, 5), (56, 0, 1), (56, 1, 2), (56, 2, 4), (56, 3, 8), (56, 4, 16), (56, 5, 32), (56, 6, 64), (73, 5, 5), (79, 0, 1), (79, 1, 2), (79, 2, 4), (79, 3, 8), (79, 4, 16), (79, 5, 32), (79, 6, 64), (114, 7, (-1)), (179, 36, (-1)), (201, 0, (-1)), (201, 1, (-1)), (201, 2, (-1))]
/-! LAYER 1l: the constructors, stage by stage -/
def shp (k : Nat) : JSh := SH.take k
def rst (r : Nat) : JRo := rstL (RLt.take r)
def sst (c : Nat) : JSg := sstL (SLt.take c)
theorem shp_push {k : Nat} {kd : Nat ⊕ (Nat × Nat)} (h : SH[k]? = some kd) : shp k ++ [kd] = shp (k + 1) := by
  unfold shp
  rw [List.take_add_one, h]
  rfl
theorem shp_len {k : Nat} {kd : Nat ⊕ (Nat × Nat)} (h : SH[k]? = some kd) : (shp k).length = k := by
  have := (List.getElem?_eq_some_iff.mp h).1
  unfold shp
  rw [List.length_take]
  omega
theorem rst_push {r p j q : Nat} (h : RLt[r]? = some (p, j, q)) : rp (rst r) p j q = rst (r + 1) := by
  unfold rst
  rw [rstL_push, List.take_add_one, h]
  rfl
theorem sst_push {c p j : Nat} {x : Int} (h : SLt[c]? = some (p, j, x)) : sp (sst c) p j x = sst (c + 1) := by
  unfold sst
  rw [sstL_push, List.take_add_one, h]
  rfl
theorem one_bit : ∀ n : Nat, n < 7 → ∀ v : Nat, v < 128 → (∀ m, m < 7 → v.testBit m = decide (n = m)) → v = 2 ^ n := by decide +kernel
theorem fit_gen {p c : Nat} (h : ∀ w : Nat, w < 7 → SLt[c + w]? = some (p + 6, w, ((2 ^ w : Nat) : Int))) (h5 : ∀ w : Nat, w < 7 → sst c (p + 5) w = 0) (h3 : sst c p 3 = 0) : f_Isl_findFitting 64 p (sst c) = some (sst (c + 7)) := by
  obtain ⟨s, e, a, d⟩ := e_fit (n := 64) (p := p) (σ := sst c) (A := fun _ => 0) (by decide) (fun w w0 w1 => h5 w.toNat (by omega)) h3
  have st : ∀ k : Nat, k ≤ 7 → ∀ q j, sst (c + k) q j = if q = p + 6 ∧ j < k then ((2 ^ j : Nat) : Int) else sst c q j := by
    intro k
    induction k with
    | zero => intro _ q j; rw [if_neg (by omega)]; rfl
    | succ k ih =>
      intro hk q j
      rw [show c + (k + 1) = c + k + 1 by omega, ← sst_push (h k (by omega)), sp_at]
      by_cases q1 : q = p + 6
      · rw [if_pos q1]
        by_cases q2 : j = k
        · rw [if_pos q2, if_pos ⟨q1, by omega⟩, q2]
        · rw [if_neg q2, ih (by omega)]
          by_cases q3 : j < k
          · rw [if_pos ⟨q1, q3⟩, if_pos ⟨q1, by omega⟩]
          · rw [if_neg (fun z => q3 z.2), if_neg (fun z => by omega)]
      · rw [if_neg q1, ih (by omega), if_neg (fun z => q1 z.1), if_neg (fun z => q1 z.1)]
  rw [e]
  congr 1
  funext q j
  rw [st 7 (by omega)]
  by_cases f : q = p + 6 ∧ j < 7
  · obtain ⟨rfl, hj⟩ := f
    rw [if_pos ⟨rfl, hj⟩]
    obtain ⟨⟨d1, d2⟩, d3⟩ := d (j : Int) (by omega) (by omega)
    rw [Int.toNat_natCast] at d1 d2 d3
    obtain ⟨v, hv⟩ : ∃ v : Nat, s (p + 6) j = (v : Int) := ⟨(s (p + 6) j).toNat, by omega⟩
    rw [hv] at d1 d2 d3 ⊢
    have := one_bit j hj v (by omega) (fun m hm => by
      have k := d3 (m : Int) (by omega) (by omega)
      rw [Int.toNat_natCast, bt_n (by omega)] at k
      rw [k]
      unfold fitB
      rw [bt_0, bt_0]
      by_cases z : j = m
      · subst z; simp
      · have z2 : ¬ (j : Int) = (m : Int) := by omega
        simp [z, z2])
    rw [this]
  · rw [if_neg f]
    exact a q j f
def growB (k r c : Nat) (L : List (Nat × JV)) (S : List JV) (a n : Nat) (Sh' : JSh) : Bool := (decide ((shp k).length + 1 < 1000000) && (RLt.take r).all (fun t => decide (t.1 < (shp k).length) && decide (t.2.2 < (shp k).length)) && (SLt.take c).all (fun t => decide (t.1 < (shp k).length)) && L.all (fun q => rfB (shp k).length q.2) && S.all (rfB (shp k).length) && decide (a ≤ (shp k).length) && decide ((shp k).length + 1 ≤ Sh'.length) && decide (wsum (shp k) + n ≤ wsum Sh'))
def ctorB (k k1 : Nat) (L : List (Nat × JV)) (S : List JV) (a : Nat) (Sh' : JSh) : Bool := (decide ((shp k).length ≤ (shp k1).length) && decide (wsum (shp k) ≤ wsum (shp k1)) && L.all (fun q => rfB (shp k).length q.2) && S.all (rfB (shp k).length) && decide (a ≤ (shp k).length) && decide ((shp k1).length ≤ Sh'.length) && decide (wsum (shp k1) ≤ wsum Sh'))
abbrev GC (own : String) (cc : ByteArray) (nL d k r c pc : Nat) (L : List (Nat × JV)) (S : List JV) (a b k' r' c' : Nat) : Prop := GSim own cc nL none d (shp k) (rst r) pc L S (sst c) (fun _ : Unit => rD d a b (shp k') (rst r') (sst c')) (some ())
section
variable {own : String} {cc : ByteArray} {nL d k r c pc : Nat} {L : List (Nat × JV)} {S : List JV} {a b k' r' c' : Nat}
theorem cs_new {idx ci N : Nat} {C : String} {TT : u_T} {ty : Nat → FieldType} (hC : JCls ci C TT N ty) (hdef : ∀ j, j < N → defaultValue (ty j) = dV ci j) (h1 : Cond.classLink own idx C ∈ WS) (h2 : Cond.instantiable C N ∈ WS) (h3 : Cond.initialized C ∈ WS) (hk : SH[k]? = some (.inl ci)) (hg : growB k r c L S a N (shp k') = true) (hd : decode cc pc = .ok (.new idx, 3))
    (kk : GC own cc nL d (k + 1) r c (pc + 3) L (vR k :: S) a b k' r' c') : GC own cc nL d k r c pc L S a b k' r' c' := by
  refine sim_new hC hdef h1 h2 h3 (grow_of hg) hd ?_
  rw [shp_push hk, shp_len hk]
  exact kk
theorem cs_newarr0 {n : Nat} {i : Int} (hi : i = (n : Int)) (hn9 : n * 8 ≤ 536870912) (h1 : Cond.arrayClass .int ∈ WS) (hk : SH[k]? = some (.inr (0, n))) (hg : growB k r c L S a n (shp k') = true) (hd : decode cc pc = .ok (.newarray .int, 2))
    (kk : GC own cc nL d (k + 1) r c (pc + 2) L (vR k :: S) a b k' r' c') : GC own cc nL d k r c pc L (vI i :: S) a b k' r' c' := by
  refine sim_newarr0 hi hn9 h1 (grow_of hg) hd ?_
  rw [shp_push hk, shp_len hk]
  exact kk
theorem cs_newarr1 {n : Nat} {i : Int} (hi : i = (n : Int)) (hn9 : n * 8 ≤ 536870912) (h1 : Cond.arrayClass .byte ∈ WS) (hk : SH[k]? = some (.inr (1, n))) (hg : growB k r c L S a n (shp k') = true) (hd : decode cc pc = .ok (.newarray .byte, 2))
    (kk : GC own cc nL d (k + 1) r c (pc + 2) L (vR k :: S) a b k' r' c') : GC own cc nL d k r c pc L (vI i :: S) a b k' r' c' := by
  refine sim_newarr1 hi hn9 h1 (grow_of hg) hd ?_
  rw [shp_push hk, shp_len hk]
  exact kk
theorem cs_newarr2 {n : Nat} {i : Int} (hi : i = (n : Int)) (hn9 : n * 8 ≤ 536870912) (h1 : Cond.arrayClass .long ∈ WS) (hk : SH[k]? = some (.inr (2, n))) (hg : growB k r c L S a n (shp k') = true) (hd : decode cc pc = .ok (.newarray .long, 2))
    (kk : GC own cc nL d (k + 1) r c (pc + 2) L (vR k :: S) a b k' r' c') : GC own cc nL d k r c pc L (vI i :: S) a b k' r' c' := by
  refine sim_newarr2 hi hn9 h1 (grow_of hg) hd ?_
  rw [shp_push hk, shp_len hk]
  exact kk
theorem cs_newarr3 {n : Nat} {i : Int} (hi : i = (n : Int)) (hn9 : n * 8 ≤ 536870912) (h1 : Cond.arrayClass .boolean ∈ WS) (hk : SH[k]? = some (.inr (3, n))) (hg : growB k r c L S a n (shp k') = true) (hd : decode cc pc = .ok (.newarray .boolean, 2))
    (kk : GC own cc nL d (k + 1) r c (pc + 2) L (vR k :: S) a b k' r' c') : GC own cc nL d k r c pc L (vI i :: S) a b k' r' c' := by
  refine sim_newarr3 hi hn9 h1 (grow_of hg) hd ?_
  rw [shp_push hk, shp_len hk]
  exact kk
theorem cs_newarr4 {n idx : Nat} {i : Int} (hi : i = (n : Int)) (hn9 : n * 8 ≤ 536870912) (h1 : Cond.classLink own idx "WidowRow$Row" ∈ WS) (hk : SH[k]? = some (.inr (4, n))) (hg : growB k r c L S a n (shp k') = true) (hd : decode cc pc = .ok (.anewarray idx, 3))
    (kk : GC own cc nL d (k + 1) r c (pc + 3) L (vR k :: S) a b k' r' c') : GC own cc nL d k r c pc L (vI i :: S) a b k' r' c' := by
  refine sim_newarr4 hi hn9 h1 rD_nx (grow_of hg) hd ?_
  rw [shp_push hk, shp_len hk]
  exact kk
theorem cs_putR {idx ci j p q N : Nat} {C : String} {TT : u_T} {ty : Nat → FieldType} (hJ : JCls ci C TT N ty) (hf : JFld own idx ci j 2 true) (hown : (TT j).1 = own) (hjN : j < N) (hn : ∀ a, narrow (ty j) (.ref a) = .ref a ∧ fits (ty j) (.ref a) = true) (hs : (shp k)[p]? = some (.inl ci)) (hr : RLt[r]? = some (p, j, q)) (hd : decode cc pc = .ok (.putfield idx, 3))
    (kk : GC own cc nL d k (r + 1) c (pc + 3) L S a b k' r' c') : GC own cc nL d k r c pc L (vR q :: vR p :: S) a b k' r' c' := by
  refine sim_putR hf (fun C' T' N' h => ?_) (fun C' T' N' ty' hJ' x => ?_) hs rD_in hd ?_
  · have e := h.symm.trans hJ.1
    cases e
    exact hown
  · obtain ⟨g1, -, g3, -⟩ := hJ'
    have e := g1.symm.trans hJ.1
    cases e
    rw [Option.some.inj ((g3 j hjN).symm.trans (hJ.2.2.1 j hjN))]
    exact hn x
  · rw [rst_push hr]
    exact kk
theorem cs_eq {Z : Type} {Sh : JSh} {ρ : JRo} {σ : JSg} {dec : Z → JD} {o : Option Z} {ret : Option FieldType} {β : Type} {u v : β} (i : Decidable (u = v)) (h : u = v → GSim own cc nL ret d Sh ρ pc L S σ dec o) : GSim own cc nL ret d Sh ρ pc L S σ dec (@ite _ (u = v) i o none) := by
  by_cases e : u = v
  · rw [if_pos e]; exact h e
  · rw [if_neg e]; exact sim_none
theorem cs_at {Z : Type} {Sh : JSh} {ρ : JRo} {σ : JSg} {dec : Z → JD} {o : Option Z} {ret : Option FieldType} {β : Type} (v : β) (i : ∀ u : β, Decidable (u = v)) (h : GSim own cc nL ret d Sh ρ pc L S σ dec (lt_ v fun u => @ite _ (u = v) (i u) o none)) : GSim own cc nL ret d Sh ρ pc L S σ dec o := by
  replace h : GSim own cc nL ret d Sh ρ pc L S σ dec (@ite _ (v = v) (i v) o none) := h
  rwa [if_pos rfl] at h
theorem cs_putI {idx ci j p : Nat} {x : Int} (hf : JFld own idx ci j 0 false) (hs : (shp k)[p]? = some (.inl ci)) (hx : SLt[c]? = some (p, j, x)) (hd : decode cc pc = .ok (.putfield idx, 3)) (kk : GC own cc nL d k r (c + 1) (pc + 3) L S a b k' r' c') : GC own cc nL d k r c pc L (vI x :: vR p :: S) a b k' r' c' :=
  cs_at (sp (sst c) p j x) (fun _ => Classical.propDecidable _) (sim_putI hf hs hd fun σ' => cs_eq _ fun e => by rw [e, sst_push hx]; exact kk)
theorem cs_putI0 {idx ci j p : Nat} {x : Int} (hf : JFld own idx ci j 0 false) (hs : (shp k)[p]? = some (.inl ci)) (hx : sst c p j = x) (hd : decode cc pc = .ok (.putfield idx, 3)) (kk : GC own cc nL d k r c (pc + 3) L S a b k' r' c') : GC own cc nL d k r c pc L (vI x :: vR p :: S) a b k' r' c' :=
  cs_at (sp (sst c) p j x) (fun _ => Classical.propDecidable _) (sim_putI hf hs hd fun σ' => cs_eq _ fun e => by rw [e, sp_self hx]; exact kk)
theorem cs_putZ0 {idx ci j p : Nat} {x : Int} (h01 : x = 0 ∨ x = 1) (hf : JFld own idx ci j 3 false) (hs : (shp k)[p]? = some (.inl ci)) (hx : sst c p j = x) (hd : decode cc pc = .ok (.putfield idx, 3)) (kk : GC own cc nL d k r c (pc + 3) L S a b k' r' c') : GC own cc nL d k r c pc L (vI x :: vR p :: S) a b k' r' c' :=
  cs_at (sp (sst c) p j x) (fun _ => Classical.propDecidable _) (sim_putZ h01 hf hs hd fun σ' => cs_eq _ fun e => by rw [e, sp_self hx]; exact kk)
theorem cs_putL0 {idx ci j p : Nat} {x : Int} (hf : JFld own idx ci j 1 false) (hs : (shp k)[p]? = some (.inl ci)) (hx : sst c p j = x) (hd : decode cc pc = .ok (.putfield idx, 3)) (kk : GC own cc nL d k r c (pc + 3) L S a b k' r' c') : GC own cc nL d k r c pc L (vL x :: vR p :: S) a b k' r' c' :=
  cs_at (sp (sst c) p j x) (fun _ => Classical.propDecidable _) (sim_putL hf hs hd fun σ' => cs_eq _ fun e => by rw [e, sp_self hx]; exact kk)
theorem cs_iastore {p n j : Nat} {i x : Int} (hs : (shp k)[p]? = some (.inr (0, n))) (hj : i = (j : Int)) (hlt : j < n) (hx : SLt[c]? = some (p, j, x)) (hd : decode cc pc = .ok (.iastore, 1)) (kk : GC own cc nL d k r (c + 1) (pc + 1) L S a b k' r' c') : GC own cc nL d k r c pc L (vI x :: vI i :: vR p :: S) a b k' r' c' :=
  cs_at (sp (sst c) p j x) (fun _ => Classical.propDecidable _) (sim_iastoreK hs hj hlt hd fun σ' => cs_eq _ fun e => by rw [e, sst_push hx]; exact kk)
theorem cs_aastore {p n q j : Nat} {i : Int} (hs : (shp k)[p]? = some (.inr (4, n))) (hj : i = (j : Int)) (hlt : j < n) (hq : (shp k)[q]? = some (.inl 7)) (hr : RLt[r]? = some (p, j, q)) (hd : decode cc pc = .ok (.aastore, 1)) (kk : GC own cc nL d k (r + 1) c (pc + 1) L S a b k' r' c') : GC own cc nL d k r c pc L (vR q :: vI i :: vR p :: S) a b k' r' c' := by
  subst hj
  have h := sim_aastore (own := own) (cc := cc) (nL := nL) (ret := none) (d := d) (L := L) (S := S) (σ := sst c) (ρ := rst r) (pc := pc) (i := (j : Int)) (N := (n : Int)) (dec := fun _ : Unit => rD d a b (shp k') (rst r') (sst c')) (o := some ()) hs rfl hq hd (fun _ => by
    rw [Int.toNat_natCast, rst_push hr]
    exact kk)
  rwa [chk_pos ⟨by omega, by omega⟩] at h
theorem cs_icmp_f {tgt : Nat} {off x y : Int} (hlt : x < y) (hd : decode cc pc = .ok (.if_icmp .ge off, 3)) (ht : (pc : Int) + off = (tgt : Int)) (kk : GC own cc nL d k r c (pc + 3) L S a b k' r' c') : GC own cc nL d k r c pc L (vI y :: vI x :: S) a b k' r' c' := by
  have h := sim_icmp_ge (x := x) (y := y) (ot := none) hd ht sim_none kk
  rwa [if_pos hlt] at h
theorem cs_icmp_t {tgt : Nat} {off x y : Int} (hlt : ¬ x < y) (hd : decode cc pc = .ok (.if_icmp .ge off, 3)) (ht : (pc : Int) + off = (tgt : Int)) (kk : GC own cc nL d k r c tgt L S a b k' r' c') : GC own cc nL d k r c pc L (vI y :: vI x :: S) a b k' r' c' := by
  have h := sim_icmp_ge (x := x) (y := y) (of := none) hd ht kk sim_none
  rwa [if_neg hlt] at h
theorem cs_istore {kk : Fin 4} {x : Int} (L' : List (Nat × JV)) (hL' : jst1 L (kk : Nat) (vI x) = L') (hn : (kk : Nat) < nL) (hd : decode cc pc = .ok (.istore_n kk, 1)) (kn : GC own cc nL d k r c (pc + 1) L' S a b k' r' c') : GC own cc nL d k r c pc L (vI x :: S) a b k' r' c' :=
  cs_at x (fun _ => Classical.propDecidable _) (sim_istore_n (fun y => jst1 L (kk : Nat) (vI y)) (fun _ => rfl) hn hd fun y => cs_eq _ fun e => by rw [e, hL']; exact kn)
theorem cs_iinc {i : Nat} {n x z : Int} (hz : w32 (x + n) = z) (j : Nat) (hj : L[j]? = some (i, vI x)) (L' : List (Nat × JV)) (hL' : jst1 L i (vI z) = L') (hn : i < nL) (hd : decode cc pc = .ok (.iinc i n, 3)) (kn : GC own cc nL d k r c (pc + 3) L' S a b k' r' c') : GC own cc nL d k r c pc L S a b k' r' c' :=
  cs_at (w32 (x + n)) (fun _ => Classical.propDecidable _) (sim_iinc j hj (fun y => jst1 L i (vI y)) (fun _ => rfl) hn hd fun y => cs_eq _ fun e => by rw [e, hz, hL']; exact kn)
theorem cs_fit {y : MethodName} {cc' : ByteArray} {nL' d' idx ci p c1 : Nat} {o' : Option JSg} (hv : JVir own idx y cc' nL' none 0 ci) (hs : (shp k)[p]? = some (.inl ci)) (hd : decode cc pc = .ok (.invokevirtual idx, 3)) (hK : Call y cc' nL' none d' (shp k) (rst r) [vR p] (sst c) dVm o') (hdd : d' + 1 ≤ d ∧ nL' ≤ 45) (hS8 : jwid S ≤ 8) (hf : o' = some (sst c1))
    (kk : GC own cc nL d k r c1 (pc + 3) L S a b k' r' c') : GC own cc nL d k r c pc L (vR p :: S) a b k' r' c' := by
  have h := sim_callVVm (own := own) (cc := cc) (nL := nL) (ret := none) (d := d) (pc := pc) (L := L) (dec := fun _ : Unit => rD d a b (shp k') (rst r') (sst c')) (g := fun s => @ite _ (s = sst c1) (Classical.propDecidable _) (some ()) none) hv hs hd hK rfl hdd (S := S) rfl hS8 (fun s => cs_eq _ fun e => by rw [e]; exact kk)
  rw [hf] at h
  unfold bd1 at h
  rw [Option.bind_some, if_pos rfl] at h
  exact h
end

theorem w_32 : Cond.methodLink RX11 1 objectInit ∈ WS := ws_in (tk_1 (List.mem_of_getElem? (i := 32) rfl)) rfl
theorem w_33 : Cond.instanceMethod objectInit ∈ WS := ws_in (tk_1 (List.mem_of_getElem? (i := 33) rfl)) rfl
theorem w_34 : Cond.code objectInit ⟨#[0xb1]⟩ 1 none ∈ WS := ws_in (tk_1 (List.mem_of_getElem? (i := 34) rfl)) rfl
theorem w_98 : Cond.arrayClass .byte ∈ WS := ws_in (tk_1 (List.mem_of_getElem? (i := 98) rfl)) rfl
theorem w_35 : Cond.classLink RX11 17 RX9 ∈ WS := ws_in (tk_1 (List.mem_of_getElem? (i := 35) rfl)) rfl
theorem w_36 : Cond.instantiable RX9 14 ∈ WS := ws_in (tk_1 (List.mem_of_getElem? (i := 36) rfl)) rfl
theorem w_40 : Cond.methodLink RX9 3 objectInit ∈ WS := ws_in (tk_1 (List.mem_of_getElem? (i := 40) rfl)) rfl
theorem w_39 : Cond.code yX9_init cX9_init 2 none ∈ WS := ws_in (tk_1 (List.mem_of_getElem? (i := 39) rfl)) rfl
theorem w_38 : Cond.instanceMethod yX9_init ∈ WS := ws_in (tk_1 (List.mem_of_getElem? (i := 38) rfl)) rfl
theorem w_37 : Cond.methodLink RX11 19 yX9_init ∈ WS := ws_in (tk_1 (List.mem_of_getElem? (i := 37) rfl)) rfl
theorem l_RX11_19 : JLnk RX11 19 yX9_init cX9_init 2 none 1 := ⟨w_37, w_39, w_2, by decide +kernel⟩
theorem w_99 : Cond.classLink RX11 26 RX10 ∈ WS := ws_in (tk_1 (List.mem_of_getElem? (i := 99) rfl)) rfl
theorem w_100 : Cond.instantiable RX10 5 ∈ WS := ws_in (tk_1 (List.mem_of_getElem? (i := 100) rfl)) rfl
theorem w_104 : Cond.methodLink RX10 1 objectInit ∈ WS := ws_in (tk_1 (List.mem_of_getElem? (i := 104) rfl)) rfl
theorem w_105 : Cond.classLink RX10 7 RX3 ∈ WS := ws_in (tk_1 (List.mem_of_getElem? (i := 105) rfl)) rfl
theorem w_106 : Cond.instantiable RX3 13 ∈ WS := ws_in (tk_1 (List.mem_of_getElem? (i := 106) rfl)) rfl
theorem w_110 : Cond.methodLink RX3 5 objectInit ∈ WS := ws_in (tk_1 (List.mem_of_getElem? (i := 110) rfl)) rfl
theorem w_191 : Cond.arrayClass .long ∈ WS := ws_in (tk_1 (List.mem_of_getElem? (i := 191) rfl)) rfl
theorem w_192 : Cond.arrayClass .int ∈ WS := ws_in (tk_1 (List.mem_of_getElem? (i := 192) rfl)) rfl
theorem w_109 : Cond.code yX3_init cX3_init 1 none ∈ WS := ws_in (tk_1 (List.mem_of_getElem? (i := 109) rfl)) rfl
theorem w_108 : Cond.instanceMethod yX3_init ∈ WS := ws_in (tk_1 (List.mem_of_getElem? (i := 108) rfl)) rfl
theorem w_107 : Cond.methodLink RX10 9 yX3_init ∈ WS := ws_in (tk_1 (List.mem_of_getElem? (i := 107) rfl)) rfl
theorem l_RX10_9 : JLnk RX10 9 yX3_init cX3_init 1 none 0 := ⟨w_107, w_109, w_4, by decide +kernel⟩
theorem w_193 : Cond.classLink RX10 16 RX7 ∈ WS := ws_in (tk_1 (List.mem_of_getElem? (i := 193) rfl)) rfl
theorem w_194 : Cond.instantiable RX7 8 ∈ WS := ws_in (tk_1 (List.mem_of_getElem? (i := 194) rfl)) rfl
theorem w_198 : Cond.methodLink RX7 3 objectInit ∈ WS := ws_in (tk_1 (List.mem_of_getElem? (i := 198) rfl)) rfl
theorem w_197 : Cond.code yX7_init cX7_init 2 none ∈ WS := ws_in (tk_1 (List.mem_of_getElem? (i := 197) rfl)) rfl
theorem w_196 : Cond.instanceMethod yX7_init ∈ WS := ws_in (tk_1 (List.mem_of_getElem? (i := 196) rfl)) rfl
theorem w_195 : Cond.methodLink RX10 18 yX7_init ∈ WS := ws_in (tk_1 (List.mem_of_getElem? (i := 195) rfl)) rfl
theorem l_RX10_18 : JLnk RX10 18 yX7_init cX7_init 2 none 1 := ⟨w_195, w_197, w_5, by decide +kernel⟩
theorem w_242 : Cond.classLink RX10 25 RX5 ∈ WS := ws_in (tk_2 (List.mem_of_getElem? (i := 2) rfl)) rfl
theorem w_243 : Cond.instantiable RX5 5 ∈ WS := ws_in (tk_2 (List.mem_of_getElem? (i := 3) rfl)) rfl
theorem w_247 : Cond.methodLink RX5 5 objectInit ∈ WS := ws_in (tk_2 (List.mem_of_getElem? (i := 7) rfl)) rfl
theorem w_246 : Cond.code yX5_init cX5_init 1 none ∈ WS := ws_in (tk_2 (List.mem_of_getElem? (i := 6) rfl)) rfl
theorem w_245 : Cond.instanceMethod yX5_init ∈ WS := ws_in (tk_2 (List.mem_of_getElem? (i := 5) rfl)) rfl
theorem w_267 : Cond.classLink RX10 32 RX8 ∈ WS := ws_in (tk_2 (List.mem_of_getElem? (i := 27) rfl)) rfl
theorem w_268 : Cond.instantiable RX8 6 ∈ WS := ws_in (tk_2 (List.mem_of_getElem? (i := 28) rfl)) rfl
theorem w_272 : Cond.methodLink RX8 5 objectInit ∈ WS := ws_in (tk_2 (List.mem_of_getElem? (i := 32) rfl)) rfl
theorem w_271 : Cond.code yX8_init cX8_init 1 none ∈ WS := ws_in (tk_2 (List.mem_of_getElem? (i := 31) rfl)) rfl
theorem w_270 : Cond.instanceMethod yX8_init ∈ WS := ws_in (tk_2 (List.mem_of_getElem? (i := 30) rfl)) rfl
theorem w_301 : Cond.fieldLink RX10 39 "WidowRow$World" "kept" "Z" ∈ WS := ws_in (tk_2 (List.mem_of_getElem? (i := 61) rfl)) rfl
theorem g_RX10_39 : JFld RX10 39 10 4 3 false := ⟨RX10, TX10, 5, _, jc_10, by decide, w_301, rfl, rfl⟩
theorem w_103 : Cond.code yX10_init cX10_init 1 none ∈ WS := ws_in (tk_1 (List.mem_of_getElem? (i := 103) rfl)) rfl
theorem w_102 : Cond.instanceMethod yX10_init ∈ WS := ws_in (tk_1 (List.mem_of_getElem? (i := 102) rfl)) rfl
theorem w_314 : Cond.classLink RX11 42 RX7 ∈ WS := ws_in (tk_2 (List.mem_of_getElem? (i := 74) rfl)) rfl
theorem w_316 : Cond.methodLink RX11 58 yX7_init ∈ WS := ws_in (tk_2 (List.mem_of_getElem? (i := 76) rfl)) rfl
theorem l_RX11_58 : JLnk RX11 58 yX7_init cX7_init 2 none 1 := ⟨w_316, w_197, w_5, by decide +kernel⟩
theorem w_317 : Cond.constant RX11 65 32768 ∈ WS := ws_in (tk_2 (List.mem_of_getElem? (i := 77) rfl)) rfl
theorem w_502 : Cond.fieldLink RX11 66 "WidowRow" "table" "[J" ∈ WS := ws_in (tk_3 (List.mem_of_getElem? (i := 22) rfl)) rfl
theorem g_RX11_66 : JFld RX11 66 11 11 2 true := ⟨RX11, TX11, 19, _, jc_11, by decide, w_502, rfl, rfl⟩
theorem w_318 : Cond.classLink RX11 70 RX0 ∈ WS := ws_in (tk_2 (List.mem_of_getElem? (i := 78) rfl)) rfl
theorem w_319 : Cond.instantiable RX0 7 ∈ WS := ws_in (tk_2 (List.mem_of_getElem? (i := 79) rfl)) rfl
theorem w_323 : Cond.methodLink RX0 5 objectInit ∈ WS := ws_in (tk_2 (List.mem_of_getElem? (i := 83) rfl)) rfl
theorem w_199 : Cond.fieldLink RX0 29 "WidowRow$Row" "island" "LWidowRow$Island;" ∈ WS := ws_in (tk_1 (List.mem_of_getElem? (i := 199) rfl)) rfl
theorem g_RX0_29 : JFld RX0 29 7 0 2 true := ⟨RX7, TX7, 8, _, jc_7, by decide, w_199, rfl, rfl⟩
theorem w_322 : Cond.code yX0_init cX0_init 3 none ∈ WS := ws_in (tk_2 (List.mem_of_getElem? (i := 82) rfl)) rfl
theorem w_321 : Cond.instanceMethod yX0_init ∈ WS := ws_in (tk_2 (List.mem_of_getElem? (i := 81) rfl)) rfl
theorem w_320 : Cond.methodLink RX11 75 yX0_init ∈ WS := ws_in (tk_2 (List.mem_of_getElem? (i := 80) rfl)) rfl
theorem l_RX11_75 : JLnk RX11 75 yX0_init cX0_init 3 none 2 := ⟨w_320, w_322, w_8, by decide +kernel⟩
theorem w_348 : Cond.classLink RX11 82 RX6 ∈ WS := ws_in (tk_2 (List.mem_of_getElem? (i := 108) rfl)) rfl
theorem w_349 : Cond.instantiable RX6 13 ∈ WS := ws_in (tk_2 (List.mem_of_getElem? (i := 109) rfl)) rfl
theorem w_353 : Cond.methodLink RX6 5 objectInit ∈ WS := ws_in (tk_2 (List.mem_of_getElem? (i := 113) rfl)) rfl
theorem w_202 : Cond.fieldLink RX6 48 "WidowRow$Row" "island" "LWidowRow$Island;" ∈ WS := ws_in (tk_1 (List.mem_of_getElem? (i := 202) rfl)) rfl
theorem g_RX6_48 : JFld RX6 48 7 0 2 true := ⟨RX7, TX7, 8, _, jc_7, by decide, w_202, rfl, rfl⟩
theorem w_352 : Cond.code yX6_init cX6_init 3 none ∈ WS := ws_in (tk_2 (List.mem_of_getElem? (i := 112) rfl)) rfl
theorem w_351 : Cond.instanceMethod yX6_init ∈ WS := ws_in (tk_2 (List.mem_of_getElem? (i := 111) rfl)) rfl
theorem w_350 : Cond.methodLink RX11 84 yX6_init ∈ WS := ws_in (tk_2 (List.mem_of_getElem? (i := 110) rfl)) rfl
theorem l_RX11_84 : JLnk RX11 84 yX6_init cX6_init 3 none 2 := ⟨w_350, w_352, w_9, by decide +kernel⟩
theorem w_396 : Cond.classLink RX11 89 RX4 ∈ WS := ws_in (tk_2 (List.mem_of_getElem? (i := 156) rfl)) rfl
theorem w_397 : Cond.instantiable RX4 8 ∈ WS := ws_in (tk_2 (List.mem_of_getElem? (i := 157) rfl)) rfl
theorem w_401 : Cond.methodLink RX4 5 objectInit ∈ WS := ws_in (tk_2 (List.mem_of_getElem? (i := 161) rfl)) rfl
theorem w_200 : Cond.fieldLink RX4 32 "WidowRow$Row" "island" "LWidowRow$Island;" ∈ WS := ws_in (tk_1 (List.mem_of_getElem? (i := 200) rfl)) rfl
theorem g_RX4_32 : JFld RX4 32 7 0 2 true := ⟨RX7, TX7, 8, _, jc_7, by decide, w_200, rfl, rfl⟩
theorem w_400 : Cond.code yX4_init cX4_init 3 none ∈ WS := ws_in (tk_2 (List.mem_of_getElem? (i := 160) rfl)) rfl
theorem w_399 : Cond.instanceMethod yX4_init ∈ WS := ws_in (tk_2 (List.mem_of_getElem? (i := 159) rfl)) rfl
theorem w_398 : Cond.methodLink RX11 91 yX4_init ∈ WS := ws_in (tk_2 (List.mem_of_getElem? (i := 158) rfl)) rfl
theorem l_RX11_91 : JLnk RX11 91 yX4_init cX4_init 3 none 2 := ⟨w_398, w_400, w_10, by decide +kernel⟩
theorem w_428 : Cond.classLink RX11 96 RX2 ∈ WS := ws_in (tk_2 (List.mem_of_getElem? (i := 188) rfl)) rfl
theorem w_429 : Cond.instantiable RX2 8 ∈ WS := ws_in (tk_2 (List.mem_of_getElem? (i := 189) rfl)) rfl
theorem w_433 : Cond.methodLink RX2 3 objectInit ∈ WS := ws_in (tk_2 (List.mem_of_getElem? (i := 193) rfl)) rfl
theorem w_432 : Cond.code yX2_init cX2_init 4 none ∈ WS := ws_in (tk_2 (List.mem_of_getElem? (i := 192) rfl)) rfl
theorem w_431 : Cond.instanceMethod yX2_init ∈ WS := ws_in (tk_2 (List.mem_of_getElem? (i := 191) rfl)) rfl
theorem w_430 : Cond.methodLink RX11 102 yX2_init ∈ WS := ws_in (tk_2 (List.mem_of_getElem? (i := 190) rfl)) rfl
theorem l_RX11_102 : JLnk RX11 102 yX2_init cX2_init 4 none 3 := ⟨w_430, w_432, w_11, by decide +kernel⟩
theorem w_459 : Cond.classLink RX11 109 RX1 ∈ WS := ws_in (tk_2 (List.mem_of_getElem? (i := 219) rfl)) rfl
theorem w_460 : Cond.instantiable RX1 7 ∈ WS := ws_in (tk_2 (List.mem_of_getElem? (i := 220) rfl)) rfl
theorem w_464 : Cond.methodLink RX1 3 objectInit ∈ WS := ws_in (tk_2 (List.mem_of_getElem? (i := 224) rfl)) rfl
theorem w_463 : Cond.code yX1_init cX1_init 2 none ∈ WS := ws_in (tk_2 (List.mem_of_getElem? (i := 223) rfl)) rfl
theorem w_462 : Cond.instanceMethod yX1_init ∈ WS := ws_in (tk_2 (List.mem_of_getElem? (i := 222) rfl)) rfl
theorem w_461 : Cond.methodLink RX11 111 yX1_init ∈ WS := ws_in (tk_2 (List.mem_of_getElem? (i := 221) rfl)) rfl
theorem l_RX11_111 : JLnk RX11 111 yX1_init cX1_init 2 none 1 := ⟨w_461, w_463, w_12, by decide +kernel⟩
theorem w_1480 : Cond.methodLink RX12 1 objectInit ∈ WS := ws_in (tk_7 (List.mem_of_getElem? (i := 40) rfl)) rfl
theorem w_1640 : Cond.arrayClass .boolean ∈ WS := ws_in (tk_7 (List.mem_of_getElem? (i := 200) rfl)) rfl
theorem w_1481 : Cond.constant RX12 51 495616 ∈ WS := ws_in (tk_7 (List.mem_of_getElem? (i := 41) rfl)) rfl
theorem w_1482 : Cond.constant RX12 71 32768 ∈ WS := ws_in (tk_7 (List.mem_of_getElem? (i := 42) rfl)) rfl
theorem df_0 : ∀ j, j < 7 → defaultValue (tyX0 j) = dV 0 j := fun j hj => match j, hj with
  | 0, _ => rfl
  | 1, _ => rfl
  | 2, _ => rfl
  | 3, _ => rfl
  | 4, _ => rfl
  | 5, _ => rfl
  | 6, _ => rfl
  | (i + 7), h => absurd h (by omega)
theorem df_1 : ∀ j, j < 7 → defaultValue (tyX1 j) = dV 1 j := fun j hj => match j, hj with
  | 0, _ => rfl
  | 1, _ => rfl
  | 2, _ => rfl
  | 3, _ => rfl
  | 4, _ => rfl
  | 5, _ => rfl
  | 6, _ => rfl
  | (i + 7), h => absurd h (by omega)
theorem df_2 : ∀ j, j < 8 → defaultValue (tyX2 j) = dV 2 j := fun j hj => match j, hj with
  | 0, _ => rfl
  | 1, _ => rfl
  | 2, _ => rfl
  | 3, _ => rfl
  | 4, _ => rfl
  | 5, _ => rfl
  | 6, _ => rfl
  | 7, _ => rfl
  | (i + 8), h => absurd h (by omega)
theorem df_3 : ∀ j, j < 13 → defaultValue (tyX3 j) = dV 3 j := fun j hj => match j, hj with
  | 0, _ => rfl
  | 1, _ => rfl
  | 2, _ => rfl
  | 3, _ => rfl
  | 4, _ => rfl
  | 5, _ => rfl
  | 6, _ => rfl
  | 7, _ => rfl
  | 8, _ => rfl
  | 9, _ => rfl
  | 10, _ => rfl
  | 11, _ => rfl
  | 12, _ => rfl
  | (i + 13), h => absurd h (by omega)
theorem df_4 : ∀ j, j < 8 → defaultValue (tyX4 j) = dV 4 j := fun j hj => match j, hj with
  | 0, _ => rfl
  | 1, _ => rfl
  | 2, _ => rfl
  | 3, _ => rfl
  | 4, _ => rfl
  | 5, _ => rfl
  | 6, _ => rfl
  | 7, _ => rfl
  | (i + 8), h => absurd h (by omega)
theorem df_5 : ∀ j, j < 5 → defaultValue (tyX5 j) = dV 5 j := fun j hj => match j, hj with
  | 0, _ => rfl
  | 1, _ => rfl
  | 2, _ => rfl
  | 3, _ => rfl
  | 4, _ => rfl
  | (i + 5), h => absurd h (by omega)
theorem df_6 : ∀ j, j < 13 → defaultValue (tyX6 j) = dV 6 j := fun j hj => match j, hj with
  | 0, _ => rfl
  | 1, _ => rfl
  | 2, _ => rfl
  | 3, _ => rfl
  | 4, _ => rfl
  | 5, _ => rfl
  | 6, _ => rfl
  | 7, _ => rfl
  | 8, _ => rfl
  | 9, _ => rfl
  | 10, _ => rfl
  | 11, _ => rfl
  | 12, _ => rfl
  | (i + 13), h => absurd h (by omega)
theorem df_7 : ∀ j, j < 8 → defaultValue (tyX7 j) = dV 7 j := fun j hj => match j, hj with
  | 0, _ => rfl
  | 1, _ => rfl
  | 2, _ => rfl
  | 3, _ => rfl
  | 4, _ => rfl
  | 5, _ => rfl
  | 6, _ => rfl
  | 7, _ => rfl
  | (i + 8), h => absurd h (by omega)
theorem df_8 : ∀ j, j < 6 → defaultValue (tyX8 j) = dV 8 j := fun j hj => match j, hj with
  | 0, _ => rfl
  | 1, _ => rfl
  | 2, _ => rfl
  | 3, _ => rfl
  | 4, _ => rfl
  | 5, _ => rfl
  | (i + 6), h => absurd h (by omega)
theorem df_9 : ∀ j, j < 14 → defaultValue (tyX9 j) = dV 9 j := fun j hj => match j, hj with
  | 0, _ => rfl
  | 1, _ => rfl
  | 2, _ => rfl
  | 3, _ => rfl
  | 4, _ => rfl
  | 5, _ => rfl
  | 6, _ => rfl
  | 7, _ => rfl
  | 8, _ => rfl
  | 9, _ => rfl
  | 10, _ => rfl
  | 11, _ => rfl
  | 12, _ => rfl
  | 13, _ => rfl
  | (i + 14), h => absurd h (by omega)
theorem df_10 : ∀ j, j < 5 → defaultValue (tyX10 j) = dV 10 j := fun j hj => match j, hj with
  | 0, _ => rfl
  | 1, _ => rfl
  | 2, _ => rfl
  | 3, _ => rfl
  | 4, _ => rfl
  | (i + 5), h => absurd h (by omega)
theorem fit_4 : f_Isl_findFitting 64 4 (sst 1) = some (sst 8) := fit_gen (p := 4) (c := 1) (by decide +kernel) (by decide +kernel) (by decide +kernel)
theorem fit_27 : f_Isl_findFitting 64 27 (sst 9) = some (sst 16) := fit_gen (p := 27) (c := 9) (by decide +kernel) (by decide +kernel) (by decide +kernel)
theorem fit_50 : f_Isl_findFitting 64 50 (sst 17) = some (sst 24) := fit_gen (p := 50) (c := 17) (by decide +kernel) (by decide +kernel) (by decide +kernel)
theorem fit_73 : f_Isl_findFitting 64 73 (sst 25) = some (sst 32) := fit_gen (p := 73) (c := 25) (by decide +kernel) (by decide +kernel) (by decide +kernel)
theorem dX0_init_0 : decode cX0_init 0 = .ok (.aload_n 0, 1) := by decide +kernel
theorem dX0_init_1 : decode cX0_init 1 = .ok (.invokespecial 5, 3) := by decide +kernel
theorem dX0_init_4 : decode cX0_init 4 = .ok (.aload_n 0, 1) := by decide +kernel
theorem dX0_init_5 : decode cX0_init 5 = .ok (.bipush 12, 2) := by decide +kernel
theorem dX0_init_7 : decode cX0_init 7 = .ok (.newarray .int, 2) := by decide +kernel
theorem dX0_init_9 : decode cX0_init 9 = .ok (.putfield 11, 3) := by decide +kernel
theorem dX0_init_12 : decode cX0_init 12 = .ok (.aload_n 0, 1) := by decide +kernel
theorem dX0_init_13 : decode cX0_init 13 = .ok (.iconst 0, 1) := by decide +kernel
theorem dX0_init_14 : decode cX0_init 14 = .ok (.putfield 15, 3) := by decide +kernel
theorem dX0_init_17 : decode cX0_init 17 = .ok (.aload_n 0, 1) := by decide +kernel
theorem dX0_init_18 : decode cX0_init 18 = .ok (.bipush 12, 2) := by decide +kernel
theorem dX0_init_20 : decode cX0_init 20 = .ok (.newarray .int, 2) := by decide +kernel
theorem dX0_init_22 : decode cX0_init 22 = .ok (.putfield 19, 3) := by decide +kernel
theorem dX0_init_25 : decode cX0_init 25 = .ok (.aload_n 0, 1) := by decide +kernel
theorem dX0_init_26 : decode cX0_init 26 = .ok (.iconst 0, 1) := by decide +kernel
theorem dX0_init_27 : decode cX0_init 27 = .ok (.putfield 22, 3) := by decide +kernel
theorem dX0_init_30 : decode cX0_init 30 = .ok (.aload_n 0, 1) := by decide +kernel
theorem dX0_init_31 : decode cX0_init 31 = .ok (.aload_n 1, 1) := by decide +kernel
theorem dX0_init_32 : decode cX0_init 32 = .ok (.putfield 25, 3) := by decide +kernel
theorem dX0_init_35 : decode cX0_init 35 = .ok (.aload_n 0, 1) := by decide +kernel
theorem dX0_init_36 : decode cX0_init 36 = .ok (.aload_n 1, 1) := by decide +kernel
theorem dX0_init_37 : decode cX0_init 37 = .ok (.getfield 29, 3) := by decide +kernel
theorem dX0_init_40 : decode cX0_init 40 = .ok (.putfield 35, 3) := by decide +kernel
theorem dX0_init_43 : decode cX0_init 43 = .ok (.aload_n 0, 1) := by decide +kernel
theorem dX0_init_44 : decode cX0_init 44 = .ok (.aload_n 2, 1) := by decide +kernel
theorem dX0_init_45 : decode cX0_init 45 = .ok (.putfield 36, 3) := by decide +kernel
theorem dX0_init_48 : decode cX0_init 48 = .ok (.return_, 1) := by decide +kernel
theorem dX1_init_0 : decode cX1_init 0 = .ok (.aload_n 0, 1) := by decide +kernel
theorem dX1_init_1 : decode cX1_init 1 = .ok (.invokespecial 3, 3) := by decide +kernel
theorem dX1_init_4 : decode cX1_init 4 = .ok (.aload_n 0, 1) := by decide +kernel
theorem dX1_init_5 : decode cX1_init 5 = .ok (.iconst 0, 1) := by decide +kernel
theorem dX1_init_6 : decode cX1_init 6 = .ok (.putfield 9, 3) := by decide +kernel
theorem dX1_init_9 : decode cX1_init 9 = .ok (.aload_n 0, 1) := by decide +kernel
theorem dX1_init_10 : decode cX1_init 10 = .ok (.iconst 0, 1) := by decide +kernel
theorem dX1_init_11 : decode cX1_init 11 = .ok (.putfield 15, 3) := by decide +kernel
theorem dX1_init_14 : decode cX1_init 14 = .ok (.aload_n 0, 1) := by decide +kernel
theorem dX1_init_15 : decode cX1_init 15 = .ok (.iconst 0, 1) := by decide +kernel
theorem dX1_init_16 : decode cX1_init 16 = .ok (.putfield 19, 3) := by decide +kernel
theorem dX1_init_19 : decode cX1_init 19 = .ok (.aload_n 0, 1) := by decide +kernel
theorem dX1_init_20 : decode cX1_init 20 = .ok (.iconst 0, 1) := by decide +kernel
theorem dX1_init_21 : decode cX1_init 21 = .ok (.putfield 22, 3) := by decide +kernel
theorem dX1_init_24 : decode cX1_init 24 = .ok (.aload_n 0, 1) := by decide +kernel
theorem dX1_init_25 : decode cX1_init 25 = .ok (.iconst 0, 1) := by decide +kernel
theorem dX1_init_26 : decode cX1_init 26 = .ok (.putfield 25, 3) := by decide +kernel
theorem dX1_init_29 : decode cX1_init 29 = .ok (.aload_n 0, 1) := by decide +kernel
theorem dX1_init_30 : decode cX1_init 30 = .ok (.iconst 0, 1) := by decide +kernel
theorem dX1_init_31 : decode cX1_init 31 = .ok (.putfield 28, 3) := by decide +kernel
theorem dX1_init_34 : decode cX1_init 34 = .ok (.aload_n 0, 1) := by decide +kernel
theorem dX1_init_35 : decode cX1_init 35 = .ok (.aload_n 1, 1) := by decide +kernel
theorem dX1_init_36 : decode cX1_init 36 = .ok (.putfield 31, 3) := by decide +kernel
theorem dX1_init_39 : decode cX1_init 39 = .ok (.return_, 1) := by decide +kernel
theorem dX2_init_0 : decode cX2_init 0 = .ok (.aload_n 0, 1) := by decide +kernel
theorem dX2_init_1 : decode cX2_init 1 = .ok (.invokespecial 3, 3) := by decide +kernel
theorem dX2_init_4 : decode cX2_init 4 = .ok (.aload_n 0, 1) := by decide +kernel
theorem dX2_init_5 : decode cX2_init 5 = .ok (.bipush 28, 2) := by decide +kernel
theorem dX2_init_7 : decode cX2_init 7 = .ok (.newarray .int, 2) := by decide +kernel
theorem dX2_init_9 : decode cX2_init 9 = .ok (.putfield 9, 3) := by decide +kernel
theorem dX2_init_12 : decode cX2_init 12 = .ok (.aload_n 0, 1) := by decide +kernel
theorem dX2_init_13 : decode cX2_init 13 = .ok (.bipush 28, 2) := by decide +kernel
theorem dX2_init_15 : decode cX2_init 15 = .ok (.newarray .int, 2) := by decide +kernel
theorem dX2_init_17 : decode cX2_init 17 = .ok (.putfield 15, 3) := by decide +kernel
theorem dX2_init_20 : decode cX2_init 20 = .ok (.aload_n 0, 1) := by decide +kernel
theorem dX2_init_21 : decode cX2_init 21 = .ok (.iconst 0, 1) := by decide +kernel
theorem dX2_init_22 : decode cX2_init 22 = .ok (.putfield 18, 3) := by decide +kernel
theorem dX2_init_25 : decode cX2_init 25 = .ok (.aload_n 0, 1) := by decide +kernel
theorem dX2_init_26 : decode cX2_init 26 = .ok (.bipush 6, 2) := by decide +kernel
theorem dX2_init_28 : decode cX2_init 28 = .ok (.newarray .int, 2) := by decide +kernel
theorem dX2_init_30 : decode cX2_init 30 = .ok (.putfield 22, 3) := by decide +kernel
theorem dX2_init_33 : decode cX2_init 33 = .ok (.aload_n 0, 1) := by decide +kernel
theorem dX2_init_34 : decode cX2_init 34 = .ok (.bipush 6, 2) := by decide +kernel
theorem dX2_init_36 : decode cX2_init 36 = .ok (.newarray .int, 2) := by decide +kernel
theorem dX2_init_38 : decode cX2_init 38 = .ok (.putfield 25, 3) := by decide +kernel
theorem dX2_init_41 : decode cX2_init 41 = .ok (.aload_n 0, 1) := by decide +kernel
theorem dX2_init_42 : decode cX2_init 42 = .ok (.aload_n 1, 1) := by decide +kernel
theorem dX2_init_43 : decode cX2_init 43 = .ok (.putfield 28, 3) := by decide +kernel
theorem dX2_init_46 : decode cX2_init 46 = .ok (.aload_n 0, 1) := by decide +kernel
theorem dX2_init_47 : decode cX2_init 47 = .ok (.aload_n 2, 1) := by decide +kernel
theorem dX2_init_48 : decode cX2_init 48 = .ok (.putfield 32, 3) := by decide +kernel
theorem dX2_init_51 : decode cX2_init 51 = .ok (.aload_n 0, 1) := by decide +kernel
theorem dX2_init_52 : decode cX2_init 52 = .ok (.aload_n 3, 1) := by decide +kernel
theorem dX2_init_53 : decode cX2_init 53 = .ok (.putfield 36, 3) := by decide +kernel
theorem dX2_init_56 : decode cX2_init 56 = .ok (.return_, 1) := by decide +kernel
theorem dX3_init_0 : decode cX3_init 0 = .ok (.aload_n 0, 1) := by decide +kernel
theorem dX3_init_1 : decode cX3_init 1 = .ok (.invokespecial 5, 3) := by decide +kernel
theorem dX3_init_4 : decode cX3_init 4 = .ok (.aload_n 0, 1) := by decide +kernel
theorem dX3_init_5 : decode cX3_init 5 = .ok (.iconst 0, 1) := by decide +kernel
theorem dX3_init_6 : decode cX3_init 6 = .ok (.putfield 11, 3) := by decide +kernel
theorem dX3_init_9 : decode cX3_init 9 = .ok (.aload_n 0, 1) := by decide +kernel
theorem dX3_init_10 : decode cX3_init 10 = .ok (.iconst 0, 1) := by decide +kernel
theorem dX3_init_11 : decode cX3_init 11 = .ok (.putfield 15, 3) := by decide +kernel
theorem dX3_init_14 : decode cX3_init 14 = .ok (.aload_n 0, 1) := by decide +kernel
theorem dX3_init_15 : decode cX3_init 15 = .ok (.iconst 0, 1) := by decide +kernel
theorem dX3_init_16 : decode cX3_init 16 = .ok (.putfield 18, 3) := by decide +kernel
theorem dX3_init_19 : decode cX3_init 19 = .ok (.aload_n 0, 1) := by decide +kernel
theorem dX3_init_20 : decode cX3_init 20 = .ok (.iconst 0, 1) := by decide +kernel
theorem dX3_init_21 : decode cX3_init 21 = .ok (.putfield 21, 3) := by decide +kernel
theorem dX3_init_24 : decode cX3_init 24 = .ok (.aload_n 0, 1) := by decide +kernel
theorem dX3_init_25 : decode cX3_init 25 = .ok (.iconst 0, 1) := by decide +kernel
theorem dX3_init_26 : decode cX3_init 26 = .ok (.putfield 24, 3) := by decide +kernel
theorem dX3_init_29 : decode cX3_init 29 = .ok (.aload_n 0, 1) := by decide +kernel
theorem dX3_init_30 : decode cX3_init 30 = .ok (.iconst 5, 1) := by decide +kernel
theorem dX3_init_31 : decode cX3_init 31 = .ok (.putfield 27, 3) := by decide +kernel
theorem dX3_init_34 : decode cX3_init 34 = .ok (.aload_n 0, 1) := by decide +kernel
theorem dX3_init_35 : decode cX3_init 35 = .ok (.iconst 0, 1) := by decide +kernel
theorem dX3_init_36 : decode cX3_init 36 = .ok (.putfield 30, 3) := by decide +kernel
theorem dX3_init_39 : decode cX3_init 39 = .ok (.aload_n 0, 1) := by decide +kernel
theorem dX3_init_40 : decode cX3_init 40 = .ok (.bipush 6, 2) := by decide +kernel
theorem dX3_init_42 : decode cX3_init 42 = .ok (.newarray .long, 2) := by decide +kernel
theorem dX3_init_44 : decode cX3_init 44 = .ok (.putfield 34, 3) := by decide +kernel
theorem dX3_init_47 : decode cX3_init 47 = .ok (.aload_n 0, 1) := by decide +kernel
theorem dX3_init_48 : decode cX3_init 48 = .ok (.bipush 28, 2) := by decide +kernel
theorem dX3_init_50 : decode cX3_init 50 = .ok (.newarray .int, 2) := by decide +kernel
theorem dX3_init_52 : decode cX3_init 52 = .ok (.putfield 38, 3) := by decide +kernel
theorem dX3_init_55 : decode cX3_init 55 = .ok (.aload_n 0, 1) := by decide +kernel
theorem dX3_init_56 : decode cX3_init 56 = .ok (.bipush 28, 2) := by decide +kernel
theorem dX3_init_58 : decode cX3_init 58 = .ok (.newarray .int, 2) := by decide +kernel
theorem dX3_init_60 : decode cX3_init 60 = .ok (.putfield 42, 3) := by decide +kernel
theorem dX3_init_63 : decode cX3_init 63 = .ok (.aload_n 0, 1) := by decide +kernel
theorem dX3_init_64 : decode cX3_init 64 = .ok (.bipush 28, 2) := by decide +kernel
theorem dX3_init_66 : decode cX3_init 66 = .ok (.newarray .int, 2) := by decide +kernel
theorem dX3_init_68 : decode cX3_init 68 = .ok (.putfield 45, 3) := by decide +kernel
theorem dX3_init_71 : decode cX3_init 71 = .ok (.aload_n 0, 1) := by decide +kernel
theorem dX3_init_72 : decode cX3_init 72 = .ok (.bipush 7, 2) := by decide +kernel
theorem dX3_init_74 : decode cX3_init 74 = .ok (.newarray .int, 2) := by decide +kernel
theorem dX3_init_76 : decode cX3_init 76 = .ok (.putfield 48, 3) := by decide +kernel
theorem dX3_init_79 : decode cX3_init 79 = .ok (.aload_n 0, 1) := by decide +kernel
theorem dX3_init_80 : decode cX3_init 80 = .ok (.bipush 7, 2) := by decide +kernel
theorem dX3_init_82 : decode cX3_init 82 = .ok (.newarray .int, 2) := by decide +kernel
theorem dX3_init_84 : decode cX3_init 84 = .ok (.putfield 51, 3) := by decide +kernel
theorem dX3_init_87 : decode cX3_init 87 = .ok (.aload_n 0, 1) := by decide +kernel
theorem dX3_init_88 : decode cX3_init 88 = .ok (.invokevirtual 54, 3) := by decide +kernel
theorem dX3_init_91 : decode cX3_init 91 = .ok (.return_, 1) := by decide +kernel
theorem dX4_init_0 : decode cX4_init 0 = .ok (.aload_n 0, 1) := by decide +kernel
theorem dX4_init_1 : decode cX4_init 1 = .ok (.invokespecial 5, 3) := by decide +kernel
theorem dX4_init_4 : decode cX4_init 4 = .ok (.aload_n 0, 1) := by decide +kernel
theorem dX4_init_5 : decode cX4_init 5 = .ok (.bipush 10, 2) := by decide +kernel
theorem dX4_init_7 : decode cX4_init 7 = .ok (.newarray .int, 2) := by decide +kernel
theorem dX4_init_9 : decode cX4_init 9 = .ok (.putfield 11, 3) := by decide +kernel
theorem dX4_init_12 : decode cX4_init 12 = .ok (.aload_n 0, 1) := by decide +kernel
theorem dX4_init_13 : decode cX4_init 13 = .ok (.iconst 0, 1) := by decide +kernel
theorem dX4_init_14 : decode cX4_init 14 = .ok (.putfield 15, 3) := by decide +kernel
theorem dX4_init_17 : decode cX4_init 17 = .ok (.aload_n 0, 1) := by decide +kernel
theorem dX4_init_18 : decode cX4_init 18 = .ok (.iconst 0, 1) := by decide +kernel
theorem dX4_init_19 : decode cX4_init 19 = .ok (.putfield 19, 3) := by decide +kernel
theorem dX4_init_22 : decode cX4_init 22 = .ok (.aload_n 0, 1) := by decide +kernel
theorem dX4_init_23 : decode cX4_init 23 = .ok (.iconst 0, 1) := by decide +kernel
theorem dX4_init_24 : decode cX4_init 24 = .ok (.putfield 22, 3) := by decide +kernel
theorem dX4_init_27 : decode cX4_init 27 = .ok (.aload_n 0, 1) := by decide +kernel
theorem dX4_init_28 : decode cX4_init 28 = .ok (.iconst (-1), 1) := by decide +kernel
theorem dX4_init_29 : decode cX4_init 29 = .ok (.putfield 25, 3) := by decide +kernel
theorem dX4_init_32 : decode cX4_init 32 = .ok (.aload_n 0, 1) := by decide +kernel
theorem dX4_init_33 : decode cX4_init 33 = .ok (.aload_n 1, 1) := by decide +kernel
theorem dX4_init_34 : decode cX4_init 34 = .ok (.putfield 28, 3) := by decide +kernel
theorem dX4_init_37 : decode cX4_init 37 = .ok (.aload_n 0, 1) := by decide +kernel
theorem dX4_init_38 : decode cX4_init 38 = .ok (.aload_n 1, 1) := by decide +kernel
theorem dX4_init_39 : decode cX4_init 39 = .ok (.getfield 32, 3) := by decide +kernel
theorem dX4_init_42 : decode cX4_init 42 = .ok (.putfield 38, 3) := by decide +kernel
theorem dX4_init_45 : decode cX4_init 45 = .ok (.aload_n 0, 1) := by decide +kernel
theorem dX4_init_46 : decode cX4_init 46 = .ok (.aload_n 2, 1) := by decide +kernel
theorem dX4_init_47 : decode cX4_init 47 = .ok (.putfield 39, 3) := by decide +kernel
theorem dX4_init_50 : decode cX4_init 50 = .ok (.return_, 1) := by decide +kernel
theorem dX5_init_0 : decode cX5_init 0 = .ok (.aload_n 0, 1) := by decide +kernel
theorem dX5_init_1 : decode cX5_init 1 = .ok (.invokespecial 5, 3) := by decide +kernel
theorem dX5_init_4 : decode cX5_init 4 = .ok (.aload_n 0, 1) := by decide +kernel
theorem dX5_init_5 : decode cX5_init 5 = .ok (.iconst 0, 1) := by decide +kernel
theorem dX5_init_6 : decode cX5_init 6 = .ok (.putfield 11, 3) := by decide +kernel
theorem dX5_init_9 : decode cX5_init 9 = .ok (.aload_n 0, 1) := by decide +kernel
theorem dX5_init_10 : decode cX5_init 10 = .ok (.iconst 0, 1) := by decide +kernel
theorem dX5_init_11 : decode cX5_init 11 = .ok (.putfield 15, 3) := by decide +kernel
theorem dX5_init_14 : decode cX5_init 14 = .ok (.aload_n 0, 1) := by decide +kernel
theorem dX5_init_15 : decode cX5_init 15 = .ok (.bipush 6, 2) := by decide +kernel
theorem dX5_init_17 : decode cX5_init 17 = .ok (.newarray .int, 2) := by decide +kernel
theorem dX5_init_19 : decode cX5_init 19 = .ok (.putfield 18, 3) := by decide +kernel
theorem dX5_init_22 : decode cX5_init 22 = .ok (.aload_n 0, 1) := by decide +kernel
theorem dX5_init_23 : decode cX5_init 23 = .ok (.iconst 0, 1) := by decide +kernel
theorem dX5_init_24 : decode cX5_init 24 = .ok (.putfield 22, 3) := by decide +kernel
theorem dX5_init_27 : decode cX5_init 27 = .ok (.aload_n 0, 1) := by decide +kernel
theorem dX5_init_28 : decode cX5_init 28 = .ok (.bipush 6, 2) := by decide +kernel
theorem dX5_init_30 : decode cX5_init 30 = .ok (.newarray .int, 2) := by decide +kernel
theorem dX5_init_32 : decode cX5_init 32 = .ok (.putfield 25, 3) := by decide +kernel
theorem dX5_init_35 : decode cX5_init 35 = .ok (.return_, 1) := by decide +kernel
theorem dX6_init_0 : decode cX6_init 0 = .ok (.aload_n 0, 1) := by decide +kernel
theorem dX6_init_1 : decode cX6_init 1 = .ok (.invokespecial 5, 3) := by decide +kernel
theorem dX6_init_4 : decode cX6_init 4 = .ok (.aload_n 0, 1) := by decide +kernel
theorem dX6_init_5 : decode cX6_init 5 = .ok (.bipush 10, 2) := by decide +kernel
theorem dX6_init_7 : decode cX6_init 7 = .ok (.newarray .int, 2) := by decide +kernel
theorem dX6_init_9 : decode cX6_init 9 = .ok (.putfield 11, 3) := by decide +kernel
theorem dX6_init_12 : decode cX6_init 12 = .ok (.aload_n 0, 1) := by decide +kernel
theorem dX6_init_13 : decode cX6_init 13 = .ok (.iconst 0, 1) := by decide +kernel
theorem dX6_init_14 : decode cX6_init 14 = .ok (.putfield 15, 3) := by decide +kernel
theorem dX6_init_17 : decode cX6_init 17 = .ok (.aload_n 0, 1) := by decide +kernel
theorem dX6_init_18 : decode cX6_init 18 = .ok (.bipush 6, 2) := by decide +kernel
theorem dX6_init_20 : decode cX6_init 20 = .ok (.newarray .int, 2) := by decide +kernel
theorem dX6_init_22 : decode cX6_init 22 = .ok (.putfield 19, 3) := by decide +kernel
theorem dX6_init_25 : decode cX6_init 25 = .ok (.aload_n 0, 1) := by decide +kernel
theorem dX6_init_26 : decode cX6_init 26 = .ok (.bipush 23, 2) := by decide +kernel
theorem dX6_init_28 : decode cX6_init 28 = .ok (.newarray .int, 2) := by decide +kernel
theorem dX6_init_30 : decode cX6_init 30 = .ok (.putfield 22, 3) := by decide +kernel
theorem dX6_init_33 : decode cX6_init 33 = .ok (.aload_n 0, 1) := by decide +kernel
theorem dX6_init_34 : decode cX6_init 34 = .ok (.bipush 23, 2) := by decide +kernel
theorem dX6_init_36 : decode cX6_init 36 = .ok (.newarray .int, 2) := by decide +kernel
theorem dX6_init_38 : decode cX6_init 38 = .ok (.putfield 25, 3) := by decide +kernel
theorem dX6_init_41 : decode cX6_init 41 = .ok (.aload_n 0, 1) := by decide +kernel
theorem dX6_init_42 : decode cX6_init 42 = .ok (.bipush 10, 2) := by decide +kernel
theorem dX6_init_44 : decode cX6_init 44 = .ok (.newarray .int, 2) := by decide +kernel
theorem dX6_init_46 : decode cX6_init 46 = .ok (.putfield 28, 3) := by decide +kernel
theorem dX6_init_49 : decode cX6_init 49 = .ok (.aload_n 0, 1) := by decide +kernel
theorem dX6_init_50 : decode cX6_init 50 = .ok (.iconst 0, 1) := by decide +kernel
theorem dX6_init_51 : decode cX6_init 51 = .ok (.putfield 31, 3) := by decide +kernel
theorem dX6_init_54 : decode cX6_init 54 = .ok (.aload_n 0, 1) := by decide +kernel
theorem dX6_init_55 : decode cX6_init 55 = .ok (.iconst 0, 1) := by decide +kernel
theorem dX6_init_56 : decode cX6_init 56 = .ok (.putfield 34, 3) := by decide +kernel
theorem dX6_init_59 : decode cX6_init 59 = .ok (.aload_n 0, 1) := by decide +kernel
theorem dX6_init_60 : decode cX6_init 60 = .ok (.bipush 10, 2) := by decide +kernel
theorem dX6_init_62 : decode cX6_init 62 = .ok (.newarray .int, 2) := by decide +kernel
theorem dX6_init_64 : decode cX6_init 64 = .ok (.putfield 38, 3) := by decide +kernel
theorem dX6_init_67 : decode cX6_init 67 = .ok (.aload_n 0, 1) := by decide +kernel
theorem dX6_init_68 : decode cX6_init 68 = .ok (.iconst 0, 1) := by decide +kernel
theorem dX6_init_69 : decode cX6_init 69 = .ok (.putfield 41, 3) := by decide +kernel
theorem dX6_init_72 : decode cX6_init 72 = .ok (.aload_n 0, 1) := by decide +kernel
theorem dX6_init_73 : decode cX6_init 73 = .ok (.aload_n 1, 1) := by decide +kernel
theorem dX6_init_74 : decode cX6_init 74 = .ok (.putfield 44, 3) := by decide +kernel
theorem dX6_init_77 : decode cX6_init 77 = .ok (.aload_n 0, 1) := by decide +kernel
theorem dX6_init_78 : decode cX6_init 78 = .ok (.aload_n 1, 1) := by decide +kernel
theorem dX6_init_79 : decode cX6_init 79 = .ok (.getfield 48, 3) := by decide +kernel
theorem dX6_init_82 : decode cX6_init 82 = .ok (.putfield 54, 3) := by decide +kernel
theorem dX6_init_85 : decode cX6_init 85 = .ok (.aload_n 0, 1) := by decide +kernel
theorem dX6_init_86 : decode cX6_init 86 = .ok (.aload_n 2, 1) := by decide +kernel
theorem dX6_init_87 : decode cX6_init 87 = .ok (.putfield 55, 3) := by decide +kernel
theorem dX6_init_90 : decode cX6_init 90 = .ok (.return_, 1) := by decide +kernel
theorem dX7_init_0 : decode cX7_init 0 = .ok (.aload_n 0, 1) := by decide +kernel
theorem dX7_init_1 : decode cX7_init 1 = .ok (.invokespecial 3, 3) := by decide +kernel
theorem dX7_init_4 : decode cX7_init 4 = .ok (.aload_n 0, 1) := by decide +kernel
theorem dX7_init_5 : decode cX7_init 5 = .ok (.bipush 28, 2) := by decide +kernel
theorem dX7_init_7 : decode cX7_init 7 = .ok (.newarray .int, 2) := by decide +kernel
theorem dX7_init_9 : decode cX7_init 9 = .ok (.putfield 9, 3) := by decide +kernel
theorem dX7_init_12 : decode cX7_init 12 = .ok (.aload_n 0, 1) := by decide +kernel
theorem dX7_init_13 : decode cX7_init 13 = .ok (.bipush 28, 2) := by decide +kernel
theorem dX7_init_15 : decode cX7_init 15 = .ok (.newarray .int, 2) := by decide +kernel
theorem dX7_init_17 : decode cX7_init 17 = .ok (.putfield 15, 3) := by decide +kernel
theorem dX7_init_20 : decode cX7_init 20 = .ok (.aload_n 0, 1) := by decide +kernel
theorem dX7_init_21 : decode cX7_init 21 = .ok (.bipush 28, 2) := by decide +kernel
theorem dX7_init_23 : decode cX7_init 23 = .ok (.newarray .int, 2) := by decide +kernel
theorem dX7_init_25 : decode cX7_init 25 = .ok (.putfield 18, 3) := by decide +kernel
theorem dX7_init_28 : decode cX7_init 28 = .ok (.aload_n 0, 1) := by decide +kernel
theorem dX7_init_29 : decode cX7_init 29 = .ok (.iconst 0, 1) := by decide +kernel
theorem dX7_init_30 : decode cX7_init 30 = .ok (.putfield 21, 3) := by decide +kernel
theorem dX7_init_33 : decode cX7_init 33 = .ok (.aload_n 0, 1) := by decide +kernel
theorem dX7_init_34 : decode cX7_init 34 = .ok (.bipush 28, 2) := by decide +kernel
theorem dX7_init_36 : decode cX7_init 36 = .ok (.newarray .int, 2) := by decide +kernel
theorem dX7_init_38 : decode cX7_init 38 = .ok (.putfield 25, 3) := by decide +kernel
theorem dX7_init_41 : decode cX7_init 41 = .ok (.aload_n 0, 1) := by decide +kernel
theorem dX7_init_42 : decode cX7_init 42 = .ok (.bipush 6, 2) := by decide +kernel
theorem dX7_init_44 : decode cX7_init 44 = .ok (.newarray .int, 2) := by decide +kernel
theorem dX7_init_46 : decode cX7_init 46 = .ok (.putfield 28, 3) := by decide +kernel
theorem dX7_init_49 : decode cX7_init 49 = .ok (.aload_n 0, 1) := by decide +kernel
theorem dX7_init_50 : decode cX7_init 50 = .ok (.bipush 6, 2) := by decide +kernel
theorem dX7_init_52 : decode cX7_init 52 = .ok (.newarray .int, 2) := by decide +kernel
theorem dX7_init_54 : decode cX7_init 54 = .ok (.putfield 31, 3) := by decide +kernel
theorem dX7_init_57 : decode cX7_init 57 = .ok (.aload_n 0, 1) := by decide +kernel
theorem dX7_init_58 : decode cX7_init 58 = .ok (.aload_n 1, 1) := by decide +kernel
theorem dX7_init_59 : decode cX7_init 59 = .ok (.putfield 34, 3) := by decide +kernel
theorem dX7_init_62 : decode cX7_init 62 = .ok (.return_, 1) := by decide +kernel
theorem dX8_init_0 : decode cX8_init 0 = .ok (.aload_n 0, 1) := by decide +kernel
theorem dX8_init_1 : decode cX8_init 1 = .ok (.invokespecial 5, 3) := by decide +kernel
theorem dX8_init_4 : decode cX8_init 4 = .ok (.aload_n 0, 1) := by decide +kernel
theorem dX8_init_5 : decode cX8_init 5 = .ok (.iconst 0, 1) := by decide +kernel
theorem dX8_init_6 : decode cX8_init 6 = .ok (.putfield 11, 3) := by decide +kernel
theorem dX8_init_9 : decode cX8_init 9 = .ok (.aload_n 0, 1) := by decide +kernel
theorem dX8_init_10 : decode cX8_init 10 = .ok (.iconst 0, 1) := by decide +kernel
theorem dX8_init_11 : decode cX8_init 11 = .ok (.putfield 15, 3) := by decide +kernel
theorem dX8_init_14 : decode cX8_init 14 = .ok (.aload_n 0, 1) := by decide +kernel
theorem dX8_init_15 : decode cX8_init 15 = .ok (.bipush 40, 2) := by decide +kernel
theorem dX8_init_17 : decode cX8_init 17 = .ok (.newarray .int, 2) := by decide +kernel
theorem dX8_init_19 : decode cX8_init 19 = .ok (.putfield 18, 3) := by decide +kernel
theorem dX8_init_22 : decode cX8_init 22 = .ok (.aload_n 0, 1) := by decide +kernel
theorem dX8_init_23 : decode cX8_init 23 = .ok (.bipush 40, 2) := by decide +kernel
theorem dX8_init_25 : decode cX8_init 25 = .ok (.newarray .int, 2) := by decide +kernel
theorem dX8_init_27 : decode cX8_init 27 = .ok (.putfield 22, 3) := by decide +kernel
theorem dX8_init_30 : decode cX8_init 30 = .ok (.aload_n 0, 1) := by decide +kernel
theorem dX8_init_31 : decode cX8_init 31 = .ok (.bipush 40, 2) := by decide +kernel
theorem dX8_init_33 : decode cX8_init 33 = .ok (.newarray .int, 2) := by decide +kernel
theorem dX8_init_35 : decode cX8_init 35 = .ok (.putfield 25, 3) := by decide +kernel
theorem dX8_init_38 : decode cX8_init 38 = .ok (.aload_n 0, 1) := by decide +kernel
theorem dX8_init_39 : decode cX8_init 39 = .ok (.bipush 20, 2) := by decide +kernel
theorem dX8_init_41 : decode cX8_init 41 = .ok (.newarray .int, 2) := by decide +kernel
theorem dX8_init_43 : decode cX8_init 43 = .ok (.putfield 28, 3) := by decide +kernel
theorem dX8_init_46 : decode cX8_init 46 = .ok (.return_, 1) := by decide +kernel
theorem dX9_init_0 : decode cX9_init 0 = .ok (.aload_n 0, 1) := by decide +kernel
theorem dX9_init_1 : decode cX9_init 1 = .ok (.invokespecial 3, 3) := by decide +kernel
theorem dX9_init_4 : decode cX9_init 4 = .ok (.aload_n 0, 1) := by decide +kernel
theorem dX9_init_5 : decode cX9_init 5 = .ok (.iconst 0, 1) := by decide +kernel
theorem dX9_init_6 : decode cX9_init 6 = .ok (.putfield 9, 3) := by decide +kernel
theorem dX9_init_9 : decode cX9_init 9 = .ok (.aload_n 0, 1) := by decide +kernel
theorem dX9_init_10 : decode cX9_init 10 = .ok (.iconst 0, 1) := by decide +kernel
theorem dX9_init_11 : decode cX9_init 11 = .ok (.putfield 15, 3) := by decide +kernel
theorem dX9_init_14 : decode cX9_init 14 = .ok (.aload_n 0, 1) := by decide +kernel
theorem dX9_init_15 : decode cX9_init 15 = .ok (.iconst 0, 1) := by decide +kernel
theorem dX9_init_16 : decode cX9_init 16 = .ok (.putfield 18, 3) := by decide +kernel
theorem dX9_init_19 : decode cX9_init 19 = .ok (.aload_n 0, 1) := by decide +kernel
theorem dX9_init_20 : decode cX9_init 20 = .ok (.iconst 0, 1) := by decide +kernel
theorem dX9_init_21 : decode cX9_init 21 = .ok (.putfield 21, 3) := by decide +kernel
theorem dX9_init_24 : decode cX9_init 24 = .ok (.aload_n 0, 1) := by decide +kernel
theorem dX9_init_25 : decode cX9_init 25 = .ok (.iconst 0, 1) := by decide +kernel
theorem dX9_init_26 : decode cX9_init 26 = .ok (.putfield 24, 3) := by decide +kernel
theorem dX9_init_29 : decode cX9_init 29 = .ok (.aload_n 0, 1) := by decide +kernel
theorem dX9_init_30 : decode cX9_init 30 = .ok (.iconst 0, 1) := by decide +kernel
theorem dX9_init_31 : decode cX9_init 31 = .ok (.putfield 27, 3) := by decide +kernel
theorem dX9_init_34 : decode cX9_init 34 = .ok (.aload_n 0, 1) := by decide +kernel
theorem dX9_init_35 : decode cX9_init 35 = .ok (.lconst 0, 1) := by decide +kernel
theorem dX9_init_36 : decode cX9_init 36 = .ok (.putfield 30, 3) := by decide +kernel
theorem dX9_init_39 : decode cX9_init 39 = .ok (.aload_n 0, 1) := by decide +kernel
theorem dX9_init_40 : decode cX9_init 40 = .ok (.iconst 0, 1) := by decide +kernel
theorem dX9_init_41 : decode cX9_init 41 = .ok (.putfield 34, 3) := by decide +kernel
theorem dX9_init_44 : decode cX9_init 44 = .ok (.aload_n 0, 1) := by decide +kernel
theorem dX9_init_45 : decode cX9_init 45 = .ok (.iconst 0, 1) := by decide +kernel
theorem dX9_init_46 : decode cX9_init 46 = .ok (.putfield 37, 3) := by decide +kernel
theorem dX9_init_49 : decode cX9_init 49 = .ok (.aload_n 0, 1) := by decide +kernel
theorem dX9_init_50 : decode cX9_init 50 = .ok (.iconst 0, 1) := by decide +kernel
theorem dX9_init_51 : decode cX9_init 51 = .ok (.putfield 40, 3) := by decide +kernel
theorem dX9_init_54 : decode cX9_init 54 = .ok (.aload_n 0, 1) := by decide +kernel
theorem dX9_init_55 : decode cX9_init 55 = .ok (.iconst 0, 1) := by decide +kernel
theorem dX9_init_56 : decode cX9_init 56 = .ok (.putfield 43, 3) := by decide +kernel
theorem dX9_init_59 : decode cX9_init 59 = .ok (.aload_n 0, 1) := by decide +kernel
theorem dX9_init_60 : decode cX9_init 60 = .ok (.iconst 0, 1) := by decide +kernel
theorem dX9_init_61 : decode cX9_init 61 = .ok (.putfield 46, 3) := by decide +kernel
theorem dX9_init_64 : decode cX9_init 64 = .ok (.aload_n 0, 1) := by decide +kernel
theorem dX9_init_65 : decode cX9_init 65 = .ok (.iconst 0, 1) := by decide +kernel
theorem dX9_init_66 : decode cX9_init 66 = .ok (.putfield 49, 3) := by decide +kernel
theorem dX9_init_69 : decode cX9_init 69 = .ok (.aload_n 0, 1) := by decide +kernel
theorem dX9_init_70 : decode cX9_init 70 = .ok (.aload_n 1, 1) := by decide +kernel
theorem dX9_init_71 : decode cX9_init 71 = .ok (.putfield 52, 3) := by decide +kernel
theorem dX9_init_74 : decode cX9_init 74 = .ok (.return_, 1) := by decide +kernel
theorem dX10_init_0 : decode cX10_init 0 = .ok (.aload_n 0, 1) := by decide +kernel
theorem dX10_init_1 : decode cX10_init 1 = .ok (.invokespecial 1, 3) := by decide +kernel
theorem dX10_init_4 : decode cX10_init 4 = .ok (.aload_n 0, 1) := by decide +kernel
theorem dX10_init_5 : decode cX10_init 5 = .ok (.new 7, 3) := by decide +kernel
theorem dX10_init_8 : decode cX10_init 8 = .ok (.dup, 1) := by decide +kernel
theorem dX10_init_9 : decode cX10_init 9 = .ok (.invokespecial 9, 3) := by decide +kernel
theorem dX10_init_12 : decode cX10_init 12 = .ok (.putfield 10, 3) := by decide +kernel
theorem dX10_init_15 : decode cX10_init 15 = .ok (.aload_n 0, 1) := by decide +kernel
theorem dX10_init_16 : decode cX10_init 16 = .ok (.new 16, 3) := by decide +kernel
theorem dX10_init_19 : decode cX10_init 19 = .ok (.dup, 1) := by decide +kernel
theorem dX10_init_20 : decode cX10_init 20 = .ok (.aload_n 0, 1) := by decide +kernel
theorem dX10_init_21 : decode cX10_init 21 = .ok (.getfield 10, 3) := by decide +kernel
theorem dX10_init_24 : decode cX10_init 24 = .ok (.invokespecial 18, 3) := by decide +kernel
theorem dX10_init_27 : decode cX10_init 27 = .ok (.putfield 21, 3) := by decide +kernel
theorem dX10_init_30 : decode cX10_init 30 = .ok (.aload_n 0, 1) := by decide +kernel
theorem dX10_init_31 : decode cX10_init 31 = .ok (.new 25, 3) := by decide +kernel
theorem dX10_init_34 : decode cX10_init 34 = .ok (.dup, 1) := by decide +kernel
theorem dX10_init_35 : decode cX10_init 35 = .ok (.invokespecial 27, 3) := by decide +kernel
theorem dX10_init_38 : decode cX10_init 38 = .ok (.putfield 28, 3) := by decide +kernel
theorem dX10_init_41 : decode cX10_init 41 = .ok (.aload_n 0, 1) := by decide +kernel
theorem dX10_init_42 : decode cX10_init 42 = .ok (.new 32, 3) := by decide +kernel
theorem dX10_init_45 : decode cX10_init 45 = .ok (.dup, 1) := by decide +kernel
theorem dX10_init_46 : decode cX10_init 46 = .ok (.invokespecial 34, 3) := by decide +kernel
theorem dX10_init_49 : decode cX10_init 49 = .ok (.putfield 35, 3) := by decide +kernel
theorem dX10_init_52 : decode cX10_init 52 = .ok (.aload_n 0, 1) := by decide +kernel
theorem dX10_init_53 : decode cX10_init 53 = .ok (.iconst 0, 1) := by decide +kernel
theorem dX10_init_54 : decode cX10_init 54 = .ok (.putfield 39, 3) := by decide +kernel
theorem dX10_init_57 : decode cX10_init 57 = .ok (.return_, 1) := by decide +kernel
theorem dX11_init_0 : decode cX11_init 0 = .ok (.aload_n 0, 1) := by decide +kernel
theorem dX11_init_1 : decode cX11_init 1 = .ok (.invokespecial 1, 3) := by decide +kernel
theorem dX11_init_4 : decode cX11_init 4 = .ok (.aload_n 0, 1) := by decide +kernel
theorem dX11_init_5 : decode cX11_init 5 = .ok (.sipush 940, 3) := by decide +kernel
theorem dX11_init_8 : decode cX11_init 8 = .ok (.newarray .byte, 2) := by decide +kernel
theorem dX11_init_10 : decode cX11_init 10 = .ok (.putfield 9, 3) := by decide +kernel
theorem dX11_init_13 : decode cX11_init 13 = .ok (.aload_n 0, 1) := by decide +kernel
theorem dX11_init_14 : decode cX11_init 14 = .ok (.iconst 0, 1) := by decide +kernel
theorem dX11_init_15 : decode cX11_init 15 = .ok (.putfield 13, 3) := by decide +kernel
theorem dX11_init_18 : decode cX11_init 18 = .ok (.aload_n 0, 1) := by decide +kernel
theorem dX11_init_19 : decode cX11_init 19 = .ok (.new 17, 3) := by decide +kernel
theorem dX11_init_22 : decode cX11_init 22 = .ok (.dup, 1) := by decide +kernel
theorem dX11_init_23 : decode cX11_init 23 = .ok (.aload_n 0, 1) := by decide +kernel
theorem dX11_init_24 : decode cX11_init 24 = .ok (.getfield 9, 3) := by decide +kernel
theorem dX11_init_27 : decode cX11_init 27 = .ok (.invokespecial 19, 3) := by decide +kernel
theorem dX11_init_30 : decode cX11_init 30 = .ok (.putfield 22, 3) := by decide +kernel
theorem dX11_init_33 : decode cX11_init 33 = .ok (.aload_n 0, 1) := by decide +kernel
theorem dX11_init_34 : decode cX11_init 34 = .ok (.new 26, 3) := by decide +kernel
theorem dX11_init_37 : decode cX11_init 37 = .ok (.dup, 1) := by decide +kernel
theorem dX11_init_38 : decode cX11_init 38 = .ok (.invokespecial 28, 3) := by decide +kernel
theorem dX11_init_41 : decode cX11_init 41 = .ok (.putfield 29, 3) := by decide +kernel
theorem dX11_init_44 : decode cX11_init 44 = .ok (.aload_n 0, 1) := by decide +kernel
theorem dX11_init_45 : decode cX11_init 45 = .ok (.new 26, 3) := by decide +kernel
theorem dX11_init_48 : decode cX11_init 48 = .ok (.dup, 1) := by decide +kernel
theorem dX11_init_49 : decode cX11_init 49 = .ok (.invokespecial 28, 3) := by decide +kernel
theorem dX11_init_52 : decode cX11_init 52 = .ok (.putfield 33, 3) := by decide +kernel
theorem dX11_init_55 : decode cX11_init 55 = .ok (.aload_n 0, 1) := by decide +kernel
theorem dX11_init_56 : decode cX11_init 56 = .ok (.new 26, 3) := by decide +kernel
theorem dX11_init_59 : decode cX11_init 59 = .ok (.dup, 1) := by decide +kernel
theorem dX11_init_60 : decode cX11_init 60 = .ok (.invokespecial 28, 3) := by decide +kernel
theorem dX11_init_63 : decode cX11_init 63 = .ok (.putfield 36, 3) := by decide +kernel
theorem dX11_init_66 : decode cX11_init 66 = .ok (.aload_n 0, 1) := by decide +kernel
theorem dX11_init_67 : decode cX11_init 67 = .ok (.new 26, 3) := by decide +kernel
theorem dX11_init_70 : decode cX11_init 70 = .ok (.dup, 1) := by decide +kernel
theorem dX11_init_71 : decode cX11_init 71 = .ok (.invokespecial 28, 3) := by decide +kernel
theorem dX11_init_74 : decode cX11_init 74 = .ok (.putfield 39, 3) := by decide +kernel
theorem dX11_init_77 : decode cX11_init 77 = .ok (.aload_n 0, 1) := by decide +kernel
theorem dX11_init_78 : decode cX11_init 78 = .ok (.bipush 8, 2) := by decide +kernel
theorem dX11_init_80 : decode cX11_init 80 = .ok (.anewarray 42, 3) := by decide +kernel
theorem dX11_init_83 : decode cX11_init 83 = .ok (.putfield 44, 3) := by decide +kernel
theorem dX11_init_86 : decode cX11_init 86 = .ok (.aload_n 0, 1) := by decide +kernel
theorem dX11_init_87 : decode cX11_init 87 = .ok (.iconst 0, 1) := by decide +kernel
theorem dX11_init_88 : decode cX11_init 88 = .ok (.putfield 48, 3) := by decide +kernel
theorem dX11_init_91 : decode cX11_init 91 = .ok (.aload_n 0, 1) := by decide +kernel
theorem dX11_init_92 : decode cX11_init 92 = .ok (.iconst 0, 1) := by decide +kernel
theorem dX11_init_93 : decode cX11_init 93 = .ok (.putfield 51, 3) := by decide +kernel
theorem dX11_init_96 : decode cX11_init 96 = .ok (.aload_n 0, 1) := by decide +kernel
theorem dX11_init_97 : decode cX11_init 97 = .ok (.new 42, 3) := by decide +kernel
theorem dX11_init_100 : decode cX11_init 100 = .ok (.dup, 1) := by decide +kernel
theorem dX11_init_101 : decode cX11_init 101 = .ok (.aload_n 0, 1) := by decide +kernel
theorem dX11_init_102 : decode cX11_init 102 = .ok (.getfield 29, 3) := by decide +kernel
theorem dX11_init_105 : decode cX11_init 105 = .ok (.getfield 54, 3) := by decide +kernel
theorem dX11_init_108 : decode cX11_init 108 = .ok (.invokespecial 58, 3) := by decide +kernel
theorem dX11_init_111 : decode cX11_init 111 = .ok (.putfield 61, 3) := by decide +kernel
theorem dX11_init_114 : decode cX11_init 114 = .ok (.aload_n 0, 1) := by decide +kernel
theorem dX11_init_115 : decode cX11_init 115 = .ok (.ldc 65, 2) := by decide +kernel
theorem dX11_init_117 : decode cX11_init 117 = .ok (.newarray .long, 2) := by decide +kernel
theorem dX11_init_119 : decode cX11_init 119 = .ok (.putfield 66, 3) := by decide +kernel
theorem dX11_init_122 : decode cX11_init 122 = .ok (.aload_n 0, 1) := by decide +kernel
theorem dX11_init_123 : decode cX11_init 123 = .ok (.new 70, 3) := by decide +kernel
theorem dX11_init_126 : decode cX11_init 126 = .ok (.dup, 1) := by decide +kernel
theorem dX11_init_127 : decode cX11_init 127 = .ok (.aload_n 0, 1) := by decide +kernel
theorem dX11_init_128 : decode cX11_init 128 = .ok (.getfield 29, 3) := by decide +kernel
theorem dX11_init_131 : decode cX11_init 131 = .ok (.getfield 72, 3) := by decide +kernel
theorem dX11_init_134 : decode cX11_init 134 = .ok (.aload_n 0, 1) := by decide +kernel
theorem dX11_init_135 : decode cX11_init 135 = .ok (.getfield 66, 3) := by decide +kernel
theorem dX11_init_138 : decode cX11_init 138 = .ok (.invokespecial 75, 3) := by decide +kernel
theorem dX11_init_141 : decode cX11_init 141 = .ok (.putfield 78, 3) := by decide +kernel
theorem dX11_init_144 : decode cX11_init 144 = .ok (.aload_n 0, 1) := by decide +kernel
theorem dX11_init_145 : decode cX11_init 145 = .ok (.new 82, 3) := by decide +kernel
theorem dX11_init_148 : decode cX11_init 148 = .ok (.dup, 1) := by decide +kernel
theorem dX11_init_149 : decode cX11_init 149 = .ok (.aload_n 0, 1) := by decide +kernel
theorem dX11_init_150 : decode cX11_init 150 = .ok (.getfield 29, 3) := by decide +kernel
theorem dX11_init_153 : decode cX11_init 153 = .ok (.getfield 72, 3) := by decide +kernel
theorem dX11_init_156 : decode cX11_init 156 = .ok (.aload_n 0, 1) := by decide +kernel
theorem dX11_init_157 : decode cX11_init 157 = .ok (.getfield 66, 3) := by decide +kernel
theorem dX11_init_160 : decode cX11_init 160 = .ok (.invokespecial 84, 3) := by decide +kernel
theorem dX11_init_163 : decode cX11_init 163 = .ok (.putfield 85, 3) := by decide +kernel
theorem dX11_init_166 : decode cX11_init 166 = .ok (.aload_n 0, 1) := by decide +kernel
theorem dX11_init_167 : decode cX11_init 167 = .ok (.new 89, 3) := by decide +kernel
theorem dX11_init_170 : decode cX11_init 170 = .ok (.dup, 1) := by decide +kernel
theorem dX11_init_171 : decode cX11_init 171 = .ok (.aload_n 0, 1) := by decide +kernel
theorem dX11_init_172 : decode cX11_init 172 = .ok (.getfield 29, 3) := by decide +kernel
theorem dX11_init_175 : decode cX11_init 175 = .ok (.getfield 72, 3) := by decide +kernel
theorem dX11_init_178 : decode cX11_init 178 = .ok (.aload_n 0, 1) := by decide +kernel
theorem dX11_init_179 : decode cX11_init 179 = .ok (.getfield 66, 3) := by decide +kernel
theorem dX11_init_182 : decode cX11_init 182 = .ok (.invokespecial 91, 3) := by decide +kernel
theorem dX11_init_185 : decode cX11_init 185 = .ok (.putfield 92, 3) := by decide +kernel
theorem dX11_init_188 : decode cX11_init 188 = .ok (.aload_n 0, 1) := by decide +kernel
theorem dX11_init_189 : decode cX11_init 189 = .ok (.new 96, 3) := by decide +kernel
theorem dX11_init_192 : decode cX11_init 192 = .ok (.dup, 1) := by decide +kernel
theorem dX11_init_193 : decode cX11_init 193 = .ok (.aload_n 0, 1) := by decide +kernel
theorem dX11_init_194 : decode cX11_init 194 = .ok (.getfield 29, 3) := by decide +kernel
theorem dX11_init_197 : decode cX11_init 197 = .ok (.getfield 54, 3) := by decide +kernel
theorem dX11_init_200 : decode cX11_init 200 = .ok (.aload_n 0, 1) := by decide +kernel
theorem dX11_init_201 : decode cX11_init 201 = .ok (.getfield 29, 3) := by decide +kernel
theorem dX11_init_204 : decode cX11_init 204 = .ok (.getfield 98, 3) := by decide +kernel
theorem dX11_init_207 : decode cX11_init 207 = .ok (.aload_n 0, 1) := by decide +kernel
theorem dX11_init_208 : decode cX11_init 208 = .ok (.getfield 66, 3) := by decide +kernel
theorem dX11_init_211 : decode cX11_init 211 = .ok (.invokespecial 102, 3) := by decide +kernel
theorem dX11_init_214 : decode cX11_init 214 = .ok (.putfield 105, 3) := by decide +kernel
theorem dX11_init_217 : decode cX11_init 217 = .ok (.aload_n 0, 1) := by decide +kernel
theorem dX11_init_218 : decode cX11_init 218 = .ok (.new 109, 3) := by decide +kernel
theorem dX11_init_221 : decode cX11_init 221 = .ok (.dup, 1) := by decide +kernel
theorem dX11_init_222 : decode cX11_init 222 = .ok (.aload_n 0, 1) := by decide +kernel
theorem dX11_init_223 : decode cX11_init 223 = .ok (.getfield 29, 3) := by decide +kernel
theorem dX11_init_226 : decode cX11_init 226 = .ok (.getfield 72, 3) := by decide +kernel
theorem dX11_init_229 : decode cX11_init 229 = .ok (.invokespecial 111, 3) := by decide +kernel
theorem dX11_init_232 : decode cX11_init 232 = .ok (.putfield 114, 3) := by decide +kernel
theorem dX11_init_235 : decode cX11_init 235 = .ok (.aload_n 0, 1) := by decide +kernel
theorem dX11_init_236 : decode cX11_init 236 = .ok (.bipush 112, 2) := by decide +kernel
theorem dX11_init_238 : decode cX11_init 238 = .ok (.newarray .byte, 2) := by decide +kernel
theorem dX11_init_240 : decode cX11_init 240 = .ok (.putfield 118, 3) := by decide +kernel
theorem dX11_init_243 : decode cX11_init 243 = .ok (.aload_n 0, 1) := by decide +kernel
theorem dX11_init_244 : decode cX11_init 244 = .ok (.iconst 0, 1) := by decide +kernel
theorem dX11_init_245 : decode cX11_init 245 = .ok (.putfield 121, 3) := by decide +kernel
theorem dX11_init_248 : decode cX11_init 248 = .ok (.iconst 0, 1) := by decide +kernel
theorem dX11_init_249 : decode cX11_init 249 = .ok (.istore_n 1, 1) := by decide +kernel
theorem dX11_init_250 : decode cX11_init 250 = .ok (.iload_n 1, 1) := by decide +kernel
theorem dX11_init_251 : decode cX11_init 251 = .ok (.bipush 8, 2) := by decide +kernel
theorem dX11_init_253 : decode cX11_init 253 = .ok (.if_icmp .ge 29, 3) := by decide +kernel
theorem dX11_init_256 : decode cX11_init 256 = .ok (.aload_n 0, 1) := by decide +kernel
theorem dX11_init_257 : decode cX11_init 257 = .ok (.getfield 44, 3) := by decide +kernel
theorem dX11_init_260 : decode cX11_init 260 = .ok (.iload_n 1, 1) := by decide +kernel
theorem dX11_init_261 : decode cX11_init 261 = .ok (.new 42, 3) := by decide +kernel
theorem dX11_init_264 : decode cX11_init 264 = .ok (.dup, 1) := by decide +kernel
theorem dX11_init_265 : decode cX11_init 265 = .ok (.aload_n 0, 1) := by decide +kernel
theorem dX11_init_266 : decode cX11_init 266 = .ok (.getfield 29, 3) := by decide +kernel
theorem dX11_init_269 : decode cX11_init 269 = .ok (.getfield 54, 3) := by decide +kernel
theorem dX11_init_272 : decode cX11_init 272 = .ok (.invokespecial 58, 3) := by decide +kernel
theorem dX11_init_275 : decode cX11_init 275 = .ok (.aastore, 1) := by decide +kernel
theorem dX11_init_276 : decode cX11_init 276 = .ok (.iinc 1 1, 3) := by decide +kernel
theorem dX11_init_279 : decode cX11_init 279 = .ok (.goto (-29), 3) := by decide +kernel
theorem dX11_init_282 : decode cX11_init 282 = .ok (.return_, 1) := by decide +kernel
theorem dX12_init_0 : decode cX12_init 0 = .ok (.aload_n 0, 1) := by decide +kernel
theorem dX12_init_1 : decode cX12_init 1 = .ok (.invokespecial 1, 3) := by decide +kernel
theorem dX12_init_4 : decode cX12_init 4 = .ok (.aload_n 0, 1) := by decide +kernel
theorem dX12_init_5 : decode cX12_init 5 = .ok (.sipush 940, 3) := by decide +kernel
theorem dX12_init_8 : decode cX12_init 8 = .ok (.newarray .int, 2) := by decide +kernel
theorem dX12_init_10 : decode cX12_init 10 = .ok (.putfield 7, 3) := by decide +kernel
theorem dX12_init_13 : decode cX12_init 13 = .ok (.aload_n 0, 1) := by decide +kernel
theorem dX12_init_14 : decode cX12_init 14 = .ok (.sipush 448, 3) := by decide +kernel
theorem dX12_init_17 : decode cX12_init 17 = .ok (.newarray .int, 2) := by decide +kernel
theorem dX12_init_19 : decode cX12_init 19 = .ok (.putfield 13, 3) := by decide +kernel
theorem dX12_init_22 : decode cX12_init 22 = .ok (.aload_n 0, 1) := by decide +kernel
theorem dX12_init_23 : decode cX12_init 23 = .ok (.sipush 192, 3) := by decide +kernel
theorem dX12_init_26 : decode cX12_init 26 = .ok (.newarray .int, 2) := by decide +kernel
theorem dX12_init_28 : decode cX12_init 28 = .ok (.putfield 16, 3) := by decide +kernel
theorem dX12_init_31 : decode cX12_init 31 = .ok (.aload_n 0, 1) := by decide +kernel
theorem dX12_init_32 : decode cX12_init 32 = .ok (.sipush 896, 3) := by decide +kernel
theorem dX12_init_35 : decode cX12_init 35 = .ok (.newarray .int, 2) := by decide +kernel
theorem dX12_init_37 : decode cX12_init 37 = .ok (.putfield 19, 3) := by decide +kernel
theorem dX12_init_40 : decode cX12_init 40 = .ok (.aload_n 0, 1) := by decide +kernel
theorem dX12_init_41 : decode cX12_init 41 = .ok (.sipush 1000, 3) := by decide +kernel
theorem dX12_init_44 : decode cX12_init 44 = .ok (.newarray .int, 2) := by decide +kernel
theorem dX12_init_46 : decode cX12_init 46 = .ok (.putfield 22, 3) := by decide +kernel
theorem dX12_init_49 : decode cX12_init 49 = .ok (.aload_n 0, 1) := by decide +kernel
theorem dX12_init_50 : decode cX12_init 50 = .ok (.bipush 6, 2) := by decide +kernel
theorem dX12_init_52 : decode cX12_init 52 = .ok (.newarray .long, 2) := by decide +kernel
theorem dX12_init_54 : decode cX12_init 54 = .ok (.putfield 25, 3) := by decide +kernel
theorem dX12_init_57 : decode cX12_init 57 = .ok (.aload_n 0, 1) := by decide +kernel
theorem dX12_init_58 : decode cX12_init 58 = .ok (.bipush 6, 2) := by decide +kernel
theorem dX12_init_60 : decode cX12_init 60 = .ok (.newarray .long, 2) := by decide +kernel
theorem dX12_init_62 : decode cX12_init 62 = .ok (.putfield 29, 3) := by decide +kernel
theorem dX12_init_65 : decode cX12_init 65 = .ok (.aload_n 0, 1) := by decide +kernel
theorem dX12_init_66 : decode cX12_init 66 = .ok (.bipush 12, 2) := by decide +kernel
theorem dX12_init_68 : decode cX12_init 68 = .ok (.newarray .long, 2) := by decide +kernel
theorem dX12_init_70 : decode cX12_init 70 = .ok (.putfield 32, 3) := by decide +kernel
theorem dX12_init_73 : decode cX12_init 73 = .ok (.aload_n 0, 1) := by decide +kernel
theorem dX12_init_74 : decode cX12_init 74 = .ok (.iconst 2, 1) := by decide +kernel
theorem dX12_init_75 : decode cX12_init 75 = .ok (.newarray .boolean, 2) := by decide +kernel
theorem dX12_init_77 : decode cX12_init 77 = .ok (.putfield 35, 3) := by decide +kernel
theorem dX12_init_80 : decode cX12_init 80 = .ok (.aload_n 0, 1) := by decide +kernel
theorem dX12_init_81 : decode cX12_init 81 = .ok (.bipush 28, 2) := by decide +kernel
theorem dX12_init_83 : decode cX12_init 83 = .ok (.newarray .int, 2) := by decide +kernel
theorem dX12_init_85 : decode cX12_init 85 = .ok (.putfield 39, 3) := by decide +kernel
theorem dX12_init_88 : decode cX12_init 88 = .ok (.aload_n 0, 1) := by decide +kernel
theorem dX12_init_89 : decode cX12_init 89 = .ok (.sipush 28672, 3) := by decide +kernel
theorem dX12_init_92 : decode cX12_init 92 = .ok (.newarray .int, 2) := by decide +kernel
theorem dX12_init_94 : decode cX12_init 94 = .ok (.putfield 42, 3) := by decide +kernel
theorem dX12_init_97 : decode cX12_init 97 = .ok (.aload_n 0, 1) := by decide +kernel
theorem dX12_init_98 : decode cX12_init 98 = .ok (.bipush 12, 2) := by decide +kernel
theorem dX12_init_100 : decode cX12_init 100 = .ok (.newarray .int, 2) := by decide +kernel
theorem dX12_init_102 : decode cX12_init 102 = .ok (.putfield 45, 3) := by decide +kernel
theorem dX12_init_105 : decode cX12_init 105 = .ok (.aload_n 0, 1) := by decide +kernel
theorem dX12_init_106 : decode cX12_init 106 = .ok (.sipush 28672, 3) := by decide +kernel
theorem dX12_init_109 : decode cX12_init 109 = .ok (.newarray .int, 2) := by decide +kernel
theorem dX12_init_111 : decode cX12_init 111 = .ok (.putfield 48, 3) := by decide +kernel
theorem dX12_init_114 : decode cX12_init 114 = .ok (.aload_n 0, 1) := by decide +kernel
theorem dX12_init_115 : decode cX12_init 115 = .ok (.ldc 51, 2) := by decide +kernel
theorem dX12_init_117 : decode cX12_init 117 = .ok (.newarray .int, 2) := by decide +kernel
theorem dX12_init_119 : decode cX12_init 119 = .ok (.putfield 52, 3) := by decide +kernel
theorem dX12_init_122 : decode cX12_init 122 = .ok (.aload_n 0, 1) := by decide +kernel
theorem dX12_init_123 : decode cX12_init 123 = .ok (.bipush 10, 2) := by decide +kernel
theorem dX12_init_125 : decode cX12_init 125 = .ok (.newarray .int, 2) := by decide +kernel
theorem dX12_init_127 : decode cX12_init 127 = .ok (.putfield 55, 3) := by decide +kernel
theorem dX12_init_130 : decode cX12_init 130 = .ok (.aload_n 0, 1) := by decide +kernel
theorem dX12_init_131 : decode cX12_init 131 = .ok (.iconst (-1), 1) := by decide +kernel
theorem dX12_init_132 : decode cX12_init 132 = .ok (.putfield 58, 3) := by decide +kernel
theorem dX12_init_135 : decode cX12_init 135 = .ok (.aload_n 0, 1) := by decide +kernel
theorem dX12_init_136 : decode cX12_init 136 = .ok (.bipush 125, 2) := by decide +kernel
theorem dX12_init_138 : decode cX12_init 138 = .ok (.newarray .int, 2) := by decide +kernel
theorem dX12_init_140 : decode cX12_init 140 = .ok (.putfield 62, 3) := by decide +kernel
theorem dX12_init_143 : decode cX12_init 143 = .ok (.aload_n 0, 1) := by decide +kernel
theorem dX12_init_144 : decode cX12_init 144 = .ok (.bipush 120, 2) := by decide +kernel
theorem dX12_init_146 : decode cX12_init 146 = .ok (.newarray .int, 2) := by decide +kernel
theorem dX12_init_148 : decode cX12_init 148 = .ok (.putfield 65, 3) := by decide +kernel
theorem dX12_init_151 : decode cX12_init 151 = .ok (.aload_n 0, 1) := by decide +kernel
theorem dX12_init_152 : decode cX12_init 152 = .ok (.bipush 14, 2) := by decide +kernel
theorem dX12_init_154 : decode cX12_init 154 = .ok (.newarray .int, 2) := by decide +kernel
theorem dX12_init_156 : decode cX12_init 156 = .ok (.putfield 68, 3) := by decide +kernel
theorem dX12_init_159 : decode cX12_init 159 = .ok (.aload_n 0, 1) := by decide +kernel
theorem dX12_init_160 : decode cX12_init 160 = .ok (.ldc 71, 2) := by decide +kernel
theorem dX12_init_162 : decode cX12_init 162 = .ok (.newarray .long, 2) := by decide +kernel
theorem dX12_init_164 : decode cX12_init 164 = .ok (.putfield 72, 3) := by decide +kernel
theorem dX12_init_167 : decode cX12_init 167 = .ok (.aload_n 0, 1) := by decide +kernel
theorem dX12_init_168 : decode cX12_init 168 = .ok (.ldc 71, 2) := by decide +kernel
theorem dX12_init_170 : decode cX12_init 170 = .ok (.newarray .long, 2) := by decide +kernel
theorem dX12_init_172 : decode cX12_init 172 = .ok (.putfield 75, 3) := by decide +kernel
theorem dX12_init_175 : decode cX12_init 175 = .ok (.aload_n 0, 1) := by decide +kernel
theorem dX12_init_176 : decode cX12_init 176 = .ok (.bipush 7, 2) := by decide +kernel
theorem dX12_init_178 : decode cX12_init 178 = .ok (.newarray .int, 2) := by decide +kernel
theorem dX12_init_180 : decode cX12_init 180 = .ok (.putfield 78, 3) := by decide +kernel
theorem dX12_init_183 : decode cX12_init 183 = .ok (.aload_n 0, 1) := by decide +kernel
theorem dX12_init_184 : decode cX12_init 184 = .ok (.iconst 3, 1) := by decide +kernel
theorem dX12_init_185 : decode cX12_init 185 = .ok (.newarray .int, 2) := by decide +kernel
theorem dX12_init_187 : decode cX12_init 187 = .ok (.dup, 1) := by decide +kernel
theorem dX12_init_188 : decode cX12_init 188 = .ok (.iconst 0, 1) := by decide +kernel
theorem dX12_init_189 : decode cX12_init 189 = .ok (.iconst (-1), 1) := by decide +kernel
theorem dX12_init_190 : decode cX12_init 190 = .ok (.iastore, 1) := by decide +kernel
theorem dX12_init_191 : decode cX12_init 191 = .ok (.dup, 1) := by decide +kernel
theorem dX12_init_192 : decode cX12_init 192 = .ok (.iconst 1, 1) := by decide +kernel
theorem dX12_init_193 : decode cX12_init 193 = .ok (.iconst (-1), 1) := by decide +kernel
theorem dX12_init_194 : decode cX12_init 194 = .ok (.iastore, 1) := by decide +kernel
theorem dX12_init_195 : decode cX12_init 195 = .ok (.dup, 1) := by decide +kernel
theorem dX12_init_196 : decode cX12_init 196 = .ok (.iconst 2, 1) := by decide +kernel
theorem dX12_init_197 : decode cX12_init 197 = .ok (.iconst (-1), 1) := by decide +kernel
theorem dX12_init_198 : decode cX12_init 198 = .ok (.iastore, 1) := by decide +kernel
theorem dX12_init_199 : decode cX12_init 199 = .ok (.putfield 81, 3) := by decide +kernel
theorem dX12_init_202 : decode cX12_init 202 = .ok (.aload_n 0, 1) := by decide +kernel
theorem dX12_init_203 : decode cX12_init 203 = .ok (.sipush 240, 3) := by decide +kernel
theorem dX12_init_206 : decode cX12_init 206 = .ok (.newarray .int, 2) := by decide +kernel
theorem dX12_init_208 : decode cX12_init 208 = .ok (.putfield 84, 3) := by decide +kernel
theorem dX12_init_211 : decode cX12_init 211 = .ok (.return_, 1) := by decide +kernel
