/-! LAYER 1j: constructors: shapes that grow -/
def WF (Sh : JSh) (ρ : JRo) (σ : JSg) : Prop := Sh.length < 1000000 ∧ (∀ k j q, ρ k j = some q → q < Sh.length) ∧ ∀ k, Sh.length ≤ k → ∀ j, σ k j = 0 ∧ ρ k j = none
def rfOK (n : Nat) : JV → Prop
  | .inr (.inr q) => q < n ∨ 1000000 ≤ q
  | _ => True
def wext (n : Nat) (w w' : JW) : Prop := (∀ k, k < n ∨ 1000000 ≤ k → w'.1 k = w.1 k) ∧ w'.2 = w.2
def NX (U : State) : Prop := va_Nw (.methodLinkNest "WidowRow" 28 yX10_init "WidowRow") U ∧ va_Nw (.methodLinkNest "WidowRow$World" 27 yX5_init "WidowRow") U ∧ va_Nw (.methodLinkNest "WidowRow$World" 34 yX8_init "WidowRow") U ∧ va_AO "WidowRow$Row" U
theorem NX.warm {s U : State} (h : NX s) (hW : s.WarmedH U.vm) : NX U := ⟨h.1.warmM hW, h.2.1.warmM hW, h.2.2.1.warmM hW, va_AO.moved hW.alike h.2.2.2⟩
theorem NX.calling {U : State} {g : JFrame} {mk : MethodId} {a : Array Value} (h : NX U) : NX (U.calling g mk a) := ⟨h.1.same rfl rfl, h.2.1.same rfl rfl, h.2.2.1.same rfl rfl, va_AO.moved (Vm.Alike.refl U.vm) h.2.2.2⟩
theorem wext.rf {n : Nat} {w : JW} : wext n w w := ⟨fun _ _ => rfl, rfl⟩
theorem wext.trans {n n' : Nat} {w w' w'' : JW} (h : wext n w w') (h' : wext n' w' w'') (hn : n ≤ n') : wext n w w'' :=
  ⟨fun k hk => (h'.1 k (by omega)).trans (h.1 k hk), h'.2.trans h.2⟩
theorem cv_ext {n : Nat} {w w' : JW} (h : wext n w w') {v : JV} (hv : rfOK n v) : cv w'.1 v = cv w.1 v := by
  rcases v with x | x | q
  · rfl
  · rfl
  · show Value.ref _ = Value.ref _
    rw [h.1 q hv]
theorem cellE_wext {n : Nat} {w w' : JW} {ρ : JRo} {σ : JSg} {k : Nat} (h : wext n w w') (hr : ∀ j q, ρ k j = some q → q < n) (kd : Nat ⊕ (Nat × Nat)) : cellE w' ρ σ k kd = cellE w ρ σ k kd := by
  have e : ∀ j, (ρ k j).map w'.1 = (ρ k j).map w.1 := by
    intro j
    cases hq : ρ k j with
    | none => rfl
    | some q => simp [h.1 q (Or.inl (hr j q hq))]
  cases kd with
  | inl ci =>
    show Sum.inr _ = Sum.inr _
    congr 2
    apply List.map_congr_left
    intro j _
    simp only [fV, va_re, e]
  | inr a =>
    show Sum.inl _ = Sum.inl _
    rw [h.2]
    congr 2
    simp only [aV, e]
theorem rd_wext {w w' : JW} {Sh : JSh} {ρ : JRo} {σ : JSg} (h : wext Sh.length w w') (wf : WF Sh ρ σ) : rd w' Sh ρ σ = rd w Sh ρ σ := by
  apply List.ext_getElem?
  intro k
  cases hs : Sh[k]? with
  | none => simp [rd, List.getElem?_mapIdx, hs]
  | some kd =>
    rw [rd_at hs, rd_at hs, cellE_wext h (fun j q hq => wf.2.1 k j q hq), h.1 k (Or.inl (List.getElem?_eq_some_iff.mp hs).1)]
theorem rd_push {w : JW} {Sh : JSh} {ρ : JRo} {σ : JSg} {kd : Nat ⊕ (Nat × Nat)} : rd w (Sh ++ [kd]) ρ σ = rd w Sh ρ σ ++ [(w.1 Sh.length, cellE w ρ σ Sh.length kd)] := by
  simp [rd, List.mapIdx_concat]
theorem RO_wext {n : Nat} {w w' : JW} {A : Nat → Prop} {s : State} (h : wext n w w') (hR : RO w A s) : RO w' A s := by
  have e1 : (fun i => w'.1 (1000000 + i)) = fun i => w.1 (1000000 + i) := funext fun i => h.1 _ (Or.inr (by omega))
  have e2 : (fun i => w'.1 (2000000 + i)) = fun i => w.1 (2000000 + i) := funext fun i => h.1 _ (Or.inr (by omega))
  unfold RO at hR ⊢
  rw [e1, e2, h.1 1000000 (Or.inr (by omega)), h.1 1000001 (Or.inr (by omega)), h.1 1000002 (Or.inr (by omega)), h.1 1000003 (Or.inr (by omega))]
  exact hR
/-- the map with one place more -/
def wput (w : JW) (n q : Nat) : JW := (fun k => if k = n then q else w.1 k, w.2)
theorem wput_ext {w : JW} {n q : Nat} (h : n < 1000000) : wext n w (wput w n q) := ⟨fun k hk => by simp only [wput]; rw [if_neg (by omega)], rfl⟩
theorem jst_push {w : JW} {Sh : JSh} {ρ : JRo} {σ : JSg} {A : Nat → Prop} {s : State} {H H1 : Heap} {locs : List Loc} {q : Nat} {kd : Nat ⊕ (Nat × Nat)} {E : va_E} (T : JSt w Sh ρ σ A s H locs) (wf : WF Sh ρ σ) (hP : va_P w.2.1 vwCl (rd w Sh ρ σ ++ [(q, E)]) H1) (hD : va_D A (rd w Sh ρ σ ++ [(q, E)])) (hS : va_S A s.heap H1 locs) (hE : cellE (wput w Sh.length q) ρ σ Sh.length kd = E) : JSt (wput w Sh.length q) (Sh ++ [kd]) ρ σ A s H1 locs := by
  have hx := wput_ext (w := w) (q := q) wf.1
  have e : rd (wput w Sh.length q) (Sh ++ [kd]) ρ σ = rd w Sh ρ σ ++ [(q, E)] := by
    rw [rd_push, rd_wext hx wf, hE]
    simp [wput]
  refine ⟨T.1, ?_, ?_, hS, T.2.2.2.2.1, RO_wext hx T.2.2.2.2.2⟩
  · rw [e]; exact hP
  · rw [e]; exact hD
/-- an end that is as good for a map with fewer places -/
def monoR (n : Nat) (R : JD) : Prop := ∀ (s : State) (m : MethodId) (args : Array Value) (below : List Frame) (w w' : JW) (A : Nat → Prop) (meth : Method) (c : Code) (l : Launch), wext n w w' → (∀ t, R.2.2.2.1 s m args below w' A t → R.2.2.2.1 s m args below w A t) ∧ (R.2.2.2.2 s args A w meth c l → R.2.2.2.2 s args A w' meth c l)
theorem W.mono {p : Program} {l : Launch} {e : Env} {R : Room} {s : State} {m : MethodId} {args : Array Value} {below : List Frame} {meth : Method} {c : Code} {H : Heap} {locs : List Loc} {cells slots : Nat} {Q Q' : State → Prop} {g : JFrame} (h : ∀ t, Q t → Q' t) (k : W p l e R s m args below meth c H locs cells slots Q g) : W p l e R s m args below meth c H locs cells slots Q' g := fun T hT X => by
  obtain ⟨t, a, b⟩ := k T hT X
  exact ⟨t, a, h t b⟩
theorem okE_zero (c : Nat) : okE c 0 := by
  unfold okE
  split
  · constructor <;> decide
  · split
    · exact Or.inl rfl
    · split
      · trivial
      · exact ok0
theorem okH_push {Sh : JSh} {ρ : JRo} {σ : JSg} {kd : Nat ⊕ (Nat × Nat)} (h : okH Sh σ) (wf : WF Sh ρ σ) : okH (Sh ++ [kd]) σ := by
  intro k kd' hk j
  by_cases hl : k < Sh.length
  · rw [List.getElem?_append_left hl] at hk
    exact h k kd' hk j
  · rw [(wf.2.2 k (by omega) j).1]
    exact okE_zero _
theorem WF.push {Sh : JSh} {ρ : JRo} {σ : JSg} {kd : Nat ⊕ (Nat × Nat)} (h : WF Sh ρ σ) (hl : Sh.length + 1 < 1000000) : WF (Sh ++ [kd]) ρ σ :=
  ⟨by simpa using hl, fun k j q hq => by have := h.2.1 k j q hq; simp; omega, fun k hk j => h.2.2 k (by simp at hk; omega) j⟩
theorem WF.sp {Sh : JSh} {ρ : JRo} {σ : JSg} {p j : Nat} {x : Int} (h : WF Sh ρ σ) (hp : p < Sh.length) : WF Sh ρ (sp σ p j x) :=
  ⟨h.1, h.2.1, fun k hk i => ⟨by rw [sp_ne (by omega)]; exact (h.2.2 k hk i).1, (h.2.2 k hk i).2⟩⟩
/-- one reference set -/
def rp (ρ : JRo) (p j q : Nat) : JRo := fun k i => if k = p then (if i = j then some q else ρ k i) else ρ k i
theorem WF.rput {Sh : JSh} {ρ : JRo} {σ : JSg} {p j q : Nat} (h : WF Sh ρ σ) (hp : p < Sh.length) (hq : q < Sh.length) : WF Sh (rp ρ p j q) σ := by
  refine ⟨h.1, fun k i q' hq' => ?_, fun k hk i => ⟨(h.2.2 k hk i).1, ?_⟩⟩
  · unfold rp at hq'
    split at hq'
    · split at hq'
      · cases hq'; exact hq
      · exact h.2.1 k i q' hq'
    · exact h.2.1 k i q' hq'
  · unfold rp
    rw [if_neg (by omega)]
    exact (h.2.2 k hk i).2
def dV (ci j : Nat) : Value := if fty ci j = 1 then .long (i64 0) else if fty ci j = 2 then .null else .int (i32 0)
section
variable {Z : Type} {own : String} {cc : ByteArray} {nL : Nat} {ret : Option FieldType} {d : Nat} {Sh : JSh} {ρ : JRo} {pc : Nat} {L : List (Nat × JV)} {S : List JV} {σ : JSg} {dec : Z → JD} {o : Option Z}
/-- what a growing row asks: the shape so far, the references at hand, the room -/
def growOK (Sh : JSh) (ρ : JRo) (σ : JSg) (L : List (Nat × JV)) (S : List JV) (n : Nat) (dec : Z → JD) : Prop :=
  WF Sh ρ σ ∧ Sh.length + 1 < 1000000 ∧ (∀ q ∈ L, rfOK Sh.length q.2) ∧ (∀ v ∈ S, rfOK Sh.length v) ∧ ∀ z, monoR Sh.length (dec z) ∧ Sh.length + 1 + 1000 - (dec z).2.2.1.1 ≤ (dec z).2.1.cells ∧ wsum Sh + n + 10000 - (dec z).2.2.1.2 ≤ (dec z).2.1.slots
theorem wsum_push {kd : Nat ⊕ (Nat × Nat)} : wsum (Sh ++ [kd]) = wsum Sh + wk kd := by simp [wsum]
theorem L_ext {w w' : JW} {n : Nat} (h : wext n w w') (hL : ∀ q ∈ L, rfOK n q.2) : (L.map fun q => (q.1, cv w'.1 q.2)) = L.map fun q => (q.1, cv w.1 q.2) := List.map_congr_left fun q hq => by rw [cv_ext h (hL q hq)]
theorem S_ext {w w' : JW} {n : Nat} (h : wext n w w') (hS : ∀ v ∈ S, rfOK n v) : S.map (cv w'.1) = S.map (cv w.1) := List.map_congr_left fun v hv => cv_ext h (hS v hv)
/-- growing, the machine's part: from what a row of the kit gives -/
theorem grow {R : JD} {kd : Nat ⊕ (Nat × Nat)} {pc' : Nat} {p : Program} {l : Launch} {e : Env} {s : State} {m : MethodId} {args : Array Value} {below : List Frame} {meth : Method} {c : Code} {w : JW} {A : Nat → Prop} {H H1 : Heap} {locs : List Loc} {ls : Array Slot} {q : Nat} {E : va_E}
    (h : SimM own cc nL ret d (Sh ++ [kd]) ρ pc' L (vR Sh.length :: S) σ R) (wf : WF Sh ρ σ) (hL : ∀ q ∈ L, rfOK Sh.length q.2) (hS : ∀ v ∈ S, rfOK Sh.length v) (hm : monoR Sh.length R) (hc : Sh.length + 1 + 1000 - R.2.2.1.1 ≤ R.2.1.cells ∧ wsum Sh + wk kd + 10000 - R.2.2.1.2 ≤ R.2.1.slots)
    (hr : jroom d Sh R) (hX : R.2.2.2.2 s args A w meth c l) (F : JFix p s m args meth c own cc nL ret) (T : JSt w Sh ρ σ A s H locs) (hl : lv_has ls nL (L.map fun q => (q.1, cv w.1 q.2)))
    (hP : va_P w.2.1 vwCl (rd w Sh ρ σ ++ [(q, E)]) H1) (hD : va_D A (rd w Sh ρ σ ++ [(q, E)])) (hS1 : va_S A s.heap H1 locs) (hE : cellE (wput w Sh.length q) ρ σ Sh.length kd = E) :
    W p l e R.2.1 s m args below meth c H1 locs (Sh.length + 1000 - R.2.2.1.1 + 1) (wsum Sh + 10000 - R.2.2.1.2 + wk kd) (R.2.2.2.1 s m args below w A) (F0 m pc' ls (.ref q :: S.map (cv w.1))) := by
  have hx := wput_ext (w := w) (q := q) wf.1
  have T' := jst_push T wf hP hD hS1 hE
  have h5 := hr.2.2.2.2.1
  have h6 := hr.2.2.2.2.2
  have hlen : (Sh ++ [kd]).length = Sh.length + 1 := by simp
  have hrm : jroom d (Sh ++ [kd]) R := ⟨hr.1, hr.2.1, by rw [hlen]; exact hc.1, by rw [wsum_push]; exact hc.2, by rw [hlen]; omega, by rw [wsum_push]; omega⟩
  have h1 := h p l e s m args below meth c (wput w Sh.length q) A H1 locs ls hrm ((hm s m args below w _ A meth c l hx).2 hX) F T' (by rw [L_ext hx hL]; exact hl)
  rw [hlen, wsum_push] at h1
  have e1 : Sh.length + 1 + 1000 - R.2.2.1.1 = Sh.length + 1000 - R.2.2.1.1 + 1 := by omega
  have e2 : wsum Sh + wk kd + 10000 - R.2.2.1.2 = wsum Sh + 10000 - R.2.2.1.2 + wk kd := by omega
  rw [e1, e2] at h1
  have e3 : (vR Sh.length :: S).map (cv (wput w Sh.length q).1) = .ref q :: S.map (cv w.1) := by
    rw [List.map_cons, S_ext hx hS]
    simp [cv, wput]
  rw [e3] at h1
  exact W.mono (hm s m args below w _ A meth c l hx).1 h1
theorem sim_new {idx ci N : Nat} {C : String} {TT : u_T} {ty : Nat → FieldType} (hC : JCls ci C TT N ty) (hdef : ∀ j, j < N → defaultValue (ty j) = dV ci j) (h1 : Cond.classLink own idx C ∈ WS) (h2 : Cond.instantiable C N ∈ WS) (h3 : Cond.initialized C ∈ WS) (hg : growOK Sh ρ σ L S N dec) (hd : decode cc pc = .ok (.new idx, 3))
    (k : GSim own cc nL ret d (Sh ++ [.inl ci]) ρ (pc + 3) L (vR Sh.length :: S) σ dec o) : GSim own cc nL ret d Sh ρ pc L S σ dec o := by
  obtain ⟨wf, hlen, gL, gS, gR⟩ := hg
  intro hL hS hH z hz
  obtain ⟨a1, a2⟩ := k hL (okS_cons (v := vR Sh.length) trivial hS) (okH_push hH wf) z hz
  refine ⟨a1, fun p l e s m args below meth c w A H locs ls hr hX F T hl => ?_⟩
  obtain ⟨b1, b2, b3⟩ := gR z
  have h5 := hr.2.2.2.2.1
  have h6 := hr.2.2.2.2.2
  obtain ⟨c1, c2, c3, c4, c5, c6⟩ := hC
  have hts := F.2.2.2.2.1
  have hwk : wk (.inl ci) = N := c5
  have hE : ∀ q, cellE (wput w Sh.length q) ρ σ Sh.length (.inl ci) = .inr (ci, (List.range N).map (dV ci)) := by
    intro q
    show Sum.inr _ = Sum.inr _
    rw [c5]
    congr 2
    apply List.map_congr_left
    intro j _
    obtain ⟨z1, z2⟩ := wf.2.2 Sh.length (Nat.le_refl _) j
    simp only [fV, dV, z1, z2, va_re, va_rf, Option.map_none]
  refine va_new (ci := ci) (fs := (List.range N).map (dV ci)) (C := C) (T := TT) (N := N) F.1 F.2.1 hts c2 ty c3 F.2.2.2.1 (hts _ h1) (hts _ h2) (hts _ h3) T.1 T.2.1 T.2.2.1 T.2.2.2.1 T.2.2.2.2.1 c1 (fun j hj => by rw [hdef j hj]; simp [vp_V, hj]) (by omega) (by omega) hd (fun q H1 hP hD hS1 => ?_)
  have := grow a2 wf gL gS b1 ⟨b2, by rw [hwk]; exact b3⟩ hr hX F T hl (l := l) (e := e) (below := below) hP hD hS1 (hE q)
  rw [hwk] at this
  exact this
theorem sim_newarr0 {n : Nat} {i : Int} (hi : i = (n : Int)) (hn9 : n * 8 ≤ 536870912) (h1 : Cond.arrayClass .int ∈ WS) (hg : growOK Sh ρ σ L S n dec) (hd : decode cc pc = .ok (.newarray .int, 2))
    (k : GSim own cc nL ret d (Sh ++ [.inr (0, n)]) ρ (pc + 2) L (vR Sh.length :: S) σ dec o) : GSim own cc nL ret d Sh ρ pc L (vI i :: S) σ dec o := by
  subst hi
  obtain ⟨wf, hlen, gL, gS, gR⟩ := hg
  intro hL hS hH z hz
  obtain ⟨a1, a2⟩ := k hL (okS_cons (v := vR Sh.length) trivial (okS_tl hS)) (okH_push hH wf) z hz
  refine ⟨a1, fun p l e s m args below meth c w A H locs ls hr hX F T hl => ?_⟩
  obtain ⟨b1, b2, b3⟩ := gR z
  have h5 := hr.2.2.2.2.1
  have h6 := hr.2.2.2.2.2
  have hts := F.2.2.2.2.1
  have hok : okI (n : Int) := okS_hd hS
  have hcl : (i32 (n : Int)).toNatClampNeg = n := by rw [i32_clamp hok]; omega
  refine va_newa (atype := .int) (ty := .int) (N' := n) (a0 := (n, .inl (fun _ => i32 0))) F.1 F.2.1 (hts _ h1) rfl T.1 T.2.1 T.2.2.1 T.2.2.2.1 T.2.2.2.2.1 (fun cA => rfl) (fun q => by rw [← i32_0, i32_lt hok ok0] at q; omega) hcl (by simp only [componentBytes]; omega) (by omega) (by omega) hd (fun q cA H1 hK hP hD hS1 => ?_)
  have e1 : cA = w.2.2 0 := by
    have g1 := (hK.2 5 _ rfl).2
    have g2 := (T.1.2 0 _ rfl).2
    exact Option.some.inj ((show s.vm.findClass _ = some cA from g1).symm.trans (show s.vm.findClass _ = some (w.2.2 0) from g2))
  subst e1
  refine grow a2 wf gL gS b1 ⟨b2, b3⟩ hr hX F T hl (l := l) (e := e) (below := below) hP hD hS1 ?_
  simp only [cellE]
  rw [aV_i (by decide) (by decide)]
  have z : ∀ j, σ Sh.length j = 0 := fun j => (wf.2.2 Sh.length (Nat.le_refl _) j).1
  simp only [z]
  rfl
theorem sim_newarr1 {n : Nat} {i : Int} (hi : i = (n : Int)) (hn9 : n * 8 ≤ 536870912) (h1 : Cond.arrayClass .byte ∈ WS) (hg : growOK Sh ρ σ L S n dec) (hd : decode cc pc = .ok (.newarray .byte, 2))
    (k : GSim own cc nL ret d (Sh ++ [.inr (1, n)]) ρ (pc + 2) L (vR Sh.length :: S) σ dec o) : GSim own cc nL ret d Sh ρ pc L (vI i :: S) σ dec o := by
  subst hi
  obtain ⟨wf, hlen, gL, gS, gR⟩ := hg
  intro hL hS hH z hz
  obtain ⟨a1, a2⟩ := k hL (okS_cons (v := vR Sh.length) trivial (okS_tl hS)) (okH_push hH wf) z hz
  refine ⟨a1, fun p l e s m args below meth c w A H locs ls hr hX F T hl => ?_⟩
  obtain ⟨b1, b2, b3⟩ := gR z
  have h5 := hr.2.2.2.2.1
  have h6 := hr.2.2.2.2.2
  have hts := F.2.2.2.2.1
  have hok : okI (n : Int) := okS_hd hS
  have hcl : (i32 (n : Int)).toNatClampNeg = n := by rw [i32_clamp hok]; omega
  refine va_newa (atype := .byte) (ty := .byte) (N' := n) (a0 := (n, .inl (fun _ => i32 0))) F.1 F.2.1 (hts _ h1) rfl T.1 T.2.1 T.2.2.1 T.2.2.2.1 T.2.2.2.2.1 (fun cA => rfl) (fun q => by rw [← i32_0, i32_lt hok ok0] at q; omega) hcl (by simp only [componentBytes]; omega) (by omega) (by omega) hd (fun q cA H1 hK hP hD hS1 => ?_)
  have e1 : cA = w.2.2 1 := by
    have g1 := (hK.2 5 _ rfl).2
    have g2 := (T.1.2 1 _ rfl).2
    exact Option.some.inj ((show s.vm.findClass _ = some cA from g1).symm.trans (show s.vm.findClass _ = some (w.2.2 1) from g2))
  subst e1
  refine grow a2 wf gL gS b1 ⟨b2, b3⟩ hr hX F T hl (l := l) (e := e) (below := below) hP hD hS1 ?_
  simp only [cellE]
  rw [aV_i (by decide) (by decide)]
  have z : ∀ j, σ Sh.length j = 0 := fun j => (wf.2.2 Sh.length (Nat.le_refl _) j).1
  simp only [z]
  rfl
theorem sim_newarr2 {n : Nat} {i : Int} (hi : i = (n : Int)) (hn9 : n * 8 ≤ 536870912) (h1 : Cond.arrayClass .long ∈ WS) (hg : growOK Sh ρ σ L S n dec) (hd : decode cc pc = .ok (.newarray .long, 2))
    (k : GSim own cc nL ret d (Sh ++ [.inr (2, n)]) ρ (pc + 2) L (vR Sh.length :: S) σ dec o) : GSim own cc nL ret d Sh ρ pc L (vI i :: S) σ dec o := by
  subst hi
  obtain ⟨wf, hlen, gL, gS, gR⟩ := hg
  intro hL hS hH z hz
  obtain ⟨a1, a2⟩ := k hL (okS_cons (v := vR Sh.length) trivial (okS_tl hS)) (okH_push hH wf) z hz
  refine ⟨a1, fun p l e s m args below meth c w A H locs ls hr hX F T hl => ?_⟩
  obtain ⟨b1, b2, b3⟩ := gR z
  have h5 := hr.2.2.2.2.1
  have h6 := hr.2.2.2.2.2
  have hts := F.2.2.2.2.1
  have hok : okI (n : Int) := okS_hd hS
  have hcl : (i32 (n : Int)).toNatClampNeg = n := by rw [i32_clamp hok]; omega
  refine va_newa (atype := .long) (ty := .long) (N' := n) (a0 := (n, .inr (.inl (fun _ => i64 0)))) F.1 F.2.1 (hts _ h1) rfl T.1 T.2.1 T.2.2.1 T.2.2.2.1 T.2.2.2.2.1 (fun cA => rfl) (fun q => by rw [← i32_0, i32_lt hok ok0] at q; omega) hcl (by simp only [componentBytes]; omega) (by omega) (by omega) hd (fun q cA H1 hK hP hD hS1 => ?_)
  have e1 : cA = w.2.2 2 := by
    have g1 := (hK.2 5 _ rfl).2
    have g2 := (T.1.2 2 _ rfl).2
    exact Option.some.inj ((show s.vm.findClass _ = some cA from g1).symm.trans (show s.vm.findClass _ = some (w.2.2 2) from g2))
  subst e1
  refine grow a2 wf gL gS b1 ⟨b2, b3⟩ hr hX F T hl (l := l) (e := e) (below := below) hP hD hS1 ?_
  simp only [cellE]
  rw [aV_l]
  have z : ∀ j, σ Sh.length j = 0 := fun j => (wf.2.2 Sh.length (Nat.le_refl _) j).1
  simp only [z]
  rfl
theorem sim_newarr3 {n : Nat} {i : Int} (hi : i = (n : Int)) (hn9 : n * 8 ≤ 536870912) (h1 : Cond.arrayClass .boolean ∈ WS) (hg : growOK Sh ρ σ L S n dec) (hd : decode cc pc = .ok (.newarray .boolean, 2))
    (k : GSim own cc nL ret d (Sh ++ [.inr (3, n)]) ρ (pc + 2) L (vR Sh.length :: S) σ dec o) : GSim own cc nL ret d Sh ρ pc L (vI i :: S) σ dec o := by
  subst hi
  obtain ⟨wf, hlen, gL, gS, gR⟩ := hg
  intro hL hS hH z hz
  obtain ⟨a1, a2⟩ := k hL (okS_cons (v := vR Sh.length) trivial (okS_tl hS)) (okH_push hH wf) z hz
  refine ⟨a1, fun p l e s m args below meth c w A H locs ls hr hX F T hl => ?_⟩
  obtain ⟨b1, b2, b3⟩ := gR z
  have h5 := hr.2.2.2.2.1
  have h6 := hr.2.2.2.2.2
  have hts := F.2.2.2.2.1
  have hok : okI (n : Int) := okS_hd hS
  have hcl : (i32 (n : Int)).toNatClampNeg = n := by rw [i32_clamp hok]; omega
  refine va_newa (atype := .boolean) (ty := .boolean) (N' := n) (a0 := (n, .inl (fun _ => i32 0))) F.1 F.2.1 (hts _ h1) rfl T.1 T.2.1 T.2.2.1 T.2.2.2.1 T.2.2.2.2.1 (fun cA => rfl) (fun q => by rw [← i32_0, i32_lt hok ok0] at q; omega) hcl (by simp only [componentBytes]; omega) (by omega) (by omega) hd (fun q cA H1 hK hP hD hS1 => ?_)
  have e1 : cA = w.2.2 3 := by
    have g1 := (hK.2 5 _ rfl).2
    have g2 := (T.1.2 3 _ rfl).2
    exact Option.some.inj ((show s.vm.findClass _ = some cA from g1).symm.trans (show s.vm.findClass _ = some (w.2.2 3) from g2))
  subst e1
  refine grow a2 wf gL gS b1 ⟨b2, b3⟩ hr hX F T hl (l := l) (e := e) (below := below) hP hD hS1 ?_
  simp only [cellE]
  rw [aV_i (by decide) (by decide)]
  have z : ∀ j, σ Sh.length j = 0 := fun j => (wf.2.2 Sh.length (Nat.le_refl _) j).1
  simp only [z]
  rfl
theorem sim_newarr4 {n idx : Nat} {i : Int} (hi : i = (n : Int)) (hn9 : n * 8 ≤ 536870912) (h1 : Cond.classLink own idx "WidowRow$Row" ∈ WS) (hnx : ∀ z s args A w meth c l, (dec z).2.2.2.2 s args A w meth c l → NX s) (hg : growOK Sh ρ σ L S n dec) (hd : decode cc pc = .ok (.anewarray idx, 3))
    (k : GSim own cc nL ret d (Sh ++ [.inr (4, n)]) ρ (pc + 3) L (vR Sh.length :: S) σ dec o) : GSim own cc nL ret d Sh ρ pc L (vI i :: S) σ dec o := by
  subst hi
  obtain ⟨wf, hlen, gL, gS, gR⟩ := hg
  intro hL hS hH z hz
  obtain ⟨a1, a2⟩ := k hL (okS_cons (v := vR Sh.length) trivial (okS_tl hS)) (okH_push hH wf) z hz
  refine ⟨a1, fun p l e s m args below meth c w A H locs ls hr hX F T hl => ?_⟩
  obtain ⟨b1, b2, b3⟩ := gR z
  have h5 := hr.2.2.2.2.1
  have h6 := hr.2.2.2.2.2
  have hts := F.2.2.2.2.1
  have hok : okI (n : Int) := okS_hd hS
  have hcl : (i32 (n : Int)).toNatClampNeg = n := by rw [i32_clamp hok]; omega
  refine va_newq (C := "WidowRow$Row") (N' := n) F.1 F.2.1 F.2.2.2.1 (hts _ h1) (hnx z s args A w meth c l hX).2.2.2 T.1 T.2.1 T.2.2.1 T.2.2.2.1 T.2.2.2.2.1 (fun q => by rw [← i32_0, i32_lt hok ok0] at q; omega) hcl (by omega) (by omega) (by omega) hd (fun q cA H1 hK hP hD hS1 => ?_)
  have e1 : cA = w.2.2 4 := by
    obtain ⟨kA, comp, -, -, -, g1⟩ := (hK.2 5 _ rfl).2
    obtain ⟨kA', comp', -, -, -, g2⟩ := (T.1.2 4 _ rfl).2
    exact Option.some.inj (g1.symm.trans g2)
  subst e1
  refine grow a2 wf gL gS b1 ⟨b2, b3⟩ hr hX F T hl (l := l) (e := e) (below := below) hP hD hS1 ?_
  simp only [cellE]
  rw [aV_q]
  have z : ∀ j, ρ Sh.length j = none := fun j => (wf.2.2 Sh.length (Nat.le_refl _) j).2
  simp only [z]
  rfl
theorem rd_setR {w : JW} {p : Nat} {kd : Nat ⊕ (Nat × Nat)} {e : va_E} {ρ' : JRo} (h : Sh[p]? = some kd) (ho : ∀ k, k ≠ p → ρ' k = ρ k) (he : cellE w ρ' σ p kd = e) : (rd w Sh ρ σ).set p (w.1 p, e) = rd w Sh ρ' σ := by
  apply List.ext_getElem?
  intro k
  by_cases hk : k = p
  · subst hk
    have hl : k < (rd w Sh ρ σ).length := by rw [rd_len]; exact (List.getElem?_eq_some_iff.mp h).1
    rw [List.getElem?_set_self hl, rd_at h, he]
  · rw [List.getElem?_set_ne (Ne.symm hk)]
    cases hs : Sh[k]? with
    | none => simp [rd, List.getElem?_mapIdx, hs]
    | some kd' =>
      rw [rd_at hs, rd_at hs]
      cases kd' with
      | inl ci => simp [cellE, fV, ho k hk]
      | inr a => simp [cellE, aV, ho k hk]
theorem rp_ne {p j q k : Nat} (h : k ≠ p) : rp ρ p j q k = ρ k := by
  funext i
  simp [rp, h]
/-- a final reference field, set by the constructor of its class -/
theorem sim_putR {idx ci j p q : Nat} (hf : JFld own idx ci j 2 true) (hown : ∀ C T N, vwCl[ci]? = some (C, T, N) → (T j).1 = own) (hty : ∀ (C : String) (T : u_T) (N : Nat) (ty : Nat → FieldType), JCls ci C T N ty → ∀ a, narrow (ty j) (.ref a) = .ref a ∧ fits (ty j) (.ref a) = true) (hs : Sh[p]? = some (.inl ci)) (hin : ∀ z s args A w meth c l, (dec z).2.2.2.2 s args A w meth c l → meth.name = "<init>") (hd : decode cc pc = .ok (.putfield idx, 3))
    (k : GSim own cc nL ret d Sh (rp ρ p j q) (pc + 3) L S σ dec o) : GSim own cc nL ret d Sh ρ pc L (vR q :: vR p :: S) σ dec o := by
  intro hL hS hH z hz
  obtain ⟨a1, a2⟩ := k hL (okS_tl (okS_tl hS)) hH z hz
  refine ⟨a1, fun pp l e s m args below meth c w A H locs ls hr hX F T hl => ?_⟩
  obtain ⟨C, TT, N, ty, hJ, hj, hlk, hft, hfin⟩ := hf
  obtain ⟨h1, h2, h3, h4, h5, h6⟩ := id hJ
  have hset : cellE w (rp ρ p j q) σ p (.inl ci) = .inr (ci, ((List.range (fN ci)).map (fun i => fV w.1 ρ σ p ci i)).set j (cv w.1 (vR q))) := by
    show Sum.inr _ = Sum.inr _
    congr 2
    refine (list_set_range (fN ci) j _ _ _ (by rw [h5]; exact hj) ?_ (fun i hi => ?_)).symm
    · simp [fV, hft, rp, va_re, va_rf, cv]
    · simp [fV, rp, hi]
  have he := rd_setR (w := w) (ρ := ρ) (σ := σ) (ρ' := rp ρ p j q) hs (fun k hk => rp_ne hk) hset
  refine va_putF (D := w.2.1) (C := C) (T := TT) (N := N) F.1 F.2.1 F.2.2.2.2.1 h2 ty h3 h4 F.2.2.2.1 T.1 T.2.1 T.2.2.1 T.2.2.2.1 p (rd_at hs) h1 j hj (F.2.2.2.2.1 _ hlk) (fun _ h9 => h9) hfin (hin z s args A w meth c l hX) (hown C TT N h1) (h3 j hj) (hty C TT N ty hJ _).1 (hty C TT N ty hJ _).2 (by simpa [h5] using hj) hd (fun H1 locs1 hP hD hS2 => ?_)
  rw [he] at hP hD
  exact a2 pp l e s m args below meth c w A H1 locs1 ls hr hX F ⟨T.1, hP, hD, hS2, T.2.2.2.2⟩ hl
theorem sim_aastore {p n q : Nat} {i N : Int} (hs : Sh[p]? = some (.inr (4, n))) (hN : (n : Int) = N) (hq : Sh[q]? = some (.inl 7)) (hd : decode cc pc = .ok (.aastore, 1)) (k : 0 ≤ i ∧ i < N → GSim own cc nL ret d Sh (rp ρ p i.toNat q) (pc + 1) L S σ dec o) : GSim own cc nL ret d Sh ρ pc L (vR q :: vI i :: vR p :: S) σ dec (chk (0 ≤ i ∧ i < N) o) := by
  refine sim_chk fun hi => ?_
  intro hL hS hH z hz
  obtain ⟨a1, a2⟩ := k hi hL (okS_tl (okS_tl (okS_tl hS))) hH z hz
  refine ⟨a1, fun pp l e s m args below meth c w A H locs ls hr hX F T hl => ?_⟩
  have hoi : okI i := okS_hd (okS_tl hS)
  have hi2 := vp_in_i (n := n) hoi hi.1 (by omega)
  refine va_astq (D := w.2.1) F.1 F.2.1 T.1 T.2.1 T.2.2.1 T.2.2.2.1 p 4 q 7 (cA := w.2.2 4) (r := (RX7, TX7, 8)) (n := n) (v := w.1 q) (f := fun j => (ρ p j).map w.1) (by rw [rd_at hs]; simp only [cellE]; rw [aV_q]) rfl (by rw [rd_at hq]; rfl) rfl hi2 hd (fun H1 locs1 hP hD hS2 => ?_)
  have hset : cellE w (rp ρ p i.toNat q) σ p (.inr (4, n)) = .inl (w.2.2 4, n, .inr (.inr (.inr (.inr (va_up (fun j => (ρ p j).map w.1) i.toNat (some (w.1 q))))))) := by
    simp only [cellE]
    rw [aV_q]
    congr 7
    funext j
    by_cases h : j = i.toNat <;> simp [va_up, rp, h]
  rw [i32_clamp hoi, rd_setR (ρ' := rp ρ p i.toNat q) hs (fun k hk => rp_ne hk) hset] at hP hD
  exact a2 pp l e s m args below meth c w A H1 locs1 ls hr hX F ⟨T.1, hP, hD, hS2, T.2.2.2.2⟩ hl
theorem sim_objInit {idx q : Nat} (h1 : Cond.methodLink own idx objectInit ∈ WS) (h2 : Cond.instanceMethod objectInit ∈ WS) (h3 : Cond.code objectInit ⟨#[0xb1]⟩ 1 none ∈ WS) (hdd : 1 ≤ d) (hS8 : jwid S ≤ 8) (hd : decode cc pc = .ok (.invokespecial idx, 3)) (k : GSim own cc nL ret d Sh ρ (pc + 3) L S σ dec o) : GSim own cc nL ret d Sh ρ pc L (vR q :: S) σ dec o := by
  refine sim_go (fun hL hS hH => ⟨hL, okS_tl hS, hH⟩) ?_ k
  intro hL hS hH R h p l e s m args below meth c w A H locs ls hr hX F T hl
  have hts := F.2.2.2.2.1
  have h8 := catS (w := w) hS8
  refine W.objInit F.1 F.2.1 F.2.2.2.1 (hts _ h1) (hts _ h2) (hts _ h3) rfl (by rw [F.2.2.1]; exact hl.1) rfl hd (Nat.le_trans hdd hr.1) (by have h7 := hr.2.1; show 2 * 0 + _ + 12 ≤ _; omega) (h p l e s m args below meth c w A H locs ls hr hX F T hl)
end
