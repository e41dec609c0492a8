/-! LAYER 1k: constructors called -/
def rmD (d c s : Nat) : Room := { frames := d, cells := c, slots := s, locals := 64 * d }
def QD (w : JW) (n : Nat) (Sh' : JSh) (ρ' : JRo) (σ' : JSg) (A : Nat → Prop) : Array Value → State → Outcome → State → Prop := fun _ st oc t =>
  (oc = .returned none ∧ ∃ w', wext n w w' ∧ va_P w'.2.1 vwCl (rd w' Sh' ρ' σ') t.heap ∧ va_K w'.2.1 vwCl (tysL w'.2.2) t ∧ va_D A (rd w' Sh' ρ' σ')) ∧ va_F A st t
def rD (d n0 s0 : Nat) (Sh' : JSh) (ρ' : JRo) (σ' : JSg) : JD := (okH Sh' σ', rmD d (Sh'.length - n0) (wsum Sh' - s0), (n0 + 1000, s0 + 10000), (fun s m args below w A => MQ below (QD w n0 Sh' ρ' σ' A) args s (Sh'.length - n0) (wsum Sh' - s0) A), fun s _ _ _ meth _ _ => NX s ∧ meth.name = "<init>")
def DPre (w : JW) (Sh : JSh) (ρ : JRo) (σ : JSg) (sz : Nat) (U : State) : Prop := U.heap.size = sz ∧ va_P w.2.1 vwCl (rd w Sh ρ σ) U.heap ∧ va_K w.2.1 vwCl (tysL w.2.2) U ∧ va_D (fun _ => True) (rd w Sh ρ σ) ∧ RO w (va_A (rd w Sh ρ σ) sz) U ∧ NX U
def DCall (y : MethodName) (cc : ByteArray) (nL d : Nat) (Sh : JSh) (ρ : JRo) (as : List JV) (σ : JSg) (Sh' : JSh) (ρ' : JRo) (σ' : JSg) : Prop :=
  (∀ v ∈ as, okV v) → okH Sh σ → okH Sh' σ' ∧ ∀ (l : Launch) (w : JW) (sz : Nat), Met l y (.code y cc nL none :: WS) (rmD d (Sh'.length - Sh.length) (wsum Sh' - wsum Sh)) (va_Pc (as.map (cv w.1)) (DPre w Sh ρ σ sz)) (QD w Sh.length Sh' ρ' σ' (va_A (rd w Sh ρ σ) sz)) (Sh'.length - Sh.length) (wsum Sh' - wsum Sh) (va_A (rd w Sh ρ σ) sz)
theorem d_blind {as : List JV} {w : JW} {Sh : JSh} {ρ : JRo} {σ : JSg} {sz : Nat} : FrameBlind (va_Pc (as.map (cv w.1)) (DPre w Sh ρ σ sz)) :=
  fun a U g mk q => by
    obtain ⟨q0, q1, qP, qK, qD, qR, qN⟩ := q
    exact ⟨q0, q1, qP, va_K.moved (u := U) (U := U.calling g mk a) (Vm.Alike.refl U.vm) qK, qD, qR.calling, qN.calling⟩
theorem dcall_of_sim {y : MethodName} {cc : ByteArray} {nL d : Nat} {Sh Sh' : JSh} {ρ ρ' : JRo} {as : List JV} {σ σ' : JSg} (hy : plainName y.cls = true) (hy1 : y.name = "<init>") (hw : jwid as ≤ nL) (hle : Sh.length ≤ Sh'.length ∧ wsum Sh ≤ wsum Sh')
    (h : GSim y.cls cc nL none d Sh ρ 0 (jargs 0 as) [] σ (fun _ : Unit => rD d Sh.length (wsum Sh) Sh' ρ' σ') (some ())) : DCall y cc nL d Sh ρ as σ Sh' ρ' σ' := by
  intro ha hH
  obtain ⟨g1, g2⟩ := h (jargs_ok ha 0) (fun v hv => by cases hv) hH () rfl
  refine ⟨g1, fun l w sz => ?_⟩
  refine Met.ofW (cc := cc) (maxL := nL) (ret := none) hy rfl ?_
  intro p e s m args below meth c s₁ B hml hv
  obtain ⟨rfl, hsz, hP, hK, hD0, hRO, hN⟩ := hv
  subst hsz
  have hts := atoms_spec (ws := .code y cc nL none :: WS) B.pre
  have hown : s.vm.findClass y.cls = some m.cls := findClass_of_methodNamed B.named
  rw [lg_entry_eq]
  have hl := lv_entry (as.map (cv w.1)) (n := nL) (by rw [jwid_sl]; exact hw)
  rw [jargs_map] at hl
  have h9 := g2 p l e s m _ below meth c w (va_A (rd w Sh ρ σ) s.heap.size) s.heap [] _ ⟨Nat.le_refl _, Nat.le_refl _, by simp [rD, rmD], by simp [rD, rmD], Nat.le_refl _, Nat.le_refl _⟩ ⟨hN, (name_of_methodNamed B.named B.method).1.trans hy1⟩ ⟨B.exec, B.bytes, hml, hown, fun x hx => hts x (List.mem_cons_of_mem _ hx), B.returns, B.notSynchronized⟩ ⟨hK, hP, hD0.self, va_S.rf, fun q hq => Or.inr hq, hRO⟩ hl
  simp only [rD, Nat.sub_self, Nat.add_sub_add_right] at h9
  exact h9
section
variable {p : Program} {l : Launch} {e : Env} {R : Room} {s : State} {m : MethodId} {args : Array Value} {below : List Frame} {meth : Method} {c : Code} {H : Heap} {locs : List Loc} {Q : State → Prop} {pc : Nat} {ls : Array Slot} {rest st0 : List Value} {a : Array Value} {A0 A1 : Nat → Prop} {H0 : Heap} {free : Addr → Prop} {w : JW} {Sh1 : JSh} {ρ1 : JRo} {σ1 : JSg} {n ce sl mc ms : Nat}
theorem d_cont (hr : va_Run p l e R s m args below meth c H locs ce sl mc ms (F0 m pc ls st0) rest (QD w n Sh1 ρ1 σ1 A1 a) free) (hS : va_S A0 H0 H locs) (hA : ∀ q, q < H.size → A1 q → A0 q) (hf : ∀ q, free q → A0 q)
    (kk : ∀ (w' : JW) (H1 : Heap) (locs1 : List Loc), wext n w w' → va_P w'.2.1 vwCl (rd w' Sh1 ρ1 σ1) H1 → va_D A1 (rd w' Sh1 ρ1 σ1) → va_S A0 H0 H1 locs1 → W p l e R s m args below meth c H1 locs1 (ce + mc) (sl + ms) Q (F0 m (pc + 3) ls rest)) : W p l e R s m args below meth c H locs ce sl Q (F0 m pc ls st0) := by
  intro T hT X
  obtain ⟨v, st₀, t, T', L, h0, X', hL, e1, e2, ⟨⟨hv, w', hx, hP, hK, hD⟩, hz, hk⟩, st⟩ := hr T hT X
  cases hv
  rw [h0] at hz hk
  obtain ⟨t2, a1, b1⟩ := kk w' T'.heap (locs ++ L) hx (by rw [e1]; exact hP) hD
    ⟨Nat.le_trans hS.1 (by rw [e1]; exact hz), fun q h1 h2 => by rw [e1, hk q (Nat.lt_of_lt_of_le h1 hS.1) (fun z => h2 (hA q (Nat.lt_of_lt_of_le h1 hS.1) z))]; exact hS.2.1 q h1 h2, fun q hq => by
      rcases List.mem_append.mp hq with h | h
      · exact hS.2.2 q h
      · exact hf _ (hL q h)⟩ T' rfl X'
  exact ⟨t2, st t2 a1, b1⟩
end
section
variable {Z : Type} {own : String} {cc : ByteArray} {nL : Nat} {ret : Option FieldType} {d : Nat} {Sh Sh1 : JSh} {ρ ρ1 : JRo} {pc : Nat} {L : List (Nat × JV)} {S st : List JV} {σ σ1 : JSg} {dec : Z → JD} {o : Option Z} {y : MethodName} {cc' : ByteArray} {nL' d' idx n q : Nat} {as : List JV}
theorem sim_dret {n0 s0 : Nat} (hr : ret = none) (hd : decode cc pc = .ok (.return_, 1)) : GSim own cc nL ret d Sh ρ pc L [] σ (fun _ : Unit => rD d n0 s0 Sh ρ σ) (some ()) := by
  intro hL hS hH z' hz'
  refine ⟨hH, fun p l e s m args below meth c w A H locs ls _ _ F T hl => ?_⟩
  simp only [rD, Nat.add_sub_add_right]
  exact W.vret F.1 F.2.1 (by rw [F.2.2.2.2.2.1, hr]) (fun t ht hW => ⟨⟨rfl, w, wext.rf, by rw [ht]; exact T.2.1, va_K.moved hW.alike T.1, T.2.2.1⟩, T.2.2.2.1.F ht⟩) T.2.2.2.1.2.2 hd F.2.2.2.2.2.2
theorem rD_mono {n0 s0 n : Nat} {Sh' : JSh} {ρ' : JRo} {σ' : JSg} (h : n0 ≤ n) : monoR n (rD d n0 s0 Sh' ρ' σ') := by
  intro s m args below w w' A meth c l hx
  refine ⟨?_, fun h => h⟩
  rintro t ⟨oo, a1, a2, ⟨⟨b1, w2, b2, b3⟩, b4⟩, a4⟩
  exact ⟨oo, a1, a2, ⟨⟨b1, w2, ⟨fun k hk => (b2.1 k hk).trans (hx.1 k (by omega)), b2.2.trans hx.2⟩, b3⟩, b4⟩, a4⟩
/-- what a constructor's call asks of the rest -/
def ctorOK (Sh Sh1 : JSh) (L : List (Nat × JV)) (S : List JV) (dec : Z → JD) : Prop :=
  Sh.length ≤ Sh1.length ∧ wsum Sh ≤ wsum Sh1 ∧ (∀ q ∈ L, rfOK Sh.length q.2) ∧ (∀ v ∈ S, rfOK Sh.length v) ∧ ∀ z, monoR Sh.length (dec z) ∧ Sh1.length + 1000 - (dec z).2.2.1.1 ≤ (dec z).2.1.cells ∧ wsum Sh1 + 10000 - (dec z).2.2.1.2 ≤ (dec z).2.1.slots
theorem sim_ctorG (hy1 : y.name = "<init>") (hrun : ∀ (z : Z) (p : Program) (l : Launch) (e : Env) (s : State) (m : MethodId) (args : Array Value) (below : List Frame) (meth : Method) (c : Code) (w : JW) (A : Nat → Prop) (H : Heap) (locs : List Loc) (ls : Array Slot), jroom d Sh (dec z) → (dec z).2.2.2.2 s args A w meth c l → JFix p s m args meth c own cc nL ret → JSt w Sh ρ σ A s H locs → lv_has ls nL (L.map fun q => (q.1, cv w.1 q.2)) →
      (∀ sz, Met l y (.code y cc' nL' none :: WS) (rmD d' (Sh1.length - Sh.length) (wsum Sh1 - wsum Sh)) (va_Pc ((vR q :: as).map (cv w.1)) (DPre w Sh ρ σ sz)) (QD w Sh.length Sh1 ρ1 σ1 (va_A (rd w Sh ρ σ) sz)) (Sh1.length - Sh.length) (wsum Sh1 - wsum Sh) (va_A (rd w Sh ρ σ) sz)) →
      Sh.length + 1000 - (dec z).2.2.1.1 + (Sh1.length - Sh.length) ≤ (dec z).2.1.cells ∧ wsum Sh + 10000 - (dec z).2.2.1.2 + (wsum Sh1 - wsum Sh) ≤ (dec z).2.1.slots →
      ∃ a, va_Run p l e (dec z).2.1 s m args below meth c H locs (Sh.length + 1000 - (dec z).2.2.1.1) (wsum Sh + 10000 - (dec z).2.2.1.2) (Sh1.length - Sh.length) (wsum Sh1 - wsum Sh) (F0 m pc ls ((as.reverse ++ vR q :: S).map (cv w.1))) (S.map (cv w.1)) (QD w Sh.length Sh1 ρ1 σ1 (va_A (rd w Sh ρ σ) H.size) a) (va_A (rd w Sh ρ σ) H.size))
    (hK : DCall y cc' nL' d' Sh ρ (vR q :: as) σ Sh1 ρ1 σ1) (hok : ctorOK Sh Sh1 L S dec) (hst : st = as.reverse ++ vR q :: S)
    (k : GSim own cc nL ret d Sh1 ρ1 (pc + 3) L S σ1 dec o) : GSim own cc nL ret d Sh ρ pc L st σ dec o := by
  subst hst
  intro hL hS hH z hz
  have has : ∀ v ∈ vR q :: as, okV v := okS_cons trivial fun v hv => hS v (List.mem_append_left _ (List.mem_reverse.mpr hv))
  obtain ⟨r2, hM⟩ := hK has hH
  obtain ⟨o1, o2, o3, o4, o5⟩ := hok
  obtain ⟨m1, m2, m3⟩ := o5 z
  obtain ⟨g1, g2⟩ := k hL (fun v hv => hS v (List.mem_append_right _ (List.mem_cons_of_mem _ hv))) r2 z hz
  refine ⟨g1, fun p l e s m args below meth c w A H locs ls hr hX F TT hl => ?_⟩
  have h5 := hr.2.2.2.2.1
  have h6 := hr.2.2.2.2.2
  have hfree := va_A_rd TT
  obtain ⟨a, hv⟩ := hrun z p l e s m args below meth c w A H locs ls hr hX F TT hl (fun sz => hM l w sz) ⟨by omega, by omega⟩
  refine d_cont hv TT.2.2.2.1 (fun x _ hx => hfree x hx) hfree fun w' H1 locs1 hx hP1 hD1 hS1 => ?_
  have hmo := m1 s m args below w w' A meth c l hx
  have h3 := g2 p l e s m args below meth c w' A H1 locs1 ls ⟨hr.1, hr.2.1, m2, m3, by omega, by omega⟩ (hmo.2 hX) F ⟨by rw [hx.2]; exact TT.1, hP1, ⟨hD1.1, fun k q hk => hfree _ (hD1.2 k q hk)⟩, hS1, TT.2.2.2.2.1, RO_wext hx TT.2.2.2.2.2⟩ (by rw [L_ext hx o3]; exact hl)
  rw [S_ext hx o4] at h3
  have e1 : Sh1.length + 1000 - (dec z).2.2.1.1 = Sh.length + 1000 - (dec z).2.2.1.1 + (Sh1.length - Sh.length) := by omega
  have e2 : wsum Sh1 + 10000 - (dec z).2.2.1.2 = wsum Sh + 10000 - (dec z).2.2.1.2 + (wsum Sh1 - wsum Sh) := by omega
  rw [e1, e2] at h3
  exact W.mono hmo.1 h3
theorem sim_ctor (hlk : JLnk own idx y cc' nL' none n) (hin : Cond.instanceMethod y ∈ WS) (hy1 : y.name = "<init>") (hnx : ∀ z s args A w meth c l, (dec z).2.2.2.2 s args A w meth c l → NX s) (hn : as.length = n) (hdd : d' + 1 ≤ d ∧ nL' ≤ 45) (hS8 : jwid S ≤ 8) (hd : decode cc pc = .ok (.invokespecial idx, 3))
    (hK : DCall y cc' nL' d' Sh ρ (vR q :: as) σ Sh1 ρ1 σ1) (hok : ctorOK Sh Sh1 L S dec) (hst : st = as.reverse ++ vR q :: S)
    (k : GSim own cc nL ret d Sh1 ρ1 (pc + 3) L S σ1 dec o) : GSim own cc nL ret d Sh ρ pc L st σ dec o := by
  refine sim_ctorG (cc' := cc') (nL' := nL') (d' := d') hy1 (fun z p l e s m args below meth c w A H locs ls hr hX F TT hl hM hf => ?_) hK hok hst k
  obtain ⟨hlk1, hlk2, hlk3, hlk4⟩ := hlk
  have hts := F.2.2.2.2.1
  have hfree := va_A_rd TT
  have hN := hnx z s args A w meth c l hX
  exact ⟨_, va_runI (As := as.map (cv w.1)) (rest := S.map (cv w.1)) (b := w.1 q) (locs := locs) (n := n) (l := l) (e := e) (below := below) (meth := meth) (R := (dec z).2.1) (H := H) (g := F0 m pc ls ((as.reverse ++ vR q :: S).map (cv w.1))) ⟨F.1, F.2.1, F.2.2.1, F.2.2.2.1, F.2.2.2.2.1⟩ (hM H.size)
    (cwI n hts (good_code hlk2) rfl rfl rfl (hts _ hlk3) (hts _ hlk1) (hts _ hin) hy1 hlk4 ⟨by have h7 := hr.1; simp only [rmD]; omega, by have h7 := hr.2.1; simp only [rmD]; omega⟩)
    ⟨d_blind, fun U hU hW => ⟨rfl, by rw [hU], by rw [hU]; exact TT.2.1, va_K.moved hW.alike TT.1, TT.2.2.1.weaken (fun _ _ _ _ => trivial), TT.2.2.2.2.2.to (by rw [hU]; exact TT.2.2.2.1) hW hfree, hN.warm hW⟩⟩
    rfl (by simp [hn]) hl.1 (by simp [cv]) (lv_room (catS hS8)) hd hf⟩
theorem sim_ctorN {host : String} (hlk : Cond.code y cc' nL' none ∈ WS ∧ Cond.initialized y.cls ∈ WS ∧ (y.cls ≠ "java/lang/invoke/MethodHandle" ∧ y.cls ≠ "java/lang/invoke/VarHandle" ∧ (parseMethodDescriptor y.desc).map (fun d => d.parameters.length) = some n)) (hin : Cond.instanceMethod y ∈ WS) (hy1 : y.name = "<init>") (hnx : ∀ z s args A w meth c l, (dec z).2.2.2.2 s args A w meth c l → NX s) (hnw : ∀ s, NX s → va_Nw (.methodLinkNest own idx y host) s) (hn : as.length = n) (hdd : d' + 1 ≤ d ∧ nL' ≤ 45) (hS8 : jwid S ≤ 8) (hd : decode cc pc = .ok (.invokespecial idx, 3))
    (hK : DCall y cc' nL' d' Sh ρ (vR q :: as) σ Sh1 ρ1 σ1) (hok : ctorOK Sh Sh1 L S dec) (hst : st = as.reverse ++ vR q :: S)
    (k : GSim own cc nL ret d Sh1 ρ1 (pc + 3) L S σ1 dec o) : GSim own cc nL ret d Sh ρ pc L st σ dec o := by
  refine sim_ctorG (cc' := cc') (nL' := nL') (d' := d') hy1 (fun z p l e s m args below meth c w A H locs ls hr hX F TT hl hM hf => ?_) hK hok hst k
  obtain ⟨hlk2, hlk3, hlk4⟩ := hlk
  have hts := F.2.2.2.2.1
  have hfree := va_A_rd TT
  have hN := hnx z s args A w meth c l hX
  exact ⟨_, va_runIN (As := as.map (cv w.1)) (rest := S.map (cv w.1)) (b := w.1 q) (locs := locs) (n := n) (l := l) (e := e) (below := below) (meth := meth) (R := (dec z).2.1) (H := H) (g := F0 m pc ls ((as.reverse ++ vR q :: S).map (cv w.1))) ⟨F.1, F.2.1, F.2.2.1, F.2.2.2.1, F.2.2.2.2.1⟩ (hM H.size)
    ⟨va_cnB n hts (good_code hlk2) rfl rfl rfl (hnw s hN) (hts _ hlk3) hlk4 ⟨by have h7 := hr.1; simp only [rmD]; omega, by have h7 := hr.2.1; simp only [rmD]; omega⟩, hy1, hts _ hin⟩
    ⟨d_blind, fun U hU hW => ⟨rfl, by rw [hU], by rw [hU]; exact TT.2.1, va_K.moved hW.alike TT.1, TT.2.2.1.weaken (fun _ _ _ _ => trivial), TT.2.2.2.2.2.to (by rw [hU]; exact TT.2.2.2.1) hW hfree, hN.warm hW⟩⟩
    rfl (by simp [hn]) hl.1 (by simp [cv]) (lv_room (catS hS8)) hd hf⟩
end
/-! stages of the making: references and contents put so far -/
def rstL (l : List (Nat × Nat × Nat)) : JRo := l.foldl (fun ρ t => rp ρ t.1 t.2.1 t.2.2) (fun _ _ => none)
def sstL (l : List (Nat × Nat × Int)) : JSg := l.foldl (fun σ t => sp σ t.1 t.2.1 t.2.2) (fun _ _ => 0)
theorem rstL_push (l : List (Nat × Nat × Nat)) (p j q : Nat) : rp (rstL l) p j q = rstL (l ++ [(p, j, q)]) := by simp [rstL]
theorem sstL_push (l : List (Nat × Nat × Int)) (p j : Nat) (x : Int) : sp (sstL l) p j x = sstL (l ++ [(p, j, x)]) := by simp [sstL]
theorem sp_self {σ : JSg} {p j : Nat} {x : Int} (h : σ p j = x) : sp σ p j x = σ := by
  funext k i
  unfold sp
  split
  · split
    · subst_vars; rfl
    · rfl
  · rfl
theorem rstL_val (l : List (Nat × Nat × Nat)) : ∀ ρ : JRo, ∀ k j q, l.foldl (fun ρ t => rp ρ t.1 t.2.1 t.2.2) ρ k j = some q → ρ k j = some q ∨ (k, j, q) ∈ l := by
  induction l with
  | nil => intro ρ k j q h; exact Or.inl h
  | cons t l ih =>
    intro ρ k j q h
    rcases ih _ k j q h with h | h
    · replace h : rp ρ t.1 t.2.1 t.2.2 k j = some q := h
      unfold rp at h
      split at h
      · split at h
        · cases h; subst_vars; exact Or.inr List.mem_cons_self
        · exact Or.inl h
      · exact Or.inl h
    · exact Or.inr (List.mem_cons_of_mem _ h)
theorem rstL_none (l : List (Nat × Nat × Nat)) : ∀ ρ : JRo, ∀ k j, (∀ t ∈ l, t.1 ≠ k) → l.foldl (fun ρ t => rp ρ t.1 t.2.1 t.2.2) ρ k j = ρ k j := by
  induction l with
  | nil => intro ρ k j h; rfl
  | cons t l ih =>
    intro ρ k j h
    rw [List.foldl_cons, ih _ k j (fun u hu => h u (List.mem_cons_of_mem _ hu))]
    exact congrFun (rp_ne fun e => h t List.mem_cons_self e.symm) j
theorem sstL_none (l : List (Nat × Nat × Int)) : ∀ σ : JSg, ∀ k j, (∀ t ∈ l, t.1 ≠ k) → l.foldl (fun σ t => sp σ t.1 t.2.1 t.2.2) σ k j = σ k j := by
  induction l with
  | nil => intro σ k j h; rfl
  | cons t l ih =>
    intro σ k j h
    rw [List.foldl_cons, ih _ k j (fun u hu => h u (List.mem_cons_of_mem _ hu))]
    exact sp_ne fun e => h t List.mem_cons_self e.symm
theorem wf_of {Sh : JSh} {rl : List (Nat × Nat × Nat)} {sl : List (Nat × Nat × Int)} (h : (decide (Sh.length < 1000000) && rl.all (fun t => decide (t.1 < Sh.length) && decide (t.2.2 < Sh.length)) && sl.all (fun t => decide (t.1 < Sh.length))) = true) : WF Sh (rstL rl) (sstL sl) := by
  simp only [Bool.and_eq_true, List.all_eq_true, decide_eq_true_eq] at h
  obtain ⟨⟨h1, h2⟩, h3⟩ := h
  refine ⟨h1, fun k j q hq => ?_, fun k hk j => ⟨?_, ?_⟩⟩
  · rcases rstL_val rl _ k j q hq with h | h
    · cases h
    · exact (h2 _ h).2
  · exact sstL_none sl _ k j fun t ht => by have := h3 t ht; omega
  · exact rstL_none rl _ k j fun t ht => by have := (h2 t ht).1; omega
def rfB (n : Nat) : JV → Bool
  | .inr (.inr q) => decide (q < n) || decide (1000000 ≤ q)
  | _ => true
theorem rfB_ok {n : Nat} {v : JV} (h : rfB n v = true) : rfOK n v := by
  rcases v with x | x | q
  · trivial
  · trivial
  · simpa [rfB, rfOK] using h
theorem grow_of {L : List (Nat × JV)} {S : List JV} {d a b n : Nat} {Sh Sh' : JSh} {ρ' : JRo} {σ' : JSg} {rl : List (Nat × Nat × Nat)} {sl : List (Nat × Nat × Int)}
    (h : (decide (Sh.length + 1 < 1000000) && rl.all (fun t => decide (t.1 < Sh.length) && decide (t.2.2 < Sh.length)) && sl.all (fun t => decide (t.1 < Sh.length)) && L.all (fun q => rfB Sh.length q.2) && S.all (rfB Sh.length) && decide (a ≤ Sh.length) && decide (Sh.length + 1 ≤ Sh'.length) && decide (wsum Sh + n ≤ wsum Sh')) = true) :
    growOK Sh (rstL rl) (sstL sl) L S n (fun _ : Unit => rD d a b Sh' ρ' σ') := by
  simp only [Bool.and_eq_true, decide_eq_true_eq] at h
  obtain ⟨⟨⟨⟨⟨⟨⟨h1, h2⟩, h3⟩, h4⟩, h5⟩, h6⟩, h7⟩, h8⟩ := h
  refine ⟨wf_of (by simp only [Bool.and_eq_true, decide_eq_true_eq]; exact ⟨⟨by omega, h2⟩, h3⟩), h1, fun q hq => rfB_ok (List.all_eq_true.mp h4 q hq), fun v hv => rfB_ok (List.all_eq_true.mp h5 v hv), fun _ => ⟨rD_mono h6, ?_, ?_⟩⟩
  · show Sh.length + 1 + 1000 - (a + 1000) ≤ Sh'.length - a
    omega
  · show wsum Sh + n + 10000 - (b + 10000) ≤ wsum Sh' - b
    omega
theorem ctor_of {L : List (Nat × JV)} {S : List JV} {d a b : Nat} {Sh Sh1 Sh' : JSh} {ρ' : JRo} {σ' : JSg}
    (h : (decide (Sh.length ≤ Sh1.length) && decide (wsum Sh ≤ wsum Sh1) && L.all (fun q => rfB Sh.length q.2) && S.all (rfB Sh.length) && decide (a ≤ Sh.length) && decide (Sh1.length ≤ Sh'.length) && decide (wsum Sh1 ≤ wsum Sh')) = true) :
    ctorOK Sh Sh1 L S (fun _ : Unit => rD d a b Sh' ρ' σ') := by
  simp only [Bool.and_eq_true, decide_eq_true_eq] at h
  obtain ⟨⟨⟨⟨⟨⟨h1, h2⟩, h4⟩, h5⟩, h6⟩, h7⟩, h8⟩ := h
  refine ⟨h1, h2, fun q hq => rfB_ok (List.all_eq_true.mp h4 q hq), fun v hv => rfB_ok (List.all_eq_true.mp h5 v hv), fun _ => ⟨rD_mono h6, ?_, ?_⟩⟩
  · show Sh1.length + 1000 - (a + 1000) ≤ Sh'.length - a
    omega
  · show wsum Sh1 + 10000 - (b + 10000) ≤ wsum Sh' - b
    omega
theorem rD_nx {d a b : Nat} {Sh' : JSh} {ρ' : JRo} {σ' : JSg} : ∀ (z : Unit) (s : State) (args : Array Value) (A : Nat → Prop) (w : JW) (meth : Method) (c : Code) (l : Launch), ((fun _ : Unit => rD d a b Sh' ρ' σ') z).2.2.2.2 s args A w meth c l → NX s := fun _ _ _ _ _ _ _ _ h => h.1
theorem rD_in {d a b : Nat} {Sh' : JSh} {ρ' : JRo} {σ' : JSg} : ∀ (z : Unit) (s : State) (args : Array Value) (A : Nat → Prop) (w : JW) (meth : Method) (c : Code) (l : Launch), ((fun _ : Unit => rD d a b Sh' ρ' σ') z).2.2.2.2 s args A w meth c l → meth.name = "<init>" := fun _ _ _ _ _ _ _ _ h => h.2
