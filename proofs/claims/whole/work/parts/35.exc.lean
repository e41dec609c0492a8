/-! LAYER 1n: a method that may throw, judged over places -/
def TX (A : Nat → Prop) (s : State) : Prop := vx_Zq Bundle.tN "UNASSIGNED_STACK" Bundle.steD A s s.heap ∧ vx_Zq Bundle.tN "SUPPRESSED_SENTINEL" Bundle.listD A s s.heap ∧ ∀ w ∈ nseB, va_Nw w s
theorem TX.to {A B : Nat → Prop} {s U : State} {locs : List Loc} (h : TX A s) (hS : va_S A s.heap U.heap locs) (hW : s.WarmedH U.vm) (hB : ∀ q, B q → A q) : TX B U := by
  refine ⟨((h.1.kept hS.2.1).moved hW.alike).narrow hB, ((h.2.1.kept hS.2.1).moved hW.alike).narrow hB, fun w hw => ?_⟩
  have h9 := h.2.2 w hw
  simp only [nseB, List.mem_cons, List.not_mem_nil, or_false] at hw
  rcases hw with rfl | rfl | rfl | rfl | rfl | rfl | rfl
  · exact va_Nw.warmC hW h9
  all_goals exact va_Nw.warmD hW h9
theorem nse_on : ∀ w ∈ nseB, w.onTables = true := by decide +kernel
theorem TX.calling {A : Nat → Prop} {U : State} {g : JFrame} {mk : MethodId} {a : Array Value} (h : TX A U) : TX A (U.calling g mk a) := by
  have hv : U.vm.Alike (U.calling g mk a).vm := Vm.Alike.refl U.vm
  exact ⟨h.1.moved (u := U) (U := U.calling g mk a) hv, h.2.1.moved (u := U) (U := U.calling g mk a) hv, fun w hw => (h.2.2 w hw).same (nse_on w hw) (u := U) (U := U.calling g mk a) rfl⟩
theorem nse_ws : ∀ w ∈ (nseL.filter vx_no).filter goodWord, w ∈ WS := fun w hw => ws_in (List.mem_append_right (k2_sels lw_privs) (nse_tab w (List.mem_filter.mp hw).1)) (List.mem_filter.mp hw).2
section
variable {p : Program} {l : Launch} {e : Env} {R : Room} {s : State} {m : MethodId} {args : Array Value} {below : List Frame} {meth : Method} {c : Code} {H : Heap} {locs : List Loc} {cells slots : Nat} {ls : Array Slot} {rest : List Value} {Qc : Array Value → State → Outcome → State → Prop} {XC : String → State → State → Prop} {free : Addr → Prop}
theorem nse_throw {cc : ByteArray} {pc : Nat} (hexec : p.tables.exec = Jvm.exec) (hb : c.code = cc) (hl : l.stackTraces = false) {is mc ms sa : Nat} {text : String} {A : Nat → Prop}
    (hown : s.vm.findClass RX11 = some m.cls) (hk : (Cond.classLink RX11 153 NSE).before args s = true) (hini : (Cond.initialized NSE).before args s = true) (hstr : vk_R RX11 is text sa s) (hat : ∀ w ∈ nseL.filter vx_no, w.before args s = true)
    (hTX : TX A s) (hS : va_S A s.heap H locs) (hsize : ls.size = c.maxLocals)
    (d0 : decode cc pc = .ok (.new 153, 3)) (d3 : decode cc (pc + 3) = .ok (.dup, 1)) (d4 : decode cc (pc + 4) = .ok (.ldc is, 2)) (d6 : decode cc (pc + 6) = .ok (.invokespecial 157, 3)) (d9 : decode cc (pc + 9) = .ok (.athrow, 1))
    (hout : ∀ x ∈ c.exceptionTable.toList, covers x (pc + 9) = false)
    (hRframes : 5 < R.frames) (hRlocals : (rest.map fun v => v.category).sum + 82 ≤ R.locals) (hRcells : cells + 1 ≤ R.cells) (hRslots : slots + 6 ≤ R.slots) (hlocks : meth.locks = false)
    (hx : ∀ t : State, s.vm.Alike t.vm → H.size ≤ t.heap.size → (∀ q : Nat, q < H.size → t.heap[q]? = H[q]?) → XC NSE s t)
    (hf : ∀ z ∈ locs, free z.base) (hc : cells + 1 ≤ mc) (hs : slots + 6 ≤ ms) :
    W p l e R s m args below meth c H locs cells slots (vx_MQ below Qc XC args s mc ms free) (F0 m pc ls rest) := by
  intro T hT X
  have htr : e.platform.stackTraces = false := (show e.platform.stackTraces = l.stackTraces by rw [X.admits.platform]).trans hl
  have Y := vx_rebase X (R' := { frames := R.frames, locals := R.locals, cells := 1, slots := 6 }) (Nat.le_refl _) (Nat.le_refl _) hRcells hRslots
  obtain ⟨s', hA⟩ : ∃ z, z = (T.setVm s.vm).setFrames (.invoking m args :: below) := ⟨_, rfl⟩
  rw [← hA] at Y
  have hvm : s'.vm = s.vm := by rw [hA]; rfl
  have hhp : s'.heap = H := by rw [hA]; exact hT
  have hW0 : s.WarmedH s'.vm := by rw [hvm]; exact State.WarmedH.refl s
  have hat' : ∀ w ∈ nseL.filter vx_no, w.before args s' = true := fun w hw => vx_ot_at hW0 hvm.symm (nse_ot w (List.mem_cons_of_mem _ (List.mem_cons_of_mem _ hw))) (hat w hw)
  have hk' : (Cond.classLink RX11 153 NSE).before args s' = true := vx_ot_at hW0 hvm.symm (nse_ot _ List.mem_cons_self) hk
  have hini' : (Cond.initialized NSE).before args s' = true := vx_ot_at hW0 hvm.symm (nse_ot _ (List.mem_cons_of_mem _ List.mem_cons_self)) hini
  have hU' : vx_Zq Bundle.tN "UNASSIGNED_STACK" Bundle.steD A s' s'.heap := by rw [hhp]; exact vx_Zq.moved hW0.alike (hTX.1.kept hS.2.1)
  have hN' : vx_Zq Bundle.tN "SUPPRESSED_SENTINEL" Bundle.listD A s' s'.heap := by rw [hhp]; exact vx_Zq.moved hW0.alike (hTX.2.1.kept hS.2.1)
  have h : ∀ w ∈ nseL, w.before args s' = true := vx_own hat' (vx_isRefq hU'.1) (vx_isRefq hN'.1) hU'.2.word hN'.2.word
  have hown' : s'.vm.findClass RX11 = some m.cls := by rw [hvm]; exact hown
  have hins : (Cond.instantiable NSE 6).before args s' = true := h _ (by decide +kernel)
  obtain ⟨vm₁, cX, kX, hfX, hkX, -, -, X₁, st1⟩ := Y.newCold hexec (own := RX11) (C := NSE) (index := 153) (n := 6) hown' hk' hins hini'
    (g := F0 m pc ls rest) rfl (by rw [hb]; exact d0) (Nat.le_refl _) (Nat.le_refl _)
  generalize hT1 : (T.setVm vm₁).pushCell { cls := cX, slots := kX.instanceTypes.map defaultValue, vm := .none } = T1 at X₁ st1
  have hcat : (Value.ref T.heap.size).category = 1 := rfl
  have hcellA : T1.heap[T.heap.size]? = some (freshCell cX kX) := by rw [← hT1]; exact State.heap_pushCell_size _ _
  have d3' : decode c.code (pc + 3) = .ok (.dup, 1) := by rw [hb]; exact d3
  have d4' : decode c.code (pc + 4) = .ok (.ldc is, 2) := by rw [hb]; exact d4
  have hstr' : vk_R RX11 is text sa s' := vk_R.warm hW0 hstr
  obtain ⟨U, hsteps, hrun, hend, hW, hsame, ce, hce, hO1, hO2⟩ := nse_ctor X₁ hexec htr hown' h (fun x hx => nomatch hx) hfX hkX hcellA (by rw [hhp, hT]; exact Nat.le_refl _) (msg := .ref sa) rfl
    (g := { method := m, pc := pc + 6, locals := ls, stack := .ref sa :: .ref T.heap.size :: .ref T.heap.size :: rest, locked := none }) rfl hsize rfl rfl (rest := rest) rfl
    (by rw [hb]; exact d6) (by rw [hb]; exact d9) hout hRframes (by simp only [List.map_cons, List.sum_cons, hcat]; show 2 * 0 + _ + 81 ≤ R.locals; omega) hlocks
  obtain ⟨f1, f2⟩ := vx_frame hsame
  rw [hhp] at f1 f2
  have hWs : s.WarmedH U.vm := State.WarmedH.trans hW0 hW
  have hcl : s.vm.findClass NSE = some ce.cls := by rw [← hvm]; exact hO2
  have hall : s.sameButNew ({ U with vm := s.vm } : State) locs mc ms := by
    subst hA
    obtain ⟨e1, e2⟩ := hsame
    rw [State.setFrames_setFrames] at e1
    have h2 : (T.setVm s.vm).sameButNew ({ U with vm := s.vm } : State) [] (0 + 1) (0 + 6) := ⟨e1, e2⟩
    have h3 := X.same.trans h2
    rw [List.append_nil] at h3
    exact h3.mono hc hs
  refine ⟨U, ?_, .threw T.heap.size, hrun, hend, Or.inr ⟨T.heap.size, rfl, NSE, ce, locs, hx U hWs.alike f1 (fun q hq => f2 q hq (fun z hz => nomatch hz)), hce, hO1, hcl, hWs, hall, hf⟩⟩
  refine st1 _ ?_
  show Steps p.tables e below (T1.setTop { method := m, pc := pc + 3, locals := ls, stack := .ref T.heap.size :: rest, locked := none }) _
  jvm_step X₁.here [X₁.here.top, hexec, d3', Value.category]
  exact X₁.ldcString hexec (own := RX11) (text := text) (index := is) (a := sa) hown' hstr'.1 hstr'.2
    (g := { method := m, pc := pc + 4, locals := ls, stack := .ref T.heap.size :: .ref T.heap.size :: rest, locked := none }) rfl d4' _ hsteps
end
def rmX (d : Nat) : Room := { frames := d, cells := 1, slots := 6, locals := 64 * d }
def QXr (w : JW) (Sh : JSh) (ρ : JRo) (σ : JSg) (A : Nat → Prop) (z : Option Int) : Array Value → State → Outcome → State → Prop := fun a st oc t => ∃ x : Int, z = some x ∧ Q9 w Sh ρ A (some (vI x), σ) a st oc t
def QXt (w : JW) (Sh : JSh) (ρ : JRo) (σ : JSg) (A : Nat → Prop) (z : Option Int) : String → State → State → Prop := fun E st t => (z = none ∧ E = NSE ∧ va_P w.2.1 vwCl (rd w Sh ρ σ) t.heap ∧ va_K w.2.1 vwCl (tysL w.2.2) t ∧ va_D A (rd w Sh ρ σ)) ∧ va_F A st t
def rX (d : Nat) (Sh : JSh) (ρ : JRo) (σ : JSg) (z : Option Int) : JD := ((∀ x, z = some x → okI x) ∧ okH Sh σ, rmX d, (Sh.length + 1000, wsum Sh + 10000), (fun s m args below w A => vx_MQ below (QXr w Sh ρ σ A z) (QXt w Sh ρ σ A z) args s 1 6 A), fun s args A w meth c l => TX A s ∧ l.stackTraces = false ∧ ∀ x ∈ c.exceptionTable.toList, False)
section
variable {own : String} {cc : ByteArray} {nL : Nat} {ret : Option FieldType} {d : Nat} {Sh : JSh} {ρ : JRo} {pc : Nat} {L : List (Nat × JV)} {S : List JV} {σ : JSg}
theorem sim_xret {x : Int} (hr : ret = some .int) (hd : decode cc pc = .ok (.ireturn, 1)) : GSim own cc nL ret d Sh ρ pc L [vI x] σ (rX d Sh ρ σ) (some (some x)) := by
  intro hL hS hH z hz
  cases hz
  refine ⟨⟨fun y hy => by cases hy; exact okS_hd hS, hH⟩, fun p l e s m args below meth c w A H locs ls _ _ F T hl => ?_⟩
  simp only [rX, Nat.sub_self]
  refine W.widen (Nat.zero_le 1) (Nat.zero_le 6) (vx_ret ?_)
  exact W.iret F.1 F.2.1 (by rw [F.2.2.2.2.2.1, hr]) (fun t ht hW => ⟨x, rfl, q9_end (R := (some (vI x), σ)) T ht hW⟩) T.2.2.2.1.2.2 hd F.2.2.2.2.2.2
theorem sim_xthrow {is : Nat} {text : String} (hw1 : Cond.classLink RX11 153 NSE ∈ WS) (hw2 : Cond.initialized NSE ∈ WS) (hstr : ∀ (w : JW) (A : Nat → Prop) (s : State), RO w A s → ∃ sa, vk_R RX11 is text sa s) (hdd : 6 ≤ d) (hS8 : jwid S ≤ 8)
    (d0 : decode cc pc = .ok (.new 153, 3)) (d3 : decode cc (pc + 3) = .ok (.dup, 1)) (d4 : decode cc (pc + 4) = .ok (.ldc is, 2)) (d6 : decode cc (pc + 6) = .ok (.invokespecial 157, 3)) (d9 : decode cc (pc + 9) = .ok (.athrow, 1)) : GSim RX11 cc nL ret d Sh ρ pc L S σ (rX d Sh ρ σ) (some none) := by
  intro hL hS hH z hz
  cases hz
  refine ⟨⟨fun y hy => (by cases hy), hH⟩, fun p l e s m args below meth c w A H locs ls hr hX F T hl => ?_⟩
  obtain ⟨hTX, hst, hct⟩ := hX
  obtain ⟨sa, hsa⟩ := hstr w A s T.2.2.2.2.2
  have hts := F.2.2.2.2.1
  have h8 := catS (w := w) hS8
  simp only [rX, Nat.sub_self]
  refine nse_throw (A := A) F.1 F.2.1 hst F.2.2.2.1 (hts _ hw1) (hts _ hw2) hsa (vx_hat (fun w hw => hts w (nse_ws w hw)) nse_bad (fun w hw => (hTX.2.2 w hw).use (nse_on w hw))) hTX T.2.2.2.1 (hl.1.trans F.2.2.1.symm) d0 d3 d4 d6 d9 (fun x hx => (hct x hx).elim) (by simp only [rmX]; omega) (by simp only [rmX]; omega) (by simp [rmX]) (by simp [rmX]) F.2.2.2.2.2.2 (fun t hv hz hk => ?_) T.2.2.2.1.2.2 (Nat.le_refl _) (Nat.le_refl _)
  have h1 := T.2.2.2.1
  exact ⟨⟨rfl, rfl, T.2.1.kept (fun k x hx => hk x.1 (T.2.1 k x hx).lt), va_K.moved hv T.1, T.2.2.1⟩, Nat.le_trans h1.1 hz, fun q h2 h3 => by rw [hk q (Nat.lt_of_lt_of_le h2 h1.1)]; exact h1.2.1 q h2 h3⟩
end
def XPre (w : JW) (Sh : JSh) (ρ : JRo) (σ : JSg) (sz : Nat) (U : State) : Prop := U.heap.size = sz ∧ va_P w.2.1 vwCl (rd w Sh ρ σ) U.heap ∧ va_K w.2.1 vwCl (tysL w.2.2) U ∧ va_D (fun _ => True) (rd w Sh ρ σ) ∧ RO w (va_A (rd w Sh ρ σ) sz) U ∧ TX (va_A (rd w Sh ρ σ) sz) U
def XCall (y : MethodName) (cc : ByteArray) (nL d : Nat) (Sh : JSh) (ρ : JRo) (as : List JV) (σ : JSg) (o : Option (Option Int)) : Prop :=
  (∀ v ∈ as, okV v) → okH Sh σ → ∀ z, o = some z → (∀ x, z = some x → okI x) ∧ ∀ (l : Launch) (w : JW) (sz : Nat), l.stackTraces = false → vx_Met l y (.code y cc nL (some .int) :: WS) (rmX d) (va_Pc (as.map (cv w.1)) (XPre w Sh ρ σ sz)) (QXr w Sh ρ σ (va_A (rd w Sh ρ σ) sz) z) (QXt w Sh ρ σ (va_A (rd w Sh ρ σ) sz) z) 1 6 (va_A (rd w Sh ρ σ) sz)
theorem x_blind {as : List JV} {w : JW} {Sh : JSh} {ρ : JRo} {σ : JSg} {sz : Nat} : FrameBlind (va_Pc (as.map (cv w.1)) (XPre w Sh ρ σ sz)) :=
  fun a U g mk q => by
    obtain ⟨q0, q1, qP, qK, qD, qR, qN⟩ := q
    exact ⟨q0, q1, qP, va_K.moved (u := U) (U := U.calling g mk a) (Vm.Alike.refl U.vm) qK, qD, qR.calling, qN.calling⟩
theorem xcall_of_sim {y : MethodName} {cc : ByteArray} {nL d : Nat} {Sh : JSh} {ρ : JRo} {as : List JV} {σ : JSg} {o : Option (Option Int)} (hy : plainName y.cls = true) (hw : jwid as ≤ nL)
    (h : GSim y.cls cc nL (some .int) d Sh ρ 0 (jargs 0 as) [] σ (rX d Sh ρ σ) o) : XCall y cc nL d Sh ρ as σ o := by
  intro ha hH z hz
  obtain ⟨g1, g2⟩ := h (jargs_ok ha 0) (fun v hv => by cases hv) hH z hz
  refine ⟨g1.1, fun l w sz hst => ?_⟩
  refine vx_ofW (cc := cc) (maxL := nL) (ret := some .int) hy rfl ?_
  intro p e s m args below meth c s₁ B hml htab hv
  obtain ⟨rfl, hsz, hP, hK, hD0, hRO, hN⟩ := hv
  subst hsz
  have hts := atoms_spec (ws := .code y cc nL (some .int) :: WS) B.pre
  have hown : s.vm.findClass y.cls = some m.cls := findClass_of_methodNamed B.named
  rw [lg_entry_eq]
  have hl := lv_entry (as.map (cv w.1)) (n := nL) (by rw [jwid_sl]; exact hw)
  rw [jargs_map] at hl
  have h9 := g2 p l e s m _ below meth c w (va_A (rd w Sh ρ σ) s.heap.size) s.heap [] _ ⟨Nat.le_refl _, Nat.le_refl _, by simp [rX, rmX], by simp [rX, rmX], Nat.le_refl _, Nat.le_refl _⟩ ⟨hN, hst, htab⟩ ⟨B.exec, B.bytes, hml, hown, fun x hx => hts x (List.mem_cons_of_mem _ hx), B.returns, B.notSynchronized⟩ ⟨hK, hP, hD0.self, va_S.rf, fun q hq => Or.inr hq, hRO⟩ hl
  simp only [rX, Nat.sub_self] at h9
  exact h9
