theorem ar_c {a g : Nat} (h : g + 1 ≤ 1000) : a + 1000 - (1000 - (g + 1)) = a + 1000 - (1000 - g) + 1 := by omega
theorem ar_s {a g : Nat} (h : g + 1 ≤ 1000) : a + 10000 - (10000 - 6 * (g + 1)) = a + 10000 - (10000 - 6 * g) + 6 := by omega
theorem ar_cl {a g : Nat} (h : g + 1 ≤ 1000) (h2 : a + (g + 1) ≤ 601024) : a + 1000 - (1000 - g) + 1 ≤ 601024 := by omega
theorem ar_sl {a g : Nat} (h : g + 1 ≤ 1000) (h2 : a + 6 * (g + 1) ≤ 7293034) : a + 10000 - (10000 - 6 * g) + 6 ≤ 7293034 := by omega
theorem ar_cm {a g : Nat} : 1000 - (g + 1) ≤ a + 1000 := by omega
theorem ar_sm {a g : Nat} : 10000 - 6 * (g + 1) ≤ a + 10000 := by omega
/-! LAYER 1p: the law's body over places; the script is place 3000000 -/
def rL (b Lx : Nat) (xs : Nat → Int32) (g : Nat) : JD := (True, room_1, (1000 - g, 10000 - 6 * g), (fun s m args below w A => lw_Z below args s), fun s args A w meth c l => args = #[Value.ref b] ∧ A = (fun q => s.heap.size ≤ q) ∧ w.1 3000000 = b ∧ va_X b Lx xs s s.heap ∧ b < s.heap.size ∧ TX A s ∧ NX s ∧ l.stackTraces = false)
theorem rL_mono {b Lx : Nat} {xs : Nat → Int32} {g n : Nat} : monoR n (rL b Lx xs g) := by
  intro s m args below w w' A meth c l hx
  refine ⟨fun t h => h, ?_⟩
  rintro ⟨h1, h2, h3, h4⟩
  exact ⟨h1, h2, (hx.1 3000000 (Or.inr (by omega))).trans h3, h4⟩
section
variable {own : String} {cc : ByteArray} {nL : Nat} {ret : Option FieldType} {d : Nat} {Sh : JSh} {ρ : JRo} {pc : Nat} {L : List (Nat × JV)} {S st : List JV} {σ : JSg} {o : Option Unit} {b Lx g : Nat} {xs : Nat → Int32}
theorem sim_slen (hLx : Lx ≤ 3072) (hd : decode cc pc = .ok (.arraylength, 1)) (k : GSim own cc nL ret d Sh ρ (pc + 1) L (vI (Lx : Int) :: S) σ (fun _ : Unit => rL b Lx xs g) o) : GSim own cc nL ret d Sh ρ pc L (vR 3000000 :: S) σ (fun _ : Unit => rL b Lx xs g) o := by
  intro hL hS hH z hz
  obtain ⟨a1, a2⟩ := k hL (okS_cons (v := vI (Lx : Int)) ⟨by omega, by omega⟩ (okS_tl hS)) hH z hz
  refine ⟨a1, fun p l e s m args below meth c w A H locs ls hr hX F T hl => ?_⟩
  obtain ⟨h1, h2, h3, h4, h5, -⟩ := id hX
  have h9 := a2 p l e s m args below meth c w A H locs ls hr hX F T hl
  show W p l e _ s m args below meth c H locs _ _ _ (F0 m pc ls (.ref (w.1 3000000) :: S.map (cv w.1)))
  rw [h3]
  exact va_slen F.1 F.2.1 h4 h5 (by rw [h2]; exact Nat.not_le.mpr h5) T.2.2.2.1 hd h9
theorem sim_sld {i : Int} (hd : decode cc pc = .ok (.iaload, 1)) (k : GSim own cc nL ret d Sh ρ (pc + 1) L (vI (xs i.toNat).toInt :: S) σ (fun _ : Unit => rL b Lx xs g) o) (hi : 0 ≤ i ∧ i < (Lx : Int)) : GSim own cc nL ret d Sh ρ pc L (vI i :: vR 3000000 :: S) σ (fun _ : Unit => rL b Lx xs g) o := by
  intro hL hS hH z hz
  obtain ⟨a1, a2⟩ := k hL (okS_cons (v := vI (xs i.toNat).toInt) (ok32 _) (okS_tl (okS_tl hS))) hH z hz
  refine ⟨a1, fun p l e s m args below meth c w A H locs ls hr hX F T hl => ?_⟩
  obtain ⟨h1, h2, h3, h4, h5, -⟩ := id hX
  have h9 := a2 p l e s m args below meth c w A H locs ls hr hX F T hl
  have hoi : okI i := okS_hd hS
  show W p l e _ s m args below meth c H locs _ _ _ (F0 m pc ls (.int (i32 i) :: .ref (w.1 3000000) :: S.map (cv w.1)))
  rw [h3]
  refine va_sld F.1 F.2.1 h4 h5 (by rw [h2]; exact Nat.not_le.mpr h5) T.2.2.2.1 (vp_in_i hoi hi.1 hi.2) hd ?_
  rw [i32_clamp hoi]
  rw [List.map_cons, show cv w.1 (vI (xs i.toNat).toInt) = .int (xs i.toNat) from congrArg Value.int (i32_t _)] at h9
  exact h9
theorem sim_lend (hcc : cc = code) (hrt : ret = Jvm.Pilot.CWidowRowLaw_law_r6225_f21de4.ret) (hg : Sh.length + g ≤ 601024 ∧ wsum Sh + 6 * g ≤ 7293034 ∧ g ≤ 1000) (hd : decode code pc = .ok (.ireturn, 1)) : GSim own cc nL ret d Sh ρ pc L [vI 1] σ (fun _ : Unit => rL b Lx xs g) (some ()) := by
  intro hL hS hH z hz
  refine ⟨trivial, fun p l e s m args below meth c w A H locs ls hr hX F T hl => ?_⟩
  obtain ⟨h1, h2, h3, h4, h5, -⟩ := id hX
  subst h1
  refine W.widen (k := 601024) (n := 7293034) ?_ ?_ (va_forget (fun q hq => ?_) (lw_ret F.1 (F.2.1.trans hcc) (F.2.2.2.2.2.1.trans hrt) F.2.2.2.2.2.2 hd))
  · show Sh.length + 1000 - (1000 - g) ≤ 601024
    omega
  · show wsum Sh + 10000 - (10000 - 6 * g) ≤ 7293034
    omega
  · have := T.2.2.2.1.2.2 q hq
    rw [h2] at this
    exact this
theorem sim_lstone {a1 a2 : Int} {o' : Option (Int × JSg)} {gg : Int × JSg → Option Unit} (hw1 : Cond.methodLink RL 38 yL_stone ∈ WS) (hw2 : Cond.static yL_stone ∈ WS) (hw3 : Cond.codeWith yL_stone cL_stone 5 (some .int) [(0, 10, 13, 13)] ∈ WS) (hw4 : Cond.initialized RL ∈ WS)
    (hg : SH.length + (g + 1) ≤ 601024 ∧ wsum SH + 6 * (g + 1) ≤ 7293034 ∧ g + 1 ≤ 1000) (hdd : 8 ≤ d) (hK : L1Call 7 a1 a2 σ o') (hst : st = [vR 203, vI a2, vI a1, vR 0] ++ S) (hS8 : jwid S ≤ 8) (hd : decode cc pc = .ok (.invokestatic 38, 3))
    (k : ∀ z, GSim RL cc nL ret d SH RHO (pc + 3) L (vI z.1 :: S) z.2 (fun _ : Unit => rL b Lx xs (g + 1)) (gg z)) : GSim RL cc nL ret d SH RHO pc L st σ (fun _ : Unit => rL b Lx xs g) (o'.bind gg) := by
  subst hst
  intro hL hS hH z hz
  obtain ⟨z1, hz1, hz2⟩ := Option.bind_eq_some_iff.mp hz
  have ha1 : okI a1 := hS (vI a1) (by simp)
  have ha2 : okI a2 := hS (vI a2) (by simp)
  have hSS : ∀ v ∈ S, okV v := fun v hv => hS v (List.mem_append_right _ hv)
  obtain ⟨⟨r1', r2'⟩, hM⟩ := hK ha1 ha2 hH z1 hz1
  obtain ⟨g1, g2⟩ := k z1 hL (okS_cons (v := vI z1.1) (r1' _ rfl) hSS) r2' z hz2
  refine ⟨trivial, fun p l e s m args below meth c w A H locs ls hr hX F TT hl => ?_⟩
  obtain ⟨h1, h2, h3, h4, h5, hTX, hNX, hstk⟩ := id hX
  have hts := F.2.2.2.2.1
  have hfree := va_A_rd TT
  have hG : GoodIn WS (va_wsS RL 38 yL_stone (.codeWith yL_stone cL_stone 5 (some .int) [(0, 10, 13, 13)] :: WS)) := good_ws fun w hw => by
    rcases List.mem_append.mp hw with hw | hw
    · simp only [List.mem_cons, List.not_mem_nil, or_false] at hw
      rcases hw with rfl | rfl | rfl
      · exact hw1
      · exact hw2
      · exact hw4
    · rcases List.mem_cons.mp hw with rfl | hw
      · exact hw3
      · exact hw
  have hrun := vx_runSW (As := ([vR 0, vI a1, vI a2, vR 203] : List JV).map (cv w.1)) (rest := S.map (cv w.1)) (locs := locs) (cells := SH.length + 1000 - (1000 - g)) (slots := wsum SH + 10000 - (10000 - 6 * g)) (n := 4) (l := l) (e := e) (below := below) (meth := meth) (R := room_1) (H := H) (g := F0 m pc ls (([vR 203, vI a2, vI a1, vR 0] ++ S).map (cv w.1))) ⟨F.1, F.2.1, F.2.2.1, F.2.2.2.1, F.2.2.2.2.1⟩ (hM l w H.size hstk)
    (vx_cwSW 4 hts hG rfl rfl rfl (by decide +kernel) ⟨by have h7 := hr.1; show 7 + 1 ≤ room_1.frames; exact Nat.le_trans hdd h7, by have h7 := hr.2.1; show 8 + (5 + 11) + 64 * 7 ≤ room_1.locals; refine Nat.le_trans ?_ h7; omega⟩)
    ⟨x_blind, fun U hU hW => ⟨rfl, by rw [hU], by rw [hU]; exact TT.2.1, va_K.moved hW.alike TT.1, TT.2.2.1.weaken (fun _ _ _ _ => trivial), TT.2.2.2.2.2.to (by rw [hU]; exact TT.2.2.2.1) hW hfree, hTX.to (by rw [hU]; exact TT.2.2.2.1) hW hfree⟩⟩
    rfl rfl hl.1 rfl (lv_room (catS hS8)) hd ⟨ar_cl hg.2.2 hg.1, ar_sl hg.2.2 hg.2.1⟩
  have hjr : jroom d SH (rL b Lx xs (g + 1)) := ⟨hr.1, hr.2.1, (ar_c (a := SH.length) hg.2.2) ▸ ar_cl hg.2.2 hg.1, (ar_s (a := wsum SH) hg.2.2) ▸ ar_sl hg.2.2 hg.2.1, ar_cm, ar_sm⟩
  have hS0 := TT.2.2.2.1
  show W p l e room_1 s m args below meth c H locs (SH.length + 1000 - (1000 - g)) (wsum SH + 10000 - (10000 - 6 * g)) _ _
  intro T9 hT9 X9
  obtain ⟨v, st₀, t, T', L9, h0, X', hL9, q1, q2, ⟨⟨hvv, hP, hKK, hD⟩, hz9, hk9⟩, st9⟩ := hrun T9 hT9 X9
  cases hvv
  rw [h0] at hz9 hk9
  have h9 := g2 p l e s m args below meth c w A T'.heap (locs ++ L9) ls hjr hX F ⟨TT.1, by rw [q1]; exact hP, va_D_rd TT.2.2.1, ⟨Nat.le_trans hS0.1 (by rw [q1]; exact hz9), fun q h1 h2 => by rw [q1, hk9 q (Nat.lt_of_lt_of_le h1 hS0.1) (fun z => h2 (hfree q z))]; exact hS0.2.1 q h1 h2, fun q hq => by
      rcases List.mem_append.mp hq with h | h
      · exact hS0.2.2 q h
      · exact hfree _ (hL9 q h)⟩, TT.2.2.2.2⟩ hl
  have e1 : SH.length + 1000 - (rL b Lx xs (g + 1)).2.2.1.1 = SH.length + 1000 - (1000 - g) + 1 := ar_c hg.2.2
  have e2 : wsum SH + 10000 - (rL b Lx xs (g + 1)).2.2.1.2 = wsum SH + 10000 - (10000 - 6 * g) + 6 := ar_s hg.2.2
  rw [e1, e2] at h9
  obtain ⟨t2, a1', b1⟩ := h9 T' rfl X'
  exact ⟨t2, st9 t2 a1', b1⟩
end
