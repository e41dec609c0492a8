/-! LAYER 1o: the law's own stone: what x.stone throws is caught -/
def tabL : List ExceptionTableEntry := [⟨0, 10, 13, 13⟩]
def r1 (g d : Nat) (Sh : JSh) (ρ : JRo) (R : Option JV × JSg) : JD := (okR Sh R, rmX d, (Sh.length + 1000 - g, wsum Sh + 10000 - 6 * g), (fun s m args below w A => MQ below (Q9 w Sh ρ A R) args s 1 6 A), fun s args A w meth c l => TX A s ∧ l.stackTraces = false ∧ c.exceptionTable.toList = tabL)
section
variable {cc : ByteArray} {nL : Nat} {ret : Option FieldType} {d : Nat} {Sh : JSh} {ρ : JRo} {pc : Nat} {L : List (Nat × JV)} {S st : List JV} {σ : JSg}
theorem sim_1ret {own : String} {x : Int} (hr : ret = some .int) (hd : decode cc pc = .ok (.ireturn, 1)) : GSim own cc nL ret d Sh ρ pc L [vI x] σ (fun z : Int × JSg => r1 1 d Sh ρ (some (vI z.1), z.2)) (some (x, σ)) := by
  intro hL hS hH z hz
  cases hz
  refine ⟨⟨fun v hv => by cases hv; exact okS_hd hS, hH⟩, fun p l e s m args below meth c w A H locs ls _ _ F T hl => ?_⟩
  have e1 : Sh.length + 1000 - (Sh.length + 1000 - 1) = 1 := Nat.sub_sub_self (Nat.le_trans (Nat.le_of_ble_eq_true rfl : 1 ≤ 1000) (Nat.le_add_left _ _))
  have e2 : wsum Sh + 10000 - (wsum Sh + 10000 - 6 * 1) = 6 := Nat.sub_sub_self (Nat.le_trans (Nat.le_of_ble_eq_true rfl : 6 * 1 ≤ 10000) (Nat.le_add_left _ _))
  simp only [r1, e1, e2]
  exact W.iret F.1 F.2.1 (by rw [F.2.2.2.2.2.1, hr]) (fun t ht hW => q9_end (R := (some (vI x), σ)) T ht hW) T.2.2.2.1.2.2 hd F.2.2.2.2.2.2
theorem sim_xcall {y : MethodName} {cc' : ByteArray} {nL' d' idx n ci q : Nat} {as : List JV} {o' : Option (Option Int)} {g : Option Int → Option (Int × JSg)} (hv : JVir RL idx y cc' nL' (some .int) n ci) (hs : Sh[q]? = some (.inl ci)) (hw : Cond.classLink RL 13 NSE ∈ WS) (hd : decode cc pc = .ok (.invokevirtual idx, 3)) (hK : XCall y cc' nL' d' Sh ρ (vR q :: as) σ o') (hn : as.length = n) (hdd : d' + 1 ≤ d ∧ nL' ≤ 45) (hst : st = as.reverse ++ vR q :: S) (hS8 : jwid S ≤ 8)
    (hpc : pc < 10) (hnL : 4 < nL) (hd4 : decode cc 13 = .ok (.astore 4, 2))
    (kr : ∀ x, GSim RL cc nL ret d Sh ρ (pc + 3) L (vI x :: S) σ (fun z : Int × JSg => r1 1 d Sh ρ (some (vI z.1), z.2)) (g (some x)))
    (kt : GSim RL cc nL ret d Sh ρ 15 [] [] σ (fun z : Int × JSg => r1 1 d Sh ρ (some (vI z.1), z.2)) (g none)) : GSim RL cc nL ret d Sh ρ pc L st σ (fun z : Int × JSg => r1 0 d Sh ρ (some (vI z.1), z.2)) (o'.bind g) := by
  subst hst
  intro hL hS hH z hz
  obtain ⟨z1, hz1, hz2⟩ := Option.bind_eq_some_iff.mp hz
  have has : ∀ v ∈ vR q :: as, okV v := okS_cons trivial fun v hv => hS v (List.mem_append_left _ (List.mem_reverse.mpr hv))
  obtain ⟨hok, hM⟩ := hK has hH z1 hz1
  have hSS : ∀ v ∈ S, okV v := fun v hv => hS v (List.mem_append_right _ (List.mem_cons_of_mem _ hv))
  have g1 : okR Sh (some (vI z.1), z.2) := by
    cases z1 with
    | none => exact (kt (fun q hq => nomatch hq) (fun q hq => nomatch hq) hH z hz2).1
    | some x => exact (kr x hL (okS_cons (v := vI x) (hok x rfl) hSS) hH z hz2).1
  refine ⟨g1, fun p l e s m args below meth c w A H locs ls hr hX F TT hl => ?_⟩
  obtain ⟨⟨hlk1, hlk2, hlk3, hlk4⟩, hin, hse, T, N, hci⟩ := hv
  obtain ⟨hTX, hstk, htab⟩ := id hX
  have hgood : GoodIn WS (wsV RL idx y.cls y (.code y cc' nL' (some .int) :: WS)) := by
    refine good_ws fun w hw => ?_
    rcases List.mem_append.mp hw with hw | hw
    · simp only [List.mem_cons, List.not_mem_nil, or_false] at hw
      rcases hw with rfl | rfl | rfl | rfl
      · exact hlk1
      · exact hin
      · exact hse
      · exact hlk3
    · rcases List.mem_cons.mp hw with rfl | hw
      · exact hlk2
      · exact hw
  have hfree := va_A_rd TT
  have e0 : Sh.length + 1000 - (Sh.length + 1000 - 0) = 0 := by rw [Nat.sub_zero, Nat.sub_self]
  have e0' : wsum Sh + 10000 - (wsum Sh + 10000 - 6 * 0) = 0 := by rw [Nat.mul_zero, Nat.sub_zero, Nat.sub_self]
  have e1 : Sh.length + 1000 - (Sh.length + 1000 - 1) = 1 := Nat.sub_sub_self (Nat.le_trans (Nat.le_of_ble_eq_true rfl : 1 ≤ 1000) (Nat.le_add_left _ _))
  have e2 : wsum Sh + 10000 - (wsum Sh + 10000 - 6 * 1) = 6 := Nat.sub_sub_self (Nat.le_trans (Nat.le_of_ble_eq_true rfl : 6 * 1 ≤ 10000) (Nat.le_add_left _ _))
  have hrun := vx_runV (As := as.map (cv w.1)) (rest := S.map (cv w.1)) (b := w.1 q) (mc := 1) (ms := 6) (locs := locs) (cells := 0) (slots := 0) (n := n) (l := l) (e := e) (below := below) (meth := meth) (R := rmX d) (g := F0 m pc ls ((as.reverse ++ vR q :: S).map (cv w.1))) ⟨F.1, F.2.1, F.2.2.1, F.2.2.2.1, F.2.2.2.2.1⟩ (hM l w H.size hstk)
    (cwV n F.2.2.2.2.1 hgood rfl rfl rfl ⟨rfl, hlk4⟩ ⟨by simp only [rmX]; omega, by simp only [rmX]; omega⟩)
    ⟨x_blind, va_recv TT.1 TT.2.1 hci (q0 := q) (by rw [rd_at hs]; rfl), fun U hU hW => ⟨rfl, by rw [hU], by rw [hU]; exact TT.2.1, va_K.moved hW.alike TT.1, TT.2.2.1.weaken (fun _ _ _ _ => trivial), TT.2.2.2.2.2.to (by rw [hU]; exact TT.2.2.2.1) hW hfree, hTX.to (by rw [hU]; exact TT.2.2.2.1) hW hfree⟩⟩
    rfl (by simp [hn]) hl.1 (by simp [cv]) (lv_room (catS hS8)) hd ⟨by simp [rmX], by simp [rmX]⟩
  have hS0 := TT.2.2.2.1
  have hjr : jroom d Sh (r1 1 d Sh ρ (some (vI z.1), z.2)) := ⟨Nat.le_refl _, Nat.le_refl _, by simp only [r1, e1]; exact Nat.le_refl _, by simp only [r1, e2]; exact Nat.le_refl _, by simp only [r1]; omega, by simp only [r1]; omega⟩
  have hL1 : ∀ {st₀ t T' : State} {L9 : List Loc}, st₀.heap = H → T'.heap = t.heap → (∀ q ∈ L9, va_A (rd w Sh ρ σ) H.size q.base) → va_F (va_A (rd w Sh ρ σ) H.size) st₀ t → va_S A s.heap T'.heap (locs ++ L9) := by
    intro st₀ t T' L9 h0 e9 hL9 hF
    obtain ⟨hz, hk⟩ := hF
    rw [h0] at hz hk
    exact ⟨Nat.le_trans hS0.1 (by rw [e9]; exact hz), fun q h1 h2 => by rw [e9, hk q (Nat.lt_of_lt_of_le h1 hS0.1) (fun z => h2 (hfree q z))]; exact hS0.2.1 q h1 h2, fun q hq => by
      rcases List.mem_append.mp hq with h | h
      · exact hS0.2.2 q h
      · exact hfree _ (hL9 q h)⟩
  simp only [r1, e0, e0']
  intro T9 hT9 X9
  rcases hrun T9 hT9 X9 with ⟨v, st₀, t, T', L9, h0, X', hL9, q1, q2, ⟨x, hx, ⟨⟨hvv, hP, hKK, hD⟩, hF⟩⟩, st⟩ | ⟨q9, st₀, t, T', L9, E, ce, h0, X', hL9, q1, q2, ⟨⟨hx, hE, hP, hKK, hD⟩, hF⟩, hce, hcv, hcl, st⟩
  · subst hx
    cases hvv
    obtain ⟨-, g2⟩ := kr x hL (okS_cons (v := vI x) (hok x rfl) hSS) hH z hz2
    have h3 := g2 p l e s m args below meth c w A T'.heap (locs ++ L9) ls hjr hX F ⟨TT.1, by rw [q1]; exact hP, va_D_rd TT.2.2.1, hL1 h0 q1 hL9 hF, TT.2.2.2.2⟩ hl
    simp only [r1, e1, e2] at h3
    obtain ⟨t2, a1, b1⟩ := h3 T' rfl X'
    exact ⟨t2, st t2 a1, b1⟩
  · subst hx
    subst hE
    obtain ⟨-, g2⟩ := kt (fun q hq => nomatch hq) (fun q hq => nomatch hq) hH z hz2
    have hcast : (Cond.castable NSE NSE).before args s = true := (hTX.2.2 _ List.mem_cons_self).use rfl
    have hcov : covers ⟨0, 10, 13, 13⟩ pc = true := by
      unfold covers
      simp only [Bool.and_eq_true, decide_eq_true_eq]
      omega
    have h3 : vx_W p l e (rmX d) s m args below meth c T'.heap (locs ++ L9) 1 6 (MQ below (Q9 w Sh ρ A (some (vI z.1), z.2)) args s 1 6 A) (F0 m pc ls (S.map (cv w.1))) q9 := by
      refine vx_catch (own := RL) (name := NSE) (E := NSE) (ce := ce) F.2.2.2.1 [] ⟨0, 10, 13, 13⟩ [] htab (fun z hz => nomatch hz) hcov (Nat.succ_ne_zero 12) (F.2.2.2.2.1 _ hw) hcast (by rw [q1]; exact hce) hcv hcl ?_
      refine lv_astore F.1 F.2.1 hd4 hl hnL rfl (fun ls' hl' => ?_)
      have h4 := g2 p l e s m args below meth c w A T'.heap (locs ++ L9) ls' hjr hX F ⟨TT.1, by rw [q1]; exact hP, va_D_rd TT.2.2.1, hL1 h0 q1 hL9 hF, TT.2.2.2.2⟩ ⟨hl'.1, hl'.2.1, fun q hq => nomatch hq⟩
      simp only [r1, e1, e2] at h4
      exact h4
    obtain ⟨t2, a1, b1⟩ := h3 T' rfl X'
    exact ⟨t2, st.trans a1, b1⟩
end
