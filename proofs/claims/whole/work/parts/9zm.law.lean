/-! LAYER 5: the machine's state at the law's start -/
def tmS : Nat → Term
  | 0 => .string "WidowRow$Tokens" 75
  | 1 => .string "WidowRow$Tokens" 83
  | 2 => .string "WidowRow" 155
  | _ => .string "WidowRow" 177
def fl0 : List Cond := flatC (Jvm.Cond.and given_1 narrow_1)
theorem fl_ex : ∀ i, i < 4 → Cond.exactly (tmS i) "java/lang/String" ∈ fl0 := by decide +kernel
theorem fl_co : ∀ i, i < 4 → Cond.eq (.field (tmS i) "java/lang/String" "coder" "B") (.int 0) ∈ fl0 := by decide +kernel
theorem fl_ar : ∀ i, i < 4 → Cond.arrayOf (.field (tmS i) "java/lang/String" "value" "[B") .byte ∈ fl0 := by decide +kernel
theorem fl_le : ∀ i, i < 4 → Cond.eq (.length (.field (tmS i) "java/lang/String" "value" "[B")) (.int (Int32.ofNat (lenT.getD i 0))) ∈ fl0 := by decide +kernel
theorem fl_el0 : ∀ j, j < 6 → Cond.eq (.elem (.field (tmS 0) "java/lang/String" "value" "[B") (.int (Int32.ofNat j))) (.int ((bytT.getD 0 []).getD j 0)) ∈ fl0 := by decide +kernel
theorem fl_el1 : ∀ j, j < 106 → Cond.eq (.elem (.field (tmS 1) "java/lang/String" "value" "[B") (.int (Int32.ofNat j))) (.int ((bytT.getD 1 []).getD j 0)) ∈ fl0 := by decide +kernel
theorem fl_el2 : ∀ j, j < 13 → Cond.eq (.elem (.field (tmS 2) "java/lang/String" "value" "[B") (.int (Int32.ofNat j))) (.int ((bytT.getD 2 []).getD j 0)) ∈ fl0 := by decide +kernel
theorem fl_el3 : ∀ j, j < 31 → Cond.eq (.elem (.field (tmS 3) "java/lang/String" "value" "[B") (.int (Int32.ofNat j))) (.int ((bytT.getD 3 []).getD j 0)) ∈ fl0 := by decide +kernel
theorem fl_el : ∀ i, i < 4 → ∀ j, j < lenT.getD i 0 → Cond.eq (.elem (.field (tmS i) "java/lang/String" "value" "[B") (.int (Int32.ofNat j))) (.int ((bytT.getD i []).getD j 0)) ∈ fl0
  | 0, _, j, h => fl_el0 j h
  | 1, _, j, h => fl_el1 j h
  | 2, _, j, h => fl_el2 j h
  | 3, _, j, h => fl_el3 j h
  | i + 4, h, _, _ => absurd h (by omega)
theorem fl_ne : ∀ i, i < 4 → ∀ j, j < 4 → i ≠ j → Cond.not (Cond.eq (tmS i) (tmS j)) ∈ fl0 ∨ Cond.not (Cond.eq (tmS j) (tmS i)) ∈ fl0 := by decide +kernel
theorem fl_cs : Cond.eq (.static "java/lang/String" "COMPACT_STRINGS" "Z") (.int 1) ∈ fl0 := by decide +kernel
theorem fl_fm : Cond.isRef (.static "jdk/internal/util/Preconditions" "SIOOBE_FORMATTER" "Ljava/util/function/BiFunction;") ∈ fl0 := by decide +kernel
theorem fl_us : Cond.isRef (.static "java/lang/Throwable" "UNASSIGNED_STACK" "[Ljava/lang/StackTraceElement;") ∈ fl0 := by decide +kernel
theorem fl_ss : Cond.isRef (.static "java/lang/Throwable" "SUPPRESSED_SENTINEL" "Ljava/util/List;") ∈ fl0 := by decide +kernel
theorem sv_cs : Cond.laysStatic "java/lang/String" "COMPACT_STRINGS" "Z" ∈ lw_tbl := tk_3 (List.mem_of_getElem? (i := 122) rfl)
theorem sv_fm : Cond.laysStatic "jdk/internal/util/Preconditions" "SIOOBE_FORMATTER" "Ljava/util/function/BiFunction;" ∈ lw_tbl := tk_3 (List.mem_of_getElem? (i := 163) rfl)
theorem sv_us : Cond.laysStatic "java/lang/Throwable" "UNASSIGNED_STACK" "[Ljava/lang/StackTraceElement;" ∈ lw_tbl := tk_6 (List.mem_of_getElem? (i := 235) rfl)
theorem sv_ss : Cond.laysStatic "java/lang/Throwable" "SUPPRESSED_SENTINEL" "Ljava/util/List;" ∈ lw_tbl := tk_6 (List.mem_of_getElem? (i := 237) rfl)
theorem iv_s : Cond.initialized "java/lang/String" ∈ lw_tbl := tk_1 (List.mem_of_getElem? (i := 15) rfl)
theorem iv_p : Cond.initialized "jdk/internal/util/Preconditions" ∈ lw_tbl := tk_1 (List.mem_of_getElem? (i := 18) rfl)
theorem iv_t : Cond.initialized "java/lang/Throwable" ∈ lw_tbl := tk_1 (List.mem_of_getElem? (i := 22) rfl)
theorem sr_0 : Cond.stringRef "WidowRow$Tokens" 75 (txT.getD 0 "") ∈ lw_tbl := tk_3 (List.mem_of_getElem? (i := 108) rfl)
theorem sr_1 : Cond.stringRef "WidowRow$Tokens" 83 (txT.getD 1 "") ∈ lw_tbl := tk_3 (List.mem_of_getElem? (i := 197) rfl)
theorem sr_2 : Cond.stringRef "WidowRow" 155 (txT.getD 2 "") ∈ lw_tbl := tk_7 (List.mem_of_getElem? (i := 7) rfl)
theorem sr_3 : Cond.stringRef "WidowRow" 177 (txT.getD 3 "") ∈ lw_tbl := tk_7 (List.mem_of_getElem? (i := 34) rfl)
theorem nt_0 : Cond.methodLinkNest "WidowRow" 28 yX10_init "WidowRow" ∈ lw_tbl := tk_1 (List.mem_of_getElem? (i := 101) rfl)
theorem nt_1 : Cond.methodLinkNest "WidowRow$World" 27 yX5_init "WidowRow" ∈ lw_tbl := tk_2 (List.mem_of_getElem? (i := 4) rfl)
theorem nt_2 : Cond.methodLinkNest "WidowRow$World" 34 yX8_init "WidowRow" ∈ lw_tbl := tk_2 (List.mem_of_getElem? (i := 29) rfl)
theorem nt_3 : Cond.arrayOver (.object "WidowRow$Row") ∈ lw_tbl := tk_2 (List.mem_of_getElem? (i := 75) rfl)
theorem at_i : Cond.arrayClass .int ∈ lw_tbl := tk_1 (List.mem_of_getElem? (i := 192) rfl)
theorem at_b : Cond.arrayClass .byte ∈ lw_tbl := tk_1 (List.mem_of_getElem? (i := 98) rfl)
theorem at_j : Cond.arrayClass .long ∈ lw_tbl := tk_1 (List.mem_of_getElem? (i := 191) rfl)
theorem at_z : Cond.arrayClass .boolean ∈ lw_tbl := tk_7 (List.mem_of_getElem? (i := 200) rfl)
theorem cl_ok : ∀ (k : Nat) (q : vw_C), vwCl[k]? = some q → (∀ w ∈ u_ws q.1 q.2.1 q.2.2, w ∈ WS) ∧ Cond.instantiable q.1 q.2.2 ∈ WS
  | 0, q, h => by cases h; exact ⟨jc_0.2.1, w_319⟩
  | 1, q, h => by cases h; exact ⟨jc_1.2.1, w_460⟩
  | 2, q, h => by cases h; exact ⟨jc_2.2.1, w_429⟩
  | 3, q, h => by cases h; exact ⟨jc_3.2.1, w_106⟩
  | 4, q, h => by cases h; exact ⟨jc_4.2.1, w_397⟩
  | 5, q, h => by cases h; exact ⟨jc_5.2.1, w_243⟩
  | 6, q, h => by cases h; exact ⟨jc_6.2.1, w_349⟩
  | 7, q, h => by cases h; exact ⟨jc_7.2.1, w_194⟩
  | 8, q, h => by cases h; exact ⟨jc_8.2.1, w_268⟩
  | 9, q, h => by cases h; exact ⟨jc_9.2.1, w_36⟩
  | 10, q, h => by cases h; exact ⟨jc_10.2.1, w_100⟩
  | 11, q, h => by cases h; exact ⟨jc_11.2.1, w_28⟩
  | 12, q, h => by cases h; exact ⟨jc_12.2.1, w_1476⟩
  | k + 13, q, h => by simp at h
theorem vk_S_cg {N : Nat} {len : List Nat} {byt : List (List Int32)} {adK adV aK aV : Nat → Nat} {A : Nat → Prop} {U : State} {H : Heap} (h : vk_S N len byt adK adV A U H) (e1 : ∀ i, i < N → aK i = adK i) (e2 : ∀ i, i < N → aV i = adV i) : vk_S N len byt aK aV A U H :=
  ⟨fun i hi => by rw [e1 i hi, e2 i hi]; exact h.1 i hi, fun i j hi hj e => h.2 i j hi hj (by rw [← e1 i hi, ← e1 j hj]; exact e)⟩
theorem arr_at {s : State} {args : Array Value} {ty : FieldType} (h : (Cond.arrayClass ty).before args s = true) : ∃ cA, ArrOfT s cA ty ∧ s.vm.findClass ("[" ++ ty.toString) = some cA := by
  obtain ⟨c, k, comp, h1, h2, h3⟩ := Cond.arrayClass_spec h
  exact ⟨c, fun n z => ⟨fun k h => (by cases h), k, h2, comp, h3⟩, h1⟩
theorem arr_ov {s : State} {args : Array Value} {C : String} (h : (Cond.arrayOver (.object C)).before args s = true) : ∃ cA, ArrOfT s cA (.object C) ∧ va_RA s cA (.object C) := by
  obtain ⟨comp, c, k, h1, h2, h3, h4, h5⟩ := Cond.arrayOver_spec h
  exact ⟨c, fun n z => ⟨fun k h => (by cases h), k, h3, comp, h4⟩, k, comp, h3, h4, h1, h5⟩
def adrS (adK adV : Nat → Nat) (b : Nat) : Nat → Nat := fun k => if k = 3000000 then b else if 2000000 ≤ k then adV (k - 2000000) else adK (k - 1000000)
theorem adr_k {adK adV : Nat → Nat} {b i : Nat} (h : i < 4) : adrS adK adV b (1000000 + i) = adK i := by
  unfold adrS
  rw [if_neg (by omega), if_neg (by omega), Nat.add_sub_cancel_left]
theorem adr_v {adK adV : Nat → Nat} {b i : Nat} (h : i < 4) : adrS adK adV b (2000000 + i) = adV i := by
  unfold adrS
  rw [if_neg (by omega), if_pos (by omega), Nat.add_sub_cancel_left]
theorem start_js {s : State} {b : Nat} (hts : ∀ w ∈ lw_tbl, w.before #[Value.ref b] s = true) (hgv : (Jvm.Cond.and given_1 narrow_1).before #[Value.ref b] s = true) : ∃ w : JW, w.1 3000000 = b ∧ JSt w (shp 0) (rst 0) (sst 0) (fun q => s.heap.size ≤ q) s s.heap [] ∧ TX (fun q => s.heap.size ≤ q) s ∧ NX s := by
  have hA : ∀ a : Nat, a < s.heap.size → ¬ (fun q : Nat => s.heap.size ≤ q) a := fun a h => Nat.not_le.mpr h
  have hs := flat_of_before _ hgv
  have hw : ∀ w ∈ WS, w.before #[Value.ref b] s = true := fun w h => hts w (List.mem_filter.mp h).1
  obtain ⟨adK, adV, hS, hE⟩ := vk_Sof (args := #[Value.ref b]) (s := s) (N := 4) (tm := tmS) (len := lenT) (byt := bytT) (A := fun q => s.heap.size ≤ q) (by decide) (fun i hi => hs _ (fl_ex i hi)) (fun i hi => hs _ (fl_co i hi)) (fun i hi => hs _ (fl_ar i hi)) (fun i hi => hs _ (fl_le i hi)) (fun i hi j hj => hs _ (fl_el i hi j hj)) (fun i j hi hj hij => (fl_ne i hi j hj hij).imp (hs _) (hs _)) hA
  have hc : ∀ c : Nat, ∃ z : ClassId × (Nat → Nat), ∀ q : vw_C, vwCl[c]? = some q → u_Kn s q.1 q.2.1 q.2.2 z.1 z.2 := by
    intro c
    by_cases hq : ∃ q, vwCl[c]? = some q
    · obtain ⟨q, hq⟩ := hq
      obtain ⟨g1, g2⟩ := cl_ok c q hq
      obtain ⟨cC, iS, h9⟩ := u_known (C := q.1) (T := q.2.1) (N := q.2.2) (n := q.2.2) hw g1 (hw _ g2)
      refine ⟨(cC, iS), fun q' hq' => ?_⟩
      cases hq.symm.trans hq'
      exact h9
    · exact ⟨((0 : Nat), fun _ => 0), fun q h => absurd ⟨q, h⟩ hq⟩
  obtain ⟨fc, hfc⟩ := Classical.axiomOfChoice hc
  obtain ⟨a0, p0, n0⟩ := arr_at (hts _ at_i)
  obtain ⟨a1, p1, n1⟩ := arr_at (hts _ at_b)
  obtain ⟨a2, p2, n2⟩ := arr_at (hts _ at_j)
  obtain ⟨a3, p3, n3⟩ := arr_at (hts _ at_z)
  obtain ⟨a4, p4, n4⟩ := arr_ov (hts _ nt_3)
  obtain ⟨dA, q0, q1, q2, q3, q4⟩ : ∃ dA : Nat → ClassId, dA 0 = a0 ∧ dA 1 = a1 ∧ dA 2 = a2 ∧ dA 3 = a3 ∧ dA 4 = a4 := ⟨fun k => match k with | 0 => a0 | 1 => a1 | 2 => a2 | 3 => a3 | _ => a4, rfl, rfl, rfl, rfl, rfl⟩
  refine ⟨(adrS adK adV b, (fun k => (fc k).1, fun k => (fc k).2), dA), ?_, ⟨⟨fun c q hq => hfc c q hq, ?_⟩, ?_, ?_, va_S.rf, fun q h => h, ?_⟩, ⟨?_, ?_, ?_⟩, ?_⟩
  · show adrS adK adV b 3000000 = b
    unfold adrS
    rw [if_pos rfl]
  · intro k q hq
    match k, hq with
    | 0, hq => cases hq; show ArrOfT s (dA 0) _ ∧ va_RA s (dA 0) _; rw [q0]; exact ⟨p0, n0⟩
    | 1, hq => cases hq; show ArrOfT s (dA 1) _ ∧ va_RA s (dA 1) _; rw [q1]; exact ⟨p1, n1⟩
    | 2, hq => cases hq; show ArrOfT s (dA 2) _ ∧ va_RA s (dA 2) _; rw [q2]; exact ⟨p2, n2⟩
    | 3, hq => cases hq; show ArrOfT s (dA 3) _ ∧ va_RA s (dA 3) _; rw [q3]; exact ⟨p3, n3⟩
    | 4, hq => cases hq; show ArrOfT s (dA 4) _ ∧ va_RA s (dA 4) _; rw [q4]; exact ⟨p4, n4⟩
    | k + 5, hq => simp at hq
  · intro k q hq
    simp [rd, shp] at hq
  · exact ⟨fun i j p q hi => by simp [rd, shp] at hi, fun k q hq => by simp [rd, shp] at hq⟩
  · have e0 : adrS adK adV b 1000000 = adK 0 := adr_k (i := 0) (by decide)
    have e1 : adrS adK adV b 1000001 = adK 1 := adr_k (i := 1) (by decide)
    have e2 : adrS adK adV b 1000002 = adK 2 := adr_k (i := 2) (by decide)
    have e3 : adrS adK adV b 1000003 = adK 3 := adr_k (i := 3) (by decide)
    refine ⟨vk_S_cg hS (fun i hi => adr_k hi) (fun i hi => adr_v hi), ⟨?_, ?_, ?_, ?_⟩, va_Zof (hts _ sv_cs) (hts _ iv_s) (va_eqi (hs _ fl_cs)) hA, va_Zqof (hts _ sv_fm) (hts _ iv_p) (hs _ fl_fm) hA, va_Zqof (hts _ sv_us) (hts _ iv_t) (hs _ fl_us) hA, va_Zqof (hts _ sv_ss) (hts _ iv_t) (hs _ fl_ss) hA⟩
    · show vk_R "WidowRow$Tokens" 75 (txT.getD 0 "") (adrS adK adV b 1000000) s
      rw [e0]
      exact vk_R.of (hts _ sr_0) (hE 0 (by decide))
    · show vk_R "WidowRow$Tokens" 83 (txT.getD 1 "") (adrS adK adV b 1000001) s
      rw [e1]
      exact vk_R.of (hts _ sr_1) (hE 1 (by decide))
    · show vk_R "WidowRow" 155 (txT.getD 2 "") (adrS adK adV b 1000002) s
      rw [e2]
      exact vk_R.of (hts _ sr_2) (hE 2 (by decide))
    · show vk_R "WidowRow" 177 (txT.getD 3 "") (adrS adK adV b 1000003) s
      rw [e3]
      exact vk_R.of (hts _ sr_3) (hE 3 (by decide))
  · exact vx_Zqof (hts _ sv_us) (hts _ iv_t) (hs _ fl_us) hA
  · exact vx_Zqof (hts _ sv_ss) (hts _ iv_t) (hs _ fl_ss) hA
  · exact fun w hw => va_Nw.of (nse_on w hw) (hts w (List.mem_append_right (k2_sels lw_privs) (nse_btab w hw)))
  · exact ⟨va_Nw.of rfl (hts _ nt_0), va_Nw.of rfl (hts _ nt_1), va_Nw.of rfl (hts _ nt_2), va_AO.of (hts _ nt_3)⟩
theorem no_traces : flags0.contains Jvm.noTraceFlag = true := by decide +kernel
set_option maxRecDepth 20000 in
set_option maxHeartbeats 4000000 in
/-- from the entry, for every script of at most 3072 ints, the law comes to its end with true -/
theorem whole_start {p : Program} {e : Env} {s : State} {m : MethodId} {below : List Frame} {meth : Method} {c : Code} (l : Launch) (hflags : l.flags = flags0) {b L : Nat} {xs : Nat → Int32} (hL : L ≤ 3072) (C0 : lw_At p s m meth c b L xs) : W p l e room_1 s m #[Value.ref b] below meth c s.heap [] 0 0 (lw_Z below #[Value.ref b] s) (entryFrame m ([Value.ref b] : List Value).toArray 7) := by
  obtain ⟨hx, hb, hr, hml, hown, hts, hX, hbl, hlocks, hgv⟩ := id C0
  obtain ⟨w, hw3, hJ, hTX, hNX⟩ := start_js hts hgv
  have hst : l.stackTraces = false := by
    unfold Launch.stackTraces
    rw [hflags, no_traces]
    rfl
  have hl := lv_entry ([.ref b]) (n := 7) (Nat.le_of_ble_eq_true rfl)
  rw [lg_entry_eq]
  generalize (lg_sl ([.ref b]) ++ List.replicate (7 - (lg_sl ([.ref b])).length) Slot.unset).toArray = ls at hl ⊢
  have hl : lv_has ls 7 [(0, .ref b)] := hl
  have e1 : (shp 0).length + 1000 - (rL b L xs 0).2.2.1.1 = 0 := by
    show (shp 0).length + 1000 - (1000 - 0) = 0
    rw [show (shp 0).length = 0 from rfl]
  have e2 : wsum (shp 0) + 10000 - (rL b L xs 0).2.2.1.2 = 0 := by
    show wsum (shp 0) + 10000 - (10000 - 6 * 0) = 0
    rw [show wsum (shp 0) = 0 from rfl]
  obtain ⟨-, h⟩ := law_entry (b := b) (Lx := L) (xs := xs) hL (fun q hq => by
    rw [List.mem_singleton] at hq
    subst hq
    trivial) (fun v hv => by cases hv) (fun k kd hk => by simp [shp] at hk) () rfl
  have h9 := h p l e s m #[Value.ref b] below meth c w (fun q => s.heap.size ≤ q) s.heap [] ls ⟨Nat.le_of_ble_eq_true rfl, Nat.le_of_ble_eq_true rfl, by rw [e1]; exact Nat.zero_le _, by rw [e2]; exact Nat.zero_le _, by show 1000 - 0 ≤ (shp 0).length + 1000; omega, by show 10000 - 6 * 0 ≤ wsum (shp 0) + 10000; omega⟩ ⟨rfl, rfl, hw3, hX, hbl, hTX, hNX, hst⟩ ⟨hx, hb, hml, hown, fun w' h' => hts w' (List.mem_filter.mp h').1, hr, hlocks⟩ hJ (by
    show lv_has ls 7 [(0, .ref (w.1 3000000))]
    rw [hw3]
    exact hl)
  rw [e1, e2] at h9
  exact h9
