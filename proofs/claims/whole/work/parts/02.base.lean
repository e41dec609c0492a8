def ftab : List (List Nat) := [[2, 2, 2, 2, 0, 2, 0], [2, 0, 3, 0, 0, 0, 0], [2, 2, 2, 2, 2, 0, 2, 2], [0, 0, 0, 0, 0, 0, 3, 2, 2, 2, 2, 2, 2], [2, 2, 2, 2, 0, 0, 0, 0], [0, 0, 2, 0, 2], [2, 2, 2, 2, 0, 2, 2, 2, 2, 0, 3, 2, 0], [2, 2, 2, 2, 0, 2, 2, 2], [0, 0, 2, 2, 2, 2], [2, 0, 0, 0, 0, 0, 0, 1, 0, 0, 0, 0, 0, 0], [2, 2, 2, 2, 3], [2, 0, 2, 2, 2, 2, 2, 2, 0, 0, 2, 2, 2, 2, 2, 2, 2, 2, 0], [0, 2, 0, 0, 0, 0, 0, 0, 0, 0, 0, 0, 1, 0, 2, 2, 2, 2, 2, 2, 2, 2, 0, 3, 3, 2, 2, 2, 0, 2, 2, 2, 0, 0, 0, 0, 0, 2, 2, 0, 2, 0, 2, 2, 2, 0, 2, 2, 0, 0, 0, 0]]
/-! LAYER 1a: whole numbers as Int beside the machine's; a heap as places -/
def i32 (x : Int) : Int32 := Int32.ofInt x
def i64 (x : Int) : Int64 := Int64.ofInt x
def okI (x : Int) : Prop := -2147483648 ≤ x ∧ x < 2147483648
def okJ (x : Int) : Prop := -9223372036854775808 ≤ x ∧ x < 9223372036854775808
def w32 (x : Int) : Int := (i32 x).toInt
def w64 (x : Int) : Int := (i64 x).toInt
theorem ok32 (x : Int32) : okI x.toInt := by
  have h1 := Int32.le_toInt x
  have h2 := Int32.toInt_lt x
  constructor <;> omega
theorem ok64 (x : Int64) : okJ x.toInt := by
  have h1 := Int64.le_toInt x
  have h2 := Int64.toInt_lt x
  constructor <;> omega
theorem okw (x : Int) : okI (w32 x) := ok32 _
theorem okw64 (x : Int) : okJ (w64 x) := ok64 _
theorem i32_t (x : Int32) : i32 x.toInt = x := Int32.ofInt_toInt x
theorem i64_t (x : Int64) : i64 x.toInt = x := Int64.ofInt_toInt x
theorem t_i32 {x : Int} (h : okI x) : (i32 x).toInt = x := Int32.toInt_ofInt_of_le (by have := h.1; omega) (by have := h.2; omega)
theorem t_i64 {x : Int} (h : okJ x) : (i64 x).toInt = x := Int64.toInt_ofInt_of_le (by have := h.1; omega) (by have := h.2; omega)
theorem w32_id {x : Int} (h : -2147483648 ≤ x ∧ x < 2147483648) : w32 x = x := t_i32 h
theorem w64_id {x : Int} (h : -9223372036854775808 ≤ x ∧ x < 9223372036854775808) : w64 x = x := t_i64 h
theorem i32_w (x : Int) : i32 (w32 x) = i32 x := i32_t _
theorem i64_w (x : Int) : i64 (w64 x) = i64 x := i64_t _
theorem i32_add (x y : Int) : i32 (w32 (x + y)) = i32 x + i32 y := by rw [i32_w]; exact Int32.ofInt_add x y
theorem i32_sub (x y : Int) : i32 (w32 (x - y)) = i32 x - i32 y := by rw [i32_w]; exact Int32.ofInt_sub x y
theorem i32_mul (x y : Int) : i32 (w32 (x * y)) = i32 x * i32 y := by rw [i32_w]; exact Int32.ofInt_mul x y
theorem i64_add (x y : Int) : i64 (w64 (x + y)) = i64 x + i64 y := by rw [i64_w]; exact Int64.ofInt_add x y
theorem i64_sub (x y : Int) : i64 (w64 (x - y)) = i64 x - i64 y := by rw [i64_w]; exact Int64.ofInt_sub x y
theorem i64_mul (x y : Int) : i64 (w64 (x * y)) = i64 x * i64 y := by rw [i64_w]; exact Int64.ofInt_mul x y
def dv32 (x y : Int) : Int := (i32 x / i32 y).toInt
def rm32 (x y : Int) : Int := (i32 x - i32 x / i32 y * i32 y).toInt
def an32 (x y : Int) : Int := (i32 x &&& i32 y).toInt
def or32 (x y : Int) : Int := (i32 x ||| i32 y).toInt
def xr32 (x y : Int) : Int := (i32 x ^^^ i32 y).toInt
def sl32 (x y : Int) : Int := (i32 x <<< (i32 y &&& 31)).toInt
def sr32 (x y : Int) : Int := (i32 x >>> (i32 y &&& 31)).toInt
def ur32 (x y : Int) : Int := ((i32 x).toUInt32 >>> ((i32 y).toUInt32 &&& Int32.toUInt32 31)).toInt32.toInt
def an64 (x y : Int) : Int := (i64 x &&& i64 y).toInt
def or64 (x y : Int) : Int := (i64 x ||| i64 y).toInt
def sl64 (x y : Int) : Int := (i64 x <<< ((i32 y).toInt64 &&& 63)).toInt
def sr64 (x y : Int) : Int := (i64 x >>> ((i32 y).toInt64 &&& 63)).toInt
def b8 (x : Int) : Int := (i32 x).toInt8.toInt32.toInt
def c16 (x : Int) : Int := ((i32 x).toUInt32 % 65536).toInt32.toInt
def cmpL (x y : Int) : Int := if x > y then 1 else if x = y then 0 else -1
theorem i32_eq {x y : Int} (hx : okI x) (hy : okI y) : i32 x = i32 y ↔ x = y := ⟨fun h => by rw [← t_i32 hx, ← t_i32 hy, h], fun h => by rw [h]⟩
theorem i32_lt {x y : Int} (hx : okI x) (hy : okI y) : i32 x < i32 y ↔ x < y := by rw [Int32.lt_iff_toInt_lt, t_i32 hx, t_i32 hy]
theorem i32_le {x y : Int} (hx : okI x) (hy : okI y) : i32 x ≤ i32 y ↔ x ≤ y := by rw [Int32.le_iff_toInt_le, t_i32 hx, t_i32 hy]
theorem ok0 : okI 0 := by constructor <;> decide
theorem i32_0 : i32 0 = 0 := by decide
theorem i32_cmp {x y : Int} (hx : okJ x) (hy : okJ y) : i32 (cmpL x y) = lg_cmp (i64 x) (i64 y) := by
  unfold cmpL lg_cmp
  simp only [gt_iff_lt, Int64.lt_iff_toInt_lt, ← Int64.toInt_inj, t_i64 hx, t_i64 hy]
  split
  · decide
  · split <;> decide
theorem ok_cmp (x y : Int) : okI (cmpL x y) := by
  unfold cmpL
  split
  · constructor <;> decide
  · split <;> (constructor <;> decide)
theorem i64_of32 {x : Int} (h : okI x) : (i32 x).toInt64 = i64 x := by
  apply Int64.toInt_inj.mp
  rw [Int32.toInt_toInt64, t_i32 h, t_i64 ⟨by have := h.1; omega, by have := h.2; omega⟩]
theorem okJ_of {x : Int} (h : okI x) : okJ x := ⟨by have := h.1; omega, by have := h.2; omega⟩
theorem i32_of64 (x : Int) : (i64 x).toInt32 = i32 (w32 x) := by
  rw [i32_w]
  exact Int64.toInt32_ofInt
theorem i32_clamp {x : Int} (h : okI x) : (i32 x).toNatClampNeg = x.toNat := by
  show (i32 x).toInt.toNat = _
  rw [t_i32 h]
theorem vp_in_i {x : Int} {n : Nat} (h : okI x) (h0 : 0 ≤ x) (h1 : x < n) : vp_in (i32 x) n := by
  rw [vp_in_iff, t_i32 h]
  exact ⟨h0, h1⟩
/-! values, shapes, contents -/
abbrev JV : Type := Int ⊕ Int ⊕ Nat
abbrev vI (x : Int) : JV := Sum.inl x
abbrev vL (x : Int) : JV := Sum.inr (Sum.inl x)
abbrev vR (q : Nat) : JV := Sum.inr (Sum.inr q)
abbrev JSg : Type := Nat → Nat → Int
abbrev JRo : Type := Nat → Nat → Option Nat
abbrev JSh : Type := List (Nat ⊕ (Nat × Nat))
abbrev JW : Type := (Nat → Nat) × va_G × (Nat → ClassId)
def cv (ad : Nat → Nat) : JV → Value
  | .inl x => .int (i32 x)
  | .inr (.inl x) => .long (i64 x)
  | .inr (.inr q) => .ref (ad q)
def okV : JV → Prop
  | .inl x => okI x
  | .inr (.inl x) => okJ x
  | .inr (.inr _) => True
def vcat : JV → Nat
  | .inl _ => 1
  | .inr (.inl _) => 2
  | .inr (.inr _) => 1
theorem cv_cat (ad : Nat → Nat) (v : JV) : (cv ad v).category = vcat v := by
  rcases v with x | x | x <;> rfl
/-- one content changed -/
def sp (σ : JSg) (p j : Nat) (x : Int) : JSg := fun q i => if q = p then (if i = j then x else σ q i) else σ q i
def fN (ci : Nat) : Nat := (ftab.getD ci []).length
def fty (ci j : Nat) : Nat := (ftab.getD ci []).getD j 0
def acode : Nat → Nat
  | 2 => 1
  | 3 => 3
  | 4 => 2
  | _ => 0
def ecode : Nat ⊕ (Nat × Nat) → Nat → Nat
  | .inl ci, j => fty ci j
  | .inr a, _ => acode a.1
def okE (c : Nat) (x : Int) : Prop := if c = 1 then okJ x else if c = 3 then (x = 0 ∨ x = 1) else if c = 2 then True else okI x
def okH (Sh : JSh) (σ : JSg) : Prop := ∀ (k : Nat) (kd : Nat ⊕ (Nat × Nat)), Sh[k]? = some kd → ∀ j, okE (ecode kd j) (σ k j)
def fV (ad : Nat → Nat) (ρ : JRo) (σ : JSg) (k ci j : Nat) : Value := if fty ci j = 1 then .long (i64 (σ k j)) else if fty ci j = 2 then va_re ad (ρ k j) else .int (i32 (σ k j))
def aV (ad : Nat → Nat) (ρ : JRo) (σ : JSg) (k t n : Nat) : vp_A := (n, if t = 2 then .inr (.inl (fun j => i64 (σ k j))) else if t = 4 then .inr (.inr (.inr (.inr (fun j => (ρ k j).map ad)))) else .inl (fun j => i32 (σ k j)))
def cellE (w : JW) (ρ : JRo) (σ : JSg) (k : Nat) : Nat ⊕ (Nat × Nat) → va_E
  | .inl ci => .inr (ci, (List.range (fN ci)).map (fun j => fV w.1 ρ σ k ci j))
  | .inr a => .inl (w.2.2 a.1, aV w.1 ρ σ k a.1 a.2)
/-- the world's cells, by places -/
def rd (w : JW) (Sh : JSh) (ρ : JRo) (σ : JSg) : va_W := Sh.mapIdx fun k kd => (w.1 k, cellE w ρ σ k kd)
abbrev tysL (dA : Nat → ClassId) : List (ClassId × FieldType) := [(dA 0, .int), (dA 1, .byte), (dA 2, .long), (dA 3, .boolean), (dA 4, .object "WidowRow$Row")]
theorem rd_at {w : JW} {Sh : JSh} {ρ : JRo} {σ : JSg} {k : Nat} {kd : Nat ⊕ (Nat × Nat)} (h : Sh[k]? = some kd) : (rd w Sh ρ σ)[k]? = some (w.1 k, cellE w ρ σ k kd) := by
  simp [rd, List.getElem?_mapIdx, h]
theorem rd_len {w : JW} {Sh : JSh} {ρ : JRo} {σ : JSg} : (rd w Sh ρ σ).length = Sh.length := by simp [rd]
theorem sp_ne {σ : JSg} {p j q i : Nat} {x : Int} (h : q ≠ p) : sp σ p j x q i = σ q i := by simp [sp, h]
theorem cellE_sp_ne {w : JW} {ρ : JRo} {σ : JSg} {p j k : Nat} {x : Int} (h : k ≠ p) (kd : Nat ⊕ (Nat × Nat)) : cellE w ρ (sp σ p j x) k kd = cellE w ρ σ k kd := by
  cases kd with
  | inl ci => simp [cellE, fV, sp_ne h]
  | inr a => simp [cellE, aV, sp_ne h]
theorem rd_set {w : JW} {Sh : JSh} {ρ : JRo} {σ : JSg} {p j : Nat} {x : Int} {kd : Nat ⊕ (Nat × Nat)} {e : va_E} (h : Sh[p]? = some kd) (he : cellE w ρ (sp σ p j x) p kd = e) : (rd w Sh ρ σ).set p (w.1 p, e) = rd w Sh ρ (sp σ p j x) := by
  apply List.ext_getElem?
  intro k
  by_cases hk : k = p
  · subst hk
    have hl : k < (rd w Sh ρ σ).length := by rw [rd_len]; exact (List.getElem?_eq_some_iff.mp h).1
    rw [List.getElem?_set_self hl, rd_at h, he]
  · rw [List.getElem?_set_ne (Ne.symm hk)]
    cases hs : Sh[k]? with
    | none => simp [rd, List.getElem?_mapIdx, hs]
    | some kd' => rw [rd_at hs, rd_at hs, cellE_sp_ne hk]
theorem rd_fst {w : JW} {Sh : JSh} {ρ : JRo} {σ : JSg} {k : Nat} {q : Nat × va_E} (h : (rd w Sh ρ σ)[k]? = some q) : k < Sh.length ∧ q.1 = w.1 k := by
  have hl := (List.getElem?_eq_some_iff.mp h).1
  rw [rd_len] at hl
  have hs : Sh[k]? = some Sh[k] := List.getElem?_eq_getElem hl
  rw [rd_at hs] at h
  cases h
  exact ⟨hl, rfl⟩
theorem rd_has {w : JW} {Sh : JSh} {ρ : JRo} {σ : JSg} {k : Nat} (h : k < Sh.length) : ∃ e, (rd w Sh ρ σ)[k]? = some (w.1 k, e) :=
  ⟨_, rd_at (List.getElem?_eq_getElem h)⟩
theorem va_D_rd {A : Nat → Prop} {w : JW} {Sh : JSh} {ρ ρ' : JRo} {σ σ' : JSg} (h : va_D A (rd w Sh ρ σ)) : va_D A (rd w Sh ρ' σ') := by
  refine ⟨fun i j x y hi hj hxy => ?_, fun k q hk => ?_⟩
  · obtain ⟨l1, e1⟩ := rd_fst hi
    obtain ⟨l2, e2⟩ := rd_fst hj
    obtain ⟨a, ha⟩ := rd_has (w := w) (ρ := ρ) (σ := σ) l1
    obtain ⟨b, hb⟩ := rd_has (w := w) (ρ := ρ) (σ := σ) l2
    exact h.1 i j _ _ ha hb (by rw [← e1, ← e2]; exact hxy)
  · obtain ⟨l1, e1⟩ := rd_fst hk
    obtain ⟨a, ha⟩ := rd_has (w := w) (ρ := ρ) (σ := σ) l1
    rw [e1]
    exact h.2 k _ ha
theorem okH_sp {Sh : JSh} {σ : JSg} {p j : Nat} {x : Int} {kd : Nat ⊕ (Nat × Nat)} (h : okH Sh σ) (hs : Sh[p]? = some kd) (hx : okE (ecode kd j) x) : okH Sh (sp σ p j x) := by
  intro k kd' hk i
  by_cases e : k = p
  · subst e
    rw [hs] at hk
    cases hk
    by_cases e2 : i = j
    · subst e2; simpa [sp] using hx
    · simpa [sp, e2] using h k kd hs i
  · rw [sp_ne e]
    exact h k kd' hk i
theorem okE_0 {x : Int} : okE 0 x ↔ okI x := by simp [okE]
theorem okE_1 {x : Int} : okE 1 x ↔ okJ x := by simp [okE]
theorem okE_3 {x : Int} : okE 3 x ↔ (x = 0 ∨ x = 1) := by simp [okE]
theorem okI_bit {x : Int} (h : x = 0 ∨ x = 1) : okI x := by rcases h with rfl | rfl <;> (constructor <;> decide)
/-! the pure text's own words -/
def lt_ {α β : Type} (v : α) (o : α → β) : β := o v
def chk {β : Type} (c : Prop) [Decidable c] (o : Option β) : Option β := if c then o else none
def bd1 {α β : Type} (o : Option α) (g : α → Option β) : Option β := o.bind g
def bd2 {α β γ : Type} (o : Option (α × β)) (g : α → β → Option γ) : Option γ := o.bind fun z => g z.1 z.2
theorem chk_pos {β : Type} {c : Prop} [Decidable c] {o : Option β} (h : c) : chk c o = o := if_pos h
theorem chk_some {β : Type} {c : Prop} [Decidable c] {o : Option β} {z : β} (h : chk c o = some z) : c ∧ o = some z := by
  unfold chk at h
  split at h
  · exact ⟨by assumption, h⟩
  · cases h

/-! LAYER 1b: the judgement -/
def WS : List Cond := lw_tbl.filter goodWord
theorem ws_in {w : Cond} (h : w ∈ lw_tbl) (g : goodWord w = true) : w ∈ WS := List.mem_filter.mpr ⟨h, g⟩
theorem tk_1 {w : Cond} (h : w ∈ tables_1_1) : w ∈ lw_tbl := List.mem_append_right (k2_sels lw_privs) (show w ∈ tables_1 from List.mem_append_left _ h)
theorem tk_2 {w : Cond} (h : w ∈ tables_1_2) : w ∈ lw_tbl := List.mem_append_right (k2_sels lw_privs) (show w ∈ tables_1 from List.mem_append_right _ (List.mem_append_left _ h))
theorem tk_3 {w : Cond} (h : w ∈ tables_1_3) : w ∈ lw_tbl := List.mem_append_right (k2_sels lw_privs) (show w ∈ tables_1 from List.mem_append_right _ (List.mem_append_right _ (List.mem_append_left _ h)))
theorem tk_4 {w : Cond} (h : w ∈ tables_1_4) : w ∈ lw_tbl := List.mem_append_right (k2_sels lw_privs) (show w ∈ tables_1 from List.mem_append_right _ (List.mem_append_right _ (List.mem_append_right _ (List.mem_append_left _ h))))
theorem tk_5 {w : Cond} (h : w ∈ tables_1_5) : w ∈ lw_tbl := List.mem_append_right (k2_sels lw_privs) (show w ∈ tables_1 from List.mem_append_right _ (List.mem_append_right _ (List.mem_append_right _ (List.mem_append_right _ (List.mem_append_left _ h)))))
theorem tk_6 {w : Cond} (h : w ∈ tables_1_6) : w ∈ lw_tbl := List.mem_append_right (k2_sels lw_privs) (show w ∈ tables_1 from List.mem_append_right _ (List.mem_append_right _ (List.mem_append_right _ (List.mem_append_right _ (List.mem_append_right _ (List.mem_append_left _ h))))))
theorem tk_7 {w : Cond} (h : w ∈ tables_1_7) : w ∈ lw_tbl := List.mem_append_right (k2_sels lw_privs) (show w ∈ tables_1 from List.mem_append_right _ (List.mem_append_right _ (List.mem_append_right _ (List.mem_append_right _ (List.mem_append_right _ (List.mem_append_right _ (List.mem_append_left _ h)))))))
theorem tk_8 {w : Cond} (h : w ∈ tables_1_8) : w ∈ lw_tbl := List.mem_append_right (k2_sels lw_privs) (show w ∈ tables_1 from List.mem_append_right _ (List.mem_append_right _ (List.mem_append_right _ (List.mem_append_right _ (List.mem_append_right _ (List.mem_append_right _ (List.mem_append_right _ (List.mem_append_left _ h))))))))
theorem tk_9 {w : Cond} (h : w ∈ tables_1_9) : w ∈ lw_tbl := List.mem_append_right (k2_sels lw_privs) (show w ∈ tables_1 from List.mem_append_right _ (List.mem_append_right _ (List.mem_append_right _ (List.mem_append_right _ (List.mem_append_right _ (List.mem_append_right _ (List.mem_append_right _ (List.mem_append_right _ (List.mem_append_left _ h)))))))))
theorem tk_10 {w : Cond} (h : w ∈ tables_1_10) : w ∈ lw_tbl := List.mem_append_right (k2_sels lw_privs) (show w ∈ tables_1 from List.mem_append_right _ (List.mem_append_right _ (List.mem_append_right _ (List.mem_append_right _ (List.mem_append_right _ (List.mem_append_right _ (List.mem_append_right _ (List.mem_append_right _ (List.mem_append_right _ (h))))))))))
theorem ws_good {w : Cond} (h : w ∈ WS) : (w.onTables && w.keeps) = true ∨ ∃ ty, w = .arrayClass ty := good_of_word (List.mem_filter.mp h).2
def rmd (d : Nat) : Room := { frames := d, cells := 0, slots := 0, locals := 64 * d }
def JFix (p : Program) (s : State) (m : MethodId) (args : Array Value) (meth : Method) (c : Code) (own : String) (cc : ByteArray) (nL : Nat) (ret : Option FieldType) : Prop :=
  p.tables.exec = Jvm.exec ∧ c.code = cc ∧ c.maxLocals = nL ∧ s.vm.findClass own = some m.cls ∧ (∀ w ∈ WS, w.before args s = true) ∧ meth.sig.returnType = ret ∧ meth.locks = false
/-! what is there before and never written: the String constants, four statics -/
def txT : List String := [";<=>()", "widow stone forgive quarrel pawn deal seen passed or and not double laid held of fits pips high low place ", "no such stone", "nothing such is told of a stone"]
def lenT : List Nat := [6, 106, 13, 31]
def bytT : List (List Int32) := [[59, 60, 61, 62, 40, 41], [119, 105, 100, 111, 119, 32, 115, 116, 111, 110, 101, 32, 102, 111, 114, 103, 105, 118, 101, 32, 113, 117, 97, 114, 114, 101, 108, 32, 112, 97, 119, 110, 32, 100, 101, 97, 108, 32, 115, 101, 101, 110, 32, 112, 97, 115, 115, 101, 100, 32, 111, 114, 32, 97, 110, 100, 32, 110, 111, 116, 32, 100, 111, 117, 98, 108, 101, 32, 108, 97, 105, 100, 32, 104, 101, 108, 100, 32, 111, 102, 32, 102, 105, 116, 115, 32, 112, 105, 112, 115, 32, 104, 105, 103, 104, 32, 108, 111, 119, 32, 112, 108, 97, 99, 101, 32], [110, 111, 32, 115, 117, 99, 104, 32, 115, 116, 111, 110, 101], [110, 111, 116, 104, 105, 110, 103, 32, 115, 117, 99, 104, 32, 105, 115, 32, 116, 111, 108, 100, 32, 111, 102, 32, 97, 32, 115, 116, 111, 110, 101]]
def RO (w : JW) (A : Nat → Prop) (s : State) : Prop :=
  vk_S 4 lenT bytT (fun i => w.1 (1000000 + i)) (fun i => w.1 (2000000 + i)) A s s.heap ∧
  (vk_R "WidowRow$Tokens" 75 (txT.getD 0 "") (w.1 1000000) s ∧ vk_R "WidowRow$Tokens" 83 (txT.getD 1 "") (w.1 1000001) s ∧ vk_R "WidowRow" 155 (txT.getD 2 "") (w.1 1000002) s ∧ vk_R "WidowRow" 177 (txT.getD 3 "") (w.1 1000003) s) ∧
  va_Z "java/lang/String" "COMPACT_STRINGS" "Z" (.int 1) A s s.heap ∧ va_Zq "jdk/internal/util/Preconditions" "SIOOBE_FORMATTER" "Ljava/util/function/BiFunction;" A s s.heap ∧
  va_Zq "java/lang/Throwable" "UNASSIGNED_STACK" "[Ljava/lang/StackTraceElement;" A s s.heap ∧ va_Zq "java/lang/Throwable" "SUPPRESSED_SENTINEL" "Ljava/util/List;" A s s.heap
theorem RO.to {w : JW} {A B : Nat → Prop} {s U : State} {locs : List Loc} (h : RO w A s) (hS : va_S A s.heap U.heap locs) (hW : s.WarmedH U.vm) (hB : ∀ q, B q → A q) : RO w B U := by
  obtain ⟨h1, ⟨r1, r2, r3, r4⟩, h2, h3, h4, h5⟩ := h
  exact ⟨((h1.kept hS.2.1).moved hW.alike).narrow hB, ⟨r1.warm hW, r2.warm hW, r3.warm hW, r4.warm hW⟩, ((h2.kept hS.2.1).moved hW.alike).narrow hB, ((h3.kept hS.2.1).moved hW.alike).narrow hB, ((h4.kept hS.2.1).moved hW.alike).narrow hB, ((h5.kept hS.2.1).moved hW.alike).narrow hB⟩
theorem RO.calling {w : JW} {A : Nat → Prop} {U : State} {g : JFrame} {mk : MethodId} {a : Array Value} (h : RO w A U) : RO w A (U.calling g mk a) := by
  obtain ⟨h1, ⟨r1, r2, r3, r4⟩, h2, h3, h4, h5⟩ := h
  have hv : U.vm.Alike (U.calling g mk a).vm := Vm.Alike.refl U.vm
  exact ⟨h1.moved (u := U) (U := U.calling g mk a) hv, ⟨r1.same rfl, r2.same rfl, r3.same rfl, r4.same rfl⟩, h2.moved (u := U) (U := U.calling g mk a) hv, h3.moved (u := U) (U := U.calling g mk a) hv, h4.moved (u := U) (U := U.calling g mk a) hv, h5.moved (u := U) (U := U.calling g mk a) hv⟩
def JSt (w : JW) (Sh : JSh) (ρ : JRo) (σ : JSg) (A : Nat → Prop) (s : State) (H : Heap) (locs : List Loc) : Prop :=
  va_K w.2.1 vwCl (tysL w.2.2) s ∧ va_P w.2.1 vwCl (rd w Sh ρ σ) H ∧ va_D A (rd w Sh ρ σ) ∧ va_S A s.heap H locs ∧ (∀ q, s.heap.size ≤ q → A q) ∧ RO w A s
def Q9 (w : JW) (Sh : JSh) (ρ : JRo) (A : Nat → Prop) (R : Option JV × JSg) : Array Value → State → Outcome → State → Prop := fun _ st oc t =>
  (oc = .returned (R.1.map (cv w.1)) ∧ va_P w.2.1 vwCl (rd w Sh ρ R.2) t.heap ∧ va_K w.2.1 vwCl (tysL w.2.2) t ∧ va_D A (rd w Sh ρ R.2)) ∧ va_F A st t
/-- the ends of walks: what is sure there; the room; the shape's size at the start; what is reached; what else is known of the invocation -/
abbrev JQ : Type := State → MethodId → Array Value → List Frame → JW → (Nat → Prop) → State → Prop
abbrev JX : Type := State → Array Value → (Nat → Prop) → JW → Method → Code → Launch → Prop
abbrev JD : Type := Prop × Room × (Nat × Nat) × JQ × JX
def wk : Nat ⊕ (Nat × Nat) → Nat
  | .inl ci => fN ci
  | .inr a => a.2
def wsum (Sh : JSh) : Nat := (Sh.map wk).sum
def jroom (d : Nat) (Sh : JSh) (R : JD) : Prop := d ≤ R.2.1.frames ∧ 64 * d ≤ R.2.1.locals ∧ Sh.length + 1000 - R.2.2.1.1 ≤ R.2.1.cells ∧ wsum Sh + 10000 - R.2.2.1.2 ≤ R.2.1.slots ∧ R.2.2.1.1 ≤ Sh.length + 1000 ∧ R.2.2.1.2 ≤ wsum Sh + 10000
def SimM (own : String) (cc : ByteArray) (nL : Nat) (ret : Option FieldType) (d : Nat) (Sh : JSh) (ρ : JRo) (pc : Nat) (L : List (Nat × JV)) (S : List JV) (σ : JSg) (R : JD) : Prop :=
  ∀ (p : Program) (l : Launch) (e : Env) (s : State) (m : MethodId) (args : Array Value) (below : List Frame) (meth : Method) (c : Code) (w : JW) (A : Nat → Prop) (H : Heap) (locs : List Loc) (ls : Array Slot),
    jroom d Sh R → R.2.2.2.2 s args A w meth c l → JFix p s m args meth c own cc nL ret → JSt w Sh ρ σ A s H locs → lv_has ls nL (L.map fun q => (q.1, cv w.1 q.2)) →
    W p l e R.2.1 s m args below meth c H locs (Sh.length + 1000 - R.2.2.1.1) (wsum Sh + 10000 - R.2.2.1.2) (R.2.2.2.1 s m args below w A) (F0 m pc ls (S.map (cv w.1)))
def okR (Sh : JSh) (R : Option JV × JSg) : Prop := (∀ v, R.1 = some v → okV v) ∧ okH Sh R.2
def GSim {Z : Type} (own : String) (cc : ByteArray) (nL : Nat) (ret : Option FieldType) (d : Nat) (Sh : JSh) (ρ : JRo) (pc : Nat) (L : List (Nat × JV)) (S : List JV) (σ : JSg) (dec : Z → JD) (o : Option Z) : Prop :=
  (∀ q ∈ L, okV q.2) → (∀ v ∈ S, okV v) → okH Sh σ → ∀ z, o = some z → (dec z).1 ∧ SimM own cc nL ret d Sh ρ pc L S σ (dec z)
/-- a method's own end -/
def rS (d : Nat) (Sh : JSh) (ρ : JRo) (R : Option JV × JSg) : JD := (okR Sh R, rmd d, (Sh.length + 1000, wsum Sh + 10000), (fun s m args below w A => MQ below (Q9 w Sh ρ A R) args s 0 0 A), fun _ _ _ _ _ _ _ => True)
abbrev Sim {Z : Type} (own : String) (cc : ByteArray) (nL : Nat) (ret : Option FieldType) (d : Nat) (Sh : JSh) (ρ : JRo) (pc : Nat) (L : List (Nat × JV)) (S : List JV) (σ : JSg) (dec : Z → Option JV × JSg) (o : Option Z) : Prop :=
  GSim own cc nL ret d Sh ρ pc L S σ (fun z => rS d Sh ρ (dec z)) o
theorem jroom_s {d : Nat} {Sh : JSh} {ρ : JRo} {R : Option JV × JSg} : jroom d Sh (rS d Sh ρ R) := ⟨Nat.le_refl _, Nat.le_refl _, by simp [rS], by simp [rS], Nat.le_refl _, Nat.le_refl _⟩
theorem okS_cons {v : JV} {S : List JV} (h : okV v) (hS : ∀ v ∈ S, okV v) : ∀ u ∈ v :: S, okV u := List.forall_mem_cons.mpr ⟨h, hS⟩
theorem okS_tl {v : JV} {S : List JV} (hS : ∀ u ∈ v :: S, okV u) : ∀ u ∈ S, okV u := fun u h => hS u (List.mem_cons_of_mem _ h)
theorem okS_hd {v : JV} {S : List JV} (hS : ∀ u ∈ v :: S, okV u) : okV v := hS v List.mem_cons_self
section
variable {Z : Type} {own : String} {cc : ByteArray} {nL : Nat} {ret : Option FieldType} {d : Nat} {Sh : JSh} {ρ : JRo} {pc pc' : Nat} {L L' : List (Nat × JV)} {S S' : List JV} {σ σ' : JSg} {dec : Z → JD} {o : Option Z}
theorem sim_go (hok : (∀ q ∈ L, okV q.2) → (∀ v ∈ S, okV v) → okH Sh σ → (∀ q ∈ L', okV q.2) ∧ (∀ v ∈ S', okV v) ∧ okH Sh σ')
    (hm : (∀ q ∈ L, okV q.2) → (∀ v ∈ S, okV v) → okH Sh σ → ∀ R, SimM own cc nL ret d Sh ρ pc' L' S' σ' R → SimM own cc nL ret d Sh ρ pc L S σ R)
    (k : GSim own cc nL ret d Sh ρ pc' L' S' σ' dec o) : GSim own cc nL ret d Sh ρ pc L S σ dec o := by
  intro hL hS hH z hz
  obtain ⟨a, b, c⟩ := hok hL hS hH
  obtain ⟨g1, g2⟩ := k a b c z hz
  exact ⟨g1, hm hL hS hH _ g2⟩
theorem sim_chk {c : Prop} [Decidable c] (k : c → GSim own cc nL ret d Sh ρ pc L S σ dec o) : GSim own cc nL ret d Sh ρ pc L S σ dec (chk c o) := by
  intro hL hS hH z hz
  obtain ⟨hc, hz⟩ := chk_some hz
  exact k hc hL hS hH z hz
theorem sim_none : GSim own cc nL ret d Sh ρ pc L S σ dec none := fun _ _ _ _ hz => by cases hz
theorem sim_name {x : Int} {o : Int → Option Z} (k : ∀ y : Int, GSim own cc nL ret d Sh ρ pc L (vI y :: S) σ dec (o y)) : GSim own cc nL ret d Sh ρ pc L (vI x :: S) σ dec (lt_ x o) := k x
theorem sim_nameL {x : Int} {o : Int → Option Z} (k : ∀ y : Int, GSim own cc nL ret d Sh ρ pc L (vL y :: S) σ dec (o y)) : GSim own cc nL ret d Sh ρ pc L (vL x :: S) σ dec (lt_ x o) := k x
end

section
variable {Z : Type} {own : String} {cc : ByteArray} {nL : Nat} {ret : Option FieldType} {d : Nat} {Sh : JSh} {ρ : JRo}

theorem sim_iadd {pc : Nat} {L : List (Nat × JV)} {S : List JV} {σ : JSg} {dec : Z → JD} {o : Option Z} {x y : Int} (hd : decode cc pc = .ok (.iadd, 1)) (k : GSim own cc nL ret d Sh ρ (pc + 1) L (vI (w32 (x + y)) :: S) σ dec o) : GSim own cc nL ret d Sh ρ pc L (vI y :: vI x :: S) σ dec o := by
  refine sim_go ?_ ?_ k
  · intro hL hS hH
    exact ⟨hL, okS_cons (okw _) (okS_tl (okS_tl hS)), hH⟩
  · intro hL hS hH R h p l e s m args below meth c w A H locs ls hr hX F T hl
    have h1 := h p l e s m args below meth c w A H locs ls hr hX F T hl
    simp only [List.map_cons, cv] at h1 ⊢
    rw [i32_add] at h1
    exact lv_iadd F.1 F.2.1 hd h1

theorem sim_isub {pc : Nat} {L : List (Nat × JV)} {S : List JV} {σ : JSg} {dec : Z → JD} {o : Option Z} {x y : Int} (hd : decode cc pc = .ok (.isub, 1)) (k : GSim own cc nL ret d Sh ρ (pc + 1) L (vI (w32 (x - y)) :: S) σ dec o) : GSim own cc nL ret d Sh ρ pc L (vI y :: vI x :: S) σ dec o := by
  refine sim_go ?_ ?_ k
  · intro hL hS hH
    exact ⟨hL, okS_cons (okw _) (okS_tl (okS_tl hS)), hH⟩
  · intro hL hS hH R h p l e s m args below meth c w A H locs ls hr hX F T hl
    have h1 := h p l e s m args below meth c w A H locs ls hr hX F T hl
    simp only [List.map_cons, cv] at h1 ⊢
    rw [i32_sub] at h1
    exact lv_isub F.1 F.2.1 hd h1

theorem sim_imul {pc : Nat} {L : List (Nat × JV)} {S : List JV} {σ : JSg} {dec : Z → JD} {o : Option Z} {x y : Int} (hd : decode cc pc = .ok (.imul, 1)) (k : GSim own cc nL ret d Sh ρ (pc + 1) L (vI (w32 (x * y)) :: S) σ dec o) : GSim own cc nL ret d Sh ρ pc L (vI y :: vI x :: S) σ dec o := by
  refine sim_go ?_ ?_ k
  · intro hL hS hH
    exact ⟨hL, okS_cons (okw _) (okS_tl (okS_tl hS)), hH⟩
  · intro hL hS hH R h p l e s m args below meth c w A H locs ls hr hX F T hl
    have h1 := h p l e s m args below meth c w A H locs ls hr hX F T hl
    simp only [List.map_cons, cv] at h1 ⊢
    rw [i32_mul] at h1
    exact lv_imul F.1 F.2.1 hd h1

theorem sim_iand {pc : Nat} {L : List (Nat × JV)} {S : List JV} {σ : JSg} {dec : Z → JD} {o : Option Z} {x y : Int} (hd : decode cc pc = .ok (.iand, 1)) (k : GSim own cc nL ret d Sh ρ (pc + 1) L (vI (an32 x y) :: S) σ dec o) : GSim own cc nL ret d Sh ρ pc L (vI y :: vI x :: S) σ dec o := by
  refine sim_go ?_ ?_ k
  · intro hL hS hH
    exact ⟨hL, okS_cons (ok32 _) (okS_tl (okS_tl hS)), hH⟩
  · intro hL hS hH R h p l e s m args below meth c w A H locs ls hr hX F T hl
    have h1 := h p l e s m args below meth c w A H locs ls hr hX F T hl
    simp only [List.map_cons, cv] at h1 ⊢
    unfold an32 at h1; rw [i32_t] at h1
    exact lv_iand F.1 F.2.1 hd h1

theorem sim_ior {pc : Nat} {L : List (Nat × JV)} {S : List JV} {σ : JSg} {dec : Z → JD} {o : Option Z} {x y : Int} (hd : decode cc pc = .ok (.ior, 1)) (k : GSim own cc nL ret d Sh ρ (pc + 1) L (vI (or32 x y) :: S) σ dec o) : GSim own cc nL ret d Sh ρ pc L (vI y :: vI x :: S) σ dec o := by
  refine sim_go ?_ ?_ k
  · intro hL hS hH
    exact ⟨hL, okS_cons (ok32 _) (okS_tl (okS_tl hS)), hH⟩
  · intro hL hS hH R h p l e s m args below meth c w A H locs ls hr hX F T hl
    have h1 := h p l e s m args below meth c w A H locs ls hr hX F T hl
    simp only [List.map_cons, cv] at h1 ⊢
    unfold or32 at h1; rw [i32_t] at h1
    exact lv_ior F.1 F.2.1 hd h1

theorem sim_ixor {pc : Nat} {L : List (Nat × JV)} {S : List JV} {σ : JSg} {dec : Z → JD} {o : Option Z} {x y : Int} (hd : decode cc pc = .ok (.ixor, 1)) (k : GSim own cc nL ret d Sh ρ (pc + 1) L (vI (xr32 x y) :: S) σ dec o) : GSim own cc nL ret d Sh ρ pc L (vI y :: vI x :: S) σ dec o := by
  refine sim_go ?_ ?_ k
  · intro hL hS hH
    exact ⟨hL, okS_cons (ok32 _) (okS_tl (okS_tl hS)), hH⟩
  · intro hL hS hH R h p l e s m args below meth c w A H locs ls hr hX F T hl
    have h1 := h p l e s m args below meth c w A H locs ls hr hX F T hl
    simp only [List.map_cons, cv] at h1 ⊢
    unfold xr32 at h1; rw [i32_t] at h1
    exact lv_ixor F.1 F.2.1 hd h1

theorem sim_ishl {pc : Nat} {L : List (Nat × JV)} {S : List JV} {σ : JSg} {dec : Z → JD} {o : Option Z} {x y : Int} (hd : decode cc pc = .ok (.ishl, 1)) (k : GSim own cc nL ret d Sh ρ (pc + 1) L (vI (sl32 x y) :: S) σ dec o) : GSim own cc nL ret d Sh ρ pc L (vI y :: vI x :: S) σ dec o := by
  refine sim_go ?_ ?_ k
  · intro hL hS hH
    exact ⟨hL, okS_cons (ok32 _) (okS_tl (okS_tl hS)), hH⟩
  · intro hL hS hH R h p l e s m args below meth c w A H locs ls hr hX F T hl
    have h1 := h p l e s m args below meth c w A H locs ls hr hX F T hl
    simp only [List.map_cons, cv] at h1 ⊢
    unfold sl32 at h1; rw [i32_t] at h1
    exact lv_ishl F.1 F.2.1 hd h1

theorem sim_ishr {pc : Nat} {L : List (Nat × JV)} {S : List JV} {σ : JSg} {dec : Z → JD} {o : Option Z} {x y : Int} (hd : decode cc pc = .ok (.ishr, 1)) (k : GSim own cc nL ret d Sh ρ (pc + 1) L (vI (sr32 x y) :: S) σ dec o) : GSim own cc nL ret d Sh ρ pc L (vI y :: vI x :: S) σ dec o := by
  refine sim_go ?_ ?_ k
  · intro hL hS hH
    exact ⟨hL, okS_cons (ok32 _) (okS_tl (okS_tl hS)), hH⟩
  · intro hL hS hH R h p l e s m args below meth c w A H locs ls hr hX F T hl
    have h1 := h p l e s m args below meth c w A H locs ls hr hX F T hl
    simp only [List.map_cons, cv] at h1 ⊢
    unfold sr32 at h1; rw [i32_t] at h1
    exact lv_ishr F.1 F.2.1 hd h1

theorem sim_iushr {pc : Nat} {L : List (Nat × JV)} {S : List JV} {σ : JSg} {dec : Z → JD} {o : Option Z} {x y : Int} (hd : decode cc pc = .ok (.iushr, 1)) (k : GSim own cc nL ret d Sh ρ (pc + 1) L (vI (ur32 x y) :: S) σ dec o) : GSim own cc nL ret d Sh ρ pc L (vI y :: vI x :: S) σ dec o := by
  refine sim_go ?_ ?_ k
  · intro hL hS hH
    exact ⟨hL, okS_cons (ok32 _) (okS_tl (okS_tl hS)), hH⟩
  · intro hL hS hH R h p l e s m args below meth c w A H locs ls hr hX F T hl
    have h1 := h p l e s m args below meth c w A H locs ls hr hX F T hl
    simp only [List.map_cons, cv] at h1 ⊢
    unfold ur32 at h1; rw [i32_t] at h1
    exact lv_iushr F.1 F.2.1 hd rfl h1

theorem sim_ladd {pc : Nat} {L : List (Nat × JV)} {S : List JV} {σ : JSg} {dec : Z → JD} {o : Option Z} {x y : Int} (hd : decode cc pc = .ok (.ladd, 1)) (k : GSim own cc nL ret d Sh ρ (pc + 1) L (vL (w64 (x + y)) :: S) σ dec o) : GSim own cc nL ret d Sh ρ pc L (vL y :: vL x :: S) σ dec o := by
  refine sim_go ?_ ?_ k
  · intro hL hS hH
    exact ⟨hL, okS_cons (okw64 _) (okS_tl (okS_tl hS)), hH⟩
  · intro hL hS hH R h p l e s m args below meth c w A H locs ls hr hX F T hl
    have h1 := h p l e s m args below meth c w A H locs ls hr hX F T hl
    simp only [List.map_cons, cv] at h1 ⊢
    rw [i64_add] at h1
    exact lv_ladd F.1 F.2.1 hd h1

theorem sim_lsub {pc : Nat} {L : List (Nat × JV)} {S : List JV} {σ : JSg} {dec : Z → JD} {o : Option Z} {x y : Int} (hd : decode cc pc = .ok (.lsub, 1)) (k : GSim own cc nL ret d Sh ρ (pc + 1) L (vL (w64 (x - y)) :: S) σ dec o) : GSim own cc nL ret d Sh ρ pc L (vL y :: vL x :: S) σ dec o := by
  refine sim_go ?_ ?_ k
  · intro hL hS hH
    exact ⟨hL, okS_cons (okw64 _) (okS_tl (okS_tl hS)), hH⟩
  · intro hL hS hH R h p l e s m args below meth c w A H locs ls hr hX F T hl
    have h1 := h p l e s m args below meth c w A H locs ls hr hX F T hl
    simp only [List.map_cons, cv] at h1 ⊢
    rw [i64_sub] at h1
    exact lv_lsub F.1 F.2.1 hd h1

theorem sim_lmul {pc : Nat} {L : List (Nat × JV)} {S : List JV} {σ : JSg} {dec : Z → JD} {o : Option Z} {x y : Int} (hd : decode cc pc = .ok (.lmul, 1)) (k : GSim own cc nL ret d Sh ρ (pc + 1) L (vL (w64 (x * y)) :: S) σ dec o) : GSim own cc nL ret d Sh ρ pc L (vL y :: vL x :: S) σ dec o := by
  refine sim_go ?_ ?_ k
  · intro hL hS hH
    exact ⟨hL, okS_cons (okw64 _) (okS_tl (okS_tl hS)), hH⟩
  · intro hL hS hH R h p l e s m args below meth c w A H locs ls hr hX F T hl
    have h1 := h p l e s m args below meth c w A H locs ls hr hX F T hl
    simp only [List.map_cons, cv] at h1 ⊢
    rw [i64_mul] at h1
    exact lv_lmul F.1 F.2.1 hd h1

theorem sim_land {pc : Nat} {L : List (Nat × JV)} {S : List JV} {σ : JSg} {dec : Z → JD} {o : Option Z} {x y : Int} (hd : decode cc pc = .ok (.land, 1)) (k : GSim own cc nL ret d Sh ρ (pc + 1) L (vL (an64 x y) :: S) σ dec o) : GSim own cc nL ret d Sh ρ pc L (vL y :: vL x :: S) σ dec o := by
  refine sim_go ?_ ?_ k
  · intro hL hS hH
    exact ⟨hL, okS_cons (ok64 _) (okS_tl (okS_tl hS)), hH⟩
  · intro hL hS hH R h p l e s m args below meth c w A H locs ls hr hX F T hl
    have h1 := h p l e s m args below meth c w A H locs ls hr hX F T hl
    simp only [List.map_cons, cv] at h1 ⊢
    unfold an64 at h1; rw [i64_t] at h1
    exact lv_land F.1 F.2.1 hd h1

theorem sim_lor {pc : Nat} {L : List (Nat × JV)} {S : List JV} {σ : JSg} {dec : Z → JD} {o : Option Z} {x y : Int} (hd : decode cc pc = .ok (.lor, 1)) (k : GSim own cc nL ret d Sh ρ (pc + 1) L (vL (or64 x y) :: S) σ dec o) : GSim own cc nL ret d Sh ρ pc L (vL y :: vL x :: S) σ dec o := by
  refine sim_go ?_ ?_ k
  · intro hL hS hH
    exact ⟨hL, okS_cons (ok64 _) (okS_tl (okS_tl hS)), hH⟩
  · intro hL hS hH R h p l e s m args below meth c w A H locs ls hr hX F T hl
    have h1 := h p l e s m args below meth c w A H locs ls hr hX F T hl
    simp only [List.map_cons, cv] at h1 ⊢
    unfold or64 at h1; rw [i64_t] at h1
    exact lv_lor F.1 F.2.1 hd h1

theorem sim_lshl {pc : Nat} {L : List (Nat × JV)} {S : List JV} {σ : JSg} {dec : Z → JD} {o : Option Z} {x y : Int} (hd : decode cc pc = .ok (.lshl, 1)) (k : GSim own cc nL ret d Sh ρ (pc + 1) L (vL (sl64 x y) :: S) σ dec o) : GSim own cc nL ret d Sh ρ pc L (vI y :: vL x :: S) σ dec o := by
  refine sim_go ?_ ?_ k
  · intro hL hS hH
    exact ⟨hL, okS_cons (ok64 _) (okS_tl (okS_tl hS)), hH⟩
  · intro hL hS hH R h p l e s m args below meth c w A H locs ls hr hX F T hl
    have h1 := h p l e s m args below meth c w A H locs ls hr hX F T hl
    simp only [List.map_cons, cv] at h1 ⊢
    unfold sl64 at h1; rw [i64_t] at h1
    exact lv_lshl F.1 F.2.1 hd rfl h1

theorem sim_lshr {pc : Nat} {L : List (Nat × JV)} {S : List JV} {σ : JSg} {dec : Z → JD} {o : Option Z} {x y : Int} (hd : decode cc pc = .ok (.lshr, 1)) (k : GSim own cc nL ret d Sh ρ (pc + 1) L (vL (sr64 x y) :: S) σ dec o) : GSim own cc nL ret d Sh ρ pc L (vI y :: vL x :: S) σ dec o := by
  refine sim_go ?_ ?_ k
  · intro hL hS hH
    exact ⟨hL, okS_cons (ok64 _) (okS_tl (okS_tl hS)), hH⟩
  · intro hL hS hH R h p l e s m args below meth c w A H locs ls hr hX F T hl
    have h1 := h p l e s m args below meth c w A H locs ls hr hX F T hl
    simp only [List.map_cons, cv] at h1 ⊢
    unfold sr64 at h1; rw [i64_t] at h1
    exact lv_lshr F.1 F.2.1 hd rfl h1

theorem sim_lcmp {pc : Nat} {L : List (Nat × JV)} {S : List JV} {σ : JSg} {dec : Z → JD} {o : Option Z} {x y : Int} (hd : decode cc pc = .ok (.lcmp, 1)) (k : GSim own cc nL ret d Sh ρ (pc + 1) L (vI (cmpL x y) :: S) σ dec o) : GSim own cc nL ret d Sh ρ pc L (vL y :: vL x :: S) σ dec o := by
  refine sim_go ?_ ?_ k
  · intro hL hS hH
    exact ⟨hL, okS_cons (ok_cmp _ _) (okS_tl (okS_tl hS)), hH⟩
  · intro hL hS hH R h p l e s m args below meth c w A H locs ls hr hX F T hl
    have h1 := h p l e s m args below meth c w A H locs ls hr hX F T hl
    simp only [List.map_cons, cv] at h1 ⊢
    rw [i32_cmp (okS_hd (okS_tl hS)) (okS_hd hS)] at h1
    exact W.lcmp F.1 F.2.1 hd h1

theorem sim_i2l {pc : Nat} {L : List (Nat × JV)} {S : List JV} {σ : JSg} {dec : Z → JD} {o : Option Z} {x : Int} (hd : decode cc pc = .ok (.i2l, 1)) (k : GSim own cc nL ret d Sh ρ (pc + 1) L (vL (x) :: S) σ dec o) : GSim own cc nL ret d Sh ρ pc L (vI x :: S) σ dec o := by
  refine sim_go ?_ ?_ k
  · intro hL hS hH
    exact ⟨hL, okS_cons (okJ_of (okS_hd hS)) (okS_tl hS), hH⟩
  · intro hL hS hH R h p l e s m args below meth c w A H locs ls hr hX F T hl
    have h1 := h p l e s m args below meth c w A H locs ls hr hX F T hl
    simp only [List.map_cons, cv] at h1 ⊢
    skip
    exact lv_i2l F.1 F.2.1 hd (i64_of32 (okS_hd hS)) h1

theorem sim_l2i {pc : Nat} {L : List (Nat × JV)} {S : List JV} {σ : JSg} {dec : Z → JD} {o : Option Z} {x : Int} (hd : decode cc pc = .ok (.l2i, 1)) (k : GSim own cc nL ret d Sh ρ (pc + 1) L (vI (w32 x) :: S) σ dec o) : GSim own cc nL ret d Sh ρ pc L (vL x :: S) σ dec o := by
  refine sim_go ?_ ?_ k
  · intro hL hS hH
    exact ⟨hL, okS_cons (okw _) (okS_tl hS), hH⟩
  · intro hL hS hH R h p l e s m args below meth c w A H locs ls hr hX F T hl
    have h1 := h p l e s m args below meth c w A H locs ls hr hX F T hl
    simp only [List.map_cons, cv] at h1 ⊢
    skip
    exact lv_l2i F.1 F.2.1 hd (i32_of64 x) h1

theorem sim_i2b {pc : Nat} {L : List (Nat × JV)} {S : List JV} {σ : JSg} {dec : Z → JD} {o : Option Z} {x : Int} (hd : decode cc pc = .ok (.i2b, 1)) (k : GSim own cc nL ret d Sh ρ (pc + 1) L (vI (b8 x) :: S) σ dec o) : GSim own cc nL ret d Sh ρ pc L (vI x :: S) σ dec o := by
  refine sim_go ?_ ?_ k
  · intro hL hS hH
    exact ⟨hL, okS_cons (ok32 _) (okS_tl hS), hH⟩
  · intro hL hS hH R h p l e s m args below meth c w A H locs ls hr hX F T hl
    have h1 := h p l e s m args below meth c w A H locs ls hr hX F T hl
    simp only [List.map_cons, cv] at h1 ⊢
    unfold b8 at h1; rw [i32_t] at h1
    exact lv_i2b F.1 F.2.1 hd rfl h1

theorem sim_i2c {pc : Nat} {L : List (Nat × JV)} {S : List JV} {σ : JSg} {dec : Z → JD} {o : Option Z} {x : Int} (hd : decode cc pc = .ok (.i2c, 1)) (k : GSim own cc nL ret d Sh ρ (pc + 1) L (vI (c16 x) :: S) σ dec o) : GSim own cc nL ret d Sh ρ pc L (vI x :: S) σ dec o := by
  refine sim_go ?_ ?_ k
  · intro hL hS hH
    exact ⟨hL, okS_cons (ok32 _) (okS_tl hS), hH⟩
  · intro hL hS hH R h p l e s m args below meth c w A H locs ls hr hX F T hl
    have h1 := h p l e s m args below meth c w A H locs ls hr hX F T hl
    simp only [List.map_cons, cv] at h1 ⊢
    unfold c16 at h1; rw [i32_t] at h1
    exact lv_i2c F.1 F.2.1 hd rfl h1

theorem sim_idiv {pc : Nat} {L : List (Nat × JV)} {S : List JV} {σ : JSg} {dec : Z → JD} {o : Option Z} {x y : Int} (hd : decode cc pc = .ok (.idiv, 1)) (k : GSim own cc nL ret d Sh ρ (pc + 1) L (vI (dv32 x y) :: S) σ dec o) : GSim own cc nL ret d Sh ρ pc L (vI y :: vI x :: S) σ dec (chk (y ≠ 0) o) := by
  refine sim_chk fun hy => ?_
  refine sim_go ?_ ?_ k
  · intro hL hS hH
    exact ⟨hL, okS_cons (ok32 _) (okS_tl (okS_tl hS)), hH⟩
  · intro hL hS hH R h p l e s m args below meth c w A H locs ls hr hX F T hl
    have h1 := h p l e s m args below meth c w A H locs ls hr hX F T hl
    simp only [List.map_cons, cv] at h1 ⊢
    unfold dv32 at h1
    rw [i32_t] at h1
    exact lv_idiv F.1 F.2.1 hd (fun q => hy ((i32_eq (okS_hd hS) ok0).mp (by rw [q, i32_0]))) h1

theorem sim_idivK {pc : Nat} {L : List (Nat × JV)} {S : List JV} {σ : JSg} {dec : Z → JD} {o : Option Z} {x y : Int} (hy : y ≠ 0) (hd : decode cc pc = .ok (.idiv, 1)) (k : GSim own cc nL ret d Sh ρ (pc + 1) L (vI (dv32 x y) :: S) σ dec o) : GSim own cc nL ret d Sh ρ pc L (vI y :: vI x :: S) σ dec o := by
  have h := sim_idiv hd k
  rwa [chk_pos hy] at h

theorem sim_irem {pc : Nat} {L : List (Nat × JV)} {S : List JV} {σ : JSg} {dec : Z → JD} {o : Option Z} {x y : Int} (hd : decode cc pc = .ok (.irem, 1)) (k : GSim own cc nL ret d Sh ρ (pc + 1) L (vI (rm32 x y) :: S) σ dec o) : GSim own cc nL ret d Sh ρ pc L (vI y :: vI x :: S) σ dec (chk (y ≠ 0) o) := by
  refine sim_chk fun hy => ?_
  refine sim_go ?_ ?_ k
  · intro hL hS hH
    exact ⟨hL, okS_cons (ok32 _) (okS_tl (okS_tl hS)), hH⟩
  · intro hL hS hH R h p l e s m args below meth c w A H locs ls hr hX F T hl
    have h1 := h p l e s m args below meth c w A H locs ls hr hX F T hl
    simp only [List.map_cons, cv] at h1 ⊢
    unfold rm32 at h1
    rw [i32_t] at h1
    exact lv_irem F.1 F.2.1 hd (fun q => hy ((i32_eq (okS_hd hS) ok0).mp (by rw [q, i32_0]))) h1

theorem sim_iremK {pc : Nat} {L : List (Nat × JV)} {S : List JV} {σ : JSg} {dec : Z → JD} {o : Option Z} {x y : Int} (hy : y ≠ 0) (hd : decode cc pc = .ok (.irem, 1)) (k : GSim own cc nL ret d Sh ρ (pc + 1) L (vI (rm32 x y) :: S) σ dec o) : GSim own cc nL ret d Sh ρ pc L (vI y :: vI x :: S) σ dec o := by
  have h := sim_irem hd k
  rwa [chk_pos hy] at h

theorem sim_if_eq {pc tgt : Nat} {off : Int} {L : List (Nat × JV)} {S : List JV} {σ : JSg} {dec : Z → JD} {ot of : Option Z} {x : Int} (hd : decode cc pc = .ok (.ifCond .eq off, 3)) (ht : (pc : Int) + off = (tgt : Int)) (kt : GSim own cc nL ret d Sh ρ tgt L S σ dec ot) (kf : GSim own cc nL ret d Sh ρ (pc + 3) L S σ dec of) : GSim own cc nL ret d Sh ρ pc L (vI x :: S) σ dec (if x = 0 then ot else of) := by
  intro hL hS hH z hz
  have hS' := okS_tl hS
  have iff := i32_eq (okS_hd hS) (ok0)
  rw [i32_0] at iff
  by_cases hc : x = 0
  · rw [if_pos hc] at hz
    obtain ⟨g1, g2⟩ := kt hL hS' hH z hz
    refine ⟨g1, fun p l e s m args below meth c w A H locs ls hr hX F T hl => ?_⟩
    have h1 := g2 p l e s m args below meth c w A H locs ls hr hX F T hl
    simp only [List.map_cons, cv] at h1 ⊢
    exact lv_if_eq F.1 F.2.1 hd ht (fun q => h1) (fun q => absurd (iff.mpr (by omega)) q)
  · rw [if_neg hc] at hz
    obtain ⟨g1, g2⟩ := kf hL hS' hH z hz
    refine ⟨g1, fun p l e s m args below meth c w A H locs ls hr hX F T hl => ?_⟩
    have h1 := g2 p l e s m args below meth c w A H locs ls hr hX F T hl
    simp only [List.map_cons, cv] at h1 ⊢
    exact lv_if_eq F.1 F.2.1 hd ht (fun q => absurd (iff.mp q) (by omega)) (fun q => h1)

theorem sim_if_ne {pc tgt : Nat} {off : Int} {L : List (Nat × JV)} {S : List JV} {σ : JSg} {dec : Z → JD} {ot of : Option Z} {x : Int} (hd : decode cc pc = .ok (.ifCond .ne off, 3)) (ht : (pc : Int) + off = (tgt : Int)) (kt : GSim own cc nL ret d Sh ρ tgt L S σ dec ot) (kf : GSim own cc nL ret d Sh ρ (pc + 3) L S σ dec of) : GSim own cc nL ret d Sh ρ pc L (vI x :: S) σ dec (if x = 0 then of else ot) := by
  intro hL hS hH z hz
  have hS' := okS_tl hS
  have iff := i32_eq (okS_hd hS) (ok0)
  rw [i32_0] at iff
  by_cases hc : x = 0
  · rw [if_pos hc] at hz
    obtain ⟨g1, g2⟩ := kf hL hS' hH z hz
    refine ⟨g1, fun p l e s m args below meth c w A H locs ls hr hX F T hl => ?_⟩
    have h1 := g2 p l e s m args below meth c w A H locs ls hr hX F T hl
    simp only [List.map_cons, cv] at h1 ⊢
    exact lv_if_ne F.1 F.2.1 hd ht (fun q => absurd q (by first | (exact fun q => q (iff.mpr hc)) | (intro q; have := iff.mp q; omega))) (fun q => h1)
  · rw [if_neg hc] at hz
    obtain ⟨g1, g2⟩ := kt hL hS' hH z hz
    refine ⟨g1, fun p l e s m args below meth c w A H locs ls hr hX F T hl => ?_⟩
    have h1 := g2 p l e s m args below meth c w A H locs ls hr hX F T hl
    simp only [List.map_cons, cv] at h1 ⊢
    exact lv_if_ne F.1 F.2.1 hd ht (fun q => h1) (fun q => absurd q (by first | (exact fun q => hc (iff.mp q)) | (intro q; exact q (iff.mpr (by omega)))))

theorem sim_if_lt {pc tgt : Nat} {off : Int} {L : List (Nat × JV)} {S : List JV} {σ : JSg} {dec : Z → JD} {ot of : Option Z} {x : Int} (hd : decode cc pc = .ok (.ifCond .lt off, 3)) (ht : (pc : Int) + off = (tgt : Int)) (kt : GSim own cc nL ret d Sh ρ tgt L S σ dec ot) (kf : GSim own cc nL ret d Sh ρ (pc + 3) L S σ dec of) : GSim own cc nL ret d Sh ρ pc L (vI x :: S) σ dec (if x < 0 then ot else of) := by
  intro hL hS hH z hz
  have hS' := okS_tl hS
  have iff := i32_lt (okS_hd hS) (ok0)
  rw [i32_0] at iff
  by_cases hc : x < 0
  · rw [if_pos hc] at hz
    obtain ⟨g1, g2⟩ := kt hL hS' hH z hz
    refine ⟨g1, fun p l e s m args below meth c w A H locs ls hr hX F T hl => ?_⟩
    have h1 := g2 p l e s m args below meth c w A H locs ls hr hX F T hl
    simp only [List.map_cons, cv] at h1 ⊢
    exact lv_if_lt F.1 F.2.1 hd ht (fun q => h1) (fun q => absurd (iff.mpr (by omega)) q)
  · rw [if_neg hc] at hz
    obtain ⟨g1, g2⟩ := kf hL hS' hH z hz
    refine ⟨g1, fun p l e s m args below meth c w A H locs ls hr hX F T hl => ?_⟩
    have h1 := g2 p l e s m args below meth c w A H locs ls hr hX F T hl
    simp only [List.map_cons, cv] at h1 ⊢
    exact lv_if_lt F.1 F.2.1 hd ht (fun q => absurd (iff.mp q) (by omega)) (fun q => h1)

theorem sim_if_ge {pc tgt : Nat} {off : Int} {L : List (Nat × JV)} {S : List JV} {σ : JSg} {dec : Z → JD} {ot of : Option Z} {x : Int} (hd : decode cc pc = .ok (.ifCond .ge off, 3)) (ht : (pc : Int) + off = (tgt : Int)) (kt : GSim own cc nL ret d Sh ρ tgt L S σ dec ot) (kf : GSim own cc nL ret d Sh ρ (pc + 3) L S σ dec of) : GSim own cc nL ret d Sh ρ pc L (vI x :: S) σ dec (if x < 0 then of else ot) := by
  intro hL hS hH z hz
  have hS' := okS_tl hS
  have iff := i32_le (ok0) (okS_hd hS)
  rw [i32_0] at iff
  by_cases hc : x < 0
  · rw [if_pos hc] at hz
    obtain ⟨g1, g2⟩ := kf hL hS' hH z hz
    refine ⟨g1, fun p l e s m args below meth c w A H locs ls hr hX F T hl => ?_⟩
    have h1 := g2 p l e s m args below meth c w A H locs ls hr hX F T hl
    simp only [List.map_cons, cv] at h1 ⊢
    exact lv_if_ge F.1 F.2.1 hd ht (fun q => absurd q (by first | (exact fun q => q (iff.mpr hc)) | (intro q; have := iff.mp q; omega))) (fun q => h1)
  · rw [if_neg hc] at hz
    obtain ⟨g1, g2⟩ := kt hL hS' hH z hz
    refine ⟨g1, fun p l e s m args below meth c w A H locs ls hr hX F T hl => ?_⟩
    have h1 := g2 p l e s m args below meth c w A H locs ls hr hX F T hl
    simp only [List.map_cons, cv] at h1 ⊢
    exact lv_if_ge F.1 F.2.1 hd ht (fun q => h1) (fun q => absurd q (by first | (exact fun q => hc (iff.mp q)) | (intro q; exact q (iff.mpr (by omega)))))

theorem sim_if_gt {pc tgt : Nat} {off : Int} {L : List (Nat × JV)} {S : List JV} {σ : JSg} {dec : Z → JD} {ot of : Option Z} {x : Int} (hd : decode cc pc = .ok (.ifCond .gt off, 3)) (ht : (pc : Int) + off = (tgt : Int)) (kt : GSim own cc nL ret d Sh ρ tgt L S σ dec ot) (kf : GSim own cc nL ret d Sh ρ (pc + 3) L S σ dec of) : GSim own cc nL ret d Sh ρ pc L (vI x :: S) σ dec (if 0 < x then ot else of) := by
  intro hL hS hH z hz
  have hS' := okS_tl hS
  have iff := i32_lt (ok0) (okS_hd hS)
  rw [i32_0] at iff
  by_cases hc : 0 < x
  · rw [if_pos hc] at hz
    obtain ⟨g1, g2⟩ := kt hL hS' hH z hz
    refine ⟨g1, fun p l e s m args below meth c w A H locs ls hr hX F T hl => ?_⟩
    have h1 := g2 p l e s m args below meth c w A H locs ls hr hX F T hl
    simp only [List.map_cons, cv] at h1 ⊢
    exact lv_if_gt F.1 F.2.1 hd ht (fun q => h1) (fun q => absurd (iff.mpr (by omega)) q)
  · rw [if_neg hc] at hz
    obtain ⟨g1, g2⟩ := kf hL hS' hH z hz
    refine ⟨g1, fun p l e s m args below meth c w A H locs ls hr hX F T hl => ?_⟩
    have h1 := g2 p l e s m args below meth c w A H locs ls hr hX F T hl
    simp only [List.map_cons, cv] at h1 ⊢
    exact lv_if_gt F.1 F.2.1 hd ht (fun q => absurd (iff.mp q) (by omega)) (fun q => h1)

theorem sim_if_le {pc tgt : Nat} {off : Int} {L : List (Nat × JV)} {S : List JV} {σ : JSg} {dec : Z → JD} {ot of : Option Z} {x : Int} (hd : decode cc pc = .ok (.ifCond .le off, 3)) (ht : (pc : Int) + off = (tgt : Int)) (kt : GSim own cc nL ret d Sh ρ tgt L S σ dec ot) (kf : GSim own cc nL ret d Sh ρ (pc + 3) L S σ dec of) : GSim own cc nL ret d Sh ρ pc L (vI x :: S) σ dec (if 0 < x then of else ot) := by
  intro hL hS hH z hz
  have hS' := okS_tl hS
  have iff := i32_le (okS_hd hS) (ok0)
  rw [i32_0] at iff
  by_cases hc : 0 < x
  · rw [if_pos hc] at hz
    obtain ⟨g1, g2⟩ := kf hL hS' hH z hz
    refine ⟨g1, fun p l e s m args below meth c w A H locs ls hr hX F T hl => ?_⟩
    have h1 := g2 p l e s m args below meth c w A H locs ls hr hX F T hl
    simp only [List.map_cons, cv] at h1 ⊢
    exact lv_if_le F.1 F.2.1 hd ht (fun q => absurd q (by first | (exact fun q => q (iff.mpr hc)) | (intro q; have := iff.mp q; omega))) (fun q => h1)
  · rw [if_neg hc] at hz
    obtain ⟨g1, g2⟩ := kt hL hS' hH z hz
    refine ⟨g1, fun p l e s m args below meth c w A H locs ls hr hX F T hl => ?_⟩
    have h1 := g2 p l e s m args below meth c w A H locs ls hr hX F T hl
    simp only [List.map_cons, cv] at h1 ⊢
    exact lv_if_le F.1 F.2.1 hd ht (fun q => h1) (fun q => absurd q (by first | (exact fun q => hc (iff.mp q)) | (intro q; exact q (iff.mpr (by omega)))))

theorem sim_icmp_eq {pc tgt : Nat} {off : Int} {L : List (Nat × JV)} {S : List JV} {σ : JSg} {dec : Z → JD} {ot of : Option Z} {x y : Int} (hd : decode cc pc = .ok (.if_icmp .eq off, 3)) (ht : (pc : Int) + off = (tgt : Int)) (kt : GSim own cc nL ret d Sh ρ tgt L S σ dec ot) (kf : GSim own cc nL ret d Sh ρ (pc + 3) L S σ dec of) : GSim own cc nL ret d Sh ρ pc L (vI y :: vI x :: S) σ dec (if x = y then ot else of) := by
  intro hL hS hH z hz
  have hS' := okS_tl (okS_tl hS)
  have iff := i32_eq (okS_hd (okS_tl hS)) (okS_hd hS)
  skip
  by_cases hc : x = y
  · rw [if_pos hc] at hz
    obtain ⟨g1, g2⟩ := kt hL hS' hH z hz
    refine ⟨g1, fun p l e s m args below meth c w A H locs ls hr hX F T hl => ?_⟩
    have h1 := g2 p l e s m args below meth c w A H locs ls hr hX F T hl
    simp only [List.map_cons, cv] at h1 ⊢
    exact lv_icmp_eq F.1 F.2.1 hd ht (fun q => h1) (fun q => absurd (iff.mpr (by omega)) q)
  · rw [if_neg hc] at hz
    obtain ⟨g1, g2⟩ := kf hL hS' hH z hz
    refine ⟨g1, fun p l e s m args below meth c w A H locs ls hr hX F T hl => ?_⟩
    have h1 := g2 p l e s m args below meth c w A H locs ls hr hX F T hl
    simp only [List.map_cons, cv] at h1 ⊢
    exact lv_icmp_eq F.1 F.2.1 hd ht (fun q => absurd (iff.mp q) (by omega)) (fun q => h1)

theorem sim_icmp_ne {pc tgt : Nat} {off : Int} {L : List (Nat × JV)} {S : List JV} {σ : JSg} {dec : Z → JD} {ot of : Option Z} {x y : Int} (hd : decode cc pc = .ok (.if_icmp .ne off, 3)) (ht : (pc : Int) + off = (tgt : Int)) (kt : GSim own cc nL ret d Sh ρ tgt L S σ dec ot) (kf : GSim own cc nL ret d Sh ρ (pc + 3) L S σ dec of) : GSim own cc nL ret d Sh ρ pc L (vI y :: vI x :: S) σ dec (if x = y then of else ot) := by
  intro hL hS hH z hz
  have hS' := okS_tl (okS_tl hS)
  have iff := i32_eq (okS_hd (okS_tl hS)) (okS_hd hS)
  skip
  by_cases hc : x = y
  · rw [if_pos hc] at hz
    obtain ⟨g1, g2⟩ := kf hL hS' hH z hz
    refine ⟨g1, fun p l e s m args below meth c w A H locs ls hr hX F T hl => ?_⟩
    have h1 := g2 p l e s m args below meth c w A H locs ls hr hX F T hl
    simp only [List.map_cons, cv] at h1 ⊢
    exact lv_icmp_ne F.1 F.2.1 hd ht (fun q => absurd q (by first | (exact fun q => q (iff.mpr hc)) | (intro q; have := iff.mp q; omega))) (fun q => h1)
  · rw [if_neg hc] at hz
    obtain ⟨g1, g2⟩ := kt hL hS' hH z hz
    refine ⟨g1, fun p l e s m args below meth c w A H locs ls hr hX F T hl => ?_⟩
    have h1 := g2 p l e s m args below meth c w A H locs ls hr hX F T hl
    simp only [List.map_cons, cv] at h1 ⊢
    exact lv_icmp_ne F.1 F.2.1 hd ht (fun q => h1) (fun q => absurd q (by first | (exact fun q => hc (iff.mp q)) | (intro q; exact q (iff.mpr (by omega)))))

theorem sim_icmp_lt {pc tgt : Nat} {off : Int} {L : List (Nat × JV)} {S : List JV} {σ : JSg} {dec : Z → JD} {ot of : Option Z} {x y : Int} (hd : decode cc pc = .ok (.if_icmp .lt off, 3)) (ht : (pc : Int) + off = (tgt : Int)) (kt : GSim own cc nL ret d Sh ρ tgt L S σ dec ot) (kf : GSim own cc nL ret d Sh ρ (pc + 3) L S σ dec of) : GSim own cc nL ret d Sh ρ pc L (vI y :: vI x :: S) σ dec (if x < y then ot else of) := by
  intro hL hS hH z hz
  have hS' := okS_tl (okS_tl hS)
  have iff := i32_lt (okS_hd (okS_tl hS)) (okS_hd hS)
  skip
  by_cases hc : x < y
  · rw [if_pos hc] at hz
    obtain ⟨g1, g2⟩ := kt hL hS' hH z hz
    refine ⟨g1, fun p l e s m args below meth c w A H locs ls hr hX F T hl => ?_⟩
    have h1 := g2 p l e s m args below meth c w A H locs ls hr hX F T hl
    simp only [List.map_cons, cv] at h1 ⊢
    exact lv_icmp_lt F.1 F.2.1 hd ht (fun q => h1) (fun q => absurd (iff.mpr (by omega)) q)
  · rw [if_neg hc] at hz
    obtain ⟨g1, g2⟩ := kf hL hS' hH z hz
    refine ⟨g1, fun p l e s m args below meth c w A H locs ls hr hX F T hl => ?_⟩
    have h1 := g2 p l e s m args below meth c w A H locs ls hr hX F T hl
    simp only [List.map_cons, cv] at h1 ⊢
    exact lv_icmp_lt F.1 F.2.1 hd ht (fun q => absurd (iff.mp q) (by omega)) (fun q => h1)

theorem sim_icmp_ge {pc tgt : Nat} {off : Int} {L : List (Nat × JV)} {S : List JV} {σ : JSg} {dec : Z → JD} {ot of : Option Z} {x y : Int} (hd : decode cc pc = .ok (.if_icmp .ge off, 3)) (ht : (pc : Int) + off = (tgt : Int)) (kt : GSim own cc nL ret d Sh ρ tgt L S σ dec ot) (kf : GSim own cc nL ret d Sh ρ (pc + 3) L S σ dec of) : GSim own cc nL ret d Sh ρ pc L (vI y :: vI x :: S) σ dec (if x < y then of else ot) := by
  intro hL hS hH z hz
  have hS' := okS_tl (okS_tl hS)
  have iff := i32_le (okS_hd hS) (okS_hd (okS_tl hS))
  skip
  by_cases hc : x < y
  · rw [if_pos hc] at hz
    obtain ⟨g1, g2⟩ := kf hL hS' hH z hz
    refine ⟨g1, fun p l e s m args below meth c w A H locs ls hr hX F T hl => ?_⟩
    have h1 := g2 p l e s m args below meth c w A H locs ls hr hX F T hl
    simp only [List.map_cons, cv] at h1 ⊢
    exact lv_icmp_ge F.1 F.2.1 hd ht (fun q => absurd q (by first | (exact fun q => q (iff.mpr hc)) | (intro q; have := iff.mp q; omega))) (fun q => h1)
  · rw [if_neg hc] at hz
    obtain ⟨g1, g2⟩ := kt hL hS' hH z hz
    refine ⟨g1, fun p l e s m args below meth c w A H locs ls hr hX F T hl => ?_⟩
    have h1 := g2 p l e s m args below meth c w A H locs ls hr hX F T hl
    simp only [List.map_cons, cv] at h1 ⊢
    exact lv_icmp_ge F.1 F.2.1 hd ht (fun q => h1) (fun q => absurd q (by first | (exact fun q => hc (iff.mp q)) | (intro q; exact q (iff.mpr (by omega)))))

theorem sim_icmp_gt {pc tgt : Nat} {off : Int} {L : List (Nat × JV)} {S : List JV} {σ : JSg} {dec : Z → JD} {ot of : Option Z} {x y : Int} (hd : decode cc pc = .ok (.if_icmp .gt off, 3)) (ht : (pc : Int) + off = (tgt : Int)) (kt : GSim own cc nL ret d Sh ρ tgt L S σ dec ot) (kf : GSim own cc nL ret d Sh ρ (pc + 3) L S σ dec of) : GSim own cc nL ret d Sh ρ pc L (vI y :: vI x :: S) σ dec (if y < x then ot else of) := by
  intro hL hS hH z hz
  have hS' := okS_tl (okS_tl hS)
  have iff := i32_lt (okS_hd hS) (okS_hd (okS_tl hS))
  skip
  by_cases hc : y < x
  · rw [if_pos hc] at hz
    obtain ⟨g1, g2⟩ := kt hL hS' hH z hz
    refine ⟨g1, fun p l e s m args below meth c w A H locs ls hr hX F T hl => ?_⟩
    have h1 := g2 p l e s m args below meth c w A H locs ls hr hX F T hl
    simp only [List.map_cons, cv] at h1 ⊢
    exact lv_icmp_gt F.1 F.2.1 hd ht (fun q => h1) (fun q => absurd (iff.mpr (by omega)) q)
  · rw [if_neg hc] at hz
    obtain ⟨g1, g2⟩ := kf hL hS' hH z hz
    refine ⟨g1, fun p l e s m args below meth c w A H locs ls hr hX F T hl => ?_⟩
    have h1 := g2 p l e s m args below meth c w A H locs ls hr hX F T hl
    simp only [List.map_cons, cv] at h1 ⊢
    exact lv_icmp_gt F.1 F.2.1 hd ht (fun q => absurd (iff.mp q) (by omega)) (fun q => h1)

theorem sim_icmp_le {pc tgt : Nat} {off : Int} {L : List (Nat × JV)} {S : List JV} {σ : JSg} {dec : Z → JD} {ot of : Option Z} {x y : Int} (hd : decode cc pc = .ok (.if_icmp .le off, 3)) (ht : (pc : Int) + off = (tgt : Int)) (kt : GSim own cc nL ret d Sh ρ tgt L S σ dec ot) (kf : GSim own cc nL ret d Sh ρ (pc + 3) L S σ dec of) : GSim own cc nL ret d Sh ρ pc L (vI y :: vI x :: S) σ dec (if y < x then of else ot) := by
  intro hL hS hH z hz
  have hS' := okS_tl (okS_tl hS)
  have iff := i32_le (okS_hd (okS_tl hS)) (okS_hd hS)
  skip
  by_cases hc : y < x
  · rw [if_pos hc] at hz
    obtain ⟨g1, g2⟩ := kf hL hS' hH z hz
    refine ⟨g1, fun p l e s m args below meth c w A H locs ls hr hX F T hl => ?_⟩
    have h1 := g2 p l e s m args below meth c w A H locs ls hr hX F T hl
    simp only [List.map_cons, cv] at h1 ⊢
    exact lv_icmp_le F.1 F.2.1 hd ht (fun q => absurd q (by first | (exact fun q => q (iff.mpr hc)) | (intro q; have := iff.mp q; omega))) (fun q => h1)
  · rw [if_neg hc] at hz
    obtain ⟨g1, g2⟩ := kt hL hS' hH z hz
    refine ⟨g1, fun p l e s m args below meth c w A H locs ls hr hX F T hl => ?_⟩
    have h1 := g2 p l e s m args below meth c w A H locs ls hr hX F T hl
    simp only [List.map_cons, cv] at h1 ⊢
    exact lv_icmp_le F.1 F.2.1 hd ht (fun q => h1) (fun q => absurd q (by first | (exact fun q => hc (iff.mp q)) | (intro q; exact q (iff.mpr (by omega)))))

end

/-! LAYER 1c: constants, locals, stack -/
section
variable {Z : Type} {own : String} {cc : ByteArray} {nL : Nat} {ret : Option FieldType} {d : Nat} {Sh : JSh} {ρ : JRo} {pc : Nat} {L : List (Nat × JV)} {S : List JV} {σ : JSg} {dec : Z → JD} {o : Option Z}
theorem sim_iconst {n : Int} (hd : decode cc pc = .ok (.iconst n, 1)) (ho : -10 < n ∧ n < 10) (k : GSim own cc nL ret d Sh ρ (pc + 1) L (vI n :: S) σ dec o) : GSim own cc nL ret d Sh ρ pc L S σ dec o := by
  refine sim_go (fun hL hS hH => ⟨hL, okS_cons (v := vI n) ⟨by omega, by omega⟩ hS, hH⟩) ?_ k
  intro hL hS hH R h p l e s m args below meth c w A H locs ls hr hX F T hl
  exact lv_iconst F.1 F.2.1 hd rfl (h p l e s m args below meth c w A H locs ls hr hX F T hl)
theorem sim_bipush {n : Int} (hd : decode cc pc = .ok (.bipush n, 2)) (ho : (i32 n = (Int8.ofInt n).toInt32) ∧ -200 < n ∧ n < 200) (k : GSim own cc nL ret d Sh ρ (pc + 2) L (vI n :: S) σ dec o) : GSim own cc nL ret d Sh ρ pc L S σ dec o := by
  refine sim_go (fun hL hS hH => ⟨hL, okS_cons (v := vI n) ⟨by omega, by omega⟩ hS, hH⟩) ?_ k
  intro hL hS hH R h p l e s m args below meth c w A H locs ls hr hX F T hl
  exact lv_bipush F.1 F.2.1 hd ho.1.symm (h p l e s m args below meth c w A H locs ls hr hX F T hl)
theorem sim_sipush {n : Int} (hd : decode cc pc = .ok (.sipush n, 3)) (ho : (i32 n = (Int16.ofInt n).toInt32) ∧ -40000 < n ∧ n < 40000) (k : GSim own cc nL ret d Sh ρ (pc + 3) L (vI n :: S) σ dec o) : GSim own cc nL ret d Sh ρ pc L S σ dec o := by
  refine sim_go (fun hL hS hH => ⟨hL, okS_cons (v := vI n) ⟨by omega, by omega⟩ hS, hH⟩) ?_ k
  intro hL hS hH R h p l e s m args below meth c w A H locs ls hr hX F T hl
  exact lv_sipush F.1 F.2.1 hd ho.1.symm (h p l e s m args below meth c w A H locs ls hr hX F T hl)
theorem sim_lconst {n : Fin 2} {v : Int} (hd : decode cc pc = .ok (.lconst n, 1)) (hv : i64 v = Int64.ofNat n ∧ 0 ≤ v ∧ v < 2) (k : GSim own cc nL ret d Sh ρ (pc + 1) L (vL v :: S) σ dec o) : GSim own cc nL ret d Sh ρ pc L S σ dec o := by
  refine sim_go (fun hL hS hH => ⟨hL, okS_cons (v := vL v) ⟨by omega, by omega⟩ hS, hH⟩) ?_ k
  intro hL hS hH R h p l e s m args below meth c w A H locs ls hr hX F T hl
  exact lv_lconst F.1 F.2.1 hd hv.1.symm (h p l e s m args below meth c w A H locs ls hr hX F T hl)
theorem sim_ldc {index : Nat} {v : Int} {v32 : Int32} (hw : Cond.constant own index v32 ∈ WS) (hv : i32 v = v32 ∧ -2147483648 ≤ v ∧ v < 2147483648) (hd : decode cc pc = .ok (.ldc index, 2)) (k : GSim own cc nL ret d Sh ρ (pc + 2) L (vI v :: S) σ dec o) : GSim own cc nL ret d Sh ρ pc L S σ dec o := by
  refine sim_go (fun hL hS hH => ⟨hL, okS_cons (v := vI v) hv.2 hS, hH⟩) ?_ k
  intro hL hS hH R h p l e s m args below meth c w A H locs ls hr hX F T hl
  have h1 := h p l e s m args below meth c w A H locs ls hr hX F T hl
  simp only [List.map_cons, cv] at h1
  rw [hv.1] at h1
  exact lv_ldc F.1 F.2.1 F.2.2.2.1 (F.2.2.2.2.1 _ hw) hd h1
theorem sim_ldcw {index : Nat} {v : Int} {v32 : Int32} (hw : Cond.constant own index v32 ∈ WS) (hv : i32 v = v32 ∧ -2147483648 ≤ v ∧ v < 2147483648) (hd : decode cc pc = .ok (.ldc_w index, 3)) (k : GSim own cc nL ret d Sh ρ (pc + 3) L (vI v :: S) σ dec o) : GSim own cc nL ret d Sh ρ pc L S σ dec o := by
  refine sim_go (fun hL hS hH => ⟨hL, okS_cons (v := vI v) hv.2 hS, hH⟩) ?_ k
  intro hL hS hH R h p l e s m args below meth c w A H locs ls hr hX F T hl
  have h1 := h p l e s m args below meth c w A H locs ls hr hX F T hl
  simp only [List.map_cons, cv] at h1
  rw [hv.1] at h1
  exact lv_ldcw F.1 F.2.1 F.2.2.2.1 (F.2.2.2.2.1 _ hw) hd h1
theorem sim_ldc2 {index : Nat} {v : Int} {v64 : Int64} (hw : Cond.constantLong own index v64 ∈ WS) (hv : i64 v = v64 ∧ -9223372036854775808 ≤ v ∧ v < 9223372036854775808) (hd : decode cc pc = .ok (.ldc2_w index, 3)) (k : GSim own cc nL ret d Sh ρ (pc + 3) L (vL v :: S) σ dec o) : GSim own cc nL ret d Sh ρ pc L S σ dec o := by
  refine sim_go (fun hL hS hH => ⟨hL, okS_cons (v := vL v) hv.2 hS, hH⟩) ?_ k
  intro hL hS hH R h p l e s m args below meth c w A H locs ls hr hX F T hl
  have h1 := h p l e s m args below meth c w A H locs ls hr hX F T hl
  simp only [List.map_cons, cv] at h1
  rw [hv.1] at h1
  exact lv_ldc2 F.1 F.2.1 F.2.2.2.1 (F.2.2.2.2.1 _ hw) hd h1
theorem jl_at {w : JW} {ls : Array Slot} {i : Nat} {v : JV} (hl : lv_has ls nL (L.map fun q => (q.1, cv w.1 q.2))) (j : Nat) (h : L[j]? = some (i, v)) : ls[i]? = some (.val (cv w.1 v)) :=
  lv_at hl j (by rw [List.getElem?_map, h]; rfl)
theorem okL_at {i j : Nat} {v : JV} (hL : ∀ q ∈ L, okV q.2) (h : L[j]? = some (i, v)) : okV v := hL _ (List.mem_of_getElem? h)
theorem sim_iload_n {kk : Fin 4} {x : Int} (j : Nat) (hj : L[j]? = some ((kk : Nat), vI x)) (hd : decode cc pc = .ok (.iload_n kk, 1)) (k : GSim own cc nL ret d Sh ρ (pc + 1) L (vI x :: S) σ dec o) : GSim own cc nL ret d Sh ρ pc L S σ dec o := by
  refine sim_go (fun hL hS hH => ⟨hL, okS_cons (okL_at hL hj) hS, hH⟩) ?_ k
  intro hL hS hH R h p l e s m args below meth c w A H locs ls hr hX F T hl
  exact lv_iload_n F.1 F.2.1 hd rfl (jl_at hl j hj) (h p l e s m args below meth c w A H locs ls hr hX F T hl)
theorem sim_iload {i : Nat} {x : Int} (j : Nat) (hj : L[j]? = some (i, vI x)) (hd : decode cc pc = .ok (.iload i, 2)) (k : GSim own cc nL ret d Sh ρ (pc + 2) L (vI x :: S) σ dec o) : GSim own cc nL ret d Sh ρ pc L S σ dec o := by
  refine sim_go (fun hL hS hH => ⟨hL, okS_cons (okL_at hL hj) hS, hH⟩) ?_ k
  intro hL hS hH R h p l e s m args below meth c w A H locs ls hr hX F T hl
  exact lv_iload F.1 F.2.1 hd (jl_at hl j hj) (h p l e s m args below meth c w A H locs ls hr hX F T hl)
theorem sim_lload_n {kk : Fin 4} {x : Int} (j : Nat) (hj : L[j]? = some ((kk : Nat), vL x)) (hd : decode cc pc = .ok (.lload_n kk, 1)) (k : GSim own cc nL ret d Sh ρ (pc + 1) L (vL x :: S) σ dec o) : GSim own cc nL ret d Sh ρ pc L S σ dec o := by
  refine sim_go (fun hL hS hH => ⟨hL, okS_cons (okL_at hL hj) hS, hH⟩) ?_ k
  intro hL hS hH R h p l e s m args below meth c w A H locs ls hr hX F T hl
  exact lv_lload_n F.1 F.2.1 hd rfl (jl_at hl j hj) (h p l e s m args below meth c w A H locs ls hr hX F T hl)
theorem sim_lload {i : Nat} {x : Int} (j : Nat) (hj : L[j]? = some (i, vL x)) (hd : decode cc pc = .ok (.lload i, 2)) (k : GSim own cc nL ret d Sh ρ (pc + 2) L (vL x :: S) σ dec o) : GSim own cc nL ret d Sh ρ pc L S σ dec o := by
  refine sim_go (fun hL hS hH => ⟨hL, okS_cons (okL_at hL hj) hS, hH⟩) ?_ k
  intro hL hS hH R h p l e s m args below meth c w A H locs ls hr hX F T hl
  exact lv_lload F.1 F.2.1 hd (jl_at hl j hj) (h p l e s m args below meth c w A H locs ls hr hX F T hl)
theorem sim_aload_n {kk : Fin 4} {q : Nat} (j : Nat) (hj : L[j]? = some ((kk : Nat), vR q)) (hd : decode cc pc = .ok (.aload_n kk, 1)) (k : GSim own cc nL ret d Sh ρ (pc + 1) L (vR q :: S) σ dec o) : GSim own cc nL ret d Sh ρ pc L S σ dec o := by
  refine sim_go (fun hL hS hH => ⟨hL, okS_cons (okL_at hL hj) hS, hH⟩) ?_ k
  intro hL hS hH R h p l e s m args below meth c w A H locs ls hr hX F T hl
  exact lv_aload_n F.1 F.2.1 hd rfl (jl_at hl j hj) (h p l e s m args below meth c w A H locs ls hr hX F T hl)
theorem sim_aload {i q : Nat} (j : Nat) (hj : L[j]? = some (i, vR q)) (hd : decode cc pc = .ok (.aload i, 2)) (k : GSim own cc nL ret d Sh ρ (pc + 2) L (vR q :: S) σ dec o) : GSim own cc nL ret d Sh ρ pc L S σ dec o := by
  refine sim_go (fun hL hS hH => ⟨hL, okS_cons (okL_at hL hj) hS, hH⟩) ?_ k
  intro hL hS hH R h p l e s m args below meth c w A H locs ls hr hX F T hl
  exact lv_aload F.1 F.2.1 hd (jl_at hl j hj) (h p l e s m args below meth c w A H locs ls hr hX F T hl)
/-- the locals behind a store: one slot, two slots -/
def jst1 (L : List (Nat × JV)) (i : Nat) (v : JV) : List (Nat × JV) := (i, v) :: L.filter (fun q => !(q.1 == i) && !(q.1 + 1 == i && vcat q.2 == 2))
def jst2 (L : List (Nat × JV)) (i : Nat) (v : JV) : List (Nat × JV) := (i, v) :: L.filter (fun q => !(q.1 == i) && (!(q.1 == i + 1) && !(q.1 + 1 == i && vcat q.2 == 2)))
theorem okL_st1 {i : Nat} {v : JV} (hL : ∀ q ∈ L, okV q.2) (h : okV v) : ∀ q ∈ jst1 L i v, okV q.2 := List.forall_mem_cons.mpr ⟨h, fun q hq => hL q (List.mem_filter.mp hq).1⟩
theorem okL_st2 {i : Nat} {v : JV} (hL : ∀ q ∈ L, okV q.2) (h : okV v) : ∀ q ∈ jst2 L i v, okV q.2 := List.forall_mem_cons.mpr ⟨h, fun q hq => hL q (List.mem_filter.mp hq).1⟩
theorem jst1_map (w : JW) (i : Nat) (v : JV) : (i, cv w.1 v) :: (L.map fun q => (q.1, cv w.1 q.2)).filter (fun q => !(q.1 == i) && !(q.1 + 1 == i && q.2.category == 2)) = (jst1 L i v).map fun q => (q.1, cv w.1 q.2) := by
  simp only [jst1, List.map_cons, List.filter_map]
  congr 2
  apply List.filter_congr
  intro q _
  simp [cv_cat]
theorem jst2_map (w : JW) (i : Nat) (v : JV) : (i, cv w.1 v) :: (L.map fun q => (q.1, cv w.1 q.2)).filter (fun q => !(q.1 == i) && (!(q.1 == i + 1) && !(q.1 + 1 == i && q.2.category == 2))) = (jst2 L i v).map fun q => (q.1, cv w.1 q.2) := by
  simp only [jst2, List.map_cons, List.filter_map]
  congr 2
  apply List.filter_congr
  intro q _
  simp [cv_cat]
theorem sim_istore_n {kk : Fin 4} {x : Int} {o : Int → Option Z} (L' : Int → List (Nat × JV)) (hL' : ∀ y, jst1 L (kk : Nat) (vI y) = L' y) (hn : (kk : Nat) < nL) (hd : decode cc pc = .ok (.istore_n kk, 1)) (k : ∀ y, GSim own cc nL ret d Sh ρ (pc + 1) (L' y) S σ dec (o y)) : GSim own cc nL ret d Sh ρ pc L (vI x :: S) σ dec (lt_ x o) := by
  refine sim_go (fun hL hS hH => ⟨by rw [← hL']; exact okL_st1 hL (okS_hd hS), okS_tl hS, hH⟩) ?_ (k x)
  intro hL hS hH R h p l e s m args below meth c w A H locs ls hr hX F T hl
  exact lv_istore_n F.1 F.2.1 hd rfl hl hn (jst1_map w _ (vI x)) (fun ls' hl' => h p l e s m args below meth c w A H locs ls' hr hX F T (by rw [← hL']; exact hl'))
theorem sim_istore {i : Nat} {x : Int} {o : Int → Option Z} (L' : Int → List (Nat × JV)) (hL' : ∀ y, jst1 L i (vI y) = L' y) (hn : i < nL) (hd : decode cc pc = .ok (.istore i, 2)) (k : ∀ y, GSim own cc nL ret d Sh ρ (pc + 2) (L' y) S σ dec (o y)) : GSim own cc nL ret d Sh ρ pc L (vI x :: S) σ dec (lt_ x o) := by
  refine sim_go (fun hL hS hH => ⟨by rw [← hL']; exact okL_st1 hL (okS_hd hS), okS_tl hS, hH⟩) ?_ (k x)
  intro hL hS hH R h p l e s m args below meth c w A H locs ls hr hX F T hl
  exact lv_istore F.1 F.2.1 hd hl hn (jst1_map w _ (vI x)) (fun ls' hl' => h p l e s m args below meth c w A H locs ls' hr hX F T (by rw [← hL']; exact hl'))
theorem sim_lstore_n {kk : Fin 4} {x : Int} {o : Int → Option Z} (L' : Int → List (Nat × JV)) (hL' : ∀ y, jst2 L (kk : Nat) (vL y) = L' y) (hn : (kk : Nat) + 1 < nL) (hd : decode cc pc = .ok (.lstore_n kk, 1)) (k : ∀ y, GSim own cc nL ret d Sh ρ (pc + 1) (L' y) S σ dec (o y)) : GSim own cc nL ret d Sh ρ pc L (vL x :: S) σ dec (lt_ x o) := by
  refine sim_go (fun hL hS hH => ⟨by rw [← hL']; exact okL_st2 hL (okS_hd hS), okS_tl hS, hH⟩) ?_ (k x)
  intro hL hS hH R h p l e s m args below meth c w A H locs ls hr hX F T hl
  exact lv_lstore_n F.1 F.2.1 hd rfl hl hn (jst2_map w _ (vL x)) (fun ls' hl' => h p l e s m args below meth c w A H locs ls' hr hX F T (by rw [← hL']; exact hl'))
theorem sim_lstore {i : Nat} {x : Int} {o : Int → Option Z} (L' : Int → List (Nat × JV)) (hL' : ∀ y, jst2 L i (vL y) = L' y) (hn : i + 1 < nL) (hd : decode cc pc = .ok (.lstore i, 2)) (k : ∀ y, GSim own cc nL ret d Sh ρ (pc + 2) (L' y) S σ dec (o y)) : GSim own cc nL ret d Sh ρ pc L (vL x :: S) σ dec (lt_ x o) := by
  refine sim_go (fun hL hS hH => ⟨by rw [← hL']; exact okL_st2 hL (okS_hd hS), okS_tl hS, hH⟩) ?_ (k x)
  intro hL hS hH R h p l e s m args below meth c w A H locs ls hr hX F T hl
  exact lv_lstore F.1 F.2.1 hd hl hn (jst2_map w _ (vL x)) (fun ls' hl' => h p l e s m args below meth c w A H locs ls' hr hX F T (by rw [← hL']; exact hl'))
theorem sim_astore_n {kk : Fin 4} {q : Nat} (L' : List (Nat × JV)) (hL' : jst1 L (kk : Nat) (vR q) = L') (hn : (kk : Nat) < nL) (hd : decode cc pc = .ok (.astore_n kk, 1)) (k : GSim own cc nL ret d Sh ρ (pc + 1) L' S σ dec o) : GSim own cc nL ret d Sh ρ pc L (vR q :: S) σ dec o := by
  refine sim_go (fun hL hS hH => ⟨by rw [← hL']; exact okL_st1 hL (okS_hd hS), okS_tl hS, hH⟩) ?_ k
  intro hL hS hH R h p l e s m args below meth c w A H locs ls hr hX F T hl
  exact lv_astore_n F.1 F.2.1 hd rfl hl hn (jst1_map w _ (vR q)) (fun ls' hl' => h p l e s m args below meth c w A H locs ls' hr hX F T (by rw [← hL']; exact hl'))
theorem sim_astore {i q : Nat} (L' : List (Nat × JV)) (hL' : jst1 L i (vR q) = L') (hn : i < nL) (hd : decode cc pc = .ok (.astore i, 2)) (k : GSim own cc nL ret d Sh ρ (pc + 2) L' S σ dec o) : GSim own cc nL ret d Sh ρ pc L (vR q :: S) σ dec o := by
  refine sim_go (fun hL hS hH => ⟨by rw [← hL']; exact okL_st1 hL (okS_hd hS), okS_tl hS, hH⟩) ?_ k
  intro hL hS hH R h p l e s m args below meth c w A H locs ls hr hX F T hl
  exact lv_astore F.1 F.2.1 hd hl hn (jst1_map w _ (vR q)) (fun ls' hl' => h p l e s m args below meth c w A H locs ls' hr hX F T (by rw [← hL']; exact hl'))
theorem sim_iinc {i : Nat} {n x : Int} {o : Int → Option Z} (j : Nat) (hj : L[j]? = some (i, vI x)) (L' : Int → List (Nat × JV)) (hL' : ∀ y, jst1 L i (vI y) = L' y) (hn : i < nL) (hd : decode cc pc = .ok (.iinc i n, 3)) (k : ∀ y, GSim own cc nL ret d Sh ρ (pc + 3) (L' y) S σ dec (o y)) : GSim own cc nL ret d Sh ρ pc L S σ dec (lt_ (w32 (x + n)) o) := by
  refine sim_go (fun hL hS hH => ⟨by rw [← hL']; exact okL_st1 hL (okw _), hS, hH⟩) ?_ (k (w32 (x + n)))
  intro hL hS hH R h p l e s m args below meth c w A H locs ls hr hX F T hl
  exact lv_iinc F.1 F.2.1 hd hl (k := j) (by rw [List.getElem?_map, hj]; rfl) (by rw [i32_add]; rfl) hn (jst1_map w _ (vI (w32 (x + n)))) (fun ls' hl' => h p l e s m args below meth c w A H locs ls' hr hX F T (by rw [← hL']; exact hl'))
theorem sim_goto {tgt : Nat} {off : Int} (hd : decode cc pc = .ok (.goto off, 3)) (ht : (pc : Int) + off = (tgt : Int)) (k : GSim own cc nL ret d Sh ρ tgt L S σ dec o) : GSim own cc nL ret d Sh ρ pc L S σ dec o := by
  refine sim_go (fun hL hS hH => ⟨hL, hS, hH⟩) ?_ k
  intro hL hS hH R h p l e s m args below meth c w A H locs ls hr hX F T hl
  exact lv_goto F.1 F.2.1 hd ht (h p l e s m args below meth c w A H locs ls hr hX F T hl)
theorem sim_ifnull {q : Nat} {off : Int} (hd : decode cc pc = .ok (.ifnull off, 3)) (k : GSim own cc nL ret d Sh ρ (pc + 3) L S σ dec o) : GSim own cc nL ret d Sh ρ pc L (vR q :: S) σ dec o := by
  refine sim_go (fun hL hS hH => ⟨hL, okS_tl hS, hH⟩) ?_ k
  intro hL hS hH R h p l e s m args below meth c w A H locs ls hr hX F T hl
  exact lv_ifnull F.1 F.2.1 hd (h p l e s m args below meth c w A H locs ls hr hX F T hl)
theorem sim_pop {v : JV} (hv : vcat v = 1) (hd : decode cc pc = .ok (.pop, 1)) (k : GSim own cc nL ret d Sh ρ (pc + 1) L S σ dec o) : GSim own cc nL ret d Sh ρ pc L (v :: S) σ dec o := by
  refine sim_go (fun hL hS hH => ⟨hL, okS_tl hS, hH⟩) ?_ k
  intro hL hS hH R h p l e s m args below meth c w A H locs ls hr hX F T hl
  exact lv_pop F.1 F.2.1 hd (by rw [cv_cat]; exact hv) (h p l e s m args below meth c w A H locs ls hr hX F T hl)
theorem sim_dup {v : JV} (hv : vcat v = 1) (hd : decode cc pc = .ok (.dup, 1)) (k : GSim own cc nL ret d Sh ρ (pc + 1) L (v :: v :: S) σ dec o) : GSim own cc nL ret d Sh ρ pc L (v :: S) σ dec o := by
  refine sim_go (fun hL hS hH => ⟨hL, okS_cons (okS_hd hS) hS, hH⟩) ?_ k
  intro hL hS hH R h p l e s m args below meth c w A H locs ls hr hX F T hl
  exact lv_dup F.1 F.2.1 hd (by rw [cv_cat]; exact hv) (h p l e s m args below meth c w A H locs ls hr hX F T hl)
theorem sim_dup2 {u v : JV} (hu : vcat u = 1) (hv : vcat v = 1) (hd : decode cc pc = .ok (.dup2, 1)) (k : GSim own cc nL ret d Sh ρ (pc + 1) L (u :: v :: u :: v :: S) σ dec o) : GSim own cc nL ret d Sh ρ pc L (u :: v :: S) σ dec o := by
  refine sim_go (fun hL hS hH => ⟨hL, okS_cons (okS_hd hS) (okS_cons (okS_hd (okS_tl hS)) hS), hH⟩) ?_ k
  intro hL hS hH R h p l e s m args below meth c w A H locs ls hr hX F T hl
  exact lv_dup2_11 F.1 F.2.1 hd (by rw [cv_cat]; exact hu) (by rw [cv_cat]; exact hv) (h p l e s m args below meth c w A H locs ls hr hX F T hl)
end

/-! LAYER 1d: fields and arrays -/
/-- what the tables say of a field that a method of 'own' names by the pool's entry idx: field j of class ci, of kind ft (0 int, 1 long, 2 reference, 3 boolean) -/
def tyk (ft : Nat) (t : FieldType) : Prop := if ft = 0 then t = .int else if ft = 1 then t = .long else if ft = 3 then t = .boolean else True
def JCls (ci : Nat) (C : String) (T : u_T) (N : Nat) (ty : Nat → FieldType) : Prop :=
  vwCl[ci]? = some (C, T, N) ∧ (∀ w ∈ u_ws C T N, w ∈ WS) ∧ (∀ k, k < N → parseFieldDescriptor (T k).2.2.1 = some (ty k)) ∧ (∀ a, a < N → ∀ b, b < N → a ≠ b → (T a).2.1 ≠ (T b).2.1) ∧ fN ci = N ∧ ∀ j, j < N → tyk (fty ci j) (ty j)
def JFld (own : String) (idx ci j ft : Nat) (fin : Bool) : Prop :=
  ∃ (C : String) (T : u_T) (N : Nat) (ty : Nat → FieldType), JCls ci C T N ty ∧ j < N ∧ Cond.fieldLink own idx (T j).1 (T j).2.1 (T j).2.2.1 ∈ WS ∧ fty ci j = ft ∧ (T j).2.2.2 = fin
section
variable {Z : Type} {own : String} {cc : ByteArray} {nL : Nat} {ret : Option FieldType} {d : Nat} {Sh : JSh} {ρ : JRo} {pc : Nat} {L : List (Nat × JV)} {S : List JV} {σ : JSg} {dec : Z → JD} {o : Option Z}
theorem simM_get {own : String} {idx ci j ft p : Nat} {fin : Bool} {R : JD} {v : JV} (hf : JFld own idx ci j ft fin) (hs : Sh[p]? = some (.inl ci)) (hd : decode cc pc = .ok (.getfield idx, 3)) (hv : ∀ w : JW, fV w.1 ρ σ p ci j = cv w.1 v)
    (h : SimM own cc nL ret d Sh ρ (pc + 3) L (v :: S) σ R) : SimM own cc nL ret d Sh ρ pc L (vR p :: S) σ R := by
  intro pp l e s m args below meth c w A H locs ls hr hX F T hl
  obtain ⟨C, TT, N, ty, ⟨h1, h2, h3, h4, h5, h6⟩, hj, hlk, hft, -⟩ := hf
  refine va_get (D := w.2.1) (C := C) (T := TT) (N := N) F.1 F.2.1 F.2.2.2.2.1 h2 F.2.2.2.1 T.1 T.2.1 p (rd_at hs) h1 j hj (F.2.2.2.2.1 _ hlk) (fun _ h9 => h9) (v := cv w.1 v) ?_ hd (h pp l e s m args below meth c w A H locs ls hr hX F T hl)
  rw [List.getElem?_map, List.getElem?_range (by rw [h5]; exact hj)]
  exact congrArg some (hv w)
theorem sim_getI {idx ci j p : Nat} {fin : Bool} (hf : JFld own idx ci j 0 fin) (hs : Sh[p]? = some (.inl ci)) (hd : decode cc pc = .ok (.getfield idx, 3)) (k : GSim own cc nL ret d Sh ρ (pc + 3) L (vI (σ p j) :: S) σ dec o) : GSim own cc nL ret d Sh ρ pc L (vR p :: S) σ dec o := by
  have hft : fty ci j = 0 := by obtain ⟨_, _, _, _, _, _, _, h, _⟩ := hf; exact h
  refine sim_go (fun hL hS hH => ⟨hL, okS_cons (v := vI (σ p j)) (okE_0.mp (by have := hH p _ hs j; rwa [ecode, hft] at this)) (okS_tl hS), hH⟩) ?_ k
  intro hL hS hH R h
  exact simM_get hf hs hd (fun w => by simp [fV, hft, cv]) h
theorem sim_getZ {idx ci j p : Nat} {fin : Bool} (hf : JFld own idx ci j 3 fin) (hs : Sh[p]? = some (.inl ci)) (hd : decode cc pc = .ok (.getfield idx, 3)) (k : GSim own cc nL ret d Sh ρ (pc + 3) L (vI (σ p j) :: S) σ dec o) : GSim own cc nL ret d Sh ρ pc L (vR p :: S) σ dec o := by
  have hft : fty ci j = 3 := by obtain ⟨_, _, _, _, _, _, _, h, _⟩ := hf; exact h
  refine sim_go (fun hL hS hH => ⟨hL, okS_cons (v := vI (σ p j)) (okI_bit (okE_3.mp (by have := hH p _ hs j; rwa [ecode, hft] at this))) (okS_tl hS), hH⟩) ?_ k
  intro hL hS hH R h
  exact simM_get hf hs hd (fun w => by simp [fV, hft, cv]) h
theorem sim_getL {idx ci j p : Nat} {fin : Bool} (hf : JFld own idx ci j 1 fin) (hs : Sh[p]? = some (.inl ci)) (hd : decode cc pc = .ok (.getfield idx, 3)) (k : GSim own cc nL ret d Sh ρ (pc + 3) L (vL (σ p j) :: S) σ dec o) : GSim own cc nL ret d Sh ρ pc L (vR p :: S) σ dec o := by
  have hft : fty ci j = 1 := by obtain ⟨_, _, _, _, _, _, _, h, _⟩ := hf; exact h
  refine sim_go (fun hL hS hH => ⟨hL, okS_cons (v := vL (σ p j)) (okE_1.mp (by have := hH p _ hs j; rwa [ecode, hft] at this)) (okS_tl hS), hH⟩) ?_ k
  intro hL hS hH R h
  exact simM_get hf hs hd (fun w => by simp [fV, hft, cv]) h
theorem sim_getR {idx ci j p q : Nat} {fin : Bool} (hf : JFld own idx ci j 2 fin) (hs : Sh[p]? = some (.inl ci)) (hr : ρ p j = some q) (hd : decode cc pc = .ok (.getfield idx, 3)) (k : GSim own cc nL ret d Sh ρ (pc + 3) L (vR q :: S) σ dec o) : GSim own cc nL ret d Sh ρ pc L (vR p :: S) σ dec o := by
  have hft : fty ci j = 2 := by obtain ⟨_, _, _, _, _, _, _, h, _⟩ := hf; exact h
  refine sim_go (fun hL hS hH => ⟨hL, okS_cons (v := vR q) trivial (okS_tl hS), hH⟩) ?_ k
  intro hL hS hH R h
  exact simM_get hf hs hd (fun w => by simp [fV, hft, cv, hr, va_re, va_rf]) h
theorem list_set_range {α : Type} (n j : Nat) (f g : Nat → α) (v : α) (hj : j < n) (hv : g j = v) (ho : ∀ i, i ≠ j → g i = f i) : ((List.range n).map f).set j v = (List.range n).map g := by
  apply List.ext_getElem?
  intro i
  by_cases h : i = j
  · subst h
    rw [List.getElem?_set_self (by simpa using hj), List.getElem?_map, List.getElem?_range hj, ← hv]
    rfl
  · rw [List.getElem?_set_ne (Ne.symm h), List.getElem?_map, List.getElem?_map]
    by_cases hi : i < n
    · rw [List.getElem?_range hi]; simp [ho i h]
    · rw [List.getElem?_eq_none (by simpa using hi)]; rfl
theorem simM_put {idx ci j ft p : Nat} {x : Int} {R : JD} {u : JV} {v : Value} (hft2 : ft ≠ 2) (hf : JFld own idx ci j ft false) (hs : Sh[p]? = some (.inl ci)) (hd : decode cc pc = .ok (.putfield idx, 3))
    (hu : ∀ w : JW, cv w.1 u = v) (hv : ∀ w : JW, fV w.1 ρ (sp σ p j x) p ci j = v) (hn : ∀ t, tyk ft t → narrow t v = v ∧ fits t v = true)
    (h : SimM own cc nL ret d Sh ρ (pc + 3) L S (sp σ p j x) R) : SimM own cc nL ret d Sh ρ pc L (u :: vR p :: S) σ R := by
  intro pp l e s m args below meth c w A H locs ls hr hX F T hl
  obtain ⟨C, TT, N, ty, ⟨h1, h2, h3, h4, h5, h6⟩, hj, hlk, hft, hfin⟩ := hf
  have hty := h6 j hj
  rw [hft] at hty
  have hset : cellE w ρ (sp σ p j x) p (.inl ci) = .inr (ci, ((List.range (fN ci)).map (fun i => fV w.1 ρ σ p ci i)).set j v) := by
    show Sum.inr _ = Sum.inr _
    congr 2
    refine (list_set_range (fN ci) j _ _ v (by rw [h5]; exact hj) (hv w) (fun i hi => ?_)).symm
    simp [fV, sp, hi]
  have he := rd_set (w := w) (ρ := ρ) (σ := σ) (j := j) (x := x) hs hset
  show W pp l e R.2.1 s m args below meth c H locs _ _ _ (F0 m pc ls (cv w.1 u :: .ref (w.1 p) :: S.map (cv w.1)))
  rw [hu w]
  refine va_put (D := w.2.1) (C := C) (T := TT) (N := N) F.1 F.2.1 F.2.2.2.2.1 h2 ty h3 h4 F.2.2.2.1 T.1 T.2.1 T.2.2.1 T.2.2.2.1 p (rd_at hs) h1 j hj (F.2.2.2.2.1 _ hlk) (fun _ h9 => h9) hfin (h3 j hj) (hn _ hty).1 (hn _ hty).2 (by simpa [h5] using hj) hd (fun H1 locs1 hP hD hS => ?_)
  rw [he] at hP hD
  exact h pp l e s m args below meth c w A H1 locs1 ls hr hX F ⟨T.1, hP, hD, hS, T.2.2.2.2⟩ hl
theorem sim_putI {idx ci j p : Nat} {x : Int} {o : JSg → Option Z} (hf : JFld own idx ci j 0 false) (hs : Sh[p]? = some (.inl ci)) (hd : decode cc pc = .ok (.putfield idx, 3)) (k : ∀ σ', GSim own cc nL ret d Sh ρ (pc + 3) L S σ' dec (o σ')) : GSim own cc nL ret d Sh ρ pc L (vI x :: vR p :: S) σ dec (lt_ (sp σ p j x) o) := by
  have hft : fty ci j = 0 := by obtain ⟨_, _, _, _, _, _, _, h, _⟩ := hf; exact h
  refine sim_go (fun hL hS hH => ⟨hL, okS_tl (okS_tl hS), okH_sp hH hs (by rw [ecode, hft]; exact okE_0.mpr (okS_hd hS))⟩) ?_ (k (sp σ p j x))
  intro hL hS hH R h
  exact simM_put (v := .int (i32 x)) (by decide) hf hs hd (fun w => rfl) (fun w => by simp [fV, hft, sp]) (fun t ht => by simp [tyk] at ht; subst ht; exact ⟨rfl, rfl⟩) h
theorem sim_putZ {idx ci j p : Nat} {x : Int} {o : JSg → Option Z} (hx : x = 0 ∨ x = 1) (hf : JFld own idx ci j 3 false) (hs : Sh[p]? = some (.inl ci)) (hd : decode cc pc = .ok (.putfield idx, 3)) (k : ∀ σ', GSim own cc nL ret d Sh ρ (pc + 3) L S σ' dec (o σ')) : GSim own cc nL ret d Sh ρ pc L (vI x :: vR p :: S) σ dec (lt_ (sp σ p j x) o) := by
  have hft : fty ci j = 3 := by obtain ⟨_, _, _, _, _, _, _, h, _⟩ := hf; exact h
  refine sim_go (fun hL hS hH => ⟨hL, okS_tl (okS_tl hS), okH_sp hH hs (by rw [ecode, hft]; exact okE_3.mpr hx)⟩) ?_ (k (sp σ p j x))
  intro hL hS hH R h
  exact simM_put (v := .int (i32 x)) (by decide) hf hs hd (fun w => rfl) (fun w => by simp [fV, hft, sp]) (fun t ht => by simp [tyk] at ht; subst ht; rcases hx with rfl | rfl <;> exact ⟨by decide, by decide⟩) h
theorem sim_putZc {idx ci j p : Nat} {x : Int} {o : JSg → Option Z} (hf : JFld own idx ci j 3 false) (hs : Sh[p]? = some (.inl ci)) (hd : decode cc pc = .ok (.putfield idx, 3)) (k : ∀ σ', GSim own cc nL ret d Sh ρ (pc + 3) L S σ' dec (o σ')) : GSim own cc nL ret d Sh ρ pc L (vI x :: vR p :: S) σ dec (chk (x = 0 ∨ x = 1) (lt_ (sp σ p j x) o)) :=
  sim_chk fun hx => sim_putZ hx hf hs hd k
theorem sim_putL {idx ci j p : Nat} {x : Int} {o : JSg → Option Z} (hf : JFld own idx ci j 1 false) (hs : Sh[p]? = some (.inl ci)) (hd : decode cc pc = .ok (.putfield idx, 3)) (k : ∀ σ', GSim own cc nL ret d Sh ρ (pc + 3) L S σ' dec (o σ')) : GSim own cc nL ret d Sh ρ pc L (vL x :: vR p :: S) σ dec (lt_ (sp σ p j x) o) := by
  have hft : fty ci j = 1 := by obtain ⟨_, _, _, _, _, _, _, h, _⟩ := hf; exact h
  refine sim_go (fun hL hS hH => ⟨hL, okS_tl (okS_tl hS), okH_sp hH hs (by rw [ecode, hft]; exact okE_1.mpr (okS_hd hS))⟩) ?_ (k (sp σ p j x))
  intro hL hS hH R h
  exact simM_put (v := .long (i64 x)) (by decide) hf hs hd (fun w => rfl) (fun w => by simp [fV, hft, sp]) (fun t ht => by simp [tyk] at ht; subst ht; exact ⟨rfl, rfl⟩) h
/-! arrays: kinds 0 int, 1 byte, 2 long, 3 boolean, 4 rows of references -/
theorem aV_i {ad : Nat → Nat} {p t n : Nat} (h2 : t ≠ 2) (h4 : t ≠ 4) : aV ad ρ σ p t n = (n, .inl (fun j => i32 (σ p j))) := by simp [aV, h2, h4]
theorem aV_l {ad : Nat → Nat} {p n : Nat} : aV ad ρ σ p 2 n = (n, .inr (.inl (fun j => i64 (σ p j)))) := by simp [aV]
theorem aV_q {ad : Nat → Nat} {p n : Nat} : aV ad ρ σ p 4 n = (n, .inr (.inr (.inr (.inr (fun j => (ρ p j).map ad))))) := by simp [aV]
theorem ok_arr {p t n : Nat} (hH : okH Sh σ) (hs : Sh[p]? = some (.inr (t, n))) (ht : t = 0 ∨ t = 1) (i : Nat) : okI (σ p i) := by
  have := hH p _ hs i
  rcases ht with rfl | rfl <;> exact okE_0.mp this
theorem sim_iaload {p n : Nat} {i N : Int} (hs : Sh[p]? = some (.inr (0, n))) (hN : (n : Int) = N) (hd : decode cc pc = .ok (.iaload, 1)) (k : GSim own cc nL ret d Sh ρ (pc + 1) L (vI (σ p i.toNat) :: S) σ dec o) : GSim own cc nL ret d Sh ρ pc L (vI i :: vR p :: S) σ dec (chk (0 ≤ i ∧ i < N) o) := by
  refine sim_chk fun hi => ?_
  refine sim_go (fun hL hS hH => ⟨hL, okS_cons (v := vI _) (ok_arr hH hs (Or.inl rfl) _) (okS_tl (okS_tl hS)), hH⟩) ?_ k
  intro hL hS hH R h pp l e s m args below meth c w A H locs ls hr hX F T hl
  have hi2 := vp_in_i (n := n) (okS_hd hS) hi.1 (by omega)
  have h1 := h pp l e s m args below meth c w A H locs ls hr hX F T hl
  refine va_iald (D := w.2.1) F.1 F.2.1 T.1 T.2.1 p 0 (cA := w.2.2 0) (n := n) (f := fun j => i32 (σ p j)) (by rw [rd_at hs]; simp only [cellE]; rw [aV_i (by decide) (by decide)]) rfl hi2 hd ?_
  rw [i32_clamp (okS_hd hS)]
  exact h1
theorem sim_baload {p n : Nat} {i N : Int} (hs : Sh[p]? = some (.inr (1, n))) (hN : (n : Int) = N) (hd : decode cc pc = .ok (.baload, 1)) (k : GSim own cc nL ret d Sh ρ (pc + 1) L (vI (σ p i.toNat) :: S) σ dec o) : GSim own cc nL ret d Sh ρ pc L (vI i :: vR p :: S) σ dec (chk (0 ≤ i ∧ i < N) o) := by
  refine sim_chk fun hi => ?_
  refine sim_go (fun hL hS hH => ⟨hL, okS_cons (v := vI _) (ok_arr hH hs (Or.inr rfl) _) (okS_tl (okS_tl hS)), hH⟩) ?_ k
  intro hL hS hH R h pp l e s m args below meth c w A H locs ls hr hX F T hl
  have hi2 := vp_in_i (n := n) (okS_hd hS) hi.1 (by omega)
  have h1 := h pp l e s m args below meth c w A H locs ls hr hX F T hl
  refine va_bald (D := w.2.1) F.1 F.2.1 T.1 T.2.1 p 1 (cA := w.2.2 1) (n := n) (f := fun j => i32 (σ p j)) (by rw [rd_at hs]; simp only [cellE]; rw [aV_i (by decide) (by decide)]) rfl hi2 hd ?_
  rw [i32_clamp (okS_hd hS)]
  exact h1
theorem sim_zaload {p n : Nat} {i N : Int} (hs : Sh[p]? = some (.inr (3, n))) (hN : (n : Int) = N) (hd : decode cc pc = .ok (.baload, 1)) (k : GSim own cc nL ret d Sh ρ (pc + 1) L (vI (σ p i.toNat) :: S) σ dec o) : GSim own cc nL ret d Sh ρ pc L (vI i :: vR p :: S) σ dec (chk (0 ≤ i ∧ i < N) o) := by
  refine sim_chk fun hi => ?_
  refine sim_go (fun hL hS hH => ⟨hL, okS_cons (v := vI _) (okI_bit (okE_3.mp (hH p _ hs _))) (okS_tl (okS_tl hS)), hH⟩) ?_ k
  intro hL hS hH R h pp l e s m args below meth c w A H locs ls hr hX F T hl
  have hi2 := vp_in_i (n := n) (okS_hd hS) hi.1 (by omega)
  have h1 := h pp l e s m args below meth c w A H locs ls hr hX F T hl
  refine va_zald (D := w.2.1) F.1 F.2.1 T.1 T.2.1 p 3 (cA := w.2.2 3) (n := n) (f := fun j => i32 (σ p j)) (by rw [rd_at hs]; simp only [cellE]; rw [aV_i (by decide) (by decide)]) rfl hi2 hd ?_
  rw [i32_clamp (okS_hd hS)]
  exact h1
theorem sim_laload {p n : Nat} {i N : Int} (hs : Sh[p]? = some (.inr (2, n))) (hN : (n : Int) = N) (hd : decode cc pc = .ok (.laload, 1)) (k : GSim own cc nL ret d Sh ρ (pc + 1) L (vL (σ p i.toNat) :: S) σ dec o) : GSim own cc nL ret d Sh ρ pc L (vI i :: vR p :: S) σ dec (chk (0 ≤ i ∧ i < N) o) := by
  refine sim_chk fun hi => ?_
  refine sim_go (fun hL hS hH => ⟨hL, okS_cons (v := vL _) (okE_1.mp (hH p _ hs _)) (okS_tl (okS_tl hS)), hH⟩) ?_ k
  intro hL hS hH R h pp l e s m args below meth c w A H locs ls hr hX F T hl
  have hi2 := vp_in_i (n := n) (okS_hd hS) hi.1 (by omega)
  have h1 := h pp l e s m args below meth c w A H locs ls hr hX F T hl
  refine va_lald (D := w.2.1) F.1 F.2.1 T.1 T.2.1 p 2 (cA := w.2.2 2) (n := n) (f := fun j => i64 (σ p j)) (by rw [rd_at hs]; simp only [cellE]; rw [aV_l]) rfl hi2 hd ?_
  rw [i32_clamp (okS_hd hS)]
  exact h1
theorem sim_aaload {p n : Nat} {i N : Int} {q : Nat} (hs : Sh[p]? = some (.inr (4, n))) (hN : (n : Int) = N) (hd : decode cc pc = .ok (.aaload, 1)) (hq : 0 ≤ i ∧ i < N → ρ p i.toNat = some q) (k : 0 ≤ i ∧ i < N → GSim own cc nL ret d Sh ρ (pc + 1) L (vR q :: S) σ dec o) : GSim own cc nL ret d Sh ρ pc L (vI i :: vR p :: S) σ dec (chk (0 ≤ i ∧ i < N) o) := by
  refine sim_chk fun hi => ?_
  refine sim_go (fun hL hS hH => ⟨hL, okS_cons (v := vR q) trivial (okS_tl (okS_tl hS)), hH⟩) ?_ (k hi)
  intro hL hS hH R h pp l e s m args below meth c w A H locs ls hr hX F T hl
  have hi2 := vp_in_i (n := n) (okS_hd hS) hi.1 (by omega)
  have h1 := h pp l e s m args below meth c w A H locs ls hr hX F T hl
  refine va_aldq (D := w.2.1) F.1 F.2.1 T.1 T.2.1 p 4 (cA := w.2.2 4) (n := n) (f := fun j => (ρ p j).map w.1) (by rw [rd_at hs]; simp only [cellE]; rw [aV_q]) rfl hi2 hd ?_
  rw [i32_clamp (okS_hd hS), hq hi]
  exact h1
theorem upd_sp {p i : Nat} {x : Int} : upd (fun j => i32 (σ p j)) i (i32 x) = fun j => i32 (sp σ p i x p j) := by
  funext j
  by_cases h : j = i <;> simp [upd, sp, h]
theorem updL_sp {p i : Nat} {x : Int} : vp_updL (fun j => i64 (σ p j)) i (i64 x) = fun j => i64 (sp σ p i x p j) := by
  funext j
  by_cases h : j = i <;> simp [vp_updL, sp, h]
theorem sim_iastore {p n : Nat} {i x N : Int} {o : JSg → Option Z} (hs : Sh[p]? = some (.inr (0, n))) (hN : (n : Int) = N) (hd : decode cc pc = .ok (.iastore, 1)) (k : ∀ σ', GSim own cc nL ret d Sh ρ (pc + 1) L S σ' dec (o σ')) : GSim own cc nL ret d Sh ρ pc L (vI x :: vI i :: vR p :: S) σ dec (chk (0 ≤ i ∧ i < N) (lt_ (sp σ p i.toNat x) o)) := by
  refine sim_chk fun hi => ?_
  refine sim_go (fun hL hS hH => ⟨hL, okS_tl (okS_tl (okS_tl hS)), okH_sp hH hs (okE_0.mpr (okS_hd hS))⟩) ?_ (k (sp σ p i.toNat x))
  intro hL hS hH R h pp l e s m args below meth c w A H locs ls hr hX F T hl
  have hoi : okI i := okS_hd (okS_tl hS)
  have hi2 := vp_in_i (n := n) hoi hi.1 (by omega)
  refine va_iast (D := w.2.1) F.1 F.2.1 T.1 T.2.1 T.2.2.1 T.2.2.2.1 p 0 (cA := w.2.2 0) (n := n) (f := fun j => i32 (σ p j)) (by rw [rd_at hs]; simp only [cellE]; rw [aV_i (by decide) (by decide)]) rfl hi2 hd (fun H1 locs1 hP hD hS2 => ?_)
  rw [i32_clamp hoi, upd_sp, rd_set (j := i.toNat) (x := x) hs (by simp only [cellE]; rw [aV_i (by decide) (by decide)])] at hP hD
  exact h pp l e s m args below meth c w A H1 locs1 ls hr hX F ⟨T.1, hP, hD, hS2, T.2.2.2.2⟩ hl
theorem sim_lastore {p n : Nat} {i x N : Int} {o : JSg → Option Z} (hs : Sh[p]? = some (.inr (2, n))) (hN : (n : Int) = N) (hd : decode cc pc = .ok (.lastore, 1)) (k : ∀ σ', GSim own cc nL ret d Sh ρ (pc + 1) L S σ' dec (o σ')) : GSim own cc nL ret d Sh ρ pc L (vL x :: vI i :: vR p :: S) σ dec (chk (0 ≤ i ∧ i < N) (lt_ (sp σ p i.toNat x) o)) := by
  refine sim_chk fun hi => ?_
  refine sim_go (fun hL hS hH => ⟨hL, okS_tl (okS_tl (okS_tl hS)), okH_sp hH hs (okE_1.mpr (okS_hd hS))⟩) ?_ (k (sp σ p i.toNat x))
  intro hL hS hH R h pp l e s m args below meth c w A H locs ls hr hX F T hl
  have hoi : okI i := okS_hd (okS_tl hS)
  have hi2 := vp_in_i (n := n) hoi hi.1 (by omega)
  refine va_last (D := w.2.1) F.1 F.2.1 T.1 T.2.1 T.2.2.1 T.2.2.2.1 p 2 (cA := w.2.2 2) (n := n) (f := fun j => i64 (σ p j)) (by rw [rd_at hs]; simp only [cellE]; rw [aV_l]) rfl hi2 hd (fun H1 locs1 hP hD hS2 => ?_)
  rw [i32_clamp hoi, updL_sp, rd_set (j := i.toNat) (x := x) hs (by simp only [cellE]; rw [aV_l])] at hP hD
  exact h pp l e s m args below meth c w A H1 locs1 ls hr hX F ⟨T.1, hP, hD, hS2, T.2.2.2.2⟩ hl
theorem sim_bastore {p n : Nat} {i x N : Int} {o : JSg → Option Z} (hs : Sh[p]? = some (.inr (1, n))) (hN : (n : Int) = N) (hd : decode cc pc = .ok (.bastore, 1)) (k : ∀ σ', GSim own cc nL ret d Sh ρ (pc + 1) L S σ' dec (o σ')) : GSim own cc nL ret d Sh ρ pc L (vI x :: vI i :: vR p :: S) σ dec (chk (0 ≤ i ∧ i < N) (lt_ (sp σ p i.toNat (b8 x)) o)) := by
  refine sim_chk fun hi => ?_
  refine sim_go (fun hL hS hH => ⟨hL, okS_tl (okS_tl (okS_tl hS)), okH_sp hH hs (okE_0.mpr (ok32 _))⟩) ?_ (k (sp σ p i.toNat (b8 x)))
  intro hL hS hH R h pp l e s m args below meth c w A H locs ls hr hX F T hl
  have hoi : okI i := okS_hd (okS_tl hS)
  have hi2 := vp_in_i (n := n) hoi hi.1 (by omega)
  have hb8 : vp_nar .byte (i32 x) = i32 (b8 x) := by rw [vp_nar_byte, b8, i32_t]
  refine va_bast (D := w.2.1) F.1 F.2.1 T.1 T.2.1 T.2.2.1 T.2.2.2.1 p 1 (cA := w.2.2 1) (n := n) (f := fun j => i32 (σ p j)) (by rw [rd_at hs]; simp only [cellE]; rw [aV_i (by decide) (by decide)]) rfl hi2 hd (fun H1 locs1 hP hD hS2 => ?_)
  rw [i32_clamp hoi, hb8, upd_sp, rd_set (j := i.toNat) (x := b8 x) hs (by simp only [cellE]; rw [aV_i (by decide) (by decide)])] at hP hD
  exact h pp l e s m args below meth c w A H1 locs1 ls hr hX F ⟨T.1, hP, hD, hS2, T.2.2.2.2⟩ hl
theorem sim_zastore {p n : Nat} {i x N : Int} {o : JSg → Option Z} (hx : x = 0 ∨ x = 1) (hs : Sh[p]? = some (.inr (3, n))) (hN : (n : Int) = N) (hd : decode cc pc = .ok (.bastore, 1)) (k : ∀ σ', GSim own cc nL ret d Sh ρ (pc + 1) L S σ' dec (o σ')) : GSim own cc nL ret d Sh ρ pc L (vI x :: vI i :: vR p :: S) σ dec (chk (0 ≤ i ∧ i < N) (lt_ (sp σ p i.toNat x) o)) := by
  refine sim_chk fun hi => ?_
  refine sim_go (fun hL hS hH => ⟨hL, okS_tl (okS_tl (okS_tl hS)), okH_sp hH hs (okE_3.mpr hx)⟩) ?_ (k (sp σ p i.toNat x))
  intro hL hS hH R h pp l e s m args below meth c w A H locs ls hr hX F T hl
  have hoi : okI i := okS_hd (okS_tl hS)
  have hi2 := vp_in_i (n := n) hoi hi.1 (by omega)
  have hb8 : vp_nar .boolean (i32 x) = i32 x := by rcases hx with rfl | rfl <;> decide
  refine va_zast (D := w.2.1) F.1 F.2.1 T.1 T.2.1 T.2.2.1 T.2.2.2.1 p 3 (cA := w.2.2 3) (n := n) (f := fun j => i32 (σ p j)) (by rw [rd_at hs]; simp only [cellE]; rw [aV_i (by decide) (by decide)]) rfl hi2 hd (fun H1 locs1 hP hD hS2 => ?_)
  rw [i32_clamp hoi, hb8, upd_sp, rd_set (j := i.toNat) (x := x) hs (by simp only [cellE]; rw [aV_i (by decide) (by decide)])] at hP hD
  exact h pp l e s m args below meth c w A H1 locs1 ls hr hX F ⟨T.1, hP, hD, hS2, T.2.2.2.2⟩ hl
theorem sim_alen {p t n : Nat} {N : Int} (hs : Sh[p]? = some (.inr (t, n))) (ht : t < 5) (hN : (n : Int) = N ∧ okI N) (hd : decode cc pc = .ok (.arraylength, 1)) (k : GSim own cc nL ret d Sh ρ (pc + 1) L (vI N :: S) σ dec o) : GSim own cc nL ret d Sh ρ pc L (vR p :: S) σ dec o := by
  refine sim_go (fun hL hS hH => ⟨hL, okS_cons (v := vI N) hN.2 (okS_tl hS), hH⟩) ?_ k
  intro hL hS hH R h pp l e s m args below meth c w A H locs ls hr hX F T hl
  have h1 := h pp l e s m args below meth c w A H locs ls hr hX F T hl
  have htys : ∃ ty, (tysL w.2.2)[t]? = some (w.2.2 t, ty) := by
    rcases t with _ | _ | _ | _ | _ | t
    · exact ⟨_, rfl⟩
    · exact ⟨_, rfl⟩
    · exact ⟨_, rfl⟩
    · exact ⟨_, rfl⟩
    · exact ⟨_, rfl⟩
    · omega
  obtain ⟨ty, hty⟩ := htys
  refine va_alen (D := w.2.1) F.1 F.2.1 T.1 T.2.1 p t (x := aV w.1 ρ σ p t n) (by rw [rd_at hs]; rfl) hty (v := i32 N) ?_ hd h1
  show Int32.ofNat n = i32 N
  rw [← hN.1]
  rfl
end

/-! LAYER 1e: ends, calls, loops -/
section
variable {Z : Type} {own : String} {cc : ByteArray} {nL : Nat} {ret : Option FieldType} {d : Nat} {Sh : JSh} {ρ : JRo} {pc : Nat} {L : List (Nat × JV)} {S : List JV} {σ : JSg} {dec : Z → Option JV × JSg} {o : Option Z}
theorem q9_end {w : JW} {A : Nat → Prop} {s t : State} {H : Heap} {locs : List Loc} {args : Array Value} {R : Option JV × JSg} (T : JSt w Sh ρ R.2 A s H locs) (ht : t.heap = H) (hW : s.WarmedH t.vm) : Q9 w Sh ρ A R args s (.returned (R.1.map (cv w.1))) t :=
  ⟨⟨rfl, by rw [ht]; exact T.2.1, va_K.moved hW.alike T.1, T.2.2.1⟩, T.2.2.2.1.F ht⟩
theorem sim_iret {x : Int} {z : Z} (hz : dec z = (some (vI x), σ)) (hr : ret = some .int) (hd : decode cc pc = .ok (.ireturn, 1)) : Sim own cc nL ret d Sh ρ pc L [vI x] σ dec (some z) := by
  intro hL hS hH z' hz'
  cases hz'
  show okR Sh (dec z) ∧ SimM own cc nL ret d Sh ρ pc L [vI x] σ (rS d Sh ρ (dec z))
  rw [hz]
  refine ⟨⟨fun v hv => by cases hv; exact okS_hd hS, hH⟩, fun p l e s m args below meth c w A H locs ls _ _ F T hl => ?_⟩
  simp only [rS, Nat.sub_self]
  exact W.iret F.1 F.2.1 (by rw [F.2.2.2.2.2.1, hr]) (fun t ht hW => q9_end T ht hW) T.2.2.2.1.2.2 hd F.2.2.2.2.2.2
theorem sim_zret {x : Int} {z : Z} (h01 : x = 0 ∨ x = 1) (hz : dec z = (some (vI x), σ)) (hr : ret = some .boolean) (hd : decode cc pc = .ok (.ireturn, 1)) : Sim own cc nL ret d Sh ρ pc L [vI x] σ dec (some z) := by
  intro hL hS hH z' hz'
  cases hz'
  show okR Sh (dec z) ∧ SimM own cc nL ret d Sh ρ pc L [vI x] σ (rS d Sh ρ (dec z))
  rw [hz]
  refine ⟨⟨fun v hv => by cases hv; exact okS_hd hS, hH⟩, fun p l e s m args below meth c w A H locs ls _ _ F T hl => ?_⟩
  simp only [rS, Nat.sub_self]
  exact W.zret (ty := .boolean) F.1 F.2.1 (by rw [F.2.2.2.2.2.1, hr]) (by rcases h01 with rfl | rfl <;> decide) (fun t ht hW => q9_end T ht hW) T.2.2.2.1.2.2 hd F.2.2.2.2.2.2
theorem sim_lret {x : Int} {z : Z} (hz : dec z = (some (vL x), σ)) (hr : ret = some .long) (hd : decode cc pc = .ok (.lreturn, 1)) : Sim own cc nL ret d Sh ρ pc L [vL x] σ dec (some z) := by
  intro hL hS hH z' hz'
  cases hz'
  show okR Sh (dec z) ∧ SimM own cc nL ret d Sh ρ pc L [vL x] σ (rS d Sh ρ (dec z))
  rw [hz]
  refine ⟨⟨fun v hv => by cases hv; exact okS_hd hS, hH⟩, fun p l e s m args below meth c w A H locs ls _ _ F T hl => ?_⟩
  simp only [rS, Nat.sub_self]
  exact W.lret F.1 F.2.1 (by rw [F.2.2.2.2.2.1, hr]) (fun t ht hW => q9_end T ht hW) T.2.2.2.1.2.2 hd F.2.2.2.2.2.2
theorem sim_nret {x : Int} {z : Z} {ty : FieldType} (hn : narrow ty (.int (i32 x)) = .int (i32 x)) (hz : dec z = (some (vI x), σ)) (hr : ret = some ty) (hd : decode cc pc = .ok (.ireturn, 1)) : Sim own cc nL ret d Sh ρ pc L [vI x] σ dec (some z) := by
  intro hL hS hH z' hz'
  cases hz'
  show okR Sh (dec z) ∧ SimM own cc nL ret d Sh ρ pc L [vI x] σ (rS d Sh ρ (dec z))
  rw [hz]
  refine ⟨⟨fun v hv => by cases hv; exact okS_hd hS, hH⟩, fun p l e s m args below meth c w A H locs ls _ _ F T hl => ?_⟩
  simp only [rS, Nat.sub_self]
  exact W.zret (ty := ty) F.1 F.2.1 (by rw [F.2.2.2.2.2.1, hr]) hn (fun t ht hW => q9_end T ht hW) T.2.2.2.1.2.2 hd F.2.2.2.2.2.2
theorem sim_zretc {x : Int} {z : Z} (hz : dec z = (some (vI x), σ)) (hr : ret = some .boolean) (hd : decode cc pc = .ok (.ireturn, 1)) : Sim own cc nL ret d Sh ρ pc L [vI x] σ dec (chk (x = 0 ∨ x = 1) (some z)) :=
  sim_chk fun hx => sim_zret hx hz hr hd
theorem sim_vret {z : Z} (hz : dec z = (none, σ)) (hr : ret = none) (hd : decode cc pc = .ok (.return_, 1)) : Sim own cc nL ret d Sh ρ pc L [] σ dec (some z) := by
  intro hL hS hH z' hz'
  cases hz'
  show okR Sh (dec z) ∧ SimM own cc nL ret d Sh ρ pc L [] σ (rS d Sh ρ (dec z))
  rw [hz]
  refine ⟨⟨fun v hv => by (cases hv), hH⟩, fun p l e s m args below meth c w A H locs ls _ _ F T hl => ?_⟩
  simp only [rS, Nat.sub_self]
  exact W.vret F.1 F.2.1 (by rw [F.2.2.2.2.2.1, hr]) (fun t ht hW => q9_end T ht hW) T.2.2.2.1.2.2 hd F.2.2.2.2.2.2
end
/-- a method's contract on the pure text -/
def JCall (y : MethodName) (cc : ByteArray) (nL : Nat) (ret : Option FieldType) (d : Nat) (Sh : JSh) (ρ : JRo) (as : List JV) (σ : JSg) (R : Option JV × JSg) : Prop :=
  ∀ (l : Launch) (w : JW) (sz : Nat), Met l y (.code y cc nL ret :: WS) (rmd d) (va_Pc (as.map (cv w.1)) (fun U => U.heap.size = sz ∧ va_P w.2.1 vwCl (rd w Sh ρ σ) U.heap ∧ va_K w.2.1 vwCl (tysL w.2.2) U ∧ va_D (fun _ => True) (rd w Sh ρ σ) ∧ RO w (va_A (rd w Sh ρ σ) sz) U))
    (Q9 w Sh ρ (va_A (rd w Sh ρ σ) sz) R) 0 0 (va_A (rd w Sh ρ σ) sz)
def Call {Z : Type} (y : MethodName) (cc : ByteArray) (nL : Nat) (ret : Option FieldType) (d : Nat) (Sh : JSh) (ρ : JRo) (as : List JV) (σ : JSg) (dec : Z → Option JV × JSg) (o : Option Z) : Prop :=
  (∀ v ∈ as, okV v) → okH Sh σ → ∀ z, o = some z → okR Sh (dec z) ∧ JCall y cc nL ret d Sh ρ as σ (dec z)
def jargs : Nat → List JV → List (Nat × JV)
  | _, [] => []
  | i, v :: vs => (i, v) :: jargs (if vcat v = 2 then i + 2 else i + 1) vs
def jwid (as : List JV) : Nat := (as.map vcat).sum
theorem jargs_map (w : JW) (as : List JV) : ∀ i, lv_args i (as.map (cv w.1)) = (jargs i as).map fun q => (q.1, cv w.1 q.2) := by
  induction as with
  | nil => intro i; rfl
  | cons v vs ih => intro i; simp only [List.map_cons, lv_args, jargs, ih, cv_cat]
theorem jargs_ok {as : List JV} (h : ∀ v ∈ as, okV v) : ∀ i, ∀ q ∈ jargs i as, okV q.2 := by
  induction as with
  | nil => intro i q hq; cases hq
  | cons v vs ih =>
    intro i q hq
    rcases List.mem_cons.mp hq with rfl | hq
    · exact h v List.mem_cons_self
    · exact ih (fun u hu => h u (List.mem_cons_of_mem _ hu)) _ q hq
theorem jwid_sl (w : JW) (as : List JV) : (lg_sl (as.map (cv w.1))).length = jwid as := by
  induction as with
  | nil => rfl
  | cons v vs ih =>
    have h1 : lg_sl ((v :: vs).map (cv w.1)) = (if (cv w.1 v).category = 2 then [.val (cv w.1 v), .second] else [.val (cv w.1 v)]) ++ lg_sl (vs.map (cv w.1)) := by simp [lg_sl]
    rw [h1, List.length_append, ih, cv_cat]
    rcases v with x | x | x <;> simp [vcat, jwid]
theorem call_of_sim {Z : Type} {y : MethodName} {cc : ByteArray} {nL : Nat} {ret : Option FieldType} {d : Nat} {Sh : JSh} {ρ : JRo} {as : List JV} {σ : JSg} {dec : Z → Option JV × JSg} {o : Option Z}
    (hy : plainName y.cls = true) (hw : jwid as ≤ nL) (h : Sim y.cls cc nL ret d Sh ρ 0 (jargs 0 as) [] σ dec o) : Call y cc nL ret d Sh ρ as σ dec o := by
  intro ha hH z hz
  obtain ⟨g1, g2⟩ := h (jargs_ok ha 0) (fun v hv => by cases hv) hH z hz
  refine ⟨g1, fun l w sz => ?_⟩
  refine Met.ofW (cc := cc) (maxL := nL) (ret := ret) hy rfl ?_
  intro p e s m args below meth c s₁ B hml hv
  obtain ⟨rfl, hsz, hP, hK, hD0, hRO⟩ := hv
  subst hsz
  have hts := atoms_spec (ws := .code y cc nL ret :: WS) B.pre
  have hown : s.vm.findClass y.cls = some m.cls := findClass_of_methodNamed B.named
  rw [lg_entry_eq]
  have hl := lv_entry (as.map (cv w.1)) (n := nL) (by rw [jwid_sl]; exact hw)
  rw [jargs_map] at hl
  have h9 := g2 p l e s m _ below meth c w (va_A (rd w Sh ρ σ) s.heap.size) s.heap [] _ jroom_s trivial ⟨B.exec, B.bytes, hml, hown, fun x hx => hts x (List.mem_cons_of_mem _ hx), B.returns, B.notSynchronized⟩ ⟨hK, hP, hD0.self, va_S.rf, fun q hq => Or.inr hq, hRO⟩ hl
  simp only [rS, Nat.sub_self] at h9
  exact h9
theorem va_A_rd {w : JW} {Sh : JSh} {ρ : JRo} {σ : JSg} {A : Nat → Prop} {s : State} {H : Heap} {locs : List Loc} (T : JSt w Sh ρ σ A s H locs) : ∀ q, va_A (rd w Sh ρ σ) H.size q → A q := by
  intro q h
  rcases h with ⟨k, e, h⟩ | h
  · exact T.2.2.1.2 k (q, e) h
  · exact T.2.2.2.2.1 q (Nat.le_trans T.2.2.2.1.1 h)
section
variable {p : Program} {l : Launch} {e : Env} {R : Room} {s : State} {m : MethodId} {args : Array Value} {below : List Frame} {meth : Method} {c : Code} {H : Heap} {locs : List Loc} {Q : State → Prop} {pc : Nat} {ls : Array Slot} {rest st0 : List Value} {a : Array Value} {A0 A1 : Nat → Prop} {H0 : Heap} {free : Addr → Prop} {w : JW} {Sh : JSh} {ρ : JRo} {R1 : Option JV × JSg} {ce sl : Nat}
theorem j_cont (hr : va_Run p l e R s m args below meth c H locs ce sl 0 0 (F0 m pc ls st0) rest (Q9 w Sh ρ A1 R1 a) free) (hS : va_S A0 H0 H locs) (hA : ∀ q, q < H.size → A1 q → A0 q) (hf : ∀ q, free q → A0 q)
    (kk : ∀ (t : State) (H1 : Heap) (locs1 : List Loc), t.heap = H1 → s.vm.Alike t.vm → va_P w.2.1 vwCl (rd w Sh ρ R1.2) H1 → va_S A0 H0 H1 locs1 → W p l e R s m args below meth c H1 locs1 ce sl Q (F0 m (pc + 3) ls ((R1.1.map (cv w.1)).toList ++ rest))) : W p l e R s m args below meth c H locs ce sl Q (F0 m pc ls st0) := by
  intro T hT X
  obtain ⟨v, st₀, t, T', L, h0, X', hL, e1, e2, ⟨⟨hv, hP, hK, hD⟩, hz, hk⟩, st⟩ := hr T hT X
  cases hv
  rw [h0] at hz hk
  obtain ⟨t2, a1, b1⟩ := kk t T'.heap (locs ++ L) e1.symm (by rw [← e2]; exact X'.warmed.alike) (by rw [e1]; exact hP)
    ⟨Nat.le_trans hS.1 (by rw [e1]; exact hz), fun q h1 h2 => by rw [e1, hk q (Nat.lt_of_lt_of_le h1 hS.1) (fun z => h2 (hA q (Nat.lt_of_lt_of_le h1 hS.1) z))]; exact hS.2.1 q h1 h2, fun q hq => by
      rcases List.mem_append.mp hq with h | h
      · exact hS.2.2 q h
      · exact hf _ (hL q h)⟩ T' rfl X'
  exact ⟨t2, st t2 a1, b1⟩
end
/-- what the tables say of a call by the pool's entry idx -/
def JLnk (own : String) (idx : Nat) (y : MethodName) (cc : ByteArray) (nL : Nat) (ret : Option FieldType) (n : Nat) : Prop :=
  Cond.methodLink own idx y ∈ WS ∧ Cond.code y cc nL ret ∈ WS ∧ Cond.initialized y.cls ∈ WS ∧ (y.cls ≠ "java/lang/invoke/MethodHandle" ∧ y.cls ≠ "java/lang/invoke/VarHandle" ∧ (parseMethodDescriptor y.desc).map (fun d => d.parameters.length) = some n)
theorem good_ws : ∀ {ws : List Cond}, (∀ w ∈ ws, w ∈ WS) → GoodIn WS ws := fun h w hw => ⟨h w hw, ws_good (h w hw)⟩
theorem good_code {y : MethodName} {cc : ByteArray} {nL : Nat} {ret : Option FieldType} (h : Cond.code y cc nL ret ∈ WS) : GoodIn WS (.code y cc nL ret :: WS) :=
  good_ws fun w hw => by
    rcases List.mem_cons.mp hw with rfl | hw
    · exact h
    · exact hw
theorem j_blind {as : List JV} {w : JW} {Sh : JSh} {ρ : JRo} {σ : JSg} {sz : Nat} : FrameBlind (va_Pc (as.map (cv w.1)) (fun U => U.heap.size = sz ∧ va_P w.2.1 vwCl (rd w Sh ρ σ) U.heap ∧ va_K w.2.1 vwCl (tysL w.2.2) U ∧ va_D (fun _ => True) (rd w Sh ρ σ) ∧ RO w (va_A (rd w Sh ρ σ) sz) U)) :=
  fun a U g mk q => by
    obtain ⟨q0, q1, qP, qK, qD, qR⟩ := q
    exact ⟨q0, q1, qP, va_K.moved (u := U) (U := U.calling g mk a) (Vm.Alike.refl U.vm) qK, qD, qR.calling⟩
theorem catS {w : JW} {S : List JV} (h : jwid S ≤ 8) : (((S.map (cv w.1)).map fun v => v.category).sum) ≤ 8 := by
  have : ((S.map (cv w.1)).map fun v => v.category) = S.map vcat := by
    rw [List.map_map]
    exact List.map_congr_left fun v _ => cv_cat w.1 v
  rw [this]
  exact h
section
variable {Z Z' : Type} {own : String} {cc : ByteArray} {nL : Nat} {ret : Option FieldType} {d : Nat} {Sh : JSh} {ρ : JRo} {pc : Nat} {L : List (Nat × JV)} {S st : List JV} {σ : JSg} {dec : Z → JD} {dec' : Z' → Option JV × JSg} {o' : Option Z'} {g : Z' → Option Z}
  {y : MethodName} {cc' : ByteArray} {nL' : Nat} {ret' : Option FieldType} {d' idx n : Nat} {as : List JV}
theorem sim_callG {C : String} {q : Nat} (hlk : JLnk own idx y cc' nL' ret' n) (hin : Cond.instanceMethod y ∈ WS) (hse : Cond.selects C y y ∈ WS) (hyC : y.cls = C) (hrecv : ∀ (s : State) (w : JW) (A : Nat → Prop) (H : Heap) (locs : List Loc), JSt w Sh ρ σ A s H locs → ∃ cellB : Cell, H[w.1 q]? = some cellB ∧ cellB.vm.isStatics = false ∧ s.vm.findClass C = some cellB.cls)
    (hK : Call y cc' nL' ret' d' Sh ρ (vR q :: as) σ dec' o') (hn : as.length = n) (hdd : d' + 1 ≤ d ∧ nL' ≤ 45) (hst : st = as.reverse ++ vR q :: S) (hS8 : jwid S ≤ 8) (hd : decode cc pc = .ok (.invokevirtual idx, 3))
    (k : ∀ z, GSim own cc nL ret d Sh ρ (pc + 3) L ((dec' z).1.toList ++ S) (dec' z).2 dec (g z)) : GSim own cc nL ret d Sh ρ pc L st σ dec (o'.bind g) := by
  subst hst
  intro hL hS hH z hz
  obtain ⟨z1, hz1, hz2⟩ := Option.bind_eq_some_iff.mp hz
  have has : ∀ v ∈ vR q :: as, okV v := okS_cons trivial fun v hv => hS v (List.mem_append_left _ (List.mem_reverse.mpr hv))
  obtain ⟨⟨r1, r2⟩, hM⟩ := hK has hH z1 hz1
  obtain ⟨g1, g2⟩ := k z1 hL (by
    intro v hv
    rcases List.mem_append.mp hv with hv | hv
    · exact r1 v (Option.mem_toList.mp hv)
    · exact hS v (List.mem_append_right _ (List.mem_cons_of_mem _ hv))) r2 z hz2
  refine ⟨g1, fun p l e s m args below meth c w A H locs ls hr hX F TT hl => ?_⟩
  obtain ⟨hlk1, hlk2, hlk3, hlk4⟩ := hlk
  have hgood : GoodIn WS (wsV own idx C y (.code y cc' nL' ret' :: WS)) := by
    refine good_ws fun w hw => ?_
    rcases List.mem_append.mp hw with hw | hw
    · simp only [List.mem_cons, List.not_mem_nil, or_false] at hw
      rcases hw with rfl | rfl | rfl | rfl
      · exact hlk1
      · exact hin
      · exact hse
      · rw [← hyC]; exact hlk3
    · rcases List.mem_cons.mp hw with rfl | hw
      · exact hlk2
      · exact hw
  have hfree := va_A_rd TT
  have hrun := va_runV (As := as.map (cv w.1)) (rest := S.map (cv w.1)) (b := w.1 q) (mc := 0) (ms := 0) (locs := locs) (cells := Sh.length + 1000 - (dec z).2.2.1.1) (slots := wsum Sh + 10000 - (dec z).2.2.1.2) (n := n) (l := l) (e := e) (below := below) (meth := meth) (R := (dec z).2.1) (g := F0 m pc ls ((as.reverse ++ vR q :: S).map (cv w.1))) ⟨F.1, F.2.1, F.2.2.1, F.2.2.2.1, F.2.2.2.2.1⟩ (hM l w H.size)
    (cwV n F.2.2.2.2.1 hgood rfl rfl rfl ⟨hyC, hlk4⟩ ⟨by have h7 := hr.1; simp only [rmd]; omega, by have h7 := hr.2.1; simp only [rmd]; omega⟩)
    ⟨j_blind, hrecv s w A H locs TT, fun U hU hW => ⟨rfl, by rw [hU], by rw [hU]; exact TT.2.1, va_K.moved hW.alike TT.1, TT.2.2.1.weaken (fun _ _ _ _ => trivial), TT.2.2.2.2.2.to (by rw [hU]; exact TT.2.2.2.1) hW hfree⟩⟩
    rfl (by simp [hn]) hl.1 (by simp [cv]) (lv_room (catS hS8)) hd ⟨hr.2.2.1, hr.2.2.2.1⟩
  refine j_cont hrun TT.2.2.2.1 (fun x _ hx => hfree x hx) hfree fun t H1 locs1 ht hvm hP1 hS1 => ?_
  have h3 := g2 p l e s m args below meth c w A H1 locs1 ls hr hX F ⟨TT.1, hP1, va_D_rd TT.2.2.1, hS1, TT.2.2.2.2⟩ hl
  have e1 : ((dec' z1).1.toList ++ S).map (cv w.1) = ((dec' z1).1.map (cv w.1)).toList ++ S.map (cv w.1) := by
    rw [List.map_append]
    cases (dec' z1).1 <;> rfl
  rw [e1] at h3
  exact h3
theorem sim_callV {C : String} {T : u_T} {N ci q : Nat} (hlk : JLnk own idx y cc' nL' ret' n) (hin : Cond.instanceMethod y ∈ WS) (hse : Cond.selects C y y ∈ WS) (hyC : y.cls = C) (hci : vwCl[ci]? = some (C, T, N)) (hs : Sh[q]? = some (.inl ci))
    (hK : Call y cc' nL' ret' d' Sh ρ (vR q :: as) σ dec' o') (hn : as.length = n) (hdd : d' + 1 ≤ d ∧ nL' ≤ 45) (hst : st = as.reverse ++ vR q :: S) (hS8 : jwid S ≤ 8) (hd : decode cc pc = .ok (.invokevirtual idx, 3))
    (k : ∀ z, GSim own cc nL ret d Sh ρ (pc + 3) L ((dec' z).1.toList ++ S) (dec' z).2 dec (g z)) : GSim own cc nL ret d Sh ρ pc L st σ dec (o'.bind g) :=
  sim_callG hlk hin hse hyC (fun s w A H locs TT => va_recv TT.1 TT.2.1 hci (q0 := q) (by rw [rd_at hs]; rfl)) hK hn hdd hst hS8 hd k
theorem sim_callS (hlk : JLnk own idx y cc' nL' ret' n) (hin : Cond.static y ∈ WS)
    (hK : Call y cc' nL' ret' d' Sh ρ as σ dec' o') (hn : as.length = n) (hdd : d' + 1 ≤ d ∧ nL' ≤ 45) (hst : st = as.reverse ++ S) (hS8 : jwid S ≤ 8) (hd : decode cc pc = .ok (.invokestatic idx, 3))
    (k : ∀ z, GSim own cc nL ret d Sh ρ (pc + 3) L ((dec' z).1.toList ++ S) (dec' z).2 dec (g z)) : GSim own cc nL ret d Sh ρ pc L st σ dec (o'.bind g) := by
  subst hst
  intro hL hS hH z hz
  obtain ⟨z1, hz1, hz2⟩ := Option.bind_eq_some_iff.mp hz
  have has : ∀ v ∈ as, okV v := fun v hv => hS v (List.mem_append_left _ (List.mem_reverse.mpr hv))
  obtain ⟨⟨r1, r2⟩, hM⟩ := hK has hH z1 hz1
  obtain ⟨g1, g2⟩ := k z1 hL (by
    intro v hv
    rcases List.mem_append.mp hv with hv | hv
    · exact r1 v (Option.mem_toList.mp hv)
    · exact hS v (List.mem_append_right _ hv)) r2 z hz2
  refine ⟨g1, fun p l e s m args below meth c w A H locs ls hr hX F TT hl => ?_⟩
  obtain ⟨hlk1, hlk2, hlk3, hlk4⟩ := hlk
  have hts := F.2.2.2.2.1
  have hfree := va_A_rd TT
  have hrun := va_runS (As := as.map (cv w.1)) (rest := S.map (cv w.1)) (mc := 0) (ms := 0) (locs := locs) (cells := Sh.length + 1000 - (dec z).2.2.1.1) (slots := wsum Sh + 10000 - (dec z).2.2.1.2) (n := n) (l := l) (e := e) (below := below) (meth := meth) (R := (dec z).2.1) (H := H) (g := F0 m pc ls ((as.reverse ++ S).map (cv w.1))) ⟨F.1, F.2.1, F.2.2.1, F.2.2.2.1, F.2.2.2.2.1⟩ (hM l w H.size)
    ⟨callB_of n hts (good_code hlk2) rfl rfl rfl (hts _ hlk3) (hts _ hlk1) hlk4 ⟨by have h7 := hr.1; simp only [rmd]; omega, by have h7 := hr.2.1; simp only [rmd]; omega⟩, hts _ hin⟩
    ⟨j_blind, fun U hU hW => ⟨rfl, by rw [hU], by rw [hU]; exact TT.2.1, va_K.moved hW.alike TT.1, TT.2.2.1.weaken (fun _ _ _ _ => trivial), TT.2.2.2.2.2.to (by rw [hU]; exact TT.2.2.2.1) hW hfree⟩⟩
    rfl (by simp [hn]) hl.1 (by simp) (lv_room (catS hS8)) hd ⟨hr.2.2.1, hr.2.2.2.1⟩
  refine j_cont hrun TT.2.2.2.1 (fun x _ hx => hfree x hx) hfree fun t H1 locs1 ht hvm hP1 hS1 => ?_
  have h3 := g2 p l e s m args below meth c w A H1 locs1 ls hr hX F ⟨TT.1, hP1, va_D_rd TT.2.2.1, hS1, TT.2.2.2.2⟩ hl
  have e1 : ((dec' z1).1.toList ++ S).map (cv w.1) = ((dec' z1).1.map (cv w.1)).toList ++ S.map (cv w.1) := by
    rw [List.map_append]
    cases (dec' z1).1 <;> rfl
  rw [e1] at h3
  exact h3
end
/-! the six shapes of an answer -/
abbrev dIp (σ : JSg) : Int → Option JV × JSg := fun z => (some (vI z), σ)
abbrev dIm : Int × JSg → Option JV × JSg := fun z => (some (vI z.1), z.2)
abbrev dLp (σ : JSg) : Int → Option JV × JSg := fun z => (some (vL z), σ)
abbrev dLm : Int × JSg → Option JV × JSg := fun z => (some (vL z.1), z.2)
abbrev dVp (σ : JSg) : Unit → Option JV × JSg := fun _ => (none, σ)
abbrev dVm : JSg → Option JV × JSg := fun z => (none, z)
/-- what a call needs of the tables, bundled -/
def JVir (own : String) (idx : Nat) (y : MethodName) (cc : ByteArray) (nL : Nat) (ret : Option FieldType) (n ci : Nat) : Prop :=
  JLnk own idx y cc nL ret n ∧ Cond.instanceMethod y ∈ WS ∧ Cond.selects y.cls y y ∈ WS ∧ ∃ T N, vwCl[ci]? = some (y.cls, T, N)
def JSta (own : String) (idx : Nat) (y : MethodName) (cc : ByteArray) (nL : Nat) (ret : Option FieldType) (n : Nat) : Prop :=
  JLnk own idx y cc nL ret n ∧ Cond.static y ∈ WS

section
variable {Z : Type} {own : String} {cc : ByteArray} {nL : Nat} {ret : Option FieldType} {d : Nat} {Sh : JSh} {ρ : JRo} {pc : Nat} {L : List (Nat × JV)} {S st : List JV} {σ : JSg} {dec : Z → JD}
  {y : MethodName} {cc' : ByteArray} {nL' : Nat} {ret' : Option FieldType} {d' idx n : Nat} {as : List JV}
theorem sim_callVIp {ci q : Nat} {o' : Option (Int)} {g : Int → Option Z} (hv : JVir own idx y cc' nL' ret' n ci) (hs : Sh[q]? = some (.inl ci)) (hd : decode cc pc = .ok (.invokevirtual idx, 3)) (hK : Call y cc' nL' ret' d' Sh ρ (vR q :: as) σ (dIp σ) o') (hn : as.length = n) (hdd : d' + 1 ≤ d ∧ nL' ≤ 45) (hst : st = as.reverse ++ vR q :: S) (hS8 : jwid S ≤ 8) (k : ∀ x, GSim own cc nL ret d Sh ρ (pc + 3) L (vI x :: S) σ dec (g x)) : GSim own cc nL ret d Sh ρ pc L st σ dec (bd1 o' g) := by
  obtain ⟨h1, h2, h3, T, N, h4⟩ := hv
  exact sim_callV h1 h2 h3 rfl h4 hs hK hn hdd hst hS8 hd (fun z => k z)
theorem sim_callSIp {o' : Option (Int)} {g : Int → Option Z} (hv : JSta own idx y cc' nL' ret' n) (hd : decode cc pc = .ok (.invokestatic idx, 3)) (hK : Call y cc' nL' ret' d' Sh ρ as σ (dIp σ) o') (hn : as.length = n) (hdd : d' + 1 ≤ d ∧ nL' ≤ 45) (hst : st = as.reverse ++ S) (hS8 : jwid S ≤ 8) (k : ∀ x, GSim own cc nL ret d Sh ρ (pc + 3) L (vI x :: S) σ dec (g x)) : GSim own cc nL ret d Sh ρ pc L st σ dec (bd1 o' g) :=
  sim_callS hv.1 hv.2 hK hn hdd hst hS8 hd (fun z => k z)
theorem sim_callVIm {ci q : Nat} {o' : Option (Int × JSg)} {g : Int → JSg → Option Z} (hv : JVir own idx y cc' nL' ret' n ci) (hs : Sh[q]? = some (.inl ci)) (hd : decode cc pc = .ok (.invokevirtual idx, 3)) (hK : Call y cc' nL' ret' d' Sh ρ (vR q :: as) σ (dIm) o') (hn : as.length = n) (hdd : d' + 1 ≤ d ∧ nL' ≤ 45) (hst : st = as.reverse ++ vR q :: S) (hS8 : jwid S ≤ 8) (k : ∀ x σ1, GSim own cc nL ret d Sh ρ (pc + 3) L (vI x :: S) σ1 dec (g x σ1)) : GSim own cc nL ret d Sh ρ pc L st σ dec (bd2 o' g) := by
  obtain ⟨h1, h2, h3, T, N, h4⟩ := hv
  exact sim_callV h1 h2 h3 rfl h4 hs hK hn hdd hst hS8 hd (fun z => k z.1 z.2)
theorem sim_callSIm {o' : Option (Int × JSg)} {g : Int → JSg → Option Z} (hv : JSta own idx y cc' nL' ret' n) (hd : decode cc pc = .ok (.invokestatic idx, 3)) (hK : Call y cc' nL' ret' d' Sh ρ as σ (dIm) o') (hn : as.length = n) (hdd : d' + 1 ≤ d ∧ nL' ≤ 45) (hst : st = as.reverse ++ S) (hS8 : jwid S ≤ 8) (k : ∀ x σ1, GSim own cc nL ret d Sh ρ (pc + 3) L (vI x :: S) σ1 dec (g x σ1)) : GSim own cc nL ret d Sh ρ pc L st σ dec (bd2 o' g) :=
  sim_callS hv.1 hv.2 hK hn hdd hst hS8 hd (fun z => k z.1 z.2)
theorem sim_callVLp {ci q : Nat} {o' : Option (Int)} {g : Int → Option Z} (hv : JVir own idx y cc' nL' ret' n ci) (hs : Sh[q]? = some (.inl ci)) (hd : decode cc pc = .ok (.invokevirtual idx, 3)) (hK : Call y cc' nL' ret' d' Sh ρ (vR q :: as) σ (dLp σ) o') (hn : as.length = n) (hdd : d' + 1 ≤ d ∧ nL' ≤ 45) (hst : st = as.reverse ++ vR q :: S) (hS8 : jwid S ≤ 8) (k : ∀ x, GSim own cc nL ret d Sh ρ (pc + 3) L (vL x :: S) σ dec (g x)) : GSim own cc nL ret d Sh ρ pc L st σ dec (bd1 o' g) := by
  obtain ⟨h1, h2, h3, T, N, h4⟩ := hv
  exact sim_callV h1 h2 h3 rfl h4 hs hK hn hdd hst hS8 hd (fun z => k z)
theorem sim_callSLp {o' : Option (Int)} {g : Int → Option Z} (hv : JSta own idx y cc' nL' ret' n) (hd : decode cc pc = .ok (.invokestatic idx, 3)) (hK : Call y cc' nL' ret' d' Sh ρ as σ (dLp σ) o') (hn : as.length = n) (hdd : d' + 1 ≤ d ∧ nL' ≤ 45) (hst : st = as.reverse ++ S) (hS8 : jwid S ≤ 8) (k : ∀ x, GSim own cc nL ret d Sh ρ (pc + 3) L (vL x :: S) σ dec (g x)) : GSim own cc nL ret d Sh ρ pc L st σ dec (bd1 o' g) :=
  sim_callS hv.1 hv.2 hK hn hdd hst hS8 hd (fun z => k z)
theorem sim_callVLm {ci q : Nat} {o' : Option (Int × JSg)} {g : Int → JSg → Option Z} (hv : JVir own idx y cc' nL' ret' n ci) (hs : Sh[q]? = some (.inl ci)) (hd : decode cc pc = .ok (.invokevirtual idx, 3)) (hK : Call y cc' nL' ret' d' Sh ρ (vR q :: as) σ (dLm) o') (hn : as.length = n) (hdd : d' + 1 ≤ d ∧ nL' ≤ 45) (hst : st = as.reverse ++ vR q :: S) (hS8 : jwid S ≤ 8) (k : ∀ x σ1, GSim own cc nL ret d Sh ρ (pc + 3) L (vL x :: S) σ1 dec (g x σ1)) : GSim own cc nL ret d Sh ρ pc L st σ dec (bd2 o' g) := by
  obtain ⟨h1, h2, h3, T, N, h4⟩ := hv
  exact sim_callV h1 h2 h3 rfl h4 hs hK hn hdd hst hS8 hd (fun z => k z.1 z.2)
theorem sim_callSLm {o' : Option (Int × JSg)} {g : Int → JSg → Option Z} (hv : JSta own idx y cc' nL' ret' n) (hd : decode cc pc = .ok (.invokestatic idx, 3)) (hK : Call y cc' nL' ret' d' Sh ρ as σ (dLm) o') (hn : as.length = n) (hdd : d' + 1 ≤ d ∧ nL' ≤ 45) (hst : st = as.reverse ++ S) (hS8 : jwid S ≤ 8) (k : ∀ x σ1, GSim own cc nL ret d Sh ρ (pc + 3) L (vL x :: S) σ1 dec (g x σ1)) : GSim own cc nL ret d Sh ρ pc L st σ dec (bd2 o' g) :=
  sim_callS hv.1 hv.2 hK hn hdd hst hS8 hd (fun z => k z.1 z.2)
theorem sim_callVVp {ci q : Nat} {o' : Option (Unit)} {g : Unit → Option Z} (hv : JVir own idx y cc' nL' ret' n ci) (hs : Sh[q]? = some (.inl ci)) (hd : decode cc pc = .ok (.invokevirtual idx, 3)) (hK : Call y cc' nL' ret' d' Sh ρ (vR q :: as) σ (dVp σ) o') (hn : as.length = n) (hdd : d' + 1 ≤ d ∧ nL' ≤ 45) (hst : st = as.reverse ++ vR q :: S) (hS8 : jwid S ≤ 8) (k : ∀ u, GSim own cc nL ret d Sh ρ (pc + 3) L S σ dec (g u)) : GSim own cc nL ret d Sh ρ pc L st σ dec (bd1 o' g) := by
  obtain ⟨h1, h2, h3, T, N, h4⟩ := hv
  exact sim_callV h1 h2 h3 rfl h4 hs hK hn hdd hst hS8 hd (fun z => k z)
theorem sim_callSVp {o' : Option (Unit)} {g : Unit → Option Z} (hv : JSta own idx y cc' nL' ret' n) (hd : decode cc pc = .ok (.invokestatic idx, 3)) (hK : Call y cc' nL' ret' d' Sh ρ as σ (dVp σ) o') (hn : as.length = n) (hdd : d' + 1 ≤ d ∧ nL' ≤ 45) (hst : st = as.reverse ++ S) (hS8 : jwid S ≤ 8) (k : ∀ u, GSim own cc nL ret d Sh ρ (pc + 3) L S σ dec (g u)) : GSim own cc nL ret d Sh ρ pc L st σ dec (bd1 o' g) :=
  sim_callS hv.1 hv.2 hK hn hdd hst hS8 hd (fun z => k z)
theorem sim_callVVm {ci q : Nat} {o' : Option (JSg)} {g : JSg → Option Z} (hv : JVir own idx y cc' nL' ret' n ci) (hs : Sh[q]? = some (.inl ci)) (hd : decode cc pc = .ok (.invokevirtual idx, 3)) (hK : Call y cc' nL' ret' d' Sh ρ (vR q :: as) σ (dVm) o') (hn : as.length = n) (hdd : d' + 1 ≤ d ∧ nL' ≤ 45) (hst : st = as.reverse ++ vR q :: S) (hS8 : jwid S ≤ 8) (k : ∀ σ1, GSim own cc nL ret d Sh ρ (pc + 3) L S σ1 dec (g σ1)) : GSim own cc nL ret d Sh ρ pc L st σ dec (bd1 o' g) := by
  obtain ⟨h1, h2, h3, T, N, h4⟩ := hv
  exact sim_callV h1 h2 h3 rfl h4 hs hK hn hdd hst hS8 hd (fun z => k z)
theorem sim_callSVm {o' : Option (JSg)} {g : JSg → Option Z} (hv : JSta own idx y cc' nL' ret' n) (hd : decode cc pc = .ok (.invokestatic idx, 3)) (hK : Call y cc' nL' ret' d' Sh ρ as σ (dVm) o') (hn : as.length = n) (hdd : d' + 1 ≤ d ∧ nL' ≤ 45) (hst : st = as.reverse ++ S) (hS8 : jwid S ≤ 8) (k : ∀ σ1, GSim own cc nL ret d Sh ρ (pc + 3) L S σ1 dec (g σ1)) : GSim own cc nL ret d Sh ρ pc L st σ dec (bd1 o' g) :=
  sim_callS hv.1 hv.2 hK hn hdd hst hS8 hd (fun z => k z)
end
def wh1 {A0 Z : Type} (n : Nat) (F : (A0 → Option Z) → A0 → Option Z) : A0 → Option Z := match n with
  | 0 => fun _ => none
  | n + 1 => F (wh1 n F)
theorem sim_wh1 {A0 Z : Type} {own : String} {cc : ByteArray} {nL : Nat} {ret : Option FieldType} {d : Nat} {Sh : JSh} {ρ : JRo} {pc : Nat} {dec : Z → JD} (L : A0 → List (Nat × JV)) (σ : A0 → JSg) {F : (A0 → Option Z) → A0 → Option Z}
    (body : ∀ rc : A0 → Option Z, (∀ (x0 : A0), GSim own cc nL ret d Sh ρ pc (L x0) [] (σ x0) dec (rc x0)) → ∀ (x0 : A0), GSim own cc nL ret d Sh ρ pc (L x0) [] (σ x0) dec (F rc x0)) : ∀ (n : Nat) (x0 : A0), GSim own cc nL ret d Sh ρ pc (L x0) [] (σ x0) dec (wh1 n F x0) := by
  intro n
  induction n with
  | zero => intro x0; exact sim_none
  | succ n ih => exact body _ ih
theorem wh1_run {A0 Z : Type} {F : (A0 → Option Z) → A0 → Option Z} (f0 : Nat → A0) (N : Nat) {r : Option Z} (hs : ∀ i, i < N → ∀ rc, F rc (f0 i) = rc (f0 (i + 1))) (hl : ∀ rc, F rc (f0 N) = r) : ∀ n, N < n → wh1 n F (f0 0) = r := by
  have key : ∀ j, j ≤ N → ∀ n, j < n → ∀ k, k + j = N → wh1 n F (f0 k) = r := by
    intro j
    induction j with
    | zero =>
      intro _ n hn k hk
      have e : k = N := by omega
      subst e
      obtain ⟨m, rfl⟩ : ∃ m, n = m + 1 := ⟨n - 1, by omega⟩
      exact hl _
    | succ j ih =>
      intro hj n hn k hk
      obtain ⟨m, rfl⟩ : ∃ m, n = m + 1 := ⟨n - 1, by omega⟩
      show F (wh1 m F) (f0 k) = r
      rw [hs k (by omega)]
      exact ih (by omega) m (by omega) (k + 1) (by omega)
  intro n hn
  exact key N (Nat.le_refl N) n hn 0 (by omega)
theorem wh1_inv {A0 Z : Type} {F : (A0 → Option Z) → A0 → Option Z} (I : A0 → Prop) (μ : A0 → Nat) {r : Option Z} (hs : ∀ (x0 : A0), I x0 → ∀ rc, (∀ (y0 : A0), I y0 → μ y0 < μ x0 → rc y0 = r) → F rc x0 = r) : ∀ (n : Nat) (x0 : A0), I x0 → μ x0 < n → wh1 n F x0 = r := by
  intro n
  induction n with
  | zero => intro x0 _ h; omega
  | succ n ih =>
    intro x0 hI hm
    exact hs x0 hI _ (fun y0 h1 h2 => ih y0 h1 (by omega))
def jn1 {A0 Z : Type} (K : A0 → Option Z) (T : (A0 → Option Z) → Option Z) : Option Z := T K
theorem sim_jn1 {A0 Z : Type} {own : String} {cc : ByteArray} {nL : Nat} {ret : Option FieldType} {d : Nat} {Sh : JSh} {ρ : JRo} {pc pc' : Nat} {dec : Z → JD} {L0 : List (Nat × JV)} {S0 : List JV} {σ0 : JSg} {K : A0 → Option Z} {T : (A0 → Option Z) → Option Z} (L : A0 → List (Nat × JV)) (S : A0 → List JV) (σ : A0 → JSg)
    (hK : ∀ (x0 : A0), GSim own cc nL ret d Sh ρ pc' (L x0) (S x0) (σ x0) dec (K x0)) (h : ∀ j : A0 → Option Z, (∀ (x0 : A0), GSim own cc nL ret d Sh ρ pc' (L x0) (S x0) (σ x0) dec (j x0)) → GSim own cc nL ret d Sh ρ pc L0 S0 σ0 dec (T j)) : GSim own cc nL ret d Sh ρ pc L0 S0 σ0 dec (jn1 K T) := h K hK
def wh2 {A0 A1 Z : Type} (n : Nat) (F : (A0 → A1 → Option Z) → A0 → A1 → Option Z) : A0 → A1 → Option Z := match n with
  | 0 => fun _ _ => none
  | n + 1 => F (wh2 n F)
theorem sim_wh2 {A0 A1 Z : Type} {own : String} {cc : ByteArray} {nL : Nat} {ret : Option FieldType} {d : Nat} {Sh : JSh} {ρ : JRo} {pc : Nat} {dec : Z → JD} (L : A0 → A1 → List (Nat × JV)) (σ : A0 → A1 → JSg) {F : (A0 → A1 → Option Z) → A0 → A1 → Option Z}
    (body : ∀ rc : A0 → A1 → Option Z, (∀ (x0 : A0) (x1 : A1), GSim own cc nL ret d Sh ρ pc (L x0 x1) [] (σ x0 x1) dec (rc x0 x1)) → ∀ (x0 : A0) (x1 : A1), GSim own cc nL ret d Sh ρ pc (L x0 x1) [] (σ x0 x1) dec (F rc x0 x1)) : ∀ (n : Nat) (x0 : A0) (x1 : A1), GSim own cc nL ret d Sh ρ pc (L x0 x1) [] (σ x0 x1) dec (wh2 n F x0 x1) := by
  intro n
  induction n with
  | zero => intro x0 x1; exact sim_none
  | succ n ih => exact body _ ih
theorem wh2_run {A0 A1 Z : Type} {F : (A0 → A1 → Option Z) → A0 → A1 → Option Z} (f0 : Nat → A0) (f1 : Nat → A1) (N : Nat) {r : Option Z} (hs : ∀ i, i < N → ∀ rc, F rc (f0 i) (f1 i) = rc (f0 (i + 1)) (f1 (i + 1))) (hl : ∀ rc, F rc (f0 N) (f1 N) = r) : ∀ n, N < n → wh2 n F (f0 0) (f1 0) = r := by
  have key : ∀ j, j ≤ N → ∀ n, j < n → ∀ k, k + j = N → wh2 n F (f0 k) (f1 k) = r := by
    intro j
    induction j with
    | zero =>
      intro _ n hn k hk
      have e : k = N := by omega
      subst e
      obtain ⟨m, rfl⟩ : ∃ m, n = m + 1 := ⟨n - 1, by omega⟩
      exact hl _
    | succ j ih =>
      intro hj n hn k hk
      obtain ⟨m, rfl⟩ : ∃ m, n = m + 1 := ⟨n - 1, by omega⟩
      show F (wh2 m F) (f0 k) (f1 k) = r
      rw [hs k (by omega)]
      exact ih (by omega) m (by omega) (k + 1) (by omega)
  intro n hn
  exact key N (Nat.le_refl N) n hn 0 (by omega)
theorem wh2_inv {A0 A1 Z : Type} {F : (A0 → A1 → Option Z) → A0 → A1 → Option Z} (I : A0 → A1 → Prop) (μ : A0 → A1 → Nat) {r : Option Z} (hs : ∀ (x0 : A0) (x1 : A1), I x0 x1 → ∀ rc, (∀ (y0 : A0) (y1 : A1), I y0 y1 → μ y0 y1 < μ x0 x1 → rc y0 y1 = r) → F rc x0 x1 = r) : ∀ (n : Nat) (x0 : A0) (x1 : A1), I x0 x1 → μ x0 x1 < n → wh2 n F x0 x1 = r := by
  intro n
  induction n with
  | zero => intro x0 x1 _ h; omega
  | succ n ih =>
    intro x0 x1 hI hm
    exact hs x0 x1 hI _ (fun y0 y1 h1 h2 => ih y0 y1 h1 (by omega))
def jn2 {A0 A1 Z : Type} (K : A0 → A1 → Option Z) (T : (A0 → A1 → Option Z) → Option Z) : Option Z := T K
theorem sim_jn2 {A0 A1 Z : Type} {own : String} {cc : ByteArray} {nL : Nat} {ret : Option FieldType} {d : Nat} {Sh : JSh} {ρ : JRo} {pc pc' : Nat} {dec : Z → JD} {L0 : List (Nat × JV)} {S0 : List JV} {σ0 : JSg} {K : A0 → A1 → Option Z} {T : (A0 → A1 → Option Z) → Option Z} (L : A0 → A1 → List (Nat × JV)) (S : A0 → A1 → List JV) (σ : A0 → A1 → JSg)
    (hK : ∀ (x0 : A0) (x1 : A1), GSim own cc nL ret d Sh ρ pc' (L x0 x1) (S x0 x1) (σ x0 x1) dec (K x0 x1)) (h : ∀ j : A0 → A1 → Option Z, (∀ (x0 : A0) (x1 : A1), GSim own cc nL ret d Sh ρ pc' (L x0 x1) (S x0 x1) (σ x0 x1) dec (j x0 x1)) → GSim own cc nL ret d Sh ρ pc L0 S0 σ0 dec (T j)) : GSim own cc nL ret d Sh ρ pc L0 S0 σ0 dec (jn2 K T) := h K hK
def wh3 {A0 A1 A2 Z : Type} (n : Nat) (F : (A0 → A1 → A2 → Option Z) → A0 → A1 → A2 → Option Z) : A0 → A1 → A2 → Option Z := match n with
  | 0 => fun _ _ _ => none
  | n + 1 => F (wh3 n F)
theorem sim_wh3 {A0 A1 A2 Z : Type} {own : String} {cc : ByteArray} {nL : Nat} {ret : Option FieldType} {d : Nat} {Sh : JSh} {ρ : JRo} {pc : Nat} {dec : Z → JD} (L : A0 → A1 → A2 → List (Nat × JV)) (σ : A0 → A1 → A2 → JSg) {F : (A0 → A1 → A2 → Option Z) → A0 → A1 → A2 → Option Z}
    (body : ∀ rc : A0 → A1 → A2 → Option Z, (∀ (x0 : A0) (x1 : A1) (x2 : A2), GSim own cc nL ret d Sh ρ pc (L x0 x1 x2) [] (σ x0 x1 x2) dec (rc x0 x1 x2)) → ∀ (x0 : A0) (x1 : A1) (x2 : A2), GSim own cc nL ret d Sh ρ pc (L x0 x1 x2) [] (σ x0 x1 x2) dec (F rc x0 x1 x2)) : ∀ (n : Nat) (x0 : A0) (x1 : A1) (x2 : A2), GSim own cc nL ret d Sh ρ pc (L x0 x1 x2) [] (σ x0 x1 x2) dec (wh3 n F x0 x1 x2) := by
  intro n
  induction n with
  | zero => intro x0 x1 x2; exact sim_none
  | succ n ih => exact body _ ih
theorem wh3_run {A0 A1 A2 Z : Type} {F : (A0 → A1 → A2 → Option Z) → A0 → A1 → A2 → Option Z} (f0 : Nat → A0) (f1 : Nat → A1) (f2 : Nat → A2) (N : Nat) {r : Option Z} (hs : ∀ i, i < N → ∀ rc, F rc (f0 i) (f1 i) (f2 i) = rc (f0 (i + 1)) (f1 (i + 1)) (f2 (i + 1))) (hl : ∀ rc, F rc (f0 N) (f1 N) (f2 N) = r) : ∀ n, N < n → wh3 n F (f0 0) (f1 0) (f2 0) = r := by
  have key : ∀ j, j ≤ N → ∀ n, j < n → ∀ k, k + j = N → wh3 n F (f0 k) (f1 k) (f2 k) = r := by
    intro j
    induction j with
    | zero =>
      intro _ n hn k hk
      have e : k = N := by omega
      subst e
      obtain ⟨m, rfl⟩ : ∃ m, n = m + 1 := ⟨n - 1, by omega⟩
      exact hl _
    | succ j ih =>
      intro hj n hn k hk
      obtain ⟨m, rfl⟩ : ∃ m, n = m + 1 := ⟨n - 1, by omega⟩
      show F (wh3 m F) (f0 k) (f1 k) (f2 k) = r
      rw [hs k (by omega)]
      exact ih (by omega) m (by omega) (k + 1) (by omega)
  intro n hn
  exact key N (Nat.le_refl N) n hn 0 (by omega)
theorem wh3_inv {A0 A1 A2 Z : Type} {F : (A0 → A1 → A2 → Option Z) → A0 → A1 → A2 → Option Z} (I : A0 → A1 → A2 → Prop) (μ : A0 → A1 → A2 → Nat) {r : Option Z} (hs : ∀ (x0 : A0) (x1 : A1) (x2 : A2), I x0 x1 x2 → ∀ rc, (∀ (y0 : A0) (y1 : A1) (y2 : A2), I y0 y1 y2 → μ y0 y1 y2 < μ x0 x1 x2 → rc y0 y1 y2 = r) → F rc x0 x1 x2 = r) : ∀ (n : Nat) (x0 : A0) (x1 : A1) (x2 : A2), I x0 x1 x2 → μ x0 x1 x2 < n → wh3 n F x0 x1 x2 = r := by
  intro n
  induction n with
  | zero => intro x0 x1 x2 _ h; omega
  | succ n ih =>
    intro x0 x1 x2 hI hm
    exact hs x0 x1 x2 hI _ (fun y0 y1 y2 h1 h2 => ih y0 y1 y2 h1 (by omega))
def jn3 {A0 A1 A2 Z : Type} (K : A0 → A1 → A2 → Option Z) (T : (A0 → A1 → A2 → Option Z) → Option Z) : Option Z := T K
theorem sim_jn3 {A0 A1 A2 Z : Type} {own : String} {cc : ByteArray} {nL : Nat} {ret : Option FieldType} {d : Nat} {Sh : JSh} {ρ : JRo} {pc pc' : Nat} {dec : Z → JD} {L0 : List (Nat × JV)} {S0 : List JV} {σ0 : JSg} {K : A0 → A1 → A2 → Option Z} {T : (A0 → A1 → A2 → Option Z) → Option Z} (L : A0 → A1 → A2 → List (Nat × JV)) (S : A0 → A1 → A2 → List JV) (σ : A0 → A1 → A2 → JSg)
    (hK : ∀ (x0 : A0) (x1 : A1) (x2 : A2), GSim own cc nL ret d Sh ρ pc' (L x0 x1 x2) (S x0 x1 x2) (σ x0 x1 x2) dec (K x0 x1 x2)) (h : ∀ j : A0 → A1 → A2 → Option Z, (∀ (x0 : A0) (x1 : A1) (x2 : A2), GSim own cc nL ret d Sh ρ pc' (L x0 x1 x2) (S x0 x1 x2) (σ x0 x1 x2) dec (j x0 x1 x2)) → GSim own cc nL ret d Sh ρ pc L0 S0 σ0 dec (T j)) : GSim own cc nL ret d Sh ρ pc L0 S0 σ0 dec (jn3 K T) := h K hK
def wh4 {A0 A1 A2 A3 Z : Type} (n : Nat) (F : (A0 → A1 → A2 → A3 → Option Z) → A0 → A1 → A2 → A3 → Option Z) : A0 → A1 → A2 → A3 → Option Z := match n with
  | 0 => fun _ _ _ _ => none
  | n + 1 => F (wh4 n F)
theorem sim_wh4 {A0 A1 A2 A3 Z : Type} {own : String} {cc : ByteArray} {nL : Nat} {ret : Option FieldType} {d : Nat} {Sh : JSh} {ρ : JRo} {pc : Nat} {dec : Z → JD} (L : A0 → A1 → A2 → A3 → List (Nat × JV)) (σ : A0 → A1 → A2 → A3 → JSg) {F : (A0 → A1 → A2 → A3 → Option Z) → A0 → A1 → A2 → A3 → Option Z}
    (body : ∀ rc : A0 → A1 → A2 → A3 → Option Z, (∀ (x0 : A0) (x1 : A1) (x2 : A2) (x3 : A3), GSim own cc nL ret d Sh ρ pc (L x0 x1 x2 x3) [] (σ x0 x1 x2 x3) dec (rc x0 x1 x2 x3)) → ∀ (x0 : A0) (x1 : A1) (x2 : A2) (x3 : A3), GSim own cc nL ret d Sh ρ pc (L x0 x1 x2 x3) [] (σ x0 x1 x2 x3) dec (F rc x0 x1 x2 x3)) : ∀ (n : Nat) (x0 : A0) (x1 : A1) (x2 : A2) (x3 : A3), GSim own cc nL ret d Sh ρ pc (L x0 x1 x2 x3) [] (σ x0 x1 x2 x3) dec (wh4 n F x0 x1 x2 x3) := by
  intro n
  induction n with
  | zero => intro x0 x1 x2 x3; exact sim_none
  | succ n ih => exact body _ ih
theorem wh4_run {A0 A1 A2 A3 Z : Type} {F : (A0 → A1 → A2 → A3 → Option Z) → A0 → A1 → A2 → A3 → Option Z} (f0 : Nat → A0) (f1 : Nat → A1) (f2 : Nat → A2) (f3 : Nat → A3) (N : Nat) {r : Option Z} (hs : ∀ i, i < N → ∀ rc, F rc (f0 i) (f1 i) (f2 i) (f3 i) = rc (f0 (i + 1)) (f1 (i + 1)) (f2 (i + 1)) (f3 (i + 1))) (hl : ∀ rc, F rc (f0 N) (f1 N) (f2 N) (f3 N) = r) : ∀ n, N < n → wh4 n F (f0 0) (f1 0) (f2 0) (f3 0) = r := by
  have key : ∀ j, j ≤ N → ∀ n, j < n → ∀ k, k + j = N → wh4 n F (f0 k) (f1 k) (f2 k) (f3 k) = r := by
    intro j
    induction j with
    | zero =>
      intro _ n hn k hk
      have e : k = N := by omega
      subst e
      obtain ⟨m, rfl⟩ : ∃ m, n = m + 1 := ⟨n - 1, by omega⟩
      exact hl _
    | succ j ih =>
      intro hj n hn k hk
      obtain ⟨m, rfl⟩ : ∃ m, n = m + 1 := ⟨n - 1, by omega⟩
      show F (wh4 m F) (f0 k) (f1 k) (f2 k) (f3 k) = r
      rw [hs k (by omega)]
      exact ih (by omega) m (by omega) (k + 1) (by omega)
  intro n hn
  exact key N (Nat.le_refl N) n hn 0 (by omega)
theorem wh4_inv {A0 A1 A2 A3 Z : Type} {F : (A0 → A1 → A2 → A3 → Option Z) → A0 → A1 → A2 → A3 → Option Z} (I : A0 → A1 → A2 → A3 → Prop) (μ : A0 → A1 → A2 → A3 → Nat) {r : Option Z} (hs : ∀ (x0 : A0) (x1 : A1) (x2 : A2) (x3 : A3), I x0 x1 x2 x3 → ∀ rc, (∀ (y0 : A0) (y1 : A1) (y2 : A2) (y3 : A3), I y0 y1 y2 y3 → μ y0 y1 y2 y3 < μ x0 x1 x2 x3 → rc y0 y1 y2 y3 = r) → F rc x0 x1 x2 x3 = r) : ∀ (n : Nat) (x0 : A0) (x1 : A1) (x2 : A2) (x3 : A3), I x0 x1 x2 x3 → μ x0 x1 x2 x3 < n → wh4 n F x0 x1 x2 x3 = r := by
  intro n
  induction n with
  | zero => intro x0 x1 x2 x3 _ h; omega
  | succ n ih =>
    intro x0 x1 x2 x3 hI hm
    exact hs x0 x1 x2 x3 hI _ (fun y0 y1 y2 y3 h1 h2 => ih y0 y1 y2 y3 h1 (by omega))
def jn4 {A0 A1 A2 A3 Z : Type} (K : A0 → A1 → A2 → A3 → Option Z) (T : (A0 → A1 → A2 → A3 → Option Z) → Option Z) : Option Z := T K
theorem sim_jn4 {A0 A1 A2 A3 Z : Type} {own : String} {cc : ByteArray} {nL : Nat} {ret : Option FieldType} {d : Nat} {Sh : JSh} {ρ : JRo} {pc pc' : Nat} {dec : Z → JD} {L0 : List (Nat × JV)} {S0 : List JV} {σ0 : JSg} {K : A0 → A1 → A2 → A3 → Option Z} {T : (A0 → A1 → A2 → A3 → Option Z) → Option Z} (L : A0 → A1 → A2 → A3 → List (Nat × JV)) (S : A0 → A1 → A2 → A3 → List JV) (σ : A0 → A1 → A2 → A3 → JSg)
    (hK : ∀ (x0 : A0) (x1 : A1) (x2 : A2) (x3 : A3), GSim own cc nL ret d Sh ρ pc' (L x0 x1 x2 x3) (S x0 x1 x2 x3) (σ x0 x1 x2 x3) dec (K x0 x1 x2 x3)) (h : ∀ j : A0 → A1 → A2 → A3 → Option Z, (∀ (x0 : A0) (x1 : A1) (x2 : A2) (x3 : A3), GSim own cc nL ret d Sh ρ pc' (L x0 x1 x2 x3) (S x0 x1 x2 x3) (σ x0 x1 x2 x3) dec (j x0 x1 x2 x3)) → GSim own cc nL ret d Sh ρ pc L0 S0 σ0 dec (T j)) : GSim own cc nL ret d Sh ρ pc L0 S0 σ0 dec (jn4 K T) := h K hK
def wh5 {A0 A1 A2 A3 A4 Z : Type} (n : Nat) (F : (A0 → A1 → A2 → A3 → A4 → Option Z) → A0 → A1 → A2 → A3 → A4 → Option Z) : A0 → A1 → A2 → A3 → A4 → Option Z := match n with
  | 0 => fun _ _ _ _ _ => none
  | n + 1 => F (wh5 n F)
theorem sim_wh5 {A0 A1 A2 A3 A4 Z : Type} {own : String} {cc : ByteArray} {nL : Nat} {ret : Option FieldType} {d : Nat} {Sh : JSh} {ρ : JRo} {pc : Nat} {dec : Z → JD} (L : A0 → A1 → A2 → A3 → A4 → List (Nat × JV)) (σ : A0 → A1 → A2 → A3 → A4 → JSg) {F : (A0 → A1 → A2 → A3 → A4 → Option Z) → A0 → A1 → A2 → A3 → A4 → Option Z}
    (body : ∀ rc : A0 → A1 → A2 → A3 → A4 → Option Z, (∀ (x0 : A0) (x1 : A1) (x2 : A2) (x3 : A3) (x4 : A4), GSim own cc nL ret d Sh ρ pc (L x0 x1 x2 x3 x4) [] (σ x0 x1 x2 x3 x4) dec (rc x0 x1 x2 x3 x4)) → ∀ (x0 : A0) (x1 : A1) (x2 : A2) (x3 : A3) (x4 : A4), GSim own cc nL ret d Sh ρ pc (L x0 x1 x2 x3 x4) [] (σ x0 x1 x2 x3 x4) dec (F rc x0 x1 x2 x3 x4)) : ∀ (n : Nat) (x0 : A0) (x1 : A1) (x2 : A2) (x3 : A3) (x4 : A4), GSim own cc nL ret d Sh ρ pc (L x0 x1 x2 x3 x4) [] (σ x0 x1 x2 x3 x4) dec (wh5 n F x0 x1 x2 x3 x4) := by
  intro n
  induction n with
  | zero => intro x0 x1 x2 x3 x4; exact sim_none
  | succ n ih => exact body _ ih
theorem wh5_run {A0 A1 A2 A3 A4 Z : Type} {F : (A0 → A1 → A2 → A3 → A4 → Option Z) → A0 → A1 → A2 → A3 → A4 → Option Z} (f0 : Nat → A0) (f1 : Nat → A1) (f2 : Nat → A2) (f3 : Nat → A3) (f4 : Nat → A4) (N : Nat) {r : Option Z} (hs : ∀ i, i < N → ∀ rc, F rc (f0 i) (f1 i) (f2 i) (f3 i) (f4 i) = rc (f0 (i + 1)) (f1 (i + 1)) (f2 (i + 1)) (f3 (i + 1)) (f4 (i + 1))) (hl : ∀ rc, F rc (f0 N) (f1 N) (f2 N) (f3 N) (f4 N) = r) : ∀ n, N < n → wh5 n F (f0 0) (f1 0) (f2 0) (f3 0) (f4 0) = r := by
  have key : ∀ j, j ≤ N → ∀ n, j < n → ∀ k, k + j = N → wh5 n F (f0 k) (f1 k) (f2 k) (f3 k) (f4 k) = r := by
    intro j
    induction j with
    | zero =>
      intro _ n hn k hk
      have e : k = N := by omega
      subst e
      obtain ⟨m, rfl⟩ : ∃ m, n = m + 1 := ⟨n - 1, by omega⟩
      exact hl _
    | succ j ih =>
      intro hj n hn k hk
      obtain ⟨m, rfl⟩ : ∃ m, n = m + 1 := ⟨n - 1, by omega⟩
      show F (wh5 m F) (f0 k) (f1 k) (f2 k) (f3 k) (f4 k) = r
      rw [hs k (by omega)]
      exact ih (by omega) m (by omega) (k + 1) (by omega)
  intro n hn
  exact key N (Nat.le_refl N) n hn 0 (by omega)
theorem wh5_inv {A0 A1 A2 A3 A4 Z : Type} {F : (A0 → A1 → A2 → A3 → A4 → Option Z) → A0 → A1 → A2 → A3 → A4 → Option Z} (I : A0 → A1 → A2 → A3 → A4 → Prop) (μ : A0 → A1 → A2 → A3 → A4 → Nat) {r : Option Z} (hs : ∀ (x0 : A0) (x1 : A1) (x2 : A2) (x3 : A3) (x4 : A4), I x0 x1 x2 x3 x4 → ∀ rc, (∀ (y0 : A0) (y1 : A1) (y2 : A2) (y3 : A3) (y4 : A4), I y0 y1 y2 y3 y4 → μ y0 y1 y2 y3 y4 < μ x0 x1 x2 x3 x4 → rc y0 y1 y2 y3 y4 = r) → F rc x0 x1 x2 x3 x4 = r) : ∀ (n : Nat) (x0 : A0) (x1 : A1) (x2 : A2) (x3 : A3) (x4 : A4), I x0 x1 x2 x3 x4 → μ x0 x1 x2 x3 x4 < n → wh5 n F x0 x1 x2 x3 x4 = r := by
  intro n
  induction n with
  | zero => intro x0 x1 x2 x3 x4 _ h; omega
  | succ n ih =>
    intro x0 x1 x2 x3 x4 hI hm
    exact hs x0 x1 x2 x3 x4 hI _ (fun y0 y1 y2 y3 y4 h1 h2 => ih y0 y1 y2 y3 y4 h1 (by omega))
def jn5 {A0 A1 A2 A3 A4 Z : Type} (K : A0 → A1 → A2 → A3 → A4 → Option Z) (T : (A0 → A1 → A2 → A3 → A4 → Option Z) → Option Z) : Option Z := T K
theorem sim_jn5 {A0 A1 A2 A3 A4 Z : Type} {own : String} {cc : ByteArray} {nL : Nat} {ret : Option FieldType} {d : Nat} {Sh : JSh} {ρ : JRo} {pc pc' : Nat} {dec : Z → JD} {L0 : List (Nat × JV)} {S0 : List JV} {σ0 : JSg} {K : A0 → A1 → A2 → A3 → A4 → Option Z} {T : (A0 → A1 → A2 → A3 → A4 → Option Z) → Option Z} (L : A0 → A1 → A2 → A3 → A4 → List (Nat × JV)) (S : A0 → A1 → A2 → A3 → A4 → List JV) (σ : A0 → A1 → A2 → A3 → A4 → JSg)
    (hK : ∀ (x0 : A0) (x1 : A1) (x2 : A2) (x3 : A3) (x4 : A4), GSim own cc nL ret d Sh ρ pc' (L x0 x1 x2 x3 x4) (S x0 x1 x2 x3 x4) (σ x0 x1 x2 x3 x4) dec (K x0 x1 x2 x3 x4)) (h : ∀ j : A0 → A1 → A2 → A3 → A4 → Option Z, (∀ (x0 : A0) (x1 : A1) (x2 : A2) (x3 : A3) (x4 : A4), GSim own cc nL ret d Sh ρ pc' (L x0 x1 x2 x3 x4) (S x0 x1 x2 x3 x4) (σ x0 x1 x2 x3 x4) dec (j x0 x1 x2 x3 x4)) → GSim own cc nL ret d Sh ρ pc L0 S0 σ0 dec (T j)) : GSim own cc nL ret d Sh ρ pc L0 S0 σ0 dec (jn5 K T) := h K hK
def wh6 {A0 A1 A2 A3 A4 A5 Z : Type} (n : Nat) (F : (A0 → A1 → A2 → A3 → A4 → A5 → Option Z) → A0 → A1 → A2 → A3 → A4 → A5 → Option Z) : A0 → A1 → A2 → A3 → A4 → A5 → Option Z := match n with
  | 0 => fun _ _ _ _ _ _ => none
  | n + 1 => F (wh6 n F)
theorem sim_wh6 {A0 A1 A2 A3 A4 A5 Z : Type} {own : String} {cc : ByteArray} {nL : Nat} {ret : Option FieldType} {d : Nat} {Sh : JSh} {ρ : JRo} {pc : Nat} {dec : Z → JD} (L : A0 → A1 → A2 → A3 → A4 → A5 → List (Nat × JV)) (σ : A0 → A1 → A2 → A3 → A4 → A5 → JSg) {F : (A0 → A1 → A2 → A3 → A4 → A5 → Option Z) → A0 → A1 → A2 → A3 → A4 → A5 → Option Z}
    (body : ∀ rc : A0 → A1 → A2 → A3 → A4 → A5 → Option Z, (∀ (x0 : A0) (x1 : A1) (x2 : A2) (x3 : A3) (x4 : A4) (x5 : A5), GSim own cc nL ret d Sh ρ pc (L x0 x1 x2 x3 x4 x5) [] (σ x0 x1 x2 x3 x4 x5) dec (rc x0 x1 x2 x3 x4 x5)) → ∀ (x0 : A0) (x1 : A1) (x2 : A2) (x3 : A3) (x4 : A4) (x5 : A5), GSim own cc nL ret d Sh ρ pc (L x0 x1 x2 x3 x4 x5) [] (σ x0 x1 x2 x3 x4 x5) dec (F rc x0 x1 x2 x3 x4 x5)) : ∀ (n : Nat) (x0 : A0) (x1 : A1) (x2 : A2) (x3 : A3) (x4 : A4) (x5 : A5), GSim own cc nL ret d Sh ρ pc (L x0 x1 x2 x3 x4 x5) [] (σ x0 x1 x2 x3 x4 x5) dec (wh6 n F x0 x1 x2 x3 x4 x5) := by
  intro n
  induction n with
  | zero => intro x0 x1 x2 x3 x4 x5; exact sim_none
  | succ n ih => exact body _ ih
theorem wh6_run {A0 A1 A2 A3 A4 A5 Z : Type} {F : (A0 → A1 → A2 → A3 → A4 → A5 → Option Z) → A0 → A1 → A2 → A3 → A4 → A5 → Option Z} (f0 : Nat → A0) (f1 : Nat → A1) (f2 : Nat → A2) (f3 : Nat → A3) (f4 : Nat → A4) (f5 : Nat → A5) (N : Nat) {r : Option Z} (hs : ∀ i, i < N → ∀ rc, F rc (f0 i) (f1 i) (f2 i) (f3 i) (f4 i) (f5 i) = rc (f0 (i + 1)) (f1 (i + 1)) (f2 (i + 1)) (f3 (i + 1)) (f4 (i + 1)) (f5 (i + 1))) (hl : ∀ rc, F rc (f0 N) (f1 N) (f2 N) (f3 N) (f4 N) (f5 N) = r) : ∀ n, N < n → wh6 n F (f0 0) (f1 0) (f2 0) (f3 0) (f4 0) (f5 0) = r := by
  have key : ∀ j, j ≤ N → ∀ n, j < n → ∀ k, k + j = N → wh6 n F (f0 k) (f1 k) (f2 k) (f3 k) (f4 k) (f5 k) = r := by
    intro j
    induction j with
    | zero =>
      intro _ n hn k hk
      have e : k = N := by omega
      subst e
      obtain ⟨m, rfl⟩ : ∃ m, n = m + 1 := ⟨n - 1, by omega⟩
      exact hl _
    | succ j ih =>
      intro hj n hn k hk
      obtain ⟨m, rfl⟩ : ∃ m, n = m + 1 := ⟨n - 1, by omega⟩
      show F (wh6 m F) (f0 k) (f1 k) (f2 k) (f3 k) (f4 k) (f5 k) = r
      rw [hs k (by omega)]
      exact ih (by omega) m (by omega) (k + 1) (by omega)
  intro n hn
  exact key N (Nat.le_refl N) n hn 0 (by omega)
theorem wh6_inv {A0 A1 A2 A3 A4 A5 Z : Type} {F : (A0 → A1 → A2 → A3 → A4 → A5 → Option Z) → A0 → A1 → A2 → A3 → A4 → A5 → Option Z} (I : A0 → A1 → A2 → A3 → A4 → A5 → Prop) (μ : A0 → A1 → A2 → A3 → A4 → A5 → Nat) {r : Option Z} (hs : ∀ (x0 : A0) (x1 : A1) (x2 : A2) (x3 : A3) (x4 : A4) (x5 : A5), I x0 x1 x2 x3 x4 x5 → ∀ rc, (∀ (y0 : A0) (y1 : A1) (y2 : A2) (y3 : A3) (y4 : A4) (y5 : A5), I y0 y1 y2 y3 y4 y5 → μ y0 y1 y2 y3 y4 y5 < μ x0 x1 x2 x3 x4 x5 → rc y0 y1 y2 y3 y4 y5 = r) → F rc x0 x1 x2 x3 x4 x5 = r) : ∀ (n : Nat) (x0 : A0) (x1 : A1) (x2 : A2) (x3 : A3) (x4 : A4) (x5 : A5), I x0 x1 x2 x3 x4 x5 → μ x0 x1 x2 x3 x4 x5 < n → wh6 n F x0 x1 x2 x3 x4 x5 = r := by
  intro n
  induction n with
  | zero => intro x0 x1 x2 x3 x4 x5 _ h; omega
  | succ n ih =>
    intro x0 x1 x2 x3 x4 x5 hI hm
    exact hs x0 x1 x2 x3 x4 x5 hI _ (fun y0 y1 y2 y3 y4 y5 h1 h2 => ih y0 y1 y2 y3 y4 y5 h1 (by omega))
def jn6 {A0 A1 A2 A3 A4 A5 Z : Type} (K : A0 → A1 → A2 → A3 → A4 → A5 → Option Z) (T : (A0 → A1 → A2 → A3 → A4 → A5 → Option Z) → Option Z) : Option Z := T K
theorem sim_jn6 {A0 A1 A2 A3 A4 A5 Z : Type} {own : String} {cc : ByteArray} {nL : Nat} {ret : Option FieldType} {d : Nat} {Sh : JSh} {ρ : JRo} {pc pc' : Nat} {dec : Z → JD} {L0 : List (Nat × JV)} {S0 : List JV} {σ0 : JSg} {K : A0 → A1 → A2 → A3 → A4 → A5 → Option Z} {T : (A0 → A1 → A2 → A3 → A4 → A5 → Option Z) → Option Z} (L : A0 → A1 → A2 → A3 → A4 → A5 → List (Nat × JV)) (S : A0 → A1 → A2 → A3 → A4 → A5 → List JV) (σ : A0 → A1 → A2 → A3 → A4 → A5 → JSg)
    (hK : ∀ (x0 : A0) (x1 : A1) (x2 : A2) (x3 : A3) (x4 : A4) (x5 : A5), GSim own cc nL ret d Sh ρ pc' (L x0 x1 x2 x3 x4 x5) (S x0 x1 x2 x3 x4 x5) (σ x0 x1 x2 x3 x4 x5) dec (K x0 x1 x2 x3 x4 x5)) (h : ∀ j : A0 → A1 → A2 → A3 → A4 → A5 → Option Z, (∀ (x0 : A0) (x1 : A1) (x2 : A2) (x3 : A3) (x4 : A4) (x5 : A5), GSim own cc nL ret d Sh ρ pc' (L x0 x1 x2 x3 x4 x5) (S x0 x1 x2 x3 x4 x5) (σ x0 x1 x2 x3 x4 x5) dec (j x0 x1 x2 x3 x4 x5)) → GSim own cc nL ret d Sh ρ pc L0 S0 σ0 dec (T j)) : GSim own cc nL ret d Sh ρ pc L0 S0 σ0 dec (jn6 K T) := h K hK
def wh7 {A0 A1 A2 A3 A4 A5 A6 Z : Type} (n : Nat) (F : (A0 → A1 → A2 → A3 → A4 → A5 → A6 → Option Z) → A0 → A1 → A2 → A3 → A4 → A5 → A6 → Option Z) : A0 → A1 → A2 → A3 → A4 → A5 → A6 → Option Z := match n with
  | 0 => fun _ _ _ _ _ _ _ => none
  | n + 1 => F (wh7 n F)
theorem sim_wh7 {A0 A1 A2 A3 A4 A5 A6 Z : Type} {own : String} {cc : ByteArray} {nL : Nat} {ret : Option FieldType} {d : Nat} {Sh : JSh} {ρ : JRo} {pc : Nat} {dec : Z → JD} (L : A0 → A1 → A2 → A3 → A4 → A5 → A6 → List (Nat × JV)) (σ : A0 → A1 → A2 → A3 → A4 → A5 → A6 → JSg) {F : (A0 → A1 → A2 → A3 → A4 → A5 → A6 → Option Z) → A0 → A1 → A2 → A3 → A4 → A5 → A6 → Option Z}
    (body : ∀ rc : A0 → A1 → A2 → A3 → A4 → A5 → A6 → Option Z, (∀ (x0 : A0) (x1 : A1) (x2 : A2) (x3 : A3) (x4 : A4) (x5 : A5) (x6 : A6), GSim own cc nL ret d Sh ρ pc (L x0 x1 x2 x3 x4 x5 x6) [] (σ x0 x1 x2 x3 x4 x5 x6) dec (rc x0 x1 x2 x3 x4 x5 x6)) → ∀ (x0 : A0) (x1 : A1) (x2 : A2) (x3 : A3) (x4 : A4) (x5 : A5) (x6 : A6), GSim own cc nL ret d Sh ρ pc (L x0 x1 x2 x3 x4 x5 x6) [] (σ x0 x1 x2 x3 x4 x5 x6) dec (F rc x0 x1 x2 x3 x4 x5 x6)) : ∀ (n : Nat) (x0 : A0) (x1 : A1) (x2 : A2) (x3 : A3) (x4 : A4) (x5 : A5) (x6 : A6), GSim own cc nL ret d Sh ρ pc (L x0 x1 x2 x3 x4 x5 x6) [] (σ x0 x1 x2 x3 x4 x5 x6) dec (wh7 n F x0 x1 x2 x3 x4 x5 x6) := by
  intro n
  induction n with
  | zero => intro x0 x1 x2 x3 x4 x5 x6; exact sim_none
  | succ n ih => exact body _ ih
theorem wh7_run {A0 A1 A2 A3 A4 A5 A6 Z : Type} {F : (A0 → A1 → A2 → A3 → A4 → A5 → A6 → Option Z) → A0 → A1 → A2 → A3 → A4 → A5 → A6 → Option Z} (f0 : Nat → A0) (f1 : Nat → A1) (f2 : Nat → A2) (f3 : Nat → A3) (f4 : Nat → A4) (f5 : Nat → A5) (f6 : Nat → A6) (N : Nat) {r : Option Z} (hs : ∀ i, i < N → ∀ rc, F rc (f0 i) (f1 i) (f2 i) (f3 i) (f4 i) (f5 i) (f6 i) = rc (f0 (i + 1)) (f1 (i + 1)) (f2 (i + 1)) (f3 (i + 1)) (f4 (i + 1)) (f5 (i + 1)) (f6 (i + 1))) (hl : ∀ rc, F rc (f0 N) (f1 N) (f2 N) (f3 N) (f4 N) (f5 N) (f6 N) = r) : ∀ n, N < n → wh7 n F (f0 0) (f1 0) (f2 0) (f3 0) (f4 0) (f5 0) (f6 0) = r := by
  have key : ∀ j, j ≤ N → ∀ n, j < n → ∀ k, k + j = N → wh7 n F (f0 k) (f1 k) (f2 k) (f3 k) (f4 k) (f5 k) (f6 k) = r := by
    intro j
    induction j with
    | zero =>
      intro _ n hn k hk
      have e : k = N := by omega
      subst e
      obtain ⟨m, rfl⟩ : ∃ m, n = m + 1 := ⟨n - 1, by omega⟩
      exact hl _
    | succ j ih =>
      intro hj n hn k hk
      obtain ⟨m, rfl⟩ : ∃ m, n = m + 1 := ⟨n - 1, by omega⟩
      show F (wh7 m F) (f0 k) (f1 k) (f2 k) (f3 k) (f4 k) (f5 k) (f6 k) = r
      rw [hs k (by omega)]
      exact ih (by omega) m (by omega) (k + 1) (by omega)
  intro n hn
  exact key N (Nat.le_refl N) n hn 0 (by omega)
theorem wh7_inv {A0 A1 A2 A3 A4 A5 A6 Z : Type} {F : (A0 → A1 → A2 → A3 → A4 → A5 → A6 → Option Z) → A0 → A1 → A2 → A3 → A4 → A5 → A6 → Option Z} (I : A0 → A1 → A2 → A3 → A4 → A5 → A6 → Prop) (μ : A0 → A1 → A2 → A3 → A4 → A5 → A6 → Nat) {r : Option Z} (hs : ∀ (x0 : A0) (x1 : A1) (x2 : A2) (x3 : A3) (x4 : A4) (x5 : A5) (x6 : A6), I x0 x1 x2 x3 x4 x5 x6 → ∀ rc, (∀ (y0 : A0) (y1 : A1) (y2 : A2) (y3 : A3) (y4 : A4) (y5 : A5) (y6 : A6), I y0 y1 y2 y3 y4 y5 y6 → μ y0 y1 y2 y3 y4 y5 y6 < μ x0 x1 x2 x3 x4 x5 x6 → rc y0 y1 y2 y3 y4 y5 y6 = r) → F rc x0 x1 x2 x3 x4 x5 x6 = r) : ∀ (n : Nat) (x0 : A0) (x1 : A1) (x2 : A2) (x3 : A3) (x4 : A4) (x5 : A5) (x6 : A6), I x0 x1 x2 x3 x4 x5 x6 → μ x0 x1 x2 x3 x4 x5 x6 < n → wh7 n F x0 x1 x2 x3 x4 x5 x6 = r := by
  intro n
  induction n with
  | zero => intro x0 x1 x2 x3 x4 x5 x6 _ h; omega
  | succ n ih =>
    intro x0 x1 x2 x3 x4 x5 x6 hI hm
    exact hs x0 x1 x2 x3 x4 x5 x6 hI _ (fun y0 y1 y2 y3 y4 y5 y6 h1 h2 => ih y0 y1 y2 y3 y4 y5 y6 h1 (by omega))
def jn7 {A0 A1 A2 A3 A4 A5 A6 Z : Type} (K : A0 → A1 → A2 → A3 → A4 → A5 → A6 → Option Z) (T : (A0 → A1 → A2 → A3 → A4 → A5 → A6 → Option Z) → Option Z) : Option Z := T K
theorem sim_jn7 {A0 A1 A2 A3 A4 A5 A6 Z : Type} {own : String} {cc : ByteArray} {nL : Nat} {ret : Option FieldType} {d : Nat} {Sh : JSh} {ρ : JRo} {pc pc' : Nat} {dec : Z → JD} {L0 : List (Nat × JV)} {S0 : List JV} {σ0 : JSg} {K : A0 → A1 → A2 → A3 → A4 → A5 → A6 → Option Z} {T : (A0 → A1 → A2 → A3 → A4 → A5 → A6 → Option Z) → Option Z} (L : A0 → A1 → A2 → A3 → A4 → A5 → A6 → List (Nat × JV)) (S : A0 → A1 → A2 → A3 → A4 → A5 → A6 → List JV) (σ : A0 → A1 → A2 → A3 → A4 → A5 → A6 → JSg)
    (hK : ∀ (x0 : A0) (x1 : A1) (x2 : A2) (x3 : A3) (x4 : A4) (x5 : A5) (x6 : A6), GSim own cc nL ret d Sh ρ pc' (L x0 x1 x2 x3 x4 x5 x6) (S x0 x1 x2 x3 x4 x5 x6) (σ x0 x1 x2 x3 x4 x5 x6) dec (K x0 x1 x2 x3 x4 x5 x6)) (h : ∀ j : A0 → A1 → A2 → A3 → A4 → A5 → A6 → Option Z, (∀ (x0 : A0) (x1 : A1) (x2 : A2) (x3 : A3) (x4 : A4) (x5 : A5) (x6 : A6), GSim own cc nL ret d Sh ρ pc' (L x0 x1 x2 x3 x4 x5 x6) (S x0 x1 x2 x3 x4 x5 x6) (σ x0 x1 x2 x3 x4 x5 x6) dec (j x0 x1 x2 x3 x4 x5 x6)) → GSim own cc nL ret d Sh ρ pc L0 S0 σ0 dec (T j)) : GSim own cc nL ret d Sh ρ pc L0 S0 σ0 dec (jn7 K T) := h K hK
def wh8 {A0 A1 A2 A3 A4 A5 A6 A7 Z : Type} (n : Nat) (F : (A0 → A1 → A2 → A3 → A4 → A5 → A6 → A7 → Option Z) → A0 → A1 → A2 → A3 → A4 → A5 → A6 → A7 → Option Z) : A0 → A1 → A2 → A3 → A4 → A5 → A6 → A7 → Option Z := match n with
  | 0 => fun _ _ _ _ _ _ _ _ => none
  | n + 1 => F (wh8 n F)
theorem sim_wh8 {A0 A1 A2 A3 A4 A5 A6 A7 Z : Type} {own : String} {cc : ByteArray} {nL : Nat} {ret : Option FieldType} {d : Nat} {Sh : JSh} {ρ : JRo} {pc : Nat} {dec : Z → JD} (L : A0 → A1 → A2 → A3 → A4 → A5 → A6 → A7 → List (Nat × JV)) (σ : A0 → A1 → A2 → A3 → A4 → A5 → A6 → A7 → JSg) {F : (A0 → A1 → A2 → A3 → A4 → A5 → A6 → A7 → Option Z) → A0 → A1 → A2 → A3 → A4 → A5 → A6 → A7 → Option Z}
    (body : ∀ rc : A0 → A1 → A2 → A3 → A4 → A5 → A6 → A7 → Option Z, (∀ (x0 : A0) (x1 : A1) (x2 : A2) (x3 : A3) (x4 : A4) (x5 : A5) (x6 : A6) (x7 : A7), GSim own cc nL ret d Sh ρ pc (L x0 x1 x2 x3 x4 x5 x6 x7) [] (σ x0 x1 x2 x3 x4 x5 x6 x7) dec (rc x0 x1 x2 x3 x4 x5 x6 x7)) → ∀ (x0 : A0) (x1 : A1) (x2 : A2) (x3 : A3) (x4 : A4) (x5 : A5) (x6 : A6) (x7 : A7), GSim own cc nL ret d Sh ρ pc (L x0 x1 x2 x3 x4 x5 x6 x7) [] (σ x0 x1 x2 x3 x4 x5 x6 x7) dec (F rc x0 x1 x2 x3 x4 x5 x6 x7)) : ∀ (n : Nat) (x0 : A0) (x1 : A1) (x2 : A2) (x3 : A3) (x4 : A4) (x5 : A5) (x6 : A6) (x7 : A7), GSim own cc nL ret d Sh ρ pc (L x0 x1 x2 x3 x4 x5 x6 x7) [] (σ x0 x1 x2 x3 x4 x5 x6 x7) dec (wh8 n F x0 x1 x2 x3 x4 x5 x6 x7) := by
  intro n
  induction n with
  | zero => intro x0 x1 x2 x3 x4 x5 x6 x7; exact sim_none
  | succ n ih => exact body _ ih
theorem wh8_run {A0 A1 A2 A3 A4 A5 A6 A7 Z : Type} {F : (A0 → A1 → A2 → A3 → A4 → A5 → A6 → A7 → Option Z) → A0 → A1 → A2 → A3 → A4 → A5 → A6 → A7 → Option Z} (f0 : Nat → A0) (f1 : Nat → A1) (f2 : Nat → A2) (f3 : Nat → A3) (f4 : Nat → A4) (f5 : Nat → A5) (f6 : Nat → A6) (f7 : Nat → A7) (N : Nat) {r : Option Z} (hs : ∀ i, i < N → ∀ rc, F rc (f0 i) (f1 i) (f2 i) (f3 i) (f4 i) (f5 i) (f6 i) (f7 i) = rc (f0 (i + 1)) (f1 (i + 1)) (f2 (i + 1)) (f3 (i + 1)) (f4 (i + 1)) (f5 (i + 1)) (f6 (i + 1)) (f7 (i + 1))) (hl : ∀ rc, F rc (f0 N) (f1 N) (f2 N) (f3 N) (f4 N) (f5 N) (f6 N) (f7 N) = r) : ∀ n, N < n → wh8 n F (f0 0) (f1 0) (f2 0) (f3 0) (f4 0) (f5 0) (f6 0) (f7 0) = r := by
  have key : ∀ j, j ≤ N → ∀ n, j < n → ∀ k, k + j = N → wh8 n F (f0 k) (f1 k) (f2 k) (f3 k) (f4 k) (f5 k) (f6 k) (f7 k) = r := by
    intro j
    induction j with
    | zero =>
      intro _ n hn k hk
      have e : k = N := by omega
      subst e
      obtain ⟨m, rfl⟩ : ∃ m, n = m + 1 := ⟨n - 1, by omega⟩
      exact hl _
    | succ j ih =>
      intro hj n hn k hk
      obtain ⟨m, rfl⟩ : ∃ m, n = m + 1 := ⟨n - 1, by omega⟩
      show F (wh8 m F) (f0 k) (f1 k) (f2 k) (f3 k) (f4 k) (f5 k) (f6 k) (f7 k) = r
      rw [hs k (by omega)]
      exact ih (by omega) m (by omega) (k + 1) (by omega)
  intro n hn
  exact key N (Nat.le_refl N) n hn 0 (by omega)
theorem wh8_inv {A0 A1 A2 A3 A4 A5 A6 A7 Z : Type} {F : (A0 → A1 → A2 → A3 → A4 → A5 → A6 → A7 → Option Z) → A0 → A1 → A2 → A3 → A4 → A5 → A6 → A7 → Option Z} (I : A0 → A1 → A2 → A3 → A4 → A5 → A6 → A7 → Prop) (μ : A0 → A1 → A2 → A3 → A4 → A5 → A6 → A7 → Nat) {r : Option Z} (hs : ∀ (x0 : A0) (x1 : A1) (x2 : A2) (x3 : A3) (x4 : A4) (x5 : A5) (x6 : A6) (x7 : A7), I x0 x1 x2 x3 x4 x5 x6 x7 → ∀ rc, (∀ (y0 : A0) (y1 : A1) (y2 : A2) (y3 : A3) (y4 : A4) (y5 : A5) (y6 : A6) (y7 : A7), I y0 y1 y2 y3 y4 y5 y6 y7 → μ y0 y1 y2 y3 y4 y5 y6 y7 < μ x0 x1 x2 x3 x4 x5 x6 x7 → rc y0 y1 y2 y3 y4 y5 y6 y7 = r) → F rc x0 x1 x2 x3 x4 x5 x6 x7 = r) : ∀ (n : Nat) (x0 : A0) (x1 : A1) (x2 : A2) (x3 : A3) (x4 : A4) (x5 : A5) (x6 : A6) (x7 : A7), I x0 x1 x2 x3 x4 x5 x6 x7 → μ x0 x1 x2 x3 x4 x5 x6 x7 < n → wh8 n F x0 x1 x2 x3 x4 x5 x6 x7 = r := by
  intro n
  induction n with
  | zero => intro x0 x1 x2 x3 x4 x5 x6 x7 _ h; omega
  | succ n ih =>
    intro x0 x1 x2 x3 x4 x5 x6 x7 hI hm
    exact hs x0 x1 x2 x3 x4 x5 x6 x7 hI _ (fun y0 y1 y2 y3 y4 y5 y6 y7 h1 h2 => ih y0 y1 y2 y3 y4 y5 y6 y7 h1 (by omega))
def jn8 {A0 A1 A2 A3 A4 A5 A6 A7 Z : Type} (K : A0 → A1 → A2 → A3 → A4 → A5 → A6 → A7 → Option Z) (T : (A0 → A1 → A2 → A3 → A4 → A5 → A6 → A7 → Option Z) → Option Z) : Option Z := T K
theorem sim_jn8 {A0 A1 A2 A3 A4 A5 A6 A7 Z : Type} {own : String} {cc : ByteArray} {nL : Nat} {ret : Option FieldType} {d : Nat} {Sh : JSh} {ρ : JRo} {pc pc' : Nat} {dec : Z → JD} {L0 : List (Nat × JV)} {S0 : List JV} {σ0 : JSg} {K : A0 → A1 → A2 → A3 → A4 → A5 → A6 → A7 → Option Z} {T : (A0 → A1 → A2 → A3 → A4 → A5 → A6 → A7 → Option Z) → Option Z} (L : A0 → A1 → A2 → A3 → A4 → A5 → A6 → A7 → List (Nat × JV)) (S : A0 → A1 → A2 → A3 → A4 → A5 → A6 → A7 → List JV) (σ : A0 → A1 → A2 → A3 → A4 → A5 → A6 → A7 → JSg)
    (hK : ∀ (x0 : A0) (x1 : A1) (x2 : A2) (x3 : A3) (x4 : A4) (x5 : A5) (x6 : A6) (x7 : A7), GSim own cc nL ret d Sh ρ pc' (L x0 x1 x2 x3 x4 x5 x6 x7) (S x0 x1 x2 x3 x4 x5 x6 x7) (σ x0 x1 x2 x3 x4 x5 x6 x7) dec (K x0 x1 x2 x3 x4 x5 x6 x7)) (h : ∀ j : A0 → A1 → A2 → A3 → A4 → A5 → A6 → A7 → Option Z, (∀ (x0 : A0) (x1 : A1) (x2 : A2) (x3 : A3) (x4 : A4) (x5 : A5) (x6 : A6) (x7 : A7), GSim own cc nL ret d Sh ρ pc' (L x0 x1 x2 x3 x4 x5 x6 x7) (S x0 x1 x2 x3 x4 x5 x6 x7) (σ x0 x1 x2 x3 x4 x5 x6 x7) dec (j x0 x1 x2 x3 x4 x5 x6 x7)) → GSim own cc nL ret d Sh ρ pc L0 S0 σ0 dec (T j)) : GSim own cc nL ret d Sh ρ pc L0 S0 σ0 dec (jn8 K T) := h K hK
def wh9 {A0 A1 A2 A3 A4 A5 A6 A7 A8 Z : Type} (n : Nat) (F : (A0 → A1 → A2 → A3 → A4 → A5 → A6 → A7 → A8 → Option Z) → A0 → A1 → A2 → A3 → A4 → A5 → A6 → A7 → A8 → Option Z) : A0 → A1 → A2 → A3 → A4 → A5 → A6 → A7 → A8 → Option Z := match n with
  | 0 => fun _ _ _ _ _ _ _ _ _ => none
  | n + 1 => F (wh9 n F)
theorem sim_wh9 {A0 A1 A2 A3 A4 A5 A6 A7 A8 Z : Type} {own : String} {cc : ByteArray} {nL : Nat} {ret : Option FieldType} {d : Nat} {Sh : JSh} {ρ : JRo} {pc : Nat} {dec : Z → JD} (L : A0 → A1 → A2 → A3 → A4 → A5 → A6 → A7 → A8 → List (Nat × JV)) (σ : A0 → A1 → A2 → A3 → A4 → A5 → A6 → A7 → A8 → JSg) {F : (A0 → A1 → A2 → A3 → A4 → A5 → A6 → A7 → A8 → Option Z) → A0 → A1 → A2 → A3 → A4 → A5 → A6 → A7 → A8 → Option Z}
    (body : ∀ rc : A0 → A1 → A2 → A3 → A4 → A5 → A6 → A7 → A8 → Option Z, (∀ (x0 : A0) (x1 : A1) (x2 : A2) (x3 : A3) (x4 : A4) (x5 : A5) (x6 : A6) (x7 : A7) (x8 : A8), GSim own cc nL ret d Sh ρ pc (L x0 x1 x2 x3 x4 x5 x6 x7 x8) [] (σ x0 x1 x2 x3 x4 x5 x6 x7 x8) dec (rc x0 x1 x2 x3 x4 x5 x6 x7 x8)) → ∀ (x0 : A0) (x1 : A1) (x2 : A2) (x3 : A3) (x4 : A4) (x5 : A5) (x6 : A6) (x7 : A7) (x8 : A8), GSim own cc nL ret d Sh ρ pc (L x0 x1 x2 x3 x4 x5 x6 x7 x8) [] (σ x0 x1 x2 x3 x4 x5 x6 x7 x8) dec (F rc x0 x1 x2 x3 x4 x5 x6 x7 x8)) : ∀ (n : Nat) (x0 : A0) (x1 : A1) (x2 : A2) (x3 : A3) (x4 : A4) (x5 : A5) (x6 : A6) (x7 : A7) (x8 : A8), GSim own cc nL ret d Sh ρ pc (L x0 x1 x2 x3 x4 x5 x6 x7 x8) [] (σ x0 x1 x2 x3 x4 x5 x6 x7 x8) dec (wh9 n F x0 x1 x2 x3 x4 x5 x6 x7 x8) := by
  intro n
  induction n with
  | zero => intro x0 x1 x2 x3 x4 x5 x6 x7 x8; exact sim_none
  | succ n ih => exact body _ ih
theorem wh9_run {A0 A1 A2 A3 A4 A5 A6 A7 A8 Z : Type} {F : (A0 → A1 → A2 → A3 → A4 → A5 → A6 → A7 → A8 → Option Z) → A0 → A1 → A2 → A3 → A4 → A5 → A6 → A7 → A8 → Option Z} (f0 : Nat → A0) (f1 : Nat → A1) (f2 : Nat → A2) (f3 : Nat → A3) (f4 : Nat → A4) (f5 : Nat → A5) (f6 : Nat → A6) (f7 : Nat → A7) (f8 : Nat → A8) (N : Nat) {r : Option Z} (hs : ∀ i, i < N → ∀ rc, F rc (f0 i) (f1 i) (f2 i) (f3 i) (f4 i) (f5 i) (f6 i) (f7 i) (f8 i) = rc (f0 (i + 1)) (f1 (i + 1)) (f2 (i + 1)) (f3 (i + 1)) (f4 (i + 1)) (f5 (i + 1)) (f6 (i + 1)) (f7 (i + 1)) (f8 (i + 1))) (hl : ∀ rc, F rc (f0 N) (f1 N) (f2 N) (f3 N) (f4 N) (f5 N) (f6 N) (f7 N) (f8 N) = r) : ∀ n, N < n → wh9 n F (f0 0) (f1 0) (f2 0) (f3 0) (f4 0) (f5 0) (f6 0) (f7 0) (f8 0) = r := by
  have key : ∀ j, j ≤ N → ∀ n, j < n → ∀ k, k + j = N → wh9 n F (f0 k) (f1 k) (f2 k) (f3 k) (f4 k) (f5 k) (f6 k) (f7 k) (f8 k) = r := by
    intro j
    induction j with
    | zero =>
      intro _ n hn k hk
      have e : k = N := by omega
      subst e
      obtain ⟨m, rfl⟩ : ∃ m, n = m + 1 := ⟨n - 1, by omega⟩
      exact hl _
    | succ j ih =>
      intro hj n hn k hk
      obtain ⟨m, rfl⟩ : ∃ m, n = m + 1 := ⟨n - 1, by omega⟩
      show F (wh9 m F) (f0 k) (f1 k) (f2 k) (f3 k) (f4 k) (f5 k) (f6 k) (f7 k) (f8 k) = r
      rw [hs k (by omega)]
      exact ih (by omega) m (by omega) (k + 1) (by omega)
  intro n hn
  exact key N (Nat.le_refl N) n hn 0 (by omega)
theorem wh9_inv {A0 A1 A2 A3 A4 A5 A6 A7 A8 Z : Type} {F : (A0 → A1 → A2 → A3 → A4 → A5 → A6 → A7 → A8 → Option Z) → A0 → A1 → A2 → A3 → A4 → A5 → A6 → A7 → A8 → Option Z} (I : A0 → A1 → A2 → A3 → A4 → A5 → A6 → A7 → A8 → Prop) (μ : A0 → A1 → A2 → A3 → A4 → A5 → A6 → A7 → A8 → Nat) {r : Option Z} (hs : ∀ (x0 : A0) (x1 : A1) (x2 : A2) (x3 : A3) (x4 : A4) (x5 : A5) (x6 : A6) (x7 : A7) (x8 : A8), I x0 x1 x2 x3 x4 x5 x6 x7 x8 → ∀ rc, (∀ (y0 : A0) (y1 : A1) (y2 : A2) (y3 : A3) (y4 : A4) (y5 : A5) (y6 : A6) (y7 : A7) (y8 : A8), I y0 y1 y2 y3 y4 y5 y6 y7 y8 → μ y0 y1 y2 y3 y4 y5 y6 y7 y8 < μ x0 x1 x2 x3 x4 x5 x6 x7 x8 → rc y0 y1 y2 y3 y4 y5 y6 y7 y8 = r) → F rc x0 x1 x2 x3 x4 x5 x6 x7 x8 = r) : ∀ (n : Nat) (x0 : A0) (x1 : A1) (x2 : A2) (x3 : A3) (x4 : A4) (x5 : A5) (x6 : A6) (x7 : A7) (x8 : A8), I x0 x1 x2 x3 x4 x5 x6 x7 x8 → μ x0 x1 x2 x3 x4 x5 x6 x7 x8 < n → wh9 n F x0 x1 x2 x3 x4 x5 x6 x7 x8 = r := by
  intro n
  induction n with
  | zero => intro x0 x1 x2 x3 x4 x5 x6 x7 x8 _ h; omega
  | succ n ih =>
    intro x0 x1 x2 x3 x4 x5 x6 x7 x8 hI hm
    exact hs x0 x1 x2 x3 x4 x5 x6 x7 x8 hI _ (fun y0 y1 y2 y3 y4 y5 y6 y7 y8 h1 h2 => ih y0 y1 y2 y3 y4 y5 y6 y7 y8 h1 (by omega))
def jn9 {A0 A1 A2 A3 A4 A5 A6 A7 A8 Z : Type} (K : A0 → A1 → A2 → A3 → A4 → A5 → A6 → A7 → A8 → Option Z) (T : (A0 → A1 → A2 → A3 → A4 → A5 → A6 → A7 → A8 → Option Z) → Option Z) : Option Z := T K
theorem sim_jn9 {A0 A1 A2 A3 A4 A5 A6 A7 A8 Z : Type} {own : String} {cc : ByteArray} {nL : Nat} {ret : Option FieldType} {d : Nat} {Sh : JSh} {ρ : JRo} {pc pc' : Nat} {dec : Z → JD} {L0 : List (Nat × JV)} {S0 : List JV} {σ0 : JSg} {K : A0 → A1 → A2 → A3 → A4 → A5 → A6 → A7 → A8 → Option Z} {T : (A0 → A1 → A2 → A3 → A4 → A5 → A6 → A7 → A8 → Option Z) → Option Z} (L : A0 → A1 → A2 → A3 → A4 → A5 → A6 → A7 → A8 → List (Nat × JV)) (S : A0 → A1 → A2 → A3 → A4 → A5 → A6 → A7 → A8 → List JV) (σ : A0 → A1 → A2 → A3 → A4 → A5 → A6 → A7 → A8 → JSg)
    (hK : ∀ (x0 : A0) (x1 : A1) (x2 : A2) (x3 : A3) (x4 : A4) (x5 : A5) (x6 : A6) (x7 : A7) (x8 : A8), GSim own cc nL ret d Sh ρ pc' (L x0 x1 x2 x3 x4 x5 x6 x7 x8) (S x0 x1 x2 x3 x4 x5 x6 x7 x8) (σ x0 x1 x2 x3 x4 x5 x6 x7 x8) dec (K x0 x1 x2 x3 x4 x5 x6 x7 x8)) (h : ∀ j : A0 → A1 → A2 → A3 → A4 → A5 → A6 → A7 → A8 → Option Z, (∀ (x0 : A0) (x1 : A1) (x2 : A2) (x3 : A3) (x4 : A4) (x5 : A5) (x6 : A6) (x7 : A7) (x8 : A8), GSim own cc nL ret d Sh ρ pc' (L x0 x1 x2 x3 x4 x5 x6 x7 x8) (S x0 x1 x2 x3 x4 x5 x6 x7 x8) (σ x0 x1 x2 x3 x4 x5 x6 x7 x8) dec (j x0 x1 x2 x3 x4 x5 x6 x7 x8)) → GSim own cc nL ret d Sh ρ pc L0 S0 σ0 dec (T j)) : GSim own cc nL ret d Sh ρ pc L0 S0 σ0 dec (jn9 K T) := h K hK
def jn0 {Z : Type} (K : Option Z) (T : Option Z → Option Z) : Option Z := T K
theorem sim_jn0 {Z : Type} {own : String} {cc : ByteArray} {nL : Nat} {ret : Option FieldType} {d : Nat} {Sh : JSh} {ρ : JRo} {pc pc' : Nat} {dec : Z → JD} {L0 : List (Nat × JV)} {S0 : List JV} {σ0 : JSg} {K : Option Z} {T : Option Z → Option Z} (L : List (Nat × JV)) (S : List JV) (σ : JSg)
    (hK : GSim own cc nL ret d Sh ρ pc' L S σ dec K) (h : ∀ j : Option Z, GSim own cc nL ret d Sh ρ pc' L S σ dec j → GSim own cc nL ret d Sh ρ pc L0 S0 σ0 dec (T j)) : GSim own cc nL ret d Sh ρ pc L0 S0 σ0 dec (jn0 K T) := h K hK
/-- a switch over a run of numbers -/
def sw_ {Z : Type} (x lo : Int) (os : List (Option Z)) (od : Option Z) : Option Z := if x < lo then od else (os[(x - lo).toNat]?).getD od
theorem sim_tsw {Z : Type} {own : String} {cc : ByteArray} {nL : Nat} {ret : Option FieldType} {d : Nat} {Sh : JSh} {ρ : JRo} {pc td : Nat} {L : List (Nat × JV)} {S : List JV} {σ : JSg} {dec : Z → JD} {x lo hi dflt : Int} {offs : Array Int} {len : Nat} {os : List (Option Z)} {od : Option Z} (tg : List Nat)
    (hd : decode cc pc = .ok (.tableswitch dflt lo hi offs, len)) (hdf : (pc : Int) + dflt = (td : Int)) (hlen : os.length = tg.length ∧ (hi - lo + 1 = tg.length)) (hof : ∀ i : Nat, ∀ t, tg[i]? = some t → ∃ off, offs[i]? = some off ∧ (pc : Int) + off = (t : Int))
    (hk : ∀ i : Nat, ∀ t o, tg[i]? = some t → os[i]? = some o → GSim own cc nL ret d Sh ρ t L S σ dec o) (kd : GSim own cc nL ret d Sh ρ td L S σ dec od) : GSim own cc nL ret d Sh ρ pc L (vI x :: S) σ dec (sw_ x lo os od) := by
  intro hL hS hH z hz
  have hx : (i32 x).toInt = x := t_i32 (okS_hd hS)
  unfold sw_ at hz
  by_cases h1 : x < lo
  · rw [if_pos h1] at hz
    obtain ⟨g1, g2⟩ := kd hL (okS_tl hS) hH z hz
    exact ⟨g1, fun p l e s m args below meth c w A H locs ls hr hX F T hl => lv_tableOut F.1 F.2.1 hd (Or.inl (by rw [hx]; exact h1)) hdf (g2 p l e s m args below meth c w A H locs ls hr hX F T hl)⟩
  · rw [if_neg h1] at hz
    by_cases h2 : hi < x
    · have h3 : os[(x - lo).toNat]? = none := List.getElem?_eq_none (by omega)
      rw [h3] at hz
      obtain ⟨g1, g2⟩ := kd hL (okS_tl hS) hH z hz
      exact ⟨g1, fun p l e s m args below meth c w A H locs ls hr hX F T hl => lv_tableOut F.1 F.2.1 hd (Or.inr (by rw [hx]; exact h2)) hdf (g2 p l e s m args below meth c w A H locs ls hr hX F T hl)⟩
    · have h3 : (x - lo).toNat < tg.length := by omega
      have h4 : tg[(x - lo).toNat]? = some (tg[(x - lo).toNat]) := List.getElem?_eq_getElem h3
      have h5 : os[(x - lo).toNat]? = some (os[(x - lo).toNat]'(by omega)) := List.getElem?_eq_getElem (by omega)
      rw [h5] at hz
      obtain ⟨off, ho, ht⟩ := hof _ _ h4
      obtain ⟨g1, g2⟩ := hk _ _ _ h4 h5 hL (okS_tl hS) hH z hz
      exact ⟨g1, fun p l e s m args below meth c w A H locs ls hr hX F T hl => lv_tableIn F.1 F.2.1 hd (by rw [hx]; omega) (by rw [hx]; omega) (by rw [hx]; exact ho) ht (g2 p l e s m args below meth c w A H locs ls hr hX F T hl)⟩
theorem jcall_ok {Z : Type} {y : MethodName} {cc : ByteArray} {nL : Nat} {ret : Option FieldType} {d : Nat} {Sh : JSh} {ρ : JRo} {as : List JV} {σ : JSg} {dec : Z → Option JV × JSg} {o : Option Z} (h : Call y cc nL ret d Sh ρ as σ dec o) (ha : ∀ v ∈ as, okV v) (hH : okH Sh σ) {z : Z} (hz : o = some z) : okR Sh (dec z) := (h ha hH z hz).1


/-! LAYER 1g: fewer locals, copies, switches -/
theorem okI_lit {n : Nat} (h : n < 2147483648) : okI (n : Int) := ⟨by omega, by omega⟩
section
variable {Z : Type} {own : String} {cc : ByteArray} {nL : Nat} {ret : Option FieldType} {d : Nat} {Sh : JSh} {ρ : JRo} {pc : Nat} {L L' : List (Nat × JV)} {S : List JV} {σ : JSg} {dec : Z → JD} {o : Option Z}
theorem sim_sub (ks : List Nat) (h : ks.filterMap (fun k => L[k]?) = L') (k : GSim own cc nL ret d Sh ρ pc L' S σ dec o) : GSim own cc nL ret d Sh ρ pc L S σ dec o := by
  have hmem : ∀ q ∈ L', q ∈ L := by
    intro q hq
    rw [← h] at hq
    obtain ⟨k, -, hk⟩ := List.mem_filterMap.mp hq
    exact List.mem_of_getElem? hk
  refine sim_go (fun hL hS hH => ⟨fun q hq => hL q (hmem q hq), hS, hH⟩) ?_ k
  intro hL hS hH R h1 p l e s m args below meth c w A H locs ls hr hX F T hl
  refine h1 p l e s m args below meth c w A H locs ls hr hX F T ⟨hl.1, hl.2.1, fun q hq => ?_⟩
  obtain ⟨q0, hq0, rfl⟩ := List.mem_map.mp hq
  exact hl.2.2 _ (List.mem_map.mpr ⟨q0, hmem _ hq0, rfl⟩)
/-- a copy of rows -/
def acp (σ : JSg) (p sp q dp n : Nat) : JSg := fun k i => if k = q ∧ dp ≤ i ∧ i < dp + n then σ p (sp + (i - dp)) else σ k i
theorem acp_ne {p a q b n k : Nat} (h : k ≠ q) : acp σ p a q b n k = σ k := by
  funext i
  simp [acp, h]
theorem cellE_ext {w : JW} {σ' : JSg} {k : Nat} (h : σ' k = σ k) (kd : Nat ⊕ (Nat × Nat)) : cellE w ρ σ' k kd = cellE w ρ σ k kd := by
  cases kd with
  | inl ci => simp [cellE, fV, h]
  | inr a => simp [cellE, aV, h]
theorem rd_set2 {w : JW} {σ' : JSg} {p : Nat} {kd : Nat ⊕ (Nat × Nat)} {e : va_E} (h : Sh[p]? = some kd) (ho : ∀ k, k ≠ p → σ' k = σ k) (he : cellE w ρ σ' p kd = e) : (rd w Sh ρ σ).set p (w.1 p, e) = rd w Sh ρ σ' := by
  apply List.ext_getElem?
  intro k
  by_cases hk : k = p
  · subst hk
    have hl : k < (rd w Sh ρ σ).length := by rw [rd_len]; exact (List.getElem?_eq_some_iff.mp h).1
    rw [List.getElem?_set_self hl, rd_at h, he]
  · rw [List.getElem?_set_ne (Ne.symm hk)]
    cases hs : Sh[k]? with
    | none => simp [rd, List.getElem?_mapIdx, hs]
    | some kd' => rw [rd_at hs, rd_at hs, cellE_ext (ho k hk)]
theorem acp_ok {a p q b n n0 n1 t : Nat} (hH : okH Sh σ) (h0 : Sh[p]? = some (.inr (t, n0))) (h1 : Sh[q]? = some (.inr (t, n1))) : okH Sh (acp σ p a q b n) := by
  intro k kd hk j
  unfold acp
  split
  · rename_i h
    rw [h.1, h1] at hk
    cases hk
    exact hH p _ h0 _
  · exact hH k kd hk j
theorem words_native : nativeFrameWords "java/lang/System" "arraycopy" 5 ≤ 40 := by decide +kernel
theorem acp_cpy {p q a b n : Nat} : (fun j => i32 (acp σ p a q b n q j)) = va_cpy (fun j => i32 (σ p j)) (fun j => i32 (σ q j)) a b n := by
  funext j
  unfold acp va_cpy
  by_cases hj : b ≤ j ∧ j < b + n
  · rw [if_pos ⟨rfl, hj⟩, if_pos hj]
  · rw [if_neg (fun h => hj h.2), if_neg hj]
theorem acp_cpyL {p q a b n : Nat} : (fun j => i64 (acp σ p a q b n q j)) = va_cpy (fun j => i64 (σ p j)) (fun j => i64 (σ q j)) a b n := by
  funext j
  unfold acp va_cpy
  by_cases hj : b ≤ j ∧ j < b + n
  · rw [if_pos ⟨rfl, hj⟩, if_pos hj]
  · rw [if_neg (fun h => hj h.2), if_neg hj]
theorem sim_acpI {p q n0 n1 idx : Nat} {a b n N0 N1 : Int} {o : JSg → Option Z} (h0 : Sh[p]? = some (.inr (0, n0))) (h1 : Sh[q]? = some (.inr (0, n1))) (e0 : (n0 : Int) = N0) (e1 : (n1 : Int) = N1)
    (w1 : Cond.methodLink own idx arraycopyName ∈ WS) (w2 : Cond.native arraycopyName ∈ WS) (w3 : Cond.static arraycopyName ∈ WS) (w4 : Cond.initialized "java/lang/System" ∈ WS) (hdd : 1 ≤ d) (hS8 : jwid S ≤ 8) (hd : decode cc pc = .ok (.invokestatic idx, 3))
    (k : ∀ σ', GSim own cc nL ret d Sh ρ (pc + 3) L S σ' dec (o σ')) : GSim own cc nL ret d Sh ρ pc L (vI n :: vI b :: vR q :: vI a :: vR p :: S) σ dec (chk (0 ≤ a ∧ 0 ≤ b ∧ 0 ≤ n ∧ a + n ≤ N0 ∧ b + n ≤ N1) (lt_ (acp σ p a.toNat q b.toNat n.toNat) o)) := by
  refine sim_chk fun hi => ?_
  refine sim_go (fun hL hS hH => ⟨hL, okS_tl (okS_tl (okS_tl (okS_tl (okS_tl hS)))), acp_ok hH h0 h1⟩) ?_ (k _)
  intro hL hS hH R h pp l e s m args below meth c w A H locs ls hr hX F T hl
  have on : okI n := okS_hd hS
  have ob : okI b := okS_hd (okS_tl hS)
  have oa : okI a := okS_hd (okS_tl (okS_tl (okS_tl hS)))
  have neg : ∀ {x : Int}, okI x → 0 ≤ x → ¬ i32 x < 0 := fun {x} hx h0 hlt => by
    rw [← i32_0, i32_lt hx ok0] at hlt
    omega
  have hts := F.2.2.2.2.1
  refine va_copyi (D := w.2.1) F.1 F.2.1 (by rw [F.2.2.1]; exact hl.1.symm) F.2.2.2.1 (hts _ w1) (hts _ w2) (hts _ w3) (hts _ w4) T.1 T.2.1 T.2.2.1 T.2.2.2.1 p q 0 0 (c0 := w.2.2 0) (c1 := w.2.2 0) (n0 := n0) (n1 := n1) (f := fun j => i32 (σ p j)) (g := fun j => i32 (σ q j)) (ty := .int)
    (by rw [rd_at h0]; simp only [cellE]; rw [aV_i (by decide) (by decide)]) (by rw [rd_at h1]; simp only [cellE]; rw [aV_i (by decide) (by decide)]) rfl rfl rfl (neg oa hi.1) (neg ob hi.2.1) (neg on hi.2.2.1)
    (by rw [i32_clamp oa, i32_clamp on]; omega) (by rw [i32_clamp ob, i32_clamp on]; omega) (fun i _ => rfl) (Nat.le_trans hdd hr.1) ?_ hd (fun H1 locs1 hP hD hS2 => ?_)
  · have h9 := words_native
    have h8 := catS (w := w) hS8
    have h7 := hr.2.1
    omega
  · have hce : cellE w ρ (acp σ p a.toNat q b.toNat n.toNat) q (.inr (0, n1)) = .inl (w.2.2 0, n1, .inl (va_cpy (fun j => i32 (σ p j)) (fun j => i32 (σ q j)) a.toNat b.toNat n.toNat)) := by
      simp only [cellE]
      rw [aV_i (by decide) (by decide), acp_cpy]
    rw [i32_clamp oa, i32_clamp ob, i32_clamp on, rd_set2 h1 (fun k hk => acp_ne hk) hce] at hP hD
    exact h pp l e s m args below meth c w A H1 locs1 ls hr hX F ⟨T.1, hP, hD, hS2, T.2.2.2.2⟩ hl
theorem sim_acpL {p q n0 n1 idx : Nat} {a b n N0 N1 : Int} {o : JSg → Option Z} (h0 : Sh[p]? = some (.inr (2, n0))) (h1 : Sh[q]? = some (.inr (2, n1))) (e0 : (n0 : Int) = N0) (e1 : (n1 : Int) = N1)
    (w1 : Cond.methodLink own idx arraycopyName ∈ WS) (w2 : Cond.native arraycopyName ∈ WS) (w3 : Cond.static arraycopyName ∈ WS) (w4 : Cond.initialized "java/lang/System" ∈ WS) (hdd : 1 ≤ d) (hS8 : jwid S ≤ 8) (hd : decode cc pc = .ok (.invokestatic idx, 3))
    (k : ∀ σ', GSim own cc nL ret d Sh ρ (pc + 3) L S σ' dec (o σ')) : GSim own cc nL ret d Sh ρ pc L (vI n :: vI b :: vR q :: vI a :: vR p :: S) σ dec (chk (0 ≤ a ∧ 0 ≤ b ∧ 0 ≤ n ∧ a + n ≤ N0 ∧ b + n ≤ N1) (lt_ (acp σ p a.toNat q b.toNat n.toNat) o)) := by
  refine sim_chk fun hi => ?_
  refine sim_go (fun hL hS hH => ⟨hL, okS_tl (okS_tl (okS_tl (okS_tl (okS_tl hS)))), acp_ok hH h0 h1⟩) ?_ (k _)
  intro hL hS hH R h pp l e s m args below meth c w A H locs ls hr hX F T hl
  have on : okI n := okS_hd hS
  have ob : okI b := okS_hd (okS_tl hS)
  have oa : okI a := okS_hd (okS_tl (okS_tl (okS_tl hS)))
  have neg : ∀ {x : Int}, okI x → 0 ≤ x → ¬ i32 x < 0 := fun {x} hx h0 hlt => by
    rw [← i32_0, i32_lt hx ok0] at hlt
    omega
  have hts := F.2.2.2.2.1
  refine va_copyl (D := w.2.1) F.1 F.2.1 (by rw [F.2.2.1]; exact hl.1.symm) F.2.2.2.1 (hts _ w1) (hts _ w2) (hts _ w3) (hts _ w4) T.1 T.2.1 T.2.2.1 T.2.2.2.1 p q 2 2 (c0 := w.2.2 2) (c1 := w.2.2 2) (n0 := n0) (n1 := n1) (f := fun j => i64 (σ p j)) (g := fun j => i64 (σ q j)) (ty := .long)
    (by rw [rd_at h0]; simp only [cellE]; rw [aV_l]) (by rw [rd_at h1]; simp only [cellE]; rw [aV_l]) rfl rfl rfl (neg oa hi.1) (neg ob hi.2.1) (neg on hi.2.2.1)
    (by rw [i32_clamp oa, i32_clamp on]; omega) (by rw [i32_clamp ob, i32_clamp on]; omega) (fun i _ => rfl) (Nat.le_trans hdd hr.1) ?_ hd (fun H1 locs1 hP hD hS2 => ?_)
  · have h9 := words_native
    have h8 := catS (w := w) hS8
    have h7 := hr.2.1
    omega
  · have hce : cellE w ρ (acp σ p a.toNat q b.toNat n.toNat) q (.inr (2, n1)) = .inl (w.2.2 2, n1, .inr (.inl (va_cpy (fun j => i64 (σ p j)) (fun j => i64 (σ q j)) a.toNat b.toNat n.toNat))) := by
      simp only [cellE]
      rw [aV_l, acp_cpyL]
    rw [i32_clamp oa, i32_clamp ob, i32_clamp on, rd_set2 h1 (fun k hk => acp_ne hk) hce] at hP hD
    exact h pp l e s m args below meth c w A H1 locs1 ls hr hX F ⟨T.1, hP, hD, hS2, T.2.2.2.2⟩ hl
def SwS (own : String) (cc : ByteArray) (nL : Nat) (ret : Option FieldType) (d : Nat) (Sh : JSh) (ρ : JRo) (L : List (Nat × JV)) (S : List JV) (σ : JSg) (dec : Z → JD) : List Nat → List (Option Z) → Prop
  | [], [] => True
  | t :: tg, o :: os => GSim own cc nL ret d Sh ρ t L S σ dec o ∧ SwS own cc nL ret d Sh ρ L S σ dec tg os
  | _, _ => False
theorem sws_at : ∀ {tg : List Nat} {os : List (Option Z)}, SwS own cc nL ret d Sh ρ L S σ dec tg os → os.length = tg.length ∧ ∀ (i t : Nat) (o : Option Z), tg[i]? = some t → os[i]? = some o → GSim own cc nL ret d Sh ρ t L S σ dec o := by
  intro tg
  induction tg with
  | nil =>
    intro os h
    cases os with
    | nil => exact ⟨rfl, fun i t o h1 => by simp at h1⟩
    | cons o os => exact h.elim
  | cons t tg ih =>
    intro os h
    cases os with
    | nil => exact h.elim
    | cons o os =>
      obtain ⟨h1, h2⟩ := h
      obtain ⟨e, h3⟩ := ih h2
      refine ⟨by simp [e], fun i t' o' g1 g2 => ?_⟩
      cases i with
      | zero =>
        simp only [List.getElem?_cons_zero, Option.some.injEq] at g1 g2
        subst g1; subst g2
        exact h1
      | succ i =>
        simp only [List.getElem?_cons_succ] at g1 g2
        exact h3 i t' o' g1 g2
theorem tsw_of {pc : Nat} {offs : Array Int} {tg : List Nat} (h : (List.range tg.length).all (fun i => decide ((offs[i]?).map (fun z => (pc : Int) + z) = (tg[i]?).map (fun t => (t : Int)))) = true) : ∀ i : Nat, ∀ t, tg[i]? = some t → ∃ off, offs[i]? = some off ∧ (pc : Int) + off = (t : Int) := by
  intro i t ht
  have hl := (List.getElem?_eq_some_iff.mp ht).1
  have h1 := List.all_eq_true.mp h i (List.mem_range.mpr hl)
  simp only [decide_eq_true_eq] at h1
  rw [ht] at h1
  obtain ⟨z, hz, e⟩ := Option.map_eq_some_iff.mp h1
  exact ⟨z, hz, e⟩
theorem sim_tsw2 {td len : Nat} {x lo hi dflt : Int} {offs : Array Int} {os : List (Option Z)} {od : Option Z} (tg : List Nat) (hd : decode cc pc = .ok (.tableswitch dflt lo hi offs, len)) (hdf : (pc : Int) + dflt = (td : Int)) (hlen : hi - lo + 1 = tg.length)
    (hof : ∀ i : Nat, ∀ t, tg[i]? = some t → ∃ off, offs[i]? = some off ∧ (pc : Int) + off = (t : Int)) (hs : SwS own cc nL ret d Sh ρ L S σ dec tg os) (kd : GSim own cc nL ret d Sh ρ td L S σ dec od) : GSim own cc nL ret d Sh ρ pc L (vI x :: S) σ dec (sw_ x lo os od) :=
  sim_tsw tg hd hdf ⟨(sws_at hs).1, hlen⟩ hof (sws_at hs).2 kd
/-- a switch over single numbers -/
def ls_ (x : Int) : List Int → List (Option Z) → Option Z → Option Z
  | k :: ks, o :: os, od => if x = k then o else ls_ x ks os od
  | _, _, od => od
theorem ls_pick {x : Int} {od : Option Z} {dflt : Int} {td : Nat} (hdf : (pc : Int) + dflt = (td : Int)) (kd : GSim own cc nL ret d Sh ρ td L S σ dec od) : ∀ {ps : List (Int × Int)} {tg : List Nat} {os : List (Option Z)}, ps.map (fun q => (pc : Int) + q.2) = tg.map (fun t : Nat => (t : Int)) → SwS own cc nL ret d Sh ρ L S σ dec tg os →
    ∃ tgt : Nat, (pc : Int) + Op.lookupswitch.offset ps dflt x = (tgt : Int) ∧ GSim own cc nL ret d Sh ρ tgt L S σ dec (ls_ x (ps.map (fun q => q.1)) os od) := by
  intro ps
  induction ps with
  | nil =>
    intro tg os h1 h2
    cases tg with
    | nil =>
      cases os with
      | nil => exact ⟨td, by simpa [Op.lookupswitch.offset] using hdf, kd⟩
      | cons o os => exact h2.elim
    | cons t tg => simp at h1
  | cons q ps ih =>
    intro tg os h1 h2
    cases tg with
    | nil => simp at h1
    | cons t tg =>
      cases os with
      | nil => exact h2.elim
      | cons o os =>
        simp only [List.map_cons, List.cons.injEq] at h1
        by_cases hx : x = q.1
        · refine ⟨t, ?_, ?_⟩
          · rw [← h1.1]
            simp [Op.lookupswitch.offset, hx]
          · simp only [List.map_cons, ls_, if_pos hx]
            exact h2.1
        · obtain ⟨tgt, g1, g2⟩ := ih h1.2 h2.2
          refine ⟨tgt, ?_, ?_⟩
          · rw [← g1]
            have hx' : ¬ q.1 = x := fun e => hx e.symm
            simp [Op.lookupswitch.offset, hx, hx']
          · simp only [List.map_cons, ls_, if_neg hx]
            exact g2
theorem sim_lsw2 {td len : Nat} {x dflt : Int} {ps : Array (Int × Int)} {ks : List Int} {os : List (Option Z)} {od : Option Z} (tg : List Nat) (hd : decode cc pc = .ok (.lookupswitch dflt ps, len)) (hdf : (pc : Int) + dflt = (td : Int)) (hsort : (ps.toList.zip (ps.toList.drop 1)).all (fun (a, next) => a.1 < next.1) = true)
    (htg : ps.toList.map (fun q => (pc : Int) + q.2) = tg.map (fun t : Nat => (t : Int)) ∧ ps.toList.map (fun q => q.1) = ks) (hs : SwS own cc nL ret d Sh ρ L S σ dec tg os) (kd : GSim own cc nL ret d Sh ρ td L S σ dec od) : GSim own cc nL ret d Sh ρ pc L (vI x :: S) σ dec (ls_ x ks os od) := by
  obtain ⟨tgt, g1, g2⟩ := ls_pick (x := x) hdf kd htg.1 hs
  rw [htg.2] at g2
  intro hL hS hH z hz
  have hx : (i32 x).toInt = x := t_i32 (okS_hd hS)
  obtain ⟨e1, e2⟩ := g2 hL (okS_tl hS) hH z hz
  exact ⟨e1, fun p l e s m args below meth c w A H locs ls hr hX F T hl => lv_lookup F.1 F.2.1 hd hsort rfl (by rw [hx]; exact g1) (e2 p l e s m args below meth c w A H locs ls hr hX F T hl)⟩
end

/-! LAYER 1h: the String constants -/
def txc (t : Nat) (i : Int) : Int := (((bytT.getD t []).getD i.toNat 0).toInt)
def txi (t : Nat) (c : Int) : Int := match (bytT.getD t []).findIdx? (fun b => b.toInt == c) with
  | some k => k
  | none => -1
section
variable {Z : Type} {cc : ByteArray} {nL : Nat} {ret : Option FieldType} {d : Nat} {Sh : JSh} {ρ : JRo} {pc : Nat} {L : List (Nat × JV)} {S : List JV} {σ : JSg} {dec : Z → JD} {o : Option Z}
theorem sim_ldcT0 (hd : decode cc pc = .ok (.ldc 75, 2)) (k : GSim RX9 cc nL ret d Sh ρ (pc + 2) L (vR 1000000 :: S) σ dec o) : GSim RX9 cc nL ret d Sh ρ pc L S σ dec o := by
  refine sim_go (fun hL hS hH => ⟨hL, okS_cons (v := vR 1000000) trivial hS, hH⟩) ?_ k
  intro hL hS hH R h p l e s m args below meth c w A H locs ls hr hX F T hl
  obtain ⟨-, ⟨r1, r2, -, -⟩, -⟩ := T.2.2.2.2.2
  exact va_ldcS F.1 F.2.1 F.2.2.2.1 r1 hd (h p l e s m args below meth c w A H locs ls hr hX F T hl)
theorem sim_ldcT1 (hd : decode cc pc = .ok (.ldc 83, 2)) (k : GSim RX9 cc nL ret d Sh ρ (pc + 2) L (vR 1000001 :: S) σ dec o) : GSim RX9 cc nL ret d Sh ρ pc L S σ dec o := by
  refine sim_go (fun hL hS hH => ⟨hL, okS_cons (v := vR 1000001) trivial hS, hH⟩) ?_ k
  intro hL hS hH R h p l e s m args below meth c w A H locs ls hr hX F T hl
  obtain ⟨-, ⟨r1, r2, -, -⟩, -⟩ := T.2.2.2.2.2
  exact va_ldcS F.1 F.2.1 F.2.2.2.1 r2 hd (h p l e s m args below meth c w A H locs ls hr hX F T hl)
end

/-! LAYER 1i: places told by number -/
section
variable {Z : Type} {own : String} {cc : ByteArray} {nL : Nat} {ret : Option FieldType} {d : Nat} {Sh : JSh} {ρ : JRo} {pc : Nat} {L : List (Nat × JV)} {S : List JV} {σ : JSg} {dec : Z → JD}
theorem sim_ialoadK {o : Option Z} {p n j : Nat} {i : Int} (hs : Sh[p]? = some (.inr (0, n))) (hj : i = (j : Int)) (hlt : j < n) (hd : decode cc pc = .ok (.iaload, 1)) (k : GSim own cc nL ret d Sh ρ (pc + 1) L (vI (σ p j) :: S) σ dec o) : GSim own cc nL ret d Sh ρ pc L (vI i :: vR p :: S) σ dec o := by
  subst hj
  have h := sim_iaload (i := (j : Int)) hs rfl hd (by simpa using k)
  rwa [chk_pos ⟨by omega, by omega⟩] at h
theorem sim_baloadK {o : Option Z} {p n j : Nat} {i : Int} (hs : Sh[p]? = some (.inr (1, n))) (hj : i = (j : Int)) (hlt : j < n) (hd : decode cc pc = .ok (.baload, 1)) (k : GSim own cc nL ret d Sh ρ (pc + 1) L (vI (σ p j) :: S) σ dec o) : GSim own cc nL ret d Sh ρ pc L (vI i :: vR p :: S) σ dec o := by
  subst hj
  have h := sim_baload (i := (j : Int)) hs rfl hd (by simpa using k)
  rwa [chk_pos ⟨by omega, by omega⟩] at h
theorem sim_zaloadK {o : Option Z} {p n j : Nat} {i : Int} (hs : Sh[p]? = some (.inr (3, n))) (hj : i = (j : Int)) (hlt : j < n) (hd : decode cc pc = .ok (.baload, 1)) (k : GSim own cc nL ret d Sh ρ (pc + 1) L (vI (σ p j) :: S) σ dec o) : GSim own cc nL ret d Sh ρ pc L (vI i :: vR p :: S) σ dec o := by
  subst hj
  have h := sim_zaload (i := (j : Int)) hs rfl hd (by simpa using k)
  rwa [chk_pos ⟨by omega, by omega⟩] at h
theorem sim_laloadK {o : Option Z} {p n j : Nat} {i : Int} (hs : Sh[p]? = some (.inr (2, n))) (hj : i = (j : Int)) (hlt : j < n) (hd : decode cc pc = .ok (.laload, 1)) (k : GSim own cc nL ret d Sh ρ (pc + 1) L (vL (σ p j) :: S) σ dec o) : GSim own cc nL ret d Sh ρ pc L (vI i :: vR p :: S) σ dec o := by
  subst hj
  have h := sim_laload (i := (j : Int)) hs rfl hd (by simpa using k)
  rwa [chk_pos ⟨by omega, by omega⟩] at h
theorem sim_iastoreK {o : JSg → Option Z} {p n j : Nat} {i x : Int} (hs : Sh[p]? = some (.inr (0, n))) (hj : i = (j : Int)) (hlt : j < n) (hd : decode cc pc = .ok (.iastore, 1)) (k : ∀ σ', GSim own cc nL ret d Sh ρ (pc + 1) L S σ' dec (o σ')) : GSim own cc nL ret d Sh ρ pc L (vI x :: vI i :: vR p :: S) σ dec (lt_ (sp σ p j x) o) := by
  subst hj
  have h := sim_iastore (i := (j : Int)) (x := x) (σ := σ) hs rfl hd k
  rw [chk_pos ⟨by omega, by omega⟩] at h
  simpa using h
theorem sim_bastoreK {o : JSg → Option Z} {p n j : Nat} {i x : Int} (hs : Sh[p]? = some (.inr (1, n))) (hj : i = (j : Int)) (hlt : j < n) (hd : decode cc pc = .ok (.bastore, 1)) (k : ∀ σ', GSim own cc nL ret d Sh ρ (pc + 1) L S σ' dec (o σ')) : GSim own cc nL ret d Sh ρ pc L (vI x :: vI i :: vR p :: S) σ dec (lt_ (sp σ p j (b8 x)) o) := by
  subst hj
  have h := sim_bastore (i := (j : Int)) (x := x) (σ := σ) hs rfl hd k
  rw [chk_pos ⟨by omega, by omega⟩] at h
  simpa using h
theorem sim_zastoreK {o : JSg → Option Z} {p n j : Nat} {i x : Int} (hx : x = 0 ∨ x = 1) (hs : Sh[p]? = some (.inr (3, n))) (hj : i = (j : Int)) (hlt : j < n) (hd : decode cc pc = .ok (.bastore, 1)) (k : ∀ σ', GSim own cc nL ret d Sh ρ (pc + 1) L S σ' dec (o σ')) : GSim own cc nL ret d Sh ρ pc L (vI x :: vI i :: vR p :: S) σ dec (lt_ (sp σ p j x) o) := by
  subst hj
  have h := sim_zastore (i := (j : Int)) (x := x) (σ := σ) hx hs rfl hd k
  rw [chk_pos ⟨by omega, by omega⟩] at h
  simpa using h
theorem sim_lastoreK {o : JSg → Option Z} {p n j : Nat} {i x : Int} (hs : Sh[p]? = some (.inr (2, n))) (hj : i = (j : Int)) (hlt : j < n) (hd : decode cc pc = .ok (.lastore, 1)) (k : ∀ σ', GSim own cc nL ret d Sh ρ (pc + 1) L S σ' dec (o σ')) : GSim own cc nL ret d Sh ρ pc L (vL x :: vI i :: vR p :: S) σ dec (lt_ (sp σ p j x) o) := by
  subst hj
  have h := sim_lastore (i := (j : Int)) (x := x) (σ := σ) hs rfl hd k
  rw [chk_pos ⟨by omega, by omega⟩] at h
  simpa using h
theorem sim_acpIK {p q n0 n1 idx a b n : Nat} {ia ib ic : Int} {o : JSg → Option Z} (h0 : Sh[p]? = some (.inr (0, n0))) (h1 : Sh[q]? = some (.inr (0, n1))) (ja : ia = (a : Int)) (jb : ib = (b : Int)) (jc : ic = (n : Int)) (hl : a + n ≤ n0 ∧ b + n ≤ n1)
    (w1 : Cond.methodLink own idx arraycopyName ∈ WS) (w2 : Cond.native arraycopyName ∈ WS) (w3 : Cond.static arraycopyName ∈ WS) (w4 : Cond.initialized "java/lang/System" ∈ WS) (hdd : 1 ≤ d) (hS8 : jwid S ≤ 8) (hd : decode cc pc = .ok (.invokestatic idx, 3))
    (k : ∀ σ', GSim own cc nL ret d Sh ρ (pc + 3) L S σ' dec (o σ')) : GSim own cc nL ret d Sh ρ pc L (vI ic :: vI ib :: vR q :: vI ia :: vR p :: S) σ dec (lt_ (acp σ p a q b n) o) := by
  subst ja; subst jb; subst jc
  have h := sim_acpI (a := (a : Int)) (b := (b : Int)) (n := (n : Int)) (σ := σ) h0 h1 rfl rfl w1 w2 w3 w4 hdd hS8 hd k
  rw [chk_pos ⟨by omega, by omega, by omega, by omega, by omega⟩] at h
  simpa using h
theorem sim_acpLK {p q n0 n1 idx a b n : Nat} {ia ib ic : Int} {o : JSg → Option Z} (h0 : Sh[p]? = some (.inr (2, n0))) (h1 : Sh[q]? = some (.inr (2, n1))) (ja : ia = (a : Int)) (jb : ib = (b : Int)) (jc : ic = (n : Int)) (hl : a + n ≤ n0 ∧ b + n ≤ n1)
    (w1 : Cond.methodLink own idx arraycopyName ∈ WS) (w2 : Cond.native arraycopyName ∈ WS) (w3 : Cond.static arraycopyName ∈ WS) (w4 : Cond.initialized "java/lang/System" ∈ WS) (hdd : 1 ≤ d) (hS8 : jwid S ≤ 8) (hd : decode cc pc = .ok (.invokestatic idx, 3))
    (k : ∀ σ', GSim own cc nL ret d Sh ρ (pc + 3) L S σ' dec (o σ')) : GSim own cc nL ret d Sh ρ pc L (vI ic :: vI ib :: vR q :: vI ia :: vR p :: S) σ dec (lt_ (acp σ p a q b n) o) := by
  subst ja; subst jb; subst jc
  have h := sim_acpL (a := (a : Int)) (b := (b : Int)) (n := (n : Int)) (σ := σ) h0 h1 rfl rfl w1 w2 w3 w4 hdd hS8 hd k
  rw [chk_pos ⟨by omega, by omega, by omega, by omega, by omega⟩] at h
  simpa using h
theorem i32_max {x y : Int} (hx : okI x) (hy : okI y) : i32 (max x y) = if i32 x < i32 y then i32 y else i32 x := by
  by_cases h : x < y
  · rw [if_pos ((i32_lt hx hy).mpr h)]
    congr 1
    omega
  · rw [if_neg (fun q => h ((i32_lt hx hy).mp q))]
    congr 1
    omega
theorem ok_max {x y : Int} (hx : okI x) (hy : okI y) : okI (max x y) := by
  have h1 := hx.1
  have h2 := hx.2
  have h3 := hy.1
  have h4 := hy.2
  constructor <;> omega
theorem sim_mmax {o : Option Z} {x y : Int} {idx : Nat} (w1 : Cond.methodLink own idx Lib.Math.max.name ∈ WS) (w2 : Cond.static Lib.Math.max.name ∈ WS) (w3 : Cond.initialized "java/lang/Math" ∈ WS) (w4 : Cond.code Lib.Math.max.name Lib.Math.max.code 2 (some .int) ∈ WS) (hdd : 1 ≤ d) (hS8 : jwid S ≤ 8) (hd : decode cc pc = .ok (.invokestatic idx, 3))
    (k : GSim own cc nL ret d Sh ρ (pc + 3) L (vI (max x y) :: S) σ dec o) : GSim own cc nL ret d Sh ρ pc L (vI y :: vI x :: S) σ dec o := by
  refine sim_go (fun hL hS hH => ⟨hL, okS_cons (v := vI (max x y)) (ok_max (okS_hd (okS_tl hS)) (okS_hd hS)) (okS_tl (okS_tl hS)), hH⟩) ?_ k
  intro hL hS hH R h p l e s m args below meth c w A H locs ls hr hX F T hl
  have h1 := h p l e s m args below meth c w A H locs ls hr hX F T hl
  have hts := F.2.2.2.2.1
  have h8 := catS (w := w) hS8
  simp only [List.map_cons, cv] at h1 ⊢
  rw [i32_max (okS_hd (okS_tl hS)) (okS_hd hS)] at h1
  exact va_mmax F.1 F.2.1 (by rw [F.2.2.1]; exact hl.1.symm) F.2.2.2.1 (hts _ w1) (hts _ w2) (hts _ w3) (hts _ w4) (Nat.le_trans hdd hr.1) (by have h7 := hr.2.1; omega) hr.2.2.1 hr.2.2.2.1 hd h1
theorem i32_min {x y : Int} (hx : okI x) (hy : okI y) : i32 (min x y) = if i32 y < i32 x then i32 y else i32 x := by
  by_cases h : y < x
  · rw [if_pos ((i32_lt hy hx).mpr h)]
    congr 1
    omega
  · rw [if_neg (fun q => h ((i32_lt hy hx).mp q))]
    congr 1
    omega
theorem ok_min {x y : Int} (hx : okI x) (hy : okI y) : okI (min x y) := by
  have h1 := hx.1
  have h2 := hx.2
  have h3 := hy.1
  have h4 := hy.2
  constructor <;> omega
theorem sim_mmin {o : Option Z} {x y : Int} {idx : Nat} (w1 : Cond.methodLink own idx Lib.Math.min.name ∈ WS) (w2 : Cond.static Lib.Math.min.name ∈ WS) (w3 : Cond.initialized "java/lang/Math" ∈ WS) (w4 : Cond.code Lib.Math.min.name Lib.Math.min.code 2 (some .int) ∈ WS) (hdd : 1 ≤ d) (hS8 : jwid S ≤ 8) (hd : decode cc pc = .ok (.invokestatic idx, 3))
    (k : GSim own cc nL ret d Sh ρ (pc + 3) L (vI (min x y) :: S) σ dec o) : GSim own cc nL ret d Sh ρ pc L (vI y :: vI x :: S) σ dec o := by
  refine sim_go (fun hL hS hH => ⟨hL, okS_cons (v := vI (min x y)) (ok_min (okS_hd (okS_tl hS)) (okS_hd hS)) (okS_tl (okS_tl hS)), hH⟩) ?_ k
  intro hL hS hH R h p l e s m args below meth c w A H locs ls hr hX F T hl
  have h1 := h p l e s m args below meth c w A H locs ls hr hX F T hl
  have hts := F.2.2.2.2.1
  have h8 := catS (w := w) hS8
  simp only [List.map_cons, cv] at h1 ⊢
  rw [i32_min (okS_hd (okS_tl hS)) (okS_hd hS)] at h1
  exact va_mmin F.1 F.2.1 (by rw [F.2.2.1]; exact hl.1.symm) F.2.2.2.1 (hts _ w1) (hts _ w2) (hts _ w3) (hts _ w4) (Nat.le_trans hdd hr.1) (by have h7 := hr.2.1; omega) hr.2.2.1 hr.2.2.2.1 hd h1
end
