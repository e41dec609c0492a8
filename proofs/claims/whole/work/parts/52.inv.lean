/-! LAYER 3c: what holds between the calls -/
def ovl (A S : JA) : JA := fun k => if 67 ≤ k ∧ k < 192 then S (k - 67) else A k
def shf (f : JA) (o : Nat) : JA := fun k => f (o + k)
def en_ (b : Nat) : List Nat → Nat → Nat
  | [], a => a
  | c :: l, a => en_ b l (a * b + c)
def wdL (l : List Nat) : Prop := 1 ≤ l.length ∧ l.length ≤ 7 ∧ ∀ c ∈ l, 1 ≤ c ∧ c ≤ 26
/-- the two ways in which a word is kept as a number -/
def nmR (x y : Int) : Prop := ∃ l : List Nat, wdL l ∧ x = (en_ 32 l 0 : Nat) ∧ y = (en_ 27 l 0 : Nat)
def cntQ (A : JA) : Int := fo (fun p x => fo (fun q x => if bt (A (4 + p).toNat) q.toNat then x + 1 else x) (p + 1) 0 x) 7 0 0
def symQ (A : JA) : Prop := ∀ n m : Int, 0 ≤ n → n < 7 → 0 ≤ m → m < 7 → bt (A (4 + n).toNat) m.toNat = bt (A (4 + m).toNat) n.toNat
/-- a tree of ONES, its parts behind those within them -/
def flat (A : JA) : Nat → Int → Option (List (Int × Int × Int))
  | 0, _ => none
  | f + 1, k =>
    let c := A (208 + 4 * k).toNat
    let x := A (208 + 4 * k + 1).toNat
    let y := A (208 + 4 * k + 2).toNat
    let z := A (208 + 4 * k + 3).toNat
    if 0 ≤ k ∧ k < 60 then
      if c = 1 then (flat A f x).bind fun l => some (l ++ [(11, 0, 0)])
      else if c = 2 then (flat A f x).bind fun l => (flat A f y).bind fun l2 => some (l ++ l2 ++ [(10, 0, 0)])
      else if c = 3 then (flat A f x).bind fun l => (flat A f y).bind fun l2 => some (l ++ l2 ++ [(9, 0, 0)])
      else if 61 ≤ c ∧ c ≤ 69 then some [(c - 49, z, if c = 64 then x else y)]
      else none
    else none
def leaves (L : List (Int × Int × Int)) : Nat := (L.filter fun q => decide (12 ≤ q.1)).length
def senR (ones size : Int) (prt sgn num : JA) (A : JA) : Prop := (A 206 = 0 ∧ ones = 0) ∨ (A 206 = 1 ∧ ones ≠ 0 ∧ ∃ L, flat A 60 (A 207) = some L ∧ leaves L ≤ 20 ∧ size = L.length ∧ L.length ≤ 40 ∧ ∀ i x, L[i]? = some x → prt i = x.1 ∧ sgn i = x.2.1 ∧ num i = x.2.2)
def IslX (σ : JSg) (p : Nat) (A N : JA) (pw : Int) : Prop := σ p 4 = cntQ A ∧ σ p 5 = pw ∧ (σ p 6 = 0 ∨ σ p 6 = 1) ∧ (∀ q : Int, 0 ≤ q → q < 7 → σ (p + 5) q.toNat = A (4 + q).toNat) ∧ (∀ w : Int, 0 ≤ w → w < A 0 → nmR (σ (p + 1) w.toNat) (N w.toNat))
def MemR (σ : JSg) (p : Nat) (A : JA) : Prop := σ p 0 = A 192 ∧ σ p 3 = A 193 ∧ ∀ w : Int, 0 ≤ w → w < 6 → σ (p + 1) w.toNat = A (194 + w).toNat ∧ σ (p + 2) w.toNat = A (200 + w).toNat
def WfM (A : JA) : Prop := (0 ≤ A 193 ∧ A 193 < 268435456) ∧ (∀ s : Int, A 1 ≤ s → bt (A 193) s.toNat = false) ∧ (∀ w : Int, 0 ≤ w → w < 6 → (0 ≤ A (194 + w).toNat ∧ A (194 + w).toNat ≤ 7) ∧ (0 ≤ A (200 + w).toNat ∧ A (200 + w).toNat < 128)) ∧ symQ A
def WfA (A : JA) : Prop := WfI A ∧ WfR A ∧ WfM A
def WorR (σ : JSg) (w : Nat) (A N : JA) (pw : Int) : Prop := IslR σ (w + 1) A ∧ IslX σ (w + 1) A N pw ∧ RowR σ (w + 8) A ∧ MemR σ (w + 15) A ∧ senR (σ (w + 18) 0) (σ (w + 18) 1) (σ (w + 19)) (σ (w + 20)) (σ (w + 21)) A
def pwA (σ : JSg) : Int := if σ 179 23 = 0 then 5 else σ 181 3
def TapR (σ : JSg) : Prop := σ 0 1 = σ 179 2 ∧ (0 ≤ σ 179 2 ∧ σ 179 2 ≤ 940) ∧ ∀ i : Int, 0 ≤ i → i < σ 179 2 → (0 ≤ σ 180 i.toNat ∧ σ 180 i.toNat < 256) ∧ σ 1 i.toNat = if σ 180 i.toNat < 128 then σ 180 i.toNat else σ 180 i.toNat - 256
def ImgR (σ : JSg) (k : Nat) : Prop := σ (49 + 23 * k) 4 = σ 188 k ∧ (σ 188 k = 0 ∨ (σ 188 k = 1 ∧ σ 179 23 = 1 ∧ WfA (shf (σ 183) (448 * k)) ∧ WorR σ (49 + 23 * k) (shf (σ 183) (448 * k)) (shf (σ 187) (6 * k)) (σ 183 (448 * k + 3))))
def pasP (σ : JSg) (j : Int) : Nat := 123 + 7 * ((σ 0 9 + 8 - σ 0 8 + j) % 8).toNat
def pasA (σ : JSg) (j : Int) : JA := ovl (σ 181) (shf (σ 184) (125 * j.toNat))
def PasR (σ : JSg) : Prop := σ 0 8 = σ 179 22 ∧ (0 ≤ σ 179 22 ∧ σ 179 22 ≤ 8) ∧ (0 ≤ σ 0 9 ∧ σ 0 9 < 8) ∧ ∀ j : Int, 0 ≤ j → j < σ 179 22 → WfR (pasA σ j) ∧ RowR σ (pasP σ j) (pasA σ j)
def LstR (σ : JSg) : Prop := σ 2 12 = σ 179 10 ∧ (σ 104 6 = σ 179 28 ∧ σ 179 28 ≤ 12 ∧ ∀ i : Int, 0 ≤ i → i < σ 179 28 → σ 106 i.toNat = σ 191 i.toNat) ∧ (σ 107 12 = σ 179 32 ∧ σ 179 32 ≤ 10 ∧ ∀ i : Int, 0 ≤ i → i < σ 179 32 → σ 113 i.toNat = σ 194 i.toNat) ∧ σ 114 7 = σ 179 36 ∧ ((σ 121 2 = 0 ∧ σ 201 0 = -1 ∧ σ 201 1 = -1 ∧ σ 201 2 = -1) ∨ (σ 121 2 ≠ 0 ∧ σ 121 4 = σ 201 0 ∧ σ 121 5 = σ 201 1 ∧ σ 121 6 = σ 201 2)) ∧ (σ 0 18 = σ 179 39 ∧ σ 179 39 ≤ 112 ∧ ∀ i : Int, 0 ≤ i → i < σ 179 39 → an32 (σ 122 i.toNat) 255 = σ 196 i.toNat)
def Inv (σ : JSg) : Prop := WfA (σ 181) ∧ WorR σ 3 (σ 181) (σ 185) (pwA σ) ∧ TapR σ ∧ (σ 179 23 = 0 ∨ σ 179 23 = 1) ∧ (ImgR σ 0 ∧ ImgR σ 1) ∧ PasR σ ∧ LstR σ
/-! rows of numbers that are alike where it counts -/
section
variable {σ : JSg} {p : Nat} {A B : JA}
theorem WfI_cg (h : ∀ k : Nat, k < 67 → k ≠ 3 → B k = A k) (H : WfI A) : WfI B := by
  obtain ⟨h0, h1, h2, h3, h4⟩ := H
  unfold WfI
  rw [h 0 (by omega) (by omega), h 1 (by omega) (by omega), h 2 (by omega) (by omega)]
  refine ⟨h0, h1, h2, fun q q0 q1 => ?_, fun s i s0 s1 i0 i1 => ?_⟩
  · rw [h _ (by omega) (by omega)]; exact h3 q q0 q1
  · have := h4 s i s0 s1 i0 i1
    unfold pipA at *
    rw [h _ (by omega) (by omega)]; exact this
theorem fit_cg (h : ∀ k : Nat, k < 67 → k ≠ 3 → B k = A k) {n m : Int} (h0 : 0 ≤ n) (h1 : n < 7) : fitB B n m = fitB A n m := by
  unfold fitB
  rw [h 2 (by omega) (by omega), h _ (by omega) (by omega)]
theorem IslR_cg (hI : A 1 ≤ 28) (h : ∀ k : Nat, k < 67 → k ≠ 3 → B k = A k) (H : IslR σ p A) : IslR σ p B := by
  obtain ⟨h0, h1, h2, h3, h4⟩ := H
  unfold IslR
  rw [h 0 (by omega) (by omega), h 1 (by omega) (by omega), h 2 (by omega) (by omega)]
  refine ⟨h0, h1, h2, fun s s0 s1 => ?_, fun n n0 n1 => ⟨(h4 n n0 n1).1, fun m m0 m1 => ?_⟩⟩
  · have := h3 s s0 s1
    unfold pipA at *
    rw [h _ (by omega) (by omega), h _ (by omega) (by omega)]; exact this
  · rw [fit_cg h n0 n1]; exact (h4 n n0 n1).2 m m0 m1
theorem cntQ_cg (h : ∀ k : Nat, k < 67 → k ≠ 3 → B k = A k) : cntQ B = cntQ A := by
  unfold cntQ
  refine fo_cg _ _ _ rfl (fun p x p0 p1 => ?_)
  rw [h _ (by omega) (by omega)]
theorem IslX_cg {N : JA} {pw : Int} (h : ∀ k : Nat, k < 67 → k ≠ 3 → B k = A k) (H : IslX σ p A N pw) : IslX σ p B N pw := by
  obtain ⟨h0, h1, h2, h3, h4⟩ := H
  unfold IslX
  rw [h 0 (by omega) (by omega), cntQ_cg h]
  refine ⟨h0, h1, h2, fun q q0 q1 => ?_, h4⟩
  rw [h _ (by omega) (by omega)]; exact h3 q q0 q1
theorem WfR_cg (hI : A 1 ≤ 28) (h : ∀ k : Nat, k ≤ 1 ∨ (67 ≤ k ∧ k < 192) → B k = A k) (H : WfR A) : WfR B := by
  obtain ⟨h0, h1, h2, h3⟩ := H
  have eo : ∀ s : Int, 0 ≤ s → s < A 1 → ownA B s = ownA A s := fun s s0 s1 => h _ (by omega)
  have ew : ∀ s : Int, 0 ≤ s → s < A 1 → whrA B s = whrA A s := fun s s0 s1 => h _ (by omega)
  have el : ∀ s : Int, 0 ≤ s → s < A 1 → lyrA B s = lyrA A s := fun s s0 s1 => h _ (by omega)
  have er : ∀ s : Int, 0 ≤ s → s < A 151 → rwA B s = rwA A s := fun s s0 s1 => h _ (by omega)
  unfold WfR
  rw [h 0 (by omega), h 1 (by omega), h 151 (by omega)]
  refine ⟨fun s s0 s1 => ?_, h1, fun i i0 i1 => ?_, fun i j i0 ij j1 => ?_⟩
  · rw [eo s s0 s1, ew s s0 s1, el s s0 s1]; exact h0 s s0 s1
  · have := h2 i i0 i1
    rw [er i i0 i1, ew _ (by omega) (by omega)]; exact this
  · rw [er i i0 (by omega), er j (by omega) j1]; exact h3 i j i0 ij j1
theorem RowR_cg (hI : A 0 ≤ 6 ∧ A 1 ≤ 28 ∧ A 151 ≤ A 1) (h : ∀ k : Nat, k ≤ 1 ∨ (67 ≤ k ∧ k < 192) → B k = A k) (H : RowR σ p A) : RowR σ p B := by
  obtain ⟨h0, h1, h2, h3, h4⟩ := H
  have eo : ∀ s : Int, 0 ≤ s → s < A 1 → ownA B s = ownA A s := fun s s0 s1 => h _ (by omega)
  have ew : ∀ s : Int, 0 ≤ s → s < A 1 → whrA B s = whrA A s := fun s s0 s1 => h _ (by omega)
  have er : ∀ s : Int, 0 ≤ s → s < A 151 → rwA B s = rwA A s := fun s s0 s1 => h _ (by omega)
  unfold RowR
  rw [h 0 (by omega), h 1 (by omega), h 151 (by omega)]
  refine ⟨h0, fun s s0 s1 => ?_, fun i i0 i1 => ?_, fun w w0 w1 => ?_, h4⟩
  · rw [eo s s0 s1, ew s s0 s1]; exact h1 s s0 s1
  · rw [er i i0 i1]; exact h2 i i0 i1
  · rw [h _ (by omega), h _ (by omega)]; exact h3 w w0 w1
theorem MemR_cg (h : ∀ k : Nat, 192 ≤ k → k < 206 → B k = A k) (H : MemR σ p A) : MemR σ p B := by
  obtain ⟨h0, h1, h2⟩ := H
  unfold MemR
  rw [h 192 (by omega) (by omega), h 193 (by omega) (by omega)]
  refine ⟨h0, h1, fun w w0 w1 => ?_⟩
  rw [h _ (by omega) (by omega), h _ (by omega) (by omega)]; exact h2 w w0 w1
theorem WfM_cg (h1 : B 1 = A 1) (hq : ∀ k : Nat, 4 ≤ k → k < 11 → B k = A k) (h : ∀ k : Nat, 192 ≤ k → k < 206 → B k = A k) (H : WfM A) : WfM B := by
  obtain ⟨g0, g1, g2, g3⟩ := H
  unfold WfM
  rw [h1, h 193 (by omega) (by omega)]
  refine ⟨g0, g1, fun w w0 w1 => ?_, fun n m n0 n1 m0 m1 => ?_⟩
  · rw [h _ (by omega) (by omega), h _ (by omega) (by omega)]; exact g2 w w0 w1
  · rw [hq _ (by omega) (by omega), hq _ (by omega) (by omega)]; exact g3 n m n0 n1 m0 m1
theorem flat_cg (h : ∀ k : Nat, 206 ≤ k → k < 448 → B k = A k) : ∀ (f : Nat) (k : Int), flat B f k = flat A f k := by
  intro f
  induction f with
  | zero => intro k; rfl
  | succ f ih =>
    intro k
    unfold flat
    by_cases hk : 0 ≤ k ∧ k < 60
    · rw [h (208 + 4 * k).toNat (by omega) (by omega), h (208 + 4 * k + 1).toNat (by omega) (by omega), h (208 + 4 * k + 2).toNat (by omega) (by omega), h (208 + 4 * k + 3).toNat (by omega) (by omega)]
      simp only [ih]
    · simp only [if_neg hk]
theorem senR_cg {ones size : Int} {prt sgn num : JA} (h : ∀ k : Nat, 206 ≤ k → k < 448 → B k = A k) (H : senR ones size prt sgn num A) : senR ones size prt sgn num B := by
  unfold senR at *
  rw [h 206 (by omega) (by omega), h 207 (by omega) (by omega), flat_cg h]
  exact H
end
/-! a change elsewhere changes none of these -/
section
variable {σ τ : JSg}
theorem IslR_ag {p : Nat} {A : JA} (h : ∀ q j, (q = p ∧ (j = 1 ∨ j = 2 ∨ j = 3)) ∨ q = p + 2 ∨ q = p + 3 ∨ q = p + 6 → τ q j = σ q j) (H : IslR σ p A) : IslR τ p A := by
  have e2 : τ (p + 2) = σ (p + 2) := funext fun j => h _ _ (by omega)
  have e3 : τ (p + 3) = σ (p + 3) := funext fun j => h _ _ (by omega)
  have e6 : τ (p + 6) = σ (p + 6) := funext fun j => h _ _ (by omega)
  unfold IslR at *
  rw [e2, e3, e6, h p 1 (by omega), h p 2 (by omega), h p 3 (by omega)]
  exact H
theorem RowR_ag {p : Nat} {A : JA} (h : ∀ q j, (q = p ∧ j = 4) ∨ (p + 1 ≤ q ∧ q ≤ p + 6) → τ q j = σ q j) (H : RowR σ p A) : RowR τ p A := by
  have e1 : τ (p + 1) = σ (p + 1) := funext fun j => h _ _ (by omega)
  have e2 : τ (p + 2) = σ (p + 2) := funext fun j => h _ _ (by omega)
  have e3 : τ (p + 3) = σ (p + 3) := funext fun j => h _ _ (by omega)
  have e4 : τ (p + 4) = σ (p + 4) := funext fun j => h _ _ (by omega)
  have e5 : τ (p + 5) = σ (p + 5) := funext fun j => h _ _ (by omega)
  have e6 : τ (p + 6) = σ (p + 6) := funext fun j => h _ _ (by omega)
  unfold RowR at *
  rw [e1, e2, e3, e4, e5, e6, h p 4 (by omega)]
  exact H
theorem IslX_ag {p : Nat} {A N : JA} {pw : Int} (h : ∀ q j, (q = p ∧ (j = 4 ∨ j = 5 ∨ j = 6)) ∨ q = p + 1 ∨ q = p + 5 → τ q j = σ q j) (H : IslX σ p A N pw) : IslX τ p A N pw := by
  have e1 : τ (p + 1) = σ (p + 1) := funext fun j => h _ _ (by omega)
  have e5 : τ (p + 5) = σ (p + 5) := funext fun j => h _ _ (by omega)
  unfold IslX at *
  rw [e1, e5, h p 4 (by omega), h p 5 (by omega), h p 6 (by omega)]
  exact H
theorem MemR_ag {p : Nat} {A : JA} (h : ∀ q j, (q = p ∧ (j = 0 ∨ j = 3)) ∨ q = p + 1 ∨ q = p + 2 → τ q j = σ q j) (H : MemR σ p A) : MemR τ p A := by
  have e1 : τ (p + 1) = σ (p + 1) := funext fun j => h _ _ (by omega)
  have e2 : τ (p + 2) = σ (p + 2) := funext fun j => h _ _ (by omega)
  unfold MemR at *
  rw [e1, e2, h p 0 (by omega), h p 3 (by omega)]
  exact H
def worC (w q j : Nat) : Prop := (q = w + 1 ∧ 1 ≤ j ∧ j ≤ 6) ∨ (w + 2 ≤ q ∧ q ≤ w + 4) ∨ q = w + 6 ∨ q = w + 7 ∨ (q = w + 8 ∧ j = 4) ∨ (w + 9 ≤ q ∧ q ≤ w + 14) ∨ (q = w + 15 ∧ (j = 0 ∨ j = 3)) ∨ q = w + 16 ∨ q = w + 17 ∨ (q = w + 18 ∧ j ≤ 1) ∨ (w + 19 ≤ q ∧ q ≤ w + 21)
theorem WorR_ag {w : Nat} {A N : JA} {pw : Int} (h : ∀ q j, worC w q j → τ q j = σ q j) (H : WorR σ w A N pw) : WorR τ w A N pw := by
  unfold worC at h
  obtain ⟨h1, h2, h3, h4, h5⟩ := H
  refine ⟨IslR_ag (fun q j hq => h q j (by omega)) h1, IslX_ag (fun q j hq => h q j (by omega)) h2, RowR_ag (fun q j hq => h q j (by omega)) h3, MemR_ag (fun q j hq => h q j (by omega)) h4, ?_⟩
  have e1 : τ (w + 19) = σ (w + 19) := funext fun j => h _ _ (by omega)
  have e2 : τ (w + 20) = σ (w + 20) := funext fun j => h _ _ (by omega)
  have e3 : τ (w + 21) = σ (w + 21) := funext fun j => h _ _ (by omega)
  rw [e1, e2, e3, h (w + 18) 0 (by omega), h (w + 18) 1 (by omega)]
  exact h5
theorem TapR_ag (h : ∀ q j, (q = 0 ∧ j = 1) ∨ q = 1 ∨ (q = 179 ∧ j = 2) ∨ q = 180 → τ q j = σ q j) (H : TapR σ) : TapR τ := by
  have e1 : τ 1 = σ 1 := funext fun j => h _ _ (by omega)
  have e2 : τ 180 = σ 180 := funext fun j => h _ _ (by omega)
  unfold TapR at *
  rw [e1, e2, h 0 1 (by omega), h 179 2 (by omega)]
  exact H
theorem ImgR_ag {k : Nat} (h : ∀ q j, worC (49 + 23 * k) q j ∨ (q = 49 + 23 * k ∧ j = 4) ∨ q = 183 ∨ q = 187 ∨ q = 188 ∨ (q = 179 ∧ j = 23) → τ q j = σ q j) (H : ImgR σ k) : ImgR τ k := by
  have e1 : τ 183 = σ 183 := funext fun j => h _ _ (by omega)
  have e2 : τ 187 = σ 187 := funext fun j => h _ _ (by omega)
  have e3 : τ 188 = σ 188 := funext fun j => h _ _ (by omega)
  unfold ImgR at *
  rw [e1, e2, e3, h (49 + 23 * k) 4 (by omega), h 179 23 (by omega)]
  refine ⟨H.1, ?_⟩
  rcases H.2 with H | ⟨h1, h2, h3, h4⟩
  · exact Or.inl H
  · exact Or.inr ⟨h1, h2, h3, WorR_ag (fun q j hq => h q j (Or.inl hq)) h4⟩
theorem PasR_ag (h : ∀ q j, (q = 0 ∧ (j = 8 ∨ j = 9)) ∨ (123 ≤ q ∧ q ≤ 178) ∨ (q = 179 ∧ j = 22) ∨ q = 181 ∨ q = 184 → τ q j = σ q j) (H : PasR σ) : PasR τ := by
  have e1 : τ 181 = σ 181 := funext fun j => h _ _ (by omega)
  have e2 : τ 184 = σ 184 := funext fun j => h _ _ (by omega)
  have ep : pasP τ = pasP σ := by
    funext j
    unfold pasP
    rw [h 0 8 (by omega), h 0 9 (by omega)]
  have ea : pasA τ = pasA σ := by
    funext j
    unfold pasA
    rw [e1, e2]
  unfold PasR at *
  rw [ep, ea, h 0 8 (by omega), h 0 9 (by omega), h 179 22 (by omega)]
  refine ⟨H.1, H.2.1, H.2.2.1, fun j h0 h1 => ⟨(H.2.2.2 j h0 h1).1, ?_⟩⟩
  refine RowR_ag (fun q i hq => h q i ?_) (H.2.2.2 j h0 h1).2
  unfold pasP at hq
  omega
theorem LstR_ag (h : ∀ q j, (q = 0 ∧ j = 18) ∨ (q = 2 ∧ j = 12) ∨ (q = 104 ∧ j = 6) ∨ q = 106 ∨ (q = 107 ∧ j = 12) ∨ q = 113 ∨ (q = 114 ∧ j = 7) ∨ (q = 121 ∧ (j = 2 ∨ j = 4 ∨ j = 5 ∨ j = 6)) ∨ q = 122 ∨ (q = 179 ∧ (j = 10 ∨ j = 28 ∨ j = 32 ∨ j = 36 ∨ j = 39)) ∨ q = 191 ∨ q = 194 ∨ q = 196 ∨ q = 201 → τ q j = σ q j) (H : LstR σ) : LstR τ := by
  have e1 : τ 106 = σ 106 := funext fun j => h _ _ (by omega)
  have e2 : τ 113 = σ 113 := funext fun j => h _ _ (by omega)
  have e3 : τ 122 = σ 122 := funext fun j => h _ _ (by omega)
  have e4 : τ 191 = σ 191 := funext fun j => h _ _ (by omega)
  have e5 : τ 194 = σ 194 := funext fun j => h _ _ (by omega)
  have e6 : τ 196 = σ 196 := funext fun j => h _ _ (by omega)
  have e7 : τ 201 = σ 201 := funext fun j => h _ _ (by omega)
  unfold LstR at *
  rw [e1, e2, e3, e4, e5, e6, e7, h 0 18 (by omega), h 2 12 (by omega), h 104 6 (by omega), h 107 12 (by omega), h 114 7 (by omega), h 121 2 (by omega), h 121 4 (by omega), h 121 5 (by omega), h 121 6 (by omega), h 179 10 (by omega), h 179 28 (by omega), h 179 32 (by omega), h 179 36 (by omega), h 179 39 (by omega)]
  exact H
/-- cells that nothing between the calls speaks of -/
def scr (p j : Nat) : Prop := (p = 2 ∧ j ≠ 12) ∨ p = 8 ∨ p = 25 ∨ (26 ≤ p ∧ p ≤ 48) ∨ (95 ≤ p ∧ p ≤ 103) ∨ (p = 104 ∧ j ≠ 6) ∨ p = 105 ∨ (p = 107 ∧ j ≠ 12) ∨ (108 ≤ p ∧ p ≤ 112) ∨ (p = 114 ∧ j ≠ 7) ∨ (115 ≤ p ∧ p ≤ 120) ∨ (p = 121 ∧ (j = 0 ∨ j = 1 ∨ j = 3)) ∨ (p = 179 ∧ j ≠ 2 ∧ j ≠ 10 ∧ j ≠ 22 ∧ j ≠ 23 ∧ j ≠ 28 ∧ j ≠ 32 ∧ j ≠ 36 ∧ j ≠ 39) ∨ p = 182 ∨ p = 186 ∨ p = 189 ∨ p = 190 ∨ p = 192 ∨ p = 193 ∨ p = 195 ∨ (197 ≤ p ∧ p ≤ 200) ∨ 202 ≤ p
theorem inv_ag (h : Agr scr σ τ) (H : Inv σ) : Inv τ := by
  unfold Agr scr at h
  have e1 : τ 181 = σ 181 := funext fun j => h _ _ (by omega)
  have e2 : τ 185 = σ 185 := funext fun j => h _ _ (by omega)
  have e3 : pwA τ = pwA σ := by
    unfold pwA
    rw [e1, h 179 23 (by omega)]
  obtain ⟨h1, h2, h3, h4, h5, h6, h7⟩ := H
  unfold Inv
  rw [e1, e2, e3, h 179 23 (by omega)]
  refine ⟨h1, WorR_ag (fun q j hq => h q j ?_) h2, TapR_ag (fun q j hq => h q j (by omega)) h3, h4, ⟨ImgR_ag (fun q j hq => h q j ?_) h5.1, ImgR_ag (fun q j hq => h q j ?_) h5.2⟩, PasR_ag (fun q j hq => h q j (by omega)) h6, LstR_ag (fun q j hq => h q j (by omega)) h7⟩
  · unfold worC at hq
    omega
  · unfold worC at hq
    omega
  · unfold worC at hq
    omega
theorem inv_thr {x : Int} (H : Inv σ) : Inv (sp σ 179 0 x) := inv_ag (ag_sp ag_refl (by unfold scr; omega)) H
end
/-! the least of what is used -/
section
variable {σ : JSg}
theorem in_I (H : Inv σ) : WfI (σ 181) := H.1.1
theorem in_W (H : Inv σ) : WfR (σ 181) := H.1.2.1
theorem in_M (H : Inv σ) : WfM (σ 181) := H.1.2.2
theorem in_L (H : Inv σ) : IslR σ 4 (σ 181) := H.2.1.1
theorem in_X (H : Inv σ) : IslX σ 4 (σ 181) (σ 185) (pwA σ) := H.2.1.2.1
theorem in_R (H : Inv σ) : RowR σ 11 (σ 181) := H.2.1.2.2.1
theorem in_Y (H : Inv σ) : MemR σ 18 (σ 181) := H.2.1.2.2.2.1
theorem in_S (H : Inv σ) : senR (σ 21 0) (σ 21 1) (σ 22) (σ 23) (σ 24) (σ 181) := H.2.1.2.2.2.2
theorem in_T (H : Inv σ) : TapR σ := H.2.2.1
theorem in_P (H : Inv σ) : PasR σ := H.2.2.2.2.2.1
theorem in_Z (H : Inv σ) : LstR σ := H.2.2.2.2.2.2
theorem in_b (H : Inv σ) : σ 179 23 = 0 ∨ σ 179 23 = 1 := H.2.2.2.1
end
