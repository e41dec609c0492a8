/-! LAYER 1q: calls with a known answer -/
section
variable {own : String} {cc : ByteArray} {nL : Nat} {ret : Option FieldType} {d : Nat} {Sh : JSh} {ρ : JRo} {pc : Nat} {L : List (Nat × JV)} {S st : List JV} {σ : JSg} {R : JD} {o : Option Unit} {y : MethodName} {cc' : ByteArray} {nL' : Nat} {ret' : Option FieldType} {d' idx n ci q : Nat} {as : List JV}
theorem kn_VIp {o' : Option (Int)} {x0 : Int} (hf : o' = some x0) (hv : JVir own idx y cc' nL' ret' n ci) (hs : Sh[q]? = some (.inl ci)) (hd : decode cc pc = .ok (.invokevirtual idx, 3)) (hK : Call y cc' nL' ret' d' Sh ρ (vR q :: as) σ (dIp σ) o') (hn : as.length = n) (hdd : d' + 1 ≤ d ∧ nL' ≤ 45) (hst : st = as.reverse ++ vR q :: S) (hS8 : jwid S ≤ 8)
    (k : GSim own cc nL ret d Sh ρ (pc + 3) L (vI x0 :: S) σ (fun _ : Unit => R) o) : GSim own cc nL ret d Sh ρ pc L st σ (fun _ : Unit => R) o := by
  have h := sim_callVIp (own := own) (cc := cc) (nL := nL) (ret := ret) (d := d) (pc := pc) (L := L) (dec := fun _ : Unit => R) (g := fun x => @ite _ (x = x0) (Classical.propDecidable _) o none) hv hs hd hK hn hdd hst hS8 (fun x => cs_eq _ fun e => by cases e; exact k)
  rw [hf] at h
  unfold bd1 at h
  rw [Option.bind_some] at h
  replace h : GSim own cc nL ret d Sh ρ pc L st σ (fun _ : Unit => R) (@ite _ (x0 = x0) (Classical.propDecidable _) o none) := h
  rwa [if_pos rfl] at h
theorem kn_VIm {o' : Option (Int × JSg)} {x0 : Int} {σ0 : JSg} (hf : o' = some (x0, σ0)) (hv : JVir own idx y cc' nL' ret' n ci) (hs : Sh[q]? = some (.inl ci)) (hd : decode cc pc = .ok (.invokevirtual idx, 3)) (hK : Call y cc' nL' ret' d' Sh ρ (vR q :: as) σ (dIm) o') (hn : as.length = n) (hdd : d' + 1 ≤ d ∧ nL' ≤ 45) (hst : st = as.reverse ++ vR q :: S) (hS8 : jwid S ≤ 8)
    (k : GSim own cc nL ret d Sh ρ (pc + 3) L (vI x0 :: S) σ0 (fun _ : Unit => R) o) : GSim own cc nL ret d Sh ρ pc L st σ (fun _ : Unit => R) o := by
  have h := sim_callVIm (own := own) (cc := cc) (nL := nL) (ret := ret) (d := d) (pc := pc) (L := L) (dec := fun _ : Unit => R) (g := fun x s => @ite _ ((x, s) = (x0, σ0)) (Classical.propDecidable _) o none) hv hs hd hK hn hdd hst hS8 (fun x s => cs_eq _ fun e => by cases e; exact k)
  rw [hf] at h
  unfold bd2 at h
  rw [Option.bind_some] at h
  replace h : GSim own cc nL ret d Sh ρ pc L st σ (fun _ : Unit => R) (@ite _ ((x0, σ0) = (x0, σ0)) (Classical.propDecidable _) o none) := h
  rwa [if_pos rfl] at h
theorem kn_VLp {o' : Option (Int)} {x0 : Int} (hf : o' = some x0) (hv : JVir own idx y cc' nL' ret' n ci) (hs : Sh[q]? = some (.inl ci)) (hd : decode cc pc = .ok (.invokevirtual idx, 3)) (hK : Call y cc' nL' ret' d' Sh ρ (vR q :: as) σ (dLp σ) o') (hn : as.length = n) (hdd : d' + 1 ≤ d ∧ nL' ≤ 45) (hst : st = as.reverse ++ vR q :: S) (hS8 : jwid S ≤ 8)
    (k : GSim own cc nL ret d Sh ρ (pc + 3) L (vL x0 :: S) σ (fun _ : Unit => R) o) : GSim own cc nL ret d Sh ρ pc L st σ (fun _ : Unit => R) o := by
  have h := sim_callVLp (own := own) (cc := cc) (nL := nL) (ret := ret) (d := d) (pc := pc) (L := L) (dec := fun _ : Unit => R) (g := fun x => @ite _ (x = x0) (Classical.propDecidable _) o none) hv hs hd hK hn hdd hst hS8 (fun x => cs_eq _ fun e => by cases e; exact k)
  rw [hf] at h
  unfold bd1 at h
  rw [Option.bind_some] at h
  replace h : GSim own cc nL ret d Sh ρ pc L st σ (fun _ : Unit => R) (@ite _ (x0 = x0) (Classical.propDecidable _) o none) := h
  rwa [if_pos rfl] at h
theorem kn_VLm {o' : Option (Int × JSg)} {x0 : Int} {σ0 : JSg} (hf : o' = some (x0, σ0)) (hv : JVir own idx y cc' nL' ret' n ci) (hs : Sh[q]? = some (.inl ci)) (hd : decode cc pc = .ok (.invokevirtual idx, 3)) (hK : Call y cc' nL' ret' d' Sh ρ (vR q :: as) σ (dLm) o') (hn : as.length = n) (hdd : d' + 1 ≤ d ∧ nL' ≤ 45) (hst : st = as.reverse ++ vR q :: S) (hS8 : jwid S ≤ 8)
    (k : GSim own cc nL ret d Sh ρ (pc + 3) L (vL x0 :: S) σ0 (fun _ : Unit => R) o) : GSim own cc nL ret d Sh ρ pc L st σ (fun _ : Unit => R) o := by
  have h := sim_callVLm (own := own) (cc := cc) (nL := nL) (ret := ret) (d := d) (pc := pc) (L := L) (dec := fun _ : Unit => R) (g := fun x s => @ite _ ((x, s) = (x0, σ0)) (Classical.propDecidable _) o none) hv hs hd hK hn hdd hst hS8 (fun x s => cs_eq _ fun e => by cases e; exact k)
  rw [hf] at h
  unfold bd2 at h
  rw [Option.bind_some] at h
  replace h : GSim own cc nL ret d Sh ρ pc L st σ (fun _ : Unit => R) (@ite _ ((x0, σ0) = (x0, σ0)) (Classical.propDecidable _) o none) := h
  rwa [if_pos rfl] at h
end
