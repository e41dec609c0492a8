/-! LAYER 3zf: which PIPS fit -/
section
variable {σ τ : JSg} {n p : Nat} {A : JA}
end
