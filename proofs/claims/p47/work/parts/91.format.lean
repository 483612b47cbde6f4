/-! layer 2: the formatted text -/
def F7 (σ σ2 μ μ2 : Mem) : Prop := FrQ (fun k _ _ => k = 4 ∨ k = 5) σ σ2 ∧ FrQ (fun k _ _ => k = 68 ∨ k = 69) μ μ2
section
variable {σ μ : Mem} {n : Nat}
end
