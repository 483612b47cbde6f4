/-! layer 2: a text's statements: settings -/
def FK (j : Nat) (σ σ2 : Mem) : Prop := FrG (fun k x _ => (8 ≤ k ∧ k ≤ 11) ∨ ((20 ≤ k ∧ k ≤ 49) ∧ x = j)) (fun k x _ => k = 0 ∨ (k = 1 ∨ k = 2) ∧ x = j) σ σ2
def FM (μ μ2 : Mem) : Prop := FrG (fun k _ r => (71 ≤ k ∧ k ≤ 75) ∨ (k = 61 ∧ 208 ≤ r ∧ r < 416)) (fun k _ _ => k = 10 ∨ k = 13 ∨ k = 14) μ μ2
section
variable {σ σ2 μ μ2 : Mem} {j N s w : Nat} {B : Nat → Int32} {ρ : RwQ}
end
