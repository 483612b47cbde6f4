/-! layer 2: a text's statements: settings -/
def FK (j : Nat) (σ σ2 : Mem) : Prop := FrG (fun k x _ => (8 ≤ k ∧ k ≤ 11) ∨ ((20 ≤ k ∧ k ≤ 49) ∧ x = j)) (fun k x _ => k = 0 ∨ (k = 1 ∨ k = 2) ∧ x = j) σ σ2
def FM (μ μ2 : Mem) : Prop := FrG (fun k _ r => (71 ≤ k ∧ k ≤ 75) ∨ (k = 61 ∧ 208 ≤ r ∧ r < 416)) (fun k _ _ => k = 10 ∨ k = 13 ∨ k = 14) μ μ2
section
variable {σ σ2 μ μ2 : Mem} {j N s w : Nat} {B : Nat → Int32} {ρ : RwQ}
theorem FK_rfl (σ : Mem) : FK j σ σ := FrG_rfl σ
theorem FK_tr {a b c : Mem} (h1 : FK j a b) (h2 : FK j b c) : FK j a c := FrG_tr h1 h2
theorem FA_K (F : FA σ σ2) : FK j σ σ2 := FrG_mono F (fun k x r z => Or.inl z) (fun k x r z => Or.inl z)
theorem HR_g {K KJ : Nat → Nat → Nat → Prop} (h : HR σ j ρ) (F : FrG K KJ σ σ2) (hk : ∀ k r, 20 ≤ k → k ≤ 49 → ¬ K k j r) : HR σ2 j ρ := by
  have hh := HR_fr (K := K) (σ2 := (σ2.1, σ.2)) h (FrG_I F) hk
  exact hh
theorem HR_FA (h : HR σ j ρ) (F : FA σ σ2) : HR σ2 j ρ := HR_g h F (fun k r _ _ z => by omega)
end
