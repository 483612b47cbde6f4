/-! layer 2: chance, risk, expected walks -/
section
variable {σ μ : Mem} {ρ : RwQ} {s K n : Nat} {f : Nat → UInt64} {p : UInt64}
/-- answers that are doubles: equal and finite -/
def ANd (c : Option ((UInt64 ⊕ Nat) × Mem)) (r : Option (UInt64 × Mem)) (E : List (Nat × Nat)) (J : Mem → Mem → Prop) : Prop :=
  (∃ x σ2, FP.dcmp x x = some .eq ∧ c = some (.inl x, σ2) ∧ OkQ r (fun q => q.1 = x ∧ rI q.2 60 0 0 = nI 0 ∧ J σ2 q.2)) ∨ (∃ k t σ2, (k, t) ∈ E ∧ c = some (.inr k, σ2) ∧ OkQ r (fun q => rI q.2 60 0 0 = nI t ∧ J σ2 q.2))
theorem od_end (h3 : I3 ρ) (n : Nat) {k : Nat} (hk : 193 ≤ k) : od ρ n (ρ 37) k = 0 := od_0 h3.1 n (ρ 37) (Nat.le_refl _) k (by have := h3.2.2; omega)
end
