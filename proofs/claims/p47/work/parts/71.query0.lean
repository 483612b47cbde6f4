/-! layer 2: questions about what was told -/
theorem ref_ok {μ : Mem} (v : Int32) : OkQ (some (v, wI μ 60 0 0 (nI 0))) (fun q => q.1 = v ∧ rI q.2 60 0 0 = nI 0 ∧ QTQ μ q.2) := ⟨_, rfl, rfl, rI_wI_self, QT_60⟩
section
variable {σ μ : Mem} {ρ : RwQ}
theorem I1_lt (h1 : I1 σ ρ) : rP σ 0 < 12 := by have := h1.1.1; omega
theorem nI_lit {a b : Nat} (ha : a < 100) (hb : b < 100) (h : a ≠ b) : ¬ nI a = nI b := nI_ne (by omega) (by omega) h
end
