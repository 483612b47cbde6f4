/-! layer 2: edits -/
theorem I7_fr {K Km KJ KJm : Nat → Nat → Nat → Prop} {σ σ2 μ μ2 : Mem} (h : I7 σ μ) (F : FrG K KJ σ σ2) (G : FrG Km KJm μ μ2) (hk : ∀ k x r, K k x r → k ≠ 1 ∧ k ≠ 4 ∧ k ≠ 5) (hm : ∀ k x r, Km k x r → k ≠ 67 ∧ k ≠ 68 ∧ k ≠ 69) : I7 σ2 μ2 := by
  obtain ⟨c1, m, c2, c3, c4, c5⟩ := h
  refine ⟨?_, m, c2, ?_, ?_, fun i hi => ?_⟩
  · rw [F.1 1 0 0 (fun w => (hk _ _ _ w).1 rfl), G.1 67 0 0 (fun w => (hm _ _ _ w).1 rfl)]; exact c1
  · rw [F.1 4 0 0 (fun w => (hk _ _ _ w).2.1 rfl)]; exact c3
  · rw [G.1 69 0 0 (fun w => (hm _ _ _ w).2.2 rfl)]; exact c4
  · rw [F.1 5 0 i (fun w => (hk _ _ _ w).2.2 rfl), G.1 68 0 i (fun w => (hm _ _ _ w).2.1 rfl)]; exact c5 i hi
/-! rows that differ in a cell -/