/-! layer 2: booking, undoing -/
/-! the row with a booking laid -/
theorem NM0 : NMq 0 0 := ⟨[], by decide, fun l hl => absurd hl List.not_mem_nil, by decide +kernel, by decide +kernel⟩
section
variable {σ μ : Mem}
end
