/-! layer 2: the reference's placing: beds given out, all placed -/
theorem okB_rng {ρ h : RwQ} {b S kd x : Nat} (hq : okB ρ h b S kd x = true) : x % 10 < rmv ρ (x / 10) 1 ∧ S / 2 ^ (x / 10) % 2 = 1 ∧ rmv ρ (x / 10) 0 = kd ∧ freeB ρ h b x = true := by
  unfold okB at hq
  rw [Bool.and_eq_true, decide_eq_true_iff] at hq
  exact ⟨hq.1.1, hq.1.2.1, hq.1.2.2, hq.2⟩
section
variable {μ : Mem} {s : Nat} {ρ : RwQ} {π : PnQ}
end
