/-! layer 2: the pure statement -/
theorem plc_e : plc ρe = ((fun _ => 0), (fun _ => 0), (fun _ => 0)) := by
  have h : ∀ n, plN ρe n = ((fun _ => 0), (fun _ => 0), (fun _ => 0)) := by
    intro n
    induction n with
    | zero => rfl
    | succ n ih =>
      show plB ρe n (plN ρe n) (ρe 37) = _
      rw [ih] <;> rfl
  exact h 30