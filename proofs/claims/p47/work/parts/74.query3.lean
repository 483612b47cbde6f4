/-! layer 2: questions about beds and money, the rest -/
/-- an answer of a method that throws nothing -/
def A0 (c : Option Int32) (r : Option (Int32 × Mem)) (J : Mem → Prop) : Prop := ∃ x, c = some x ∧ OkQ r (fun q => q.1 = x ∧ J q.2)
section
variable {σ μ : Mem} {ρ : RwQ}
def fuN (ρ : RwQ) (n : Nat) : Nat := b1 (decide (0 < ρ 4 ∧ sumNQ (fun r => tkN (plc ρ).1 r n) (ρ 4) = allB ρ))
theorem occ_le (h : RwQ) (n : Nat) {k : Nat} (hk : k ≤ 8) : sumNQ (fun r => tkN h r n) k ≤ 80 := by
  have := sumN_le (f := fun r => tkN h r n) (c := 10) (n := k) (fun r _ => tkN_le h r n)
  omega
/-- nights free one after the other: the greatest number, the number that ends here -/
def lfS (h : RwQ) (x : Nat) : Nat → Nat × Nat
  | 0 => (0, 0)
  | n + 1 => (if (lfS h x n).1 < (if h (30 * x + n) = 0 then (lfS h x n).2 + 1 else 0) then (if h (30 * x + n) = 0 then (lfS h x n).2 + 1 else 0) else (lfS h x n).1, if h (30 * x + n) = 0 then (lfS h x n).2 + 1 else 0)
theorem lfS_0 {h : RwQ} {x n : Nat} (w : h (30 * x + n) = 0) : lfS h x (n + 1) = (if (lfS h x n).1 < (lfS h x n).2 + 1 then (lfS h x n).2 + 1 else (lfS h x n).1, (lfS h x n).2 + 1) := by
  show (if (lfS h x n).1 < (if h (30 * x + n) = 0 then (lfS h x n).2 + 1 else 0) then (if h (30 * x + n) = 0 then (lfS h x n).2 + 1 else 0) else (lfS h x n).1, if h (30 * x + n) = 0 then (lfS h x n).2 + 1 else 0) = _
  simp only [if_pos w]
theorem lfS_1 {h : RwQ} {x n : Nat} (w : ¬ h (30 * x + n) = 0) : lfS h x (n + 1) = ((lfS h x n).1, 0) := by
  show (if (lfS h x n).1 < (if h (30 * x + n) = 0 then (lfS h x n).2 + 1 else 0) then (if h (30 * x + n) = 0 then (lfS h x n).2 + 1 else 0) else (lfS h x n).1, if h (30 * x + n) = 0 then (lfS h x n).2 + 1 else 0) = _
  simp only [if_neg w]
  rw [if_neg (by omega)]
theorem lfS_le (h : RwQ) (x : Nat) : ∀ n, (lfS h x n).1 ≤ n ∧ (lfS h x n).2 ≤ n := by
  intro n
  induction n with
  | zero => exact ⟨Nat.le_refl _, Nat.le_refl _⟩
  | succ n ih =>
    by_cases w : h (30 * x + n) = 0
    · rw [lfS_0 w]
      refine ⟨?_, by show (lfS h x n).2 + 1 ≤ n + 1; omega⟩
      show (if (lfS h x n).1 < (lfS h x n).2 + 1 then (lfS h x n).2 + 1 else (lfS h x n).1) ≤ n + 1
      split <;> omega
    · rw [lfS_1 w]
      exact ⟨by show (lfS h x n).1 ≤ n + 1; omega, Nat.zero_le _⟩
/-- a bed of the booking that isn't free in the night -/
def nfP (ρ : RwQ) (b n p : Nat) : Bool := decide ((plc ρ).1 (30 * ((plc ρ).2.2 (12 * b + p) - 1) + n) ≠ 0)
def afB (ρ : RwQ) (b n : Nat) : Bool := decide (fstN (nfP ρ b n) (prs ρ b) = prs ρ b)
theorem afB_iff {ρ : RwQ} {b n : Nat} : afB ρ b n = true ↔ fstN (nfP ρ b n) (prs ρ b) = prs ρ b := by
  unfold afB
  rw [decide_eq_true_iff]
end
