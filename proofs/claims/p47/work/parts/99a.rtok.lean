/-! layer 2: the reference's next token -/
section
variable {σ μ : Mem} {N a s : Nat} {B : Nat → Int32}
theorem tkE_le (hs : s ≤ N) : s ≤ tkE N B s ∧ tkE N B s ≤ N := by
  unfold tkE
  by_cases q : s < N
  · rw [if_pos q]
    have h1 : lts N B s ≤ N - s := fstN_le (nlt N B s) (N - s)
    have h2 : dgs N B s ≤ N - s := fstN_le (ndg N B s) (N - s)
    by_cases ql : ltr (B s) = true
    · rw [if_pos ql]; omega
    · rw [if_neg ql]
      by_cases qd : dgt (B s) = true
      · rw [if_pos qd]; omega
      · rw [if_neg qd]; omega
  · rw [if_neg q]; omega
end
