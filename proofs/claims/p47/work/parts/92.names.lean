/-! layer 2: names in the formatted text -/
theorem n8_snoc (ls : List Nat) (l : Nat) : n8 (ls ++ [l]) = n8 ls * 256 + (96 + l) := by
  unfold n8
  rw [List.foldl_append] <;> rfl
theorem n5_snoc (ls : List Nat) (l : Nat) : n5Q (ls ++ [l]) = n5Q ls * 32 + l := by
  unfold n5Q
  rw [List.foldl_append] <;> rfl
theorem n8_lt : ∀ (r : List Nat), (∀ l, l ∈ r → 1 ≤ l ∧ l ≤ 26) → n8 r.reverse < 256 ^ r.length := by
  intro r
  induction r with
  | nil => intro _; exact Nat.zero_lt_one
  | cons l r ih =>
    intro h
    have h1 := ih (fun x hx => h x (List.mem_cons_of_mem _ hx))
    have h2 := h l List.mem_cons_self
    rw [List.reverse_cons, n8_snoc, List.length_cons, Nat.pow_succ]
    omega
theorem n5_lt : ∀ (r : List Nat), (∀ l, l ∈ r → 1 ≤ l ∧ l ≤ 26) → n5Q r.reverse < 32 ^ r.length := by
  intro r
  induction r with
  | nil => intro _; exact Nat.zero_lt_one
  | cons l r ih =>
    intro h
    have h1 := ih (fun x hx => h x (List.mem_cons_of_mem _ hx))
    have h2 := h l List.mem_cons_self
    rw [List.reverse_cons, n5_snoc, List.length_cons, Nat.pow_succ]
    omega