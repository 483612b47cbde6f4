/-! layer 2: bytes and blanks -/
/-- the text: N bytes -/
def TxC (σ : Mem) (N : Nat) (B : Nat → Int32) : Prop := N ≤ 700 ∧ rI σ 7 0 0 = nI N ∧ ∀ i, i < N → rI σ 6 0 i = B i
def btA (N : Nat) (B : Nat → Int32) (i : Nat) : Int32 := if i < N then B i else nI 0
def blk (x : Int32) : Bool := decide (x = nI 32 ∨ x = nI 10)
def ltr (x : Int32) : Bool := decide (nI 97 ≤ x ∧ x ≤ nI 122)
def dgt (x : Int32) : Bool := decide (nI 48 ≤ x ∧ x ≤ nI 57)
def nbl (B : Nat → Int32) (a k : Nat) : Bool := !blk (B (a + k))
def skp (N : Nat) (B : Nat → Int32) (a : Nat) : Nat := a + fstN (nbl B a) (N - a)
section
variable {σ μ : Mem} {N a i : Nat} {B : Nat → Int32}
theorem skipC_h (T : TxC σ N B) (ha : a ≤ N) (h8 : rI σ 8 0 0 = nI a) : OkQ (loop stX2_advance_0 5000 σ) (fun σ2 => rI σ2 8 0 0 = nI (skp N B a) ∧ FrQ (fun k _ _ => k = 8) σ σ2) := by
  obtain ⟨h1, h2, h3⟩ := T
  have hle := fstN_le (nbl B a) (N - a)
  refine loop_ok (fstN (nbl B a) (N - a)) (fun k q => rI q 8 0 0 = nI (a + k) ∧ FrQ (fun k _ _ => k = 8) σ q) (by omega) ⟨h8, Fr_rfl σ⟩ ?_
  rintro k q hk ⟨e1, e2⟩
  unfold stX2_advance_0 jX2_advance_39
  simp only [l_1, l_10, l_32]
  rw [e1, e2.1 7 0 0 (by omega), h2]
  by_cases hkn : k < fstN (nbl B a) (N - a)
  · have hb : blk (B (a + k)) = true := by
      have := fstN_no hkn
      unfold nbl at this
      simpa using this
    rw [if_neg (nI_ge (by omega) (by omega)), gd_inb (by omega) (by omega), nI_clamp (by omega), e2.1 6 0 _ (by omega), h3 _ (by omega), nI_add]
    have fin : OkQ (some (Sum.inl (wI q 8 0 0 (nI (a + k + 1)))) : Option (Mem ⊕ Mem)) (fun r => Sum.elim (fun a2 => k < fstN (nbl B a) (N - a) ∧ rI a2 8 0 0 = nI (a + (k + 1)) ∧ FrQ (fun k _ _ => k = 8) σ a2) (fun σ2 => rI σ2 8 0 0 = nI (skp N B a) ∧ FrQ (fun k _ _ => k = 8) σ σ2) r) := ⟨_, rfl, hkn, rI_wI_self, Fr_tr e2 (Fr_wI rfl)⟩
    rcases of_decide_eq_true hb with y | y
    · rw [if_pos y]; exact fin
    · by_cases y2 : B (a + k) = nI 32
      · rw [if_pos y2]; exact fin
      · rw [if_neg y2, if_neg (fun w => w y)]; exact fin
  · have ek : k = fstN (nbl B a) (N - a) := by omega
    by_cases hN : a + k < N
    · have hb : nbl B a k = true := by
        rw [ek]; exact fstN_yes (by omega)
      have hb2 : blk (B (a + k)) = false := by
        unfold nbl at hb
        simpa using hb
      have hb3 := of_decide_eq_false hb2
      rw [if_neg (nI_ge (by omega) (by omega)), gd_inb (by omega) (by omega), nI_clamp (by omega), e2.1 6 0 _ (by omega), h3 _ (by omega), if_neg (fun w => hb3 (Or.inl w)), if_pos (fun w => hb3 (Or.inr w))]
      exact ⟨_, rfl, by rw [e1, ek] <;> rfl, e2⟩
    · rw [if_pos (nI_le (by omega) (by omega))]
      exact ⟨_, rfl, by rw [e1, ek] <;> rfl, e2⟩
end
