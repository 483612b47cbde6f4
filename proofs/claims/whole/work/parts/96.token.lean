/-! layer 2: bytes and blanks -/
theorem isIn_b (x lo hi : Int32) : fX6_isIn x lo hi = some (nI (b1 (decide (lo ≤ x ∧ x ≤ hi)))) := by
  unfold fX6_isIn jX6_isIn_14
  by_cases h1 : x < lo
  · rw [if_pos h1, decide_eq_false (fun w => Int32.not_lt.mpr w.1 h1)] <;> rfl
  · by_cases h2 : hi < x
    · rw [if_neg h1, if_pos h2, decide_eq_false (fun w => Int32.not_lt.mpr w.2 h2)] <;> rfl
    · rw [if_neg h1, if_neg h2, decide_eq_true ⟨Int32.not_lt.mp h1, Int32.not_lt.mp h2⟩] <;> rfl
/-- the text: N bytes -/
def TxC (σ : Mem) (N : Nat) (B : Nat → Int32) : Prop := N ≤ 700 ∧ rI σ 7 0 0 = nI N ∧ ∀ i, i < N → rI σ 6 0 i = B i
def TxR (μ : Mem) (N : Nat) (B : Nat → Int32) : Prop := N ≤ 700 ∧ rI μ 70 0 0 = nI N ∧ ∀ i, i < N → rI μ 65 0 i = B i
def btA (N : Nat) (B : Nat → Int32) (i : Nat) : Int32 := if i < N then B i else nI 0
def blk (x : Int32) : Bool := decide (x = nI 32 ∨ x = nI 10)
def ltr (x : Int32) : Bool := decide (nI 97 ≤ x ∧ x ≤ nI 122)
def dgt (x : Int32) : Bool := decide (nI 48 ≤ x ∧ x ≤ nI 57)
def nbl (B : Nat → Int32) (a k : Nat) : Bool := !blk (B (a + k))
def skp (N : Nat) (B : Nat → Int32) (a : Nat) : Nat := a + fstN (nbl B a) (N - a)
section
variable {σ μ : Mem} {N a i : Nat} {B : Nat → Int32}
theorem byteAt_s (T : TxR μ N B) (hi : i ≤ 700) : fX6_byteAt (nI i) μ = some (btA N B i) := by
  obtain ⟨h1, h2, h3⟩ := T
  unfold fX6_byteAt btA
  simp only [l_0]
  rw [h2]
  by_cases q : i < N
  · rw [if_neg (nI_ge q (by omega)), if_pos q, gd_inb (by omega) (by omega), nI_clamp (by omega), h3 i q]
  · rw [if_pos (nI_le (by omega) (by omega)), if_neg q]
theorem isLetter_s (T : TxR μ N B) (hi : i ≤ 700) : fX6_isLetter (nI i) μ = some (nI (b1 (ltr (btA N B i)))) := by
  unfold fX6_isLetter ltr
  simp only [l_97, l_122]
  rw [byteAt_s T hi, Option.bind_some, isIn_b, Option.bind_some]
  cases decide (nI 97 ≤ btA N B i ∧ btA N B i ≤ nI 122)
  · exact gd_pos (Or.inl rfl)
  · exact gd_pos (Or.inr rfl)
theorem isDigit_s (T : TxR μ N B) (hi : i ≤ 700) : fX6_isDigit (nI i) μ = some (nI (b1 (dgt (btA N B i)))) := by
  unfold fX6_isDigit dgt
  simp only [l_48, l_57]
  rw [byteAt_s T hi, Option.bind_some, isIn_b, Option.bind_some]
  cases decide (nI 48 ≤ btA N B i ∧ btA N B i ≤ nI 57)
  · exact gd_pos (Or.inl rfl)
  · exact gd_pos (Or.inr rfl)
theorem isBlank_s (T : TxR μ N B) (hi : i ≤ 700) : fX6_isBlank (nI i) μ = some (nI (b1 (blk (btA N B i)))) := by
  unfold fX6_isBlank jX6_isBlank_20 blk
  simp only [l_0, l_1, l_10, l_32]
  rw [byteAt_s T hi, Option.bind_some, Option.bind_some]
  by_cases q1 : btA N B i = nI 32
  · rw [if_pos q1, decide_eq_true (Or.inl q1)] <;> rfl
  · rw [if_neg q1]
    by_cases q2 : btA N B i = nI 10
    · rw [if_neg (fun w => w q2), decide_eq_true (Or.inr q2)] <;> rfl
    · rw [if_pos q2, decide_eq_false (fun w => w.elim q1 q2)] <;> rfl
theorem skipC_h (T : TxC σ N B) (ha : a ≤ N) (h8 : rI σ 8 0 0 = nI a) : OkQ (loop stX2_advance_0 5000 σ) (fun σ2 => rI σ2 8 0 0 = nI (skp N B a) ∧ FrQ (fun k _ _ => k = 8) σ σ2) := by
  obtain ⟨h1, h2, h3⟩ := T
  have hle := fstN_le (nbl B a) (N - a)
  refine loop_ok (fstN (nbl B a) (N - a)) (fun k q => rI q 8 0 0 = nI (a + k) ∧ FrQ (fun k _ _ => k = 8) σ q) (by omega) ⟨h8, Fr_rfl σ⟩ ?_
  rintro k q hk ⟨e1, e2⟩
  unfold stX2_advance_0 jX2_advance_39
  simp only [l_1, l_10, l_32]
  rw [e1, e2.1 7 0 0 (by omega), h2]
  by_cases hkn : k < fstN (nbl B a) (N - a)
  · have hb : blk (B (a + k)) = true := by
      have := fstN_no hkn
      unfold nbl at this
      simpa using this
    rw [if_neg (nI_ge (by omega) (by omega)), gd_inb (by omega) (by omega), nI_clamp (by omega), e2.1 6 0 _ (by omega), h3 _ (by omega), nI_add]
    have fin : OkQ (some (Sum.inl (wI q 8 0 0 (nI (a + k + 1)))) : Option (Mem ⊕ Mem)) (fun r => Sum.elim (fun a2 => k < fstN (nbl B a) (N - a) ∧ rI a2 8 0 0 = nI (a + (k + 1)) ∧ FrQ (fun k _ _ => k = 8) σ a2) (fun σ2 => rI σ2 8 0 0 = nI (skp N B a) ∧ FrQ (fun k _ _ => k = 8) σ σ2) r) := ⟨_, rfl, hkn, rI_wI_self, Fr_tr e2 (Fr_wI rfl)⟩
    rcases of_decide_eq_true hb with y | y
    · rw [if_pos y]; exact fin
    · by_cases y2 : B (a + k) = nI 32
      · rw [if_pos y2]; exact fin
      · rw [if_neg y2, if_neg (fun w => w y)]; exact fin
  · have ek : k = fstN (nbl B a) (N - a) := by omega
    by_cases hN : a + k < N
    · have hb : nbl B a k = true := by
        rw [ek]; exact fstN_yes (by omega)
      have hb2 : blk (B (a + k)) = false := by
        unfold nbl at hb
        simpa using hb
      have hb3 := of_decide_eq_false hb2
      rw [if_neg (nI_ge (by omega) (by omega)), gd_inb (by omega) (by omega), nI_clamp (by omega), e2.1 6 0 _ (by omega), h3 _ (by omega), if_neg (fun w => hb3 (Or.inl w)), if_pos (fun w => hb3 (Or.inr w))]
      exact ⟨_, rfl, by rw [e1, ek] <;> rfl, e2⟩
    · rw [if_pos (nI_le (by omega) (by omega))]
      exact ⟨_, rfl, by rw [e1, ek] <;> rfl, e2⟩
theorem skipR_s (T : TxR μ N B) (ha : a ≤ N) (h8 : rI μ 71 0 0 = nI a) : OkQ (loop stX6_readToken_0 5000 μ) (fun μ2 => rI μ2 71 0 0 = nI (skp N B a) ∧ FrQ (fun k _ _ => k = 71) μ μ2) := by
  have T0 := T
  obtain ⟨h1, h2, h3⟩ := T
  have hle := fstN_le (nbl B a) (N - a)
  refine loop_ok (fstN (nbl B a) (N - a)) (fun k q => rI q 71 0 0 = nI (a + k) ∧ FrQ (fun k _ _ => k = 71) μ q) (by omega) ⟨h8, Fr_rfl μ⟩ ?_
  rintro k q hk ⟨e1, e2⟩
  have Tq : TxR q N B := ⟨h1, by rw [e2.1 70 0 0 (by omega)]; exact h2, fun i hi => by rw [e2.1 65 0 i (by omega)]; exact h3 i hi⟩
  unfold stX6_readToken_0
  simp only [l_0, l_1]
  rw [e1, e2.1 70 0 0 (by omega), h2]
  by_cases hkn : k < fstN (nbl B a) (N - a)
  · have hb : blk (B (a + k)) = true := by
      have := fstN_no hkn
      unfold nbl at this
      simpa using this
    have e : btA N B (a + k) = B (a + k) := if_pos (by omega)
    rw [if_neg (nI_ge (by omega) (by omega)), isBlank_s Tq (by omega), Option.bind_some, e, hb, if_neg (by decide), nI_add]
    exact ⟨_, rfl, hkn, rI_wI_self, Fr_tr e2 (Fr_wI rfl)⟩
  · have ek : k = fstN (nbl B a) (N - a) := by omega
    by_cases hN : a + k < N
    · have hb : nbl B a k = true := by
        rw [ek]; exact fstN_yes (by omega)
      have hb2 : blk (B (a + k)) = false := by
        unfold nbl at hb
        simpa using hb
      have e : btA N B (a + k) = B (a + k) := if_pos hN
      rw [if_neg (nI_ge (by omega) (by omega)), isBlank_s Tq (by omega), Option.bind_some, e, hb2, if_pos (show nI (b1 false) = nI 0 from rfl)]
      exact ⟨_, rfl, by rw [e1, ek] <;> rfl, e2⟩
    · rw [if_pos (nI_le (by omega) (by omega))]
      exact ⟨_, rfl, by rw [e1, ek] <;> rfl, e2⟩
end
