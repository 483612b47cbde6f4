/-! layer 2: a number read -/
def ndg (N : Nat) (B : Nat → Int32) (s k : Nat) : Bool := !dgt (btA N B (s + k))
def dgs (N : Nat) (B : Nat → Int32) (s : Nat) : Nat := fstN (ndg N B s) (N - s)
def vlN (B : Nat → Int32) (s : Nat) : Nat → Int32
  | 0 => nI 0
  | k + 1 => ((vlN B s k * nI 10) + B (s + k)) - nI 48
section
variable {σ μ : Mem} {N s : Nat} {B : Nat → Int32}
theorem takeNum_h (T : TxC σ N B) (hs : s ≤ N) (h8 : rI σ 8 0 0 = nI s) (h9 : rI σ 9 0 0 = nI s) : OkQ (fX2_takeNumber σ) (fun σ2 => rI σ2 8 0 0 = nI (s + dgs N B s) ∧ rI σ2 10 0 0 = nI (if 3 < dgs N B s then 4 else 2) ∧ rI σ2 11 0 0 = vlN B s (dgs N B s) ∧ FrQ (fun k _ _ => k = 8 ∨ k = 10 ∨ k = 11) σ σ2) := by
  obtain ⟨h1, h2, h3⟩ := T
  have hle : dgs N B s ≤ N - s := fstN_le (ndg N B s) (N - s)
  have hl : OkQ (loop stX2_takeNumber_5 5000 (wI σ 11 0 0 (nI 0))) (fun σ2 => rI σ2 8 0 0 = nI (s + dgs N B s) ∧ rI σ2 11 0 0 = vlN B s (dgs N B s) ∧ FrQ (fun k _ _ => k = 8 ∨ k = 11) σ σ2) := by
    refine loop_ok (dgs N B s) (fun k q => rI q 8 0 0 = nI (s + k) ∧ rI q 11 0 0 = vlN B s k ∧ FrQ (fun k _ _ => k = 8 ∨ k = 11) σ q) (by omega) ⟨by rw [rI_wI_ne (by omega)]; exact h8, rI_wI_self, Fr_wI (Or.inr rfl)⟩ ?_
    rintro k q hk ⟨e1, e2, e3⟩
    unfold stX2_takeNumber_5
    simp only [l_1, l_10, l_48, l_57]
    rw [e1, e3.1 7 0 0 (by omega), h2]
    by_cases hN : s + k < N
    · have eb : btA N B (s + k) = B (s + k) := if_pos hN
      rw [if_neg (nI_ge (by omega) (by omega)), gd_inb (by omega) (by omega), nI_clamp (by omega), e3.1 6 0 _ (by omega), h3 _ hN]
      by_cases hkn : k < dgs N B s
      · have hd : dgt (B (s + k)) = true := by
          have := fstN_no (p := ndg N B s) (n := N - s) (i := k) hkn
          unfold ndg at this
          rw [eb] at this
          simpa using this
        obtain ⟨d1, d2⟩ := of_decide_eq_true hd
        rw [if_neg (Int32.not_lt.mpr d1), if_neg (Int32.not_lt.mpr d2), e2, rI_wI_ne (by omega), e1, nI_add]
        exact ⟨_, rfl, hkn, rI_wI_self, by rw [rI_wI_ne (by omega), rI_wI_self] <;> rfl, Fr_tr e3 (Fr_tr (Fr_wI (Or.inr rfl)) (Fr_wI (Or.inl rfl)))⟩
      · have ek : k = dgs N B s := by omega
        have hd : dgt (B (s + k)) = false := by
          have := fstN_yes (p := ndg N B s) (n := N - s) (by unfold dgs at ek hle; omega)
          rw [show fstN (ndg N B s) (N - s) = k from ek.symm] at this
          unfold ndg at this
          rw [eb] at this
          simpa using this
        have hd2 := of_decide_eq_false hd
        rw [ek] at e1 e2
        by_cases z : B (s + k) < nI 48
        · rw [if_pos z]; exact ⟨_, rfl, e1, e2, e3⟩
        · by_cases z2 : nI 57 < B (s + k)
          · rw [if_neg z, if_pos z2]; exact ⟨_, rfl, e1, e2, e3⟩
          · exact absurd ⟨Int32.not_lt.mp z, Int32.not_lt.mp z2⟩ hd2
    · have ek : k = dgs N B s := by omega
      rw [if_pos (nI_le (by omega) (by omega))]
      rw [ek] at e1 e2
      exact ⟨_, rfl, e1, e2, e3⟩
  obtain ⟨σ2, a0, a1, a2, a3⟩ := hl
  unfold fX2_takeNumber
  simp only [l_0, l_2, l_3, l_4]
  rw [a0, Option.bind_some, a1, a3.1 9 0 0 (by omega), h9, pk_sub (by omega), show s + dgs N B s - s = dgs N B s by omega]
  by_cases z : 3 < dgs N B s
  · rw [if_pos (nI_lt z (by omega)), if_pos z]
    exact ⟨_, rfl, by rw [rI_wI_ne (by omega)]; exact a1, rI_wI_self, by rw [rI_wI_ne (by omega)]; exact a2, Fr_tr (Fr_mono a3 (fun k j r w => by omega)) (Fr_wI (Or.inr (Or.inl rfl)))⟩
  · rw [if_neg (nI_nlt (by omega) (by omega)), if_neg z]
    exact ⟨_, rfl, by rw [rI_wI_ne (by omega)]; exact a1, rI_wI_self, by rw [rI_wI_ne (by omega)]; exact a2, Fr_tr (Fr_mono a3 (fun k j r w => by omega)) (Fr_wI (Or.inr (Or.inl rfl)))⟩
end
