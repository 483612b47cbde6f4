/-! layer 2: questions about beds and money: both sides agree -/
section
variable {σ μ : Mem} {ρ : RwQ}
theorem hasB_pl {π : PnQ} {b : Nat} (h : hasB π b = true) : plcd π b := by
  unfold hasB at h
  unfold plcd
  exact of_decide_eq_true h
theorem plc_PB (h3 : I3 ρ) : PBQ (plc ρ) := PB_plN h3.1 30
/-- a person's bed, in the class -/
theorem bedOfP_h (h1 : I1 σ ρ) (h3 : I3 ρ) (p1 p2 : Int32) : (∃ b p, b < ρ 37 ∧ p < prs ρ b ∧ p1 = nI b ∧ p2 = nI p ∧ ((hasB (plc ρ) b = true ∧ (∃ x, (plc ρ).2.2 (12 * b + p) = x + 1 ∧ x < 80 ∧ fX5_bedOfPerson p1 p2 σ = some (.inl (nI x)))) ∨ (hasB (plc ρ) b = false ∧ fX5_bedOfPerson p1 p2 σ = some (.inr 4)))) ∨ ((¬ ∃ b p, b < ρ 37 ∧ p < prs ρ b ∧ p1 = nI b ∧ p2 = nI p) ∧ fX5_bedOfPerson p1 p2 σ = some (.inr 3)) := by
  have h17 := h3.2.2
  have h8 := h3.1.1
  have hlt := I1_lt h1
  rcases ix_em p1 (ρ 37) with ⟨b, hb, rfl⟩ | q
  · have hpr := WF_prs h3.1 hb
    have e44 := (h1.2.1.1.2.2.2.2.2.2.2.2 b hb).2.2.2.2.1
    rcases ix_em p2 (prs ρ b) with ⟨p, hp, rfl⟩ | q2
    · refine Or.inl ⟨b, p, hb, hp, rfl, rfl, ?_⟩
      unfold fX5_bedOfPerson
      simp only [l_0, l_12]
      rw [chkB_Y h1 h3 hb, Option.bind_some, Sum.elim_inl, if_neg (nI_nlt (Nat.zero_le _) (by omega)), gd_pos hlt, gd_inb (by omega) (by omega), nI_clamp (by omega), e44, if_pos (nI_lt hp (by omega)), hasBeds_h h1.2.2.1 (plc_PB h3) (by omega), Option.bind_some]; simp (disch := omega) only [b1_z]
      cases hh : hasB (plc ρ) b
      · exact Or.inr ⟨rfl, by rw [if_neg (by decide)]⟩
      · obtain ⟨x, x1, x2, -⟩ := (PI_plc h3.1).2 b hb (hasB_pl hh) p hp
        refine Or.inl ⟨rfl, x, x1, by omega, ?_⟩
        rw [if_pos (by decide), pk_mul, nI_add, gd_inb (by omega) (by omega), nI_clamp (by omega), Nat.mul_comm b 12, h1.2.2.1.2.2 _ (by omega) (by omega), x1] <;> rfl
    · refine Or.inr ⟨fun ⟨b', p, w1, w2, w3, w4⟩ => q2 ⟨p, by have := nI_inj (by omega) (by omega) w3; subst this; exact w2, w4⟩, ?_⟩
      unfold fX5_bedOfPerson jX5_bedOfPerson_25
      simp only [l_0]
      rw [chkB_Y h1 h3 hb, Option.bind_some, Sum.elim_inl]
      rcases ix_no (by omega) q2 with w | w
      · rw [if_pos w]
      · by_cases q0 : p2 < nI 0
        · rw [if_pos q0]
        · rw [if_neg q0, gd_pos hlt, gd_inb (by omega) (by omega), nI_clamp (by omega), e44, if_neg w]
  · refine Or.inr ⟨fun ⟨b, p, w1, w2, w3, w4⟩ => q ⟨b, w1, w3⟩, ?_⟩
    unfold fX5_bedOfPerson
    rw [chkB_N h1 h3 q, Option.bind_some, Sum.elim_inr]
theorem takenBeds_h (h1 : I1 σ ρ) (h3 : I3 ρ) {n : Nat} (hn : n < 30) : fX5_takenBeds (nI n) σ = some (nI (sumNQ (fun r => tkN (plc ρ).1 r n) (ρ 4))) := by
  have h8 := h3.1.1
  have hlt := I1_lt h1
  have e : loop (stX5_takenBeds_4 σ (nI n)) 5000 (nI 0, nI 0) = some (nI (sumNQ (fun r => tkN (plc ρ).1 r n) (ρ 4))) := by
    refine loop_st (ρ 4) (fun k => (nI (sumNQ (fun r => tkN (plc ρ).1 r n) k), nI k)) (by omega) rfl ?_ ?_
    · intro k hk
      unfold stX5_takenBeds_4
      try dsimp only
      simp only [l_1]
      rw [gd_pos hlt, h1.2.1.1.1, if_neg (nI_ge hk (by omega)), taken_h h1.2.2.1.1 (by omega) hn, Option.bind_some, nI_add, nI_add] <;> rfl
    · unfold stX5_takenBeds_4
      try dsimp only
      rw [gd_pos hlt, h1.2.1.1.1, if_pos (nI_le (Nat.le_refl _) (by omega))]
  unfold fX5_takenBeds
  simp only [l_0]
  rw [e] <;> rfl
end
