/-! p47, layer 2: the class at its start; the text loaded -/
theorem I3_e : I3 ρe := ⟨ρe_WF.1, ρe_WF.2, by decide⟩
theorem I1_start : I1 memS ρe := by
  have p0 : rP memS 0 = 0 := rfl
  have p1 : rP memS 1 = 1 := rfl
  have z : ∀ k j r, k ≠ 1 → k ≠ 25 → k ≠ 26 → k ≠ 27 → rI memS k j r = nI 0 := by
    intro k j r z1 z2 z3 z4
    show (if k = 1 then (-1 : Int32) else if k = 25 then 60 else if k = 26 then 7 else if k = 27 then 10 else 0) = _
    rw [if_neg z1, if_neg z2, if_neg z3, if_neg z4] <;> rfl
  have b0 : ∀ n, bkd ρe n = 0 := fun n => rfl
  refine ⟨⟨by rw [p0]; omega, by rw [p1]; omega, by rw [p0, p1]; omega⟩, ?_, ?_, ?_⟩
  · rw [p0]
    refine ⟨⟨?_, ?_, ?_, ?_, ?_, ?_, ?_, fun r hr => absurd hr (by simp [ρe]), fun b hb => absurd hb (by simp [ρe])⟩, fun b hb => absurd hb (by simp [ρe]), ⟨?_, fun k hk => absurd hk (by simp [ρe])⟩, fun n hn => ?_⟩
    · exact z 20 0 0 (by omega) (by omega) (by omega) (by omega)
    · exact z 21 0 0 (by omega) (by omega) (by omega) (by omega)
    · exact z 22 0 0 (by omega) (by omega) (by omega) (by omega)
    · exact z 24 0 0 (by omega) (by omega) (by omega) (by omega)
    · rfl
    · rfl
    · rfl
    · exact z 23 0 0 (by omega) (by omega) (by omega) (by omega)
    · rw [b0]; exact z 29 0 n (by omega) (by omega) (by omega) (by omega)
  · rw [plc_e]
    refine ⟨fun x hx => ⟨0, by omega, z 50 0 x (by omega) (by omega) (by omega) (by omega), fun n hn => ?_⟩, fun b hb => z 52 0 b (by omega) (by omega) (by omega) (by omega), fun i hi h => absurd rfl h⟩
    rw [Nat.zero_testBit] <;> rfl
  · refine ⟨fun x hx => absurd hx (by simp [ρe]), z 55 0 0 (by omega) (by omega) (by omega) (by omega), z 56 0 0 (by omega) (by omega) (by omega) (by omega)⟩
section
variable {xs : Nat → Int32} {L : Nat} {σ : Mem}
def rwF (xs : Nat → Int32) (L : Nat) : RwQ := rwB xs L (qB xs L)
theorem load_A (T : TxC σ (tX xs L).length (Bt (tX xs L))) (hP : rP σ 0 < 2 ∧ rP σ 1 < 2 ∧ rP σ 0 ≠ rP σ 1) : ∃ σ2, fX5_load σ = some (.inl (nI (qB xs L)), σ2) ∧ I1 σ2 (rwF xs L) ∧ I3 (rwF xs L) := by
  obtain ⟨σ1, a1, hR, hI3, a3⟩ := read_A (j := rP σ 1) T
  have hB := qB_rng (xs := xs) (L := L)
  have e37 := rwB_37 (xs := xs) (L := L) (qB xs L) (by omega)
  have q0 : rP σ1 0 = rP σ 0 := FrG_P a3 0
  have q1 : rP σ1 1 = rP σ 1 := FrG_P a3 1
  have hcl : fX5_load σ = ((fX3_make 0 (rP σ 1) (wI (wP (wP (wI (wI σ1 1 0 0 (-nI 1)) 7 0 0 (nI 0)) 1 (rP σ 0)) 0 (rP σ 1)) 3 0 0 (nI 0))).bind fun q2 => (gd (rP q2 0 < 12) (some (.inl (rI q2 22 (rP q2 0) 0), q2)))) := by
    unfold fX5_load
    simp only [l_0, l_1]
    rw [gd_pos (by omega), a1, Option.bind_some]
    try dsimp only
    rw [rI_wI_ne (by omega), rI_wI_self, if_pos rfl, show rP (wI (wI σ1 1 0 0 (-nI 1)) 7 0 0 (nI 0)) 1 = rP σ 1 from q1, show rP (wI (wI σ1 1 0 0 (-nI 1)) 7 0 0 (nI 0)) 0 = rP σ 0 from q0, show rP (wI (wP (wP (wI (wI σ1 1 0 0 (-nI 1)) 7 0 0 (nI 0)) 1 (rP σ 0)) 0 (rP σ 1)) 3 0 0 (nI 0)) 0 = rP σ 1 from rfl, gd_pos (by omega), gd_pos (by omega), gd_pos (by omega)]
  obtain ⟨t3, ht3⟩ : ∃ t, t = wI (wI (wI σ1 1 0 0 (-nI 1)) 7 0 0 (nI 0)) 3 0 0 (nI 0) := ⟨_, rfl⟩
  obtain ⟨σ3, hσ3⟩ : ∃ t, t = wI (wP (wP (wI (wI σ1 1 0 0 (-nI 1)) 7 0 0 (nI 0)) 1 (rP σ 0)) 0 (rP σ 1)) 3 0 0 (nI 0) := ⟨_, rfl⟩
  have eI : ∀ k x r, rI σ3 k x r = rI t3 k x r := by rw [hσ3, ht3]; exact fun _ _ _ => rfl
  have p0 : rP σ3 0 = rP σ 1 := by rw [hσ3] <;> rfl
  have p1 : rP σ3 1 = rP σ 0 := by rw [hσ3] <;> rfl
  rw [← hσ3] at hcl
  have FT : FrQ (fun k _ _ => k = 1 ∨ k = 3 ∨ k = 7) σ1 t3 := by rw [ht3]; exact Fr_tr (Fr_wI (by omega)) (Fr_tr (Fr_wI (by omega)) (Fr_wI (by omega)))
  have sI : ∀ k x r, ¬ (k = 1 ∨ k = 3 ∨ k = 7) → rI σ3 k x r = rI σ1 k x r := fun k x r z => by rw [eI, FT.1 k x r z]
  have hR3 : HR σ3 (rP σ 1) (rwF xs L) := by
    have hh := HR_fr (K := fun k _ _ => k = 1 ∨ k = 3 ∨ k = 7) (σ2 := (σ3.1, σ1.2)) hR ⟨sI, rfl⟩ (fun k r _ _ z => by omega)
    exact hh
  obtain ⟨σ4, n1, n2, n3, n4⟩ := make_h (q := 0) hR3.1 hR3.2.1 hI3.1
  have p4 : rP σ4 0 = rP σ 1 := by rw [Fr_P n4 0, p0]
  have p5 : rP σ4 1 = rP σ 0 := by rw [Fr_P n4 1, p1]
  have hR4 : HR σ4 (rP σ 1) (rwF xs L) := HR_pl hR3 n4
  refine ⟨σ4, ?_, ⟨⟨by omega, by omega, by omega⟩, by rw [p4]; exact hR4, n2, n3⟩, hI3⟩
  rw [hcl, n1, Option.bind_some, gd_pos (by omega), p4, hR4.1.2.2.1]
  show some (Sum.inl (nI (rwB xs L (qB xs L) 37)), σ4) = _
  rw [e37]
theorem lload_h {N : Nat} {f : Nat → Int32} (hT : TXr N f (tX xs L)) (h7 : rI σ 7 0 0 = nI 0) (hP : rP σ 0 < 2 ∧ rP σ 1 < 2 ∧ rP σ 0 ≠ rP σ 1) : ∃ σ2, fL_load N f σ = some (nI (qB xs L), σ2) ∧ I1 σ2 (rwF xs L) ∧ I3 (rwF xs L) := by
  obtain ⟨σ1, a1, a2, a3⟩ := lays_h (n := 0) hT tX_ch (by have := tX_le (xs := xs) (L := L); omega) h7 (by omega)
  obtain ⟨σ2, b1', b2, b3⟩ := load_A (xs := xs) (L := L) (σ := σ1) a2 (by rw [Fr_P a3 0, Fr_P a3 1]; exact hP)
  unfold fL_load fL_loads
  rw [a1, Option.bind_some, b1', Option.bind_some]
  try dsimp only
  rw [Sum.elim_inl, Option.bind_some]
  exact ⟨σ2, rfl, b2, b3⟩
end
