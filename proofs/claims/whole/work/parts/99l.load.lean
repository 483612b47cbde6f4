/-! layer 2: a text read in -/
section
variable {σ σ2 μ μ2 : Mem} {j N s : Nat} {B : Nat → Int32} {ρ : RwQ}
theorem begR_s : OkQ (fX6_beginReading μ) (fun μ2 => (∀ k, k < 208 → rI μ2 61 0 (208 * 1 + k) = nI (ρe k)) ∧ FrG (fun k _ r => k = 61 ∧ 208 ≤ r ∧ r < 416) (fun k _ _ => k = 13 ∨ k = 14) μ μ2) := by
  have h1 : OkQ (loop stX6_beginReading_2 5000 (nI 0, μ)) (fun q => (∀ i, i < 208 → rI q 61 0 (208 + i) = nI 0) ∧ FrG (fun k _ r => k = 61 ∧ 208 ≤ r ∧ r < 416) (fun k _ _ => k = 13 ∨ k = 14) μ q) := by
    refine loop_ok 208 (fun k q => q.1 = nI k ∧ (∀ i, i < k → rI q.2 61 0 (208 + i) = nI 0) ∧ FrG (fun k _ r => k = 61 ∧ 208 ≤ r ∧ r < 416) (fun k _ _ => k = 13 ∨ k = 14) μ q.2) (by omega) ⟨rfl, fun i hi => absurd hi (Nat.not_lt_zero _), FrG_rfl μ⟩ ?_
    rintro k ⟨q0, q⟩ hk ⟨e0, e1, e2⟩
    try dsimp only at e0 e1 e2
    subst e0
    unfold stX6_beginReading_2
    simp only [l_0, l_1, l_208]
    by_cases z : k < 208
    · rw [if_neg (nI_ge z (by omega)), nI_add, gd_inb (by omega) (by omega), nI_clamp (by omega)]
      refine ⟨_, rfl, z, nI_add k 1, fun i hi => ?_, FrG_tr e2 (FrG_wI (by omega))⟩
      show rI (wI q 61 0 (208 + k) (nI 0)) 61 0 (208 + i) = _
      rw [rI_wI]
      by_cases y : i = k
      · rw [if_pos (by omega)]
      · rw [if_neg (by omega)]; exact e1 i (by omega)
    · rw [if_pos (nI_le (by omega) (by omega))]
      exact ⟨_, rfl, fun i hi => e1 i (by omega), e2⟩
  have h2 : ∀ m : Mem, OkQ (loop stX6_beginReading_58 5000 (nI 0, m)) (fun q => FrG (fun _ _ _ => False) (fun k _ _ => k = 13 ∨ k = 14) m q) := by
    intro m
    refine loop_ok 8 (fun k q => q.1 = nI k ∧ FrG (fun _ _ _ => False) (fun k _ _ => k = 13 ∨ k = 14) m q.2) (by omega) ⟨rfl, FrG_rfl m⟩ ?_
    rintro k ⟨q0, q⟩ hk ⟨e0, e1⟩
    try dsimp only at e0 e1
    subst e0
    unfold stX6_beginReading_58
    simp only [l_1, l_8]
    by_cases z : k < 8
    · rw [if_neg (nI_ge z (by omega)), gd_inb (by omega) (by omega)]
      exact ⟨_, rfl, z, nI_add k 1, FrG_tr e1 (FrG_wJ (Or.inl rfl))⟩
    · rw [if_pos (nI_le (by omega) (by omega))]
      exact ⟨_, rfl, e1⟩
  have h3 : ∀ m : Mem, OkQ (loop stX6_beginReading_82 5000 (nI 0, m)) (fun q => FrG (fun _ _ _ => False) (fun k _ _ => k = 13 ∨ k = 14) m q) := by
    intro m
    refine loop_ok 17 (fun k q => q.1 = nI k ∧ FrG (fun _ _ _ => False) (fun k _ _ => k = 13 ∨ k = 14) m q.2) (by omega) ⟨rfl, FrG_rfl m⟩ ?_
    rintro k ⟨q0, q⟩ hk ⟨e0, e1⟩
    try dsimp only at e0 e1
    subst e0
    unfold stX6_beginReading_82
    simp only [l_1, l_17]
    by_cases z : k < 17
    · rw [if_neg (nI_ge z (by omega)), gd_inb (by omega) (by omega)]
      exact ⟨_, rfl, z, nI_add k 1, FrG_tr e1 (FrG_wJ (Or.inr rfl))⟩
    · rw [if_pos (nI_le (by omega) (by omega))]
      exact ⟨_, rfl, e1⟩
  obtain ⟨m1, a1, a2, a3⟩ := h1
  unfold fX6_beginReading
  simp only [l_0, l_7, l_10, l_60, l_209, l_210, l_211]
  rw [a1, Option.bind_some, nI_clamp (by omega), nI_clamp (by omega), nI_clamp (by omega)]
  obtain ⟨m2, hm2⟩ : ∃ m, m = wI (wI (wI m1 61 0 209 (nI 60)) 61 0 210 (nI 7)) 61 0 211 (nI 10) := ⟨_, rfl⟩
  rw [← hm2]
  obtain ⟨m3, b1', b2⟩ := h2 m2
  obtain ⟨m4, c1, c2⟩ := h3 m3
  rw [b1', Option.bind_some, c1, Option.bind_some]
  have G2 : FrG (fun k _ r => k = 61 ∧ 208 ≤ r ∧ r < 416) (fun k _ _ => k = 13 ∨ k = 14) m1 m2 := by rw [hm2]; exact FrG_tr (FrG_wI (by omega)) (FrG_tr (FrG_wI (by omega)) (FrG_wI (by omega)))
  have G24 : FrG (fun _ _ _ => False) (fun k _ _ => k = 13 ∨ k = 14) m2 m4 := FrG_tr b2 c2
  refine ⟨m4, rfl, fun k hk => ?_, FrG_tr a3 (FrG_tr G2 (FrG_mono G24 (fun _ _ _ z => z.elim) (fun k x r z => z)))⟩
  rw [G24.1 61 0 _ (fun z => z), hm2]
  by_cases k1 : k = 1
  · rw [k1, rI_wI_ne (by omega), rI_wI_ne (by omega), rI_wI, if_pos (by omega)] <;> rfl
  · by_cases k2 : k = 2
    · rw [k2, rI_wI_ne (by omega), rI_wI, if_pos (by omega)] <;> rfl
    · by_cases k3 : k = 3
      · rw [k3, rI_wI, if_pos (by omega)] <;> rfl
      · rw [rI_wI_ne (by omega), rI_wI_ne (by omega), rI_wI_ne (by omega), a2 k hk, show ρe k = 0 by unfold ρe; rw [if_neg k1, if_neg k2, if_neg k3]]
theorem keep_s (hr : ∀ k, k < 208 → rI μ 61 0 (208 * 1 + k) = nI (ρ k)) (h62 : rI μ 62 0 0 = nI 0) : OkQ (fX6_keepReading μ) (fun μ2 => Cur μ2 0 ρ ∧ rI μ2 63 0 0 = nI 0 ∧ rI μ2 64 0 0 = nI 0 ∧ (∀ r, r < 8 → rJ μ2 11 0 r = rJ μ 13 0 r) ∧ (∀ b, b < 17 → rJ μ2 12 0 b = rJ μ 14 0 b) ∧ FrG (fun k j r => (k = 61 ∧ r < 208) ∨ k = 63 ∨ k = 64) (fun k _ _ => k = 11 ∨ k = 12) μ μ2) := by
  obtain ⟨m1, a1, a2, a3⟩ := copyRow_s (a := 1) (b := 0) (by omega) (by omega) (by omega) hr
  have h2 : OkQ (loop stX6_keepReading_8 5000 (nI 0, m1)) (fun q => (∀ i, i < 8 → rJ q 11 0 i = rJ m1 13 0 i) ∧ FrG (fun _ _ _ => False) (fun k _ _ => k = 11) m1 q) := by
    refine loop_ok 8 (fun k q => q.1 = nI k ∧ (∀ i, i < k → rJ q.2 11 0 i = rJ m1 13 0 i) ∧ FrG (fun _ _ _ => False) (fun k _ _ => k = 11) m1 q.2) (by omega) ⟨rfl, fun i hi => absurd hi (Nat.not_lt_zero _), FrG_rfl m1⟩ ?_
    rintro k ⟨q0, q⟩ hk ⟨e0, e1, e2⟩
    try dsimp only at e0 e1 e2
    subst e0
    unfold stX6_keepReading_8
    simp only [l_1, l_8]
    by_cases z : k < 8
    · rw [if_neg (nI_ge z (by omega)), gd_inb (by omega) (by omega), nI_clamp (by omega)]
      refine ⟨_, rfl, z, nI_add k 1, fun i hi => ?_, FrG_tr e2 (FrG_wJ rfl)⟩
      show rJ (wJ q 11 0 k (rJ q 13 0 k)) 11 0 i = _
      rw [rJ_wJ]
      by_cases y : i = k
      · rw [if_pos ⟨rfl, rfl, y⟩, y, e2.2.1 13 0 k (by omega)]
      · rw [if_neg (fun w => y w.2.2)]; exact e1 i (by omega)
    · rw [if_pos (nI_le (by omega) (by omega))]
      exact ⟨_, rfl, fun i hi => e1 i (by omega), e2⟩
  have h3 : ∀ m : Mem, OkQ (loop stX6_keepReading_37 5000 (nI 0, m)) (fun q => (∀ i, i < 17 → rJ q 12 0 i = rJ m 14 0 i) ∧ FrG (fun _ _ _ => False) (fun k _ _ => k = 12) m q) := by
    intro m
    refine loop_ok 17 (fun k q => q.1 = nI k ∧ (∀ i, i < k → rJ q.2 12 0 i = rJ m 14 0 i) ∧ FrG (fun _ _ _ => False) (fun k _ _ => k = 12) m q.2) (by omega) ⟨rfl, fun i hi => absurd hi (Nat.not_lt_zero _), FrG_rfl m⟩ ?_
    rintro k ⟨q0, q⟩ hk ⟨e0, e1, e2⟩
    try dsimp only at e0 e1 e2
    subst e0
    unfold stX6_keepReading_37
    simp only [l_1, l_17]
    by_cases z : k < 17
    · rw [if_neg (nI_ge z (by omega)), gd_inb (by omega) (by omega), nI_clamp (by omega)]
      refine ⟨_, rfl, z, nI_add k 1, fun i hi => ?_, FrG_tr e2 (FrG_wJ rfl)⟩
      show rJ (wJ q 12 0 k (rJ q 14 0 k)) 12 0 i = _
      rw [rJ_wJ]
      by_cases y : i = k
      · rw [if_pos ⟨rfl, rfl, y⟩, y, e2.2.1 14 0 k (by omega)]
      · rw [if_neg (fun w => y w.2.2)]; exact e1 i (by omega)
    · rw [if_pos (nI_le (by omega) (by omega))]
      exact ⟨_, rfl, fun i hi => e1 i (by omega), e2⟩
  obtain ⟨m2, b1', b2, b3⟩ := h2
  obtain ⟨m3, c1, c2, c3⟩ := h3 m2
  unfold fX6_keepReading
  simp only [l_0, l_1]
  rw [a1, Option.bind_some, b1', Option.bind_some, c1, Option.bind_some]
  have G3 : FrG (fun _ _ _ => False) (fun k _ _ => k = 11 ∨ k = 12) m1 m3 := FrG_tr (FrG_mono b3 (fun _ _ _ z => z) (fun k x r z => Or.inl z)) (FrG_mono c3 (fun _ _ _ z => z) (fun k x r z => Or.inr z))
  have G4 : FrQ (fun k _ _ => k = 63 ∨ k = 64) m3 (wI (wI m3 63 0 0 (nI 0)) 64 0 0 (nI 0)) := Fr_tr (Fr_wI (Or.inl rfl)) (Fr_wI (Or.inr rfl))
  refine ⟨_, rfl, ⟨by omega, ?_, fun k hk => ?_⟩, by rw [rI_wI_ne (by omega), rI_wI_self], rI_wI_self, fun r hr8 => ?_, fun b hb => ?_, FrG_tr (Fr_G (Fr_mono a3 (fun k x r z => by omega))) (FrG_tr (FrG_mono G3 (fun _ _ _ z => z.elim) (fun k x r z => z)) (Fr_G (Fr_mono G4 (fun k x r z => by omega))))⟩
  · rw [G4.1 62 0 0 (by omega), G3.1 62 0 0 (fun z => z), a3.1 62 0 0 (by omega)]; exact h62
  · rw [G4.1 61 0 _ (by omega), G3.1 61 0 _ (fun z => z)]; exact a2 k hk
  · rw [Fr_J G4, c3.2.1 11 0 r (by omega), b2 r hr8, Fr_J a3]
  · rw [Fr_J G4, c2 b hb, b3.2.1 14 0 b (by omega), Fr_J a3]
theorem read_2 (hIn : InQ σ μ) : ∃ x y m1 m3, fX2_read (rP σ 1) σ = some x ∧ fX6_beginReading (wI (wI (wI (wI (wI μ 60 0 0 (nI 0)) 70 0 0 (rI (wI μ 60 0 0 (nI 0)) 66 0 0)) 66 0 0 (nI 0)) 71 0 0 (nI 0)) 75 0 0 (-nI 1)) = some m1 ∧ fX6_readToken (wI m1 62 0 0 (nI 208)) = some m3 ∧ loop stX6_load_43 5000 m3 = some y ∧ FK (rP σ 1) σ x.2 ∧ FrG (fun k _ r => k = 60 ∨ k = 62 ∨ k = 66 ∨ (70 ≤ k ∧ k ≤ 75) ∨ (k = 61 ∧ 208 ≤ r ∧ r < 416)) (fun k _ _ => k = 10 ∨ k = 13 ∨ k = 14) μ y ∧ rI y 60 0 0 = nI 0 ∧ rI y 66 0 0 = nI 0 ∧ ((x.1 = -nI 1 ∧ rI y 75 0 0 = -nI 1 ∧ ∃ ρ, HR x.2 (rP σ 1) ρ ∧ I3 ρ ∧ Cur y 1 ρ ∧ Nm2 x.2 y (rP σ 1) ρ) ∨ (∃ w, x.1 = nI w ∧ Bad y w)) := by
  obtain ⟨ρ0, h1, C, h3, hN, h5, ⟨N, n1, n2, n3, n4⟩, h7⟩ := id hIn
  obtain ⟨j, hj⟩ : ∃ j, j = rP σ 1 := ⟨_, rfl⟩
  rw [← hj]
  obtain ⟨B, hB⟩ : ∃ B : Nat → Int32, B = fun i => rI σ 6 0 i := ⟨_, rfl⟩
  -- the class
  obtain ⟨σ1, a1, a2, a3⟩ := clear_h σ j
  obtain ⟨σ2, hσ2⟩ : ∃ x, x = wI σ1 8 0 0 (nI 0) := ⟨_, rfl⟩
  have G2 : FrG (fun k _ _ => k = 8) (fun _ _ _ => False) σ1 σ2 := by rw [hσ2]; exact FrG_wI rfl
  have G02 : FrG (fun k x _ => k = 8 ∨ (20 ≤ k ∧ k ≤ 49) ∧ x = j) (fun _ _ _ => False) σ σ2 := FrG_tr (Fr_G (Fr_mono a3 (fun k x r z => Or.inr z))) (FrG_mono G2 (fun k x r z => Or.inl z) (fun _ _ _ z => z))
  have T2 : TxC σ2 N B := ⟨n1, by rw [G02.1 7 0 0 (by omega)]; exact n2, fun i hi => by rw [G02.1 6 0 i (by omega), hB]⟩
  obtain ⟨σ3, b1', b2, b3⟩ := advance_h T2 (a := 0) (Nat.zero_le _) (by rw [hσ2, rI_wI_self])
  have hs := skp_le (N := N) (B := B) (a := 0) (Nat.zero_le _)
  have R3 : RdC σ3 N B (skp N B 0) := ⟨⟨n1, by rw [b3.1 7 0 0 (by omega)]; exact T2.2.1, fun i hi => by rw [b3.1 6 0 i (by omega)]; exact T2.2.2 i hi⟩, hs.2, b2⟩
  have hR3 : HR σ3 j ρe := HR_FA (HR_g a2 G2 (fun k r _ _ z => by omega)) b3
  -- the reference
  obtain ⟨m0, hm0⟩ : ∃ m, m = wI (wI (wI (wI (wI μ 60 0 0 (nI 0)) 70 0 0 (rI (wI μ 60 0 0 (nI 0)) 66 0 0)) 66 0 0 (nI 0)) 71 0 0 (nI 0)) 75 0 0 (-nI 1) := ⟨_, rfl⟩
  rw [← hm0]
  have M0 : FrQ (fun k _ _ => k = 60 ∨ k = 66 ∨ k = 70 ∨ k = 71 ∨ k = 75) μ m0 := by rw [hm0]; exact Fr_tr (Fr_wI (by omega)) (Fr_tr (Fr_wI (by omega)) (Fr_tr (Fr_wI (by omega)) (Fr_tr (Fr_wI (by omega)) (Fr_wI (by omega)))))
  have e60 : rI m0 60 0 0 = nI 0 := by rw [hm0, rI_wI_ne (by omega), rI_wI_ne (by omega), rI_wI_ne (by omega), rI_wI_ne (by omega), rI_wI_self]
  have e66 : rI m0 66 0 0 = nI 0 := by rw [hm0, rI_wI_ne (by omega), rI_wI_ne (by omega), rI_wI_self]
  have e70 : rI m0 70 0 0 = nI N := by rw [hm0, rI_wI_ne (by omega), rI_wI_ne (by omega), rI_wI_ne (by omega), rI_wI_self, rI_wI_ne (by omega)]; exact n3
  have e71 : rI m0 71 0 0 = nI 0 := by rw [hm0, rI_wI_ne (by omega), rI_wI_self]
  have e75 : rI m0 75 0 0 = -nI 1 := by rw [hm0, rI_wI_self]
  obtain ⟨m1, c1, c2, c3⟩ := begR_s (μ := m0)
  obtain ⟨m2, hm2⟩ : ∃ m, m = wI m1 62 0 0 (nI 208) := ⟨_, rfl⟩
  have M2 : FrG (fun k _ _ => k = 62) (fun _ _ _ => False) m1 m2 := by rw [hm2]; exact FrG_wI rfl
  have M02 : FrG (fun k _ r => k = 62 ∨ (k = 61 ∧ 208 ≤ r ∧ r < 416)) (fun k _ _ => k = 13 ∨ k = 14) m0 m2 := FrG_tr (FrG_mono c3 (fun k x r z => Or.inr z) (fun k x r z => z)) (FrG_mono M2 (fun k x r z => Or.inl z) (fun _ _ _ z => z.elim))
  have T5 : TxR m2 N B := ⟨n1, by rw [M02.1 70 0 0 (by omega)]; exact e70, fun i hi => by rw [M02.1 65 0 i (by omega), M0.1 65 0 i (by omega), hB]; exact (n4 i hi).1.symm⟩
  obtain ⟨m3, d1, d2, d3⟩ := readToken_s T5 (a := 0) (Nat.zero_le _) (by rw [M02.1 71 0 0 (by omega)]; exact e71)
  have R5 : RdR m3 N B (skp N B 0) := ⟨⟨n1, by rw [d3.1 70 0 0 (by omega)]; exact T5.2.1, fun i hi => by rw [d3.1 65 0 i (by omega)]; exact T5.2.2 i hi⟩, hs.2, d2, by rw [d3.1 75 0 0 (by omega), M02.1 75 0 0 (by omega)]; exact e75⟩
  have C3 : Cur m3 1 ρe := by
    refine ⟨by omega, ?_, fun k hk => ?_⟩
    · rw [d3.1 62 0 0 (by omega), hm2, rI_wI_self]
    · rw [d3.1 61 0 _ (by omega), M2.1 61 0 _ (by omega)]; exact c2 k hk
  have L : LD σ3 m3 j N B (skp N B 0) ρe := ⟨R3, R5, hR3, C3, ⟨ρe_WF.1, ρe_WF.2, by decide⟩, ⟨fun r hr => absurd hr (by simp [ρe]), fun b hb => absurd hb (by simp [ρe])⟩⟩
  obtain ⟨x, y, g1, g2, g3⟩ := stmts_2 L
  have F03 : FK j σ σ3 := FK_tr (FrG_mono G02 (fun k x r z => by omega) (fun _ _ _ z => z.elim)) (FA_K b3)
  have M03 : FrG (fun k _ r => k = 60 ∨ k = 62 ∨ k = 66 ∨ (70 ≤ k ∧ k ≤ 75) ∨ (k = 61 ∧ 208 ≤ r ∧ r < 416)) (fun k _ _ => k = 10 ∨ k = 13 ∨ k = 14) μ m3 := FrG_tr (Fr_G (Fr_mono M0 (fun k x r z => by omega))) (FrG_tr (FrG_mono M02 (fun k x r z => by omega) (fun k x r z => Or.inr z)) (FrG_mono d3 (fun k x r z => by omega) (fun k x r z => Or.inl z)))
  have z60 : rI m3 60 0 0 = nI 0 := by rw [d3.1 60 0 0 (by omega), M02.1 60 0 0 (by omega)]; exact e60
  have z66 : rI m3 66 0 0 = nI 0 := by rw [d3.1 66 0 0 (by omega), M02.1 66 0 0 (by omega)]; exact e66
  have hcl : fX2_read j σ = Sum.elim (fun z15 => (some (-nI 1, z15))) (fun w15 => (some w15)) x := by
    unfold fX2_read
    simp only [l_0, l_1]
    rw [a1, Option.bind_some, ← hσ2, b1', Option.bind_some, g1, Option.bind_some]
  have MM : ∀ y, FM m3 y → FrG (fun k _ r => k = 60 ∨ k = 62 ∨ k = 66 ∨ (70 ≤ k ∧ k ≤ 75) ∨ (k = 61 ∧ 208 ≤ r ∧ r < 416)) (fun k _ _ => k = 10 ∨ k = 13 ∨ k = 14) μ y := fun y h => FrG_tr M03 (FrG_mono h (fun k x r z => by omega) (fun k x r z => z))
  rcases g3 with ⟨σ4, s, ρ, rfl, L4, F4, M4⟩ | ⟨w, σ4, rfl, h4, F4, M4⟩
  · refine ⟨(-nI 1, σ4), y, m1, m3, hcl, c1, by rw [← hm2]; exact d1, g2, FK_tr F03 F4, MM y M4, by rw [M4.1 60 0 0 (by omega)]; exact z60, by rw [M4.1 66 0 0 (by omega)]; exact z66, Or.inl ⟨rfl, L4.2.1.2.2.2, ρ, L4.2.2.1, L4.2.2.2.2.1, L4.2.2.2.1, L4.2.2.2.2.2⟩⟩
  · exact ⟨(nI w, σ4), y, m1, m3, hcl, c1, by rw [← hm2]; exact d1, g2, FK_tr F03 F4, MM y M4, by rw [M4.1 60 0 0 (by omega)]; exact z60, by rw [M4.1 66 0 0 (by omega)]; exact z66, Or.inr ⟨w, rfl, h4⟩⟩
theorem ANm_load (hIn : InQ σ μ) : ANm (fX5_load σ) (fX6_load μ) [(2, 1)] InQ := by
  obtain ⟨ρ0, h1, C, h3, hN, ⟨e, f, pn, hist, i1, i2, i3, i4, i5, i6, i7, i8⟩, h6, ⟨o1, on, o2, o3, o4, o5⟩⟩ := id hIn
  obtain ⟨⟨x1, σ1⟩, y, m1, m3, a1, b1', b2, b3, a3, a4, a5, a6, a7⟩ := read_2 hIn
  try dsimp only at a3 a7
  have hP := h1.1
  have q0 : rP σ1 0 = rP σ 0 := FrG_P a3 0
  have q1 : rP σ1 1 = rP σ 1 := FrG_P a3 1
  obtain ⟨y2, hy2⟩ : ∃ t, t = wI (wI y 62 0 0 (nI 0)) 67 0 0 (rI (wI y 62 0 0 (nI 0)) 75 0 0) := ⟨_, rfl⟩
  have M2 : FrG (fun k _ _ => k = 62 ∨ k = 67) (fun _ _ _ => False) y y2 := by rw [hy2]; exact FrG_tr (FrG_wI (Or.inl rfl)) (FrG_wI (Or.inr rfl))
  have e62 : rI y2 62 0 0 = nI 0 := by rw [hy2, rI_wI_ne (by omega), rI_wI_self]
  have e67 : rI y2 67 0 0 = rI y 75 0 0 := by rw [hy2, rI_wI_self, rI_wI_ne (by omega)]
  have e75 : rI y2 75 0 0 = rI y 75 0 0 := M2.1 75 0 0 (by omega)
  have hcl : fX5_load σ = (if x1 = -nI 1 then ((fX3_make 0 (rP σ 1) (wI (wP (wP (wI (wI σ1 1 0 0 x1) 7 0 0 (nI 0)) 1 (rP σ 0)) 0 (rP σ 1)) 3 0 0 (nI 0))).bind fun q2 => (gd (rP q2 0 < 12) (some (.inl (rI q2 22 (rP q2 0) 0), q2)))) else (some (.inr 2, wI (wI σ1 1 0 0 x1) 7 0 0 (nI 0)))) := by
    unfold fX5_load
    simp only [l_0, l_1]
    rw [gd_pos (by omega), a1, Option.bind_some]
    try dsimp only
    rw [rI_wI_ne (by omega), rI_wI_self, show rP (wI (wI σ1 1 0 0 x1) 7 0 0 (nI 0)) 1 = rP σ 1 from q1, show rP (wI (wI σ1 1 0 0 x1) 7 0 0 (nI 0)) 0 = rP σ 0 from q0, show rP (wI (wP (wP (wI (wI σ1 1 0 0 x1) 7 0 0 (nI 0)) 1 (rP σ 0)) 0 (rP σ 1)) 3 0 0 (nI 0)) 0 = rP σ 1 from rfl, gd_pos (by omega), gd_pos (by omega), gd_pos (by omega)]
  have hrf : fX6_load μ = ((fX6_isWell y2).bind fun q5 => (if ¬ q5 = nI 0 then ((fX6_keepReading y2).bind fun q6 => ((fX6_get (nI 37) q6).bind fun q7 => (some (q7, q6)))) else ((fX6_fails (nI 1) y2).bind fun q8 => (some (q8.1, q8.2))))) := by
    unfold fX6_load
    simp only [l_0, l_1, l_37, l_208]
    rw [b1', Option.bind_some, b2, Option.bind_some, b3, Option.bind_some, ← hy2]
  rcases a7 with ⟨rfl, w75, ρ, hR, hI3, CC, hNm⟩ | ⟨w, rfl, hbad⟩
  · rw [if_pos rfl] at hcl
    have hwell : fX6_isWell y2 = some (nI 1) := by
      unfold fX6_isWell
      simp only [l_0, l_1]
      rw [e75, w75, if_neg (fun z => z rfl)]
    have hrow : ∀ k, k < 208 → rI y2 61 0 (208 * 1 + k) = nI (ρ k) := fun k hk => by rw [M2.1 61 0 _ (by omega)]; exact CC.2.2 k hk
    obtain ⟨y3, k1, k2, k3, k4, k5, k6, k7⟩ := keep_s hrow e62
    obtain ⟨t3, ht3⟩ : ∃ t, t = wI (wI (wI σ1 1 0 0 (-nI 1)) 7 0 0 (nI 0)) 3 0 0 (nI 0) := ⟨_, rfl⟩
    obtain ⟨σ3, hσ3⟩ : ∃ t, t = wI (wP (wP (wI (wI σ1 1 0 0 (-nI 1)) 7 0 0 (nI 0)) 1 (rP σ 0)) 0 (rP σ 1)) 3 0 0 (nI 0) := ⟨_, rfl⟩
    have eI : ∀ k x r, rI σ3 k x r = rI t3 k x r := by rw [hσ3, ht3]; exact fun _ _ _ => rfl
    have eJ : ∀ k x r, rJ σ3 k x r = rJ t3 k x r := by rw [hσ3, ht3]; exact fun _ _ _ => rfl
    have p0 : rP σ3 0 = rP σ 1 := by rw [hσ3] <;> rfl
    have p1 : rP σ3 1 = rP σ 0 := by rw [hσ3] <;> rfl
    rw [← hσ3] at hcl
    have FT : FrQ (fun k _ _ => k = 1 ∨ k = 3 ∨ k = 7) σ1 t3 := by rw [ht3]; exact Fr_tr (Fr_wI (by omega)) (Fr_tr (Fr_wI (by omega)) (Fr_wI (by omega)))
    have sI : ∀ k x r, ¬ (k = 1 ∨ k = 3 ∨ k = 7) → rI σ3 k x r = rI σ1 k x r := fun k x r z => by rw [eI, FT.1 k x r z]
    have sJ : ∀ k x r, rJ σ3 k x r = rJ σ1 k x r := fun k x r => by rw [eJ, Fr_J FT]
    have hR3 : HR σ3 (rP σ 1) ρ := by
      have hh := HR_fr (K := fun k _ _ => k = 1 ∨ k = 3 ∨ k = 7) (σ2 := (σ3.1, σ1.2)) hR ⟨sI, rfl⟩ (fun k r _ _ z => by omega)
      exact hh
    have hPre : Pre σ3 y3 ρ := by
      refine ⟨by rw [p0, p1]; exact ⟨hP.2.1, hP.1, fun z => hP.2.2 z.symm⟩, by rw [p0]; exact hR3, k2, hI3, ?_, ⟨0, 0, pn, fun _ => ρ, by omega, by omega, i3, ?_, ?_, k3, k4, fun k hk => absurd hk (Nat.not_lt_zero _)⟩, ⟨0, by omega, ?_, ?_, fun i hi => absurd hi (Nat.not_lt_zero _)⟩, ⟨?_, on, o2, ?_, ?_, fun i hi => ?_⟩⟩
      · rw [p0]
        refine ⟨fun r hr => ?_, fun b hb => ?_⟩
        · have := hI3.1.1
          rw [sJ, k5 r (by omega), M2.2.1 13 0 r (fun z => z)]; exact hNm.1 r hr
        · have := hI3.2.2
          rw [sJ, k6 b (by omega), M2.2.1 14 0 b (fun z => z)]; exact NMr_q (hNm.2 b hb)
      · rw [hσ3, rI_wI_self]
      · rw [sI 2 0 0 (by omega), a3.1 2 0 0 (by omega)]; exact i5
      · rw [eI, ht3, rI_wI_ne (by omega), rI_wI_self]
      · rw [k7.1 66 0 0 (by omega), M2.1 66 0 0 (by omega)]; exact a6
      · rw [eI, ht3, rI_wI_ne (by omega), rI_wI_ne (by omega), rI_wI_self, k7.1 67 0 0 (by omega), e67, w75]
      · rw [sI 4 0 0 (by omega), a3.1 4 0 0 (by omega)]; exact o3
      · rw [k7.1 69 0 0 (by omega), M2.1 69 0 0 (by omega), a4.1 69 0 0 (by omega)]; exact o4
      · rw [sI 5 0 i (by omega), a3.1 5 0 i (by omega), k7.1 68 0 i (by omega), M2.1 68 0 i (by omega), a4.1 68 0 i (by omega)]; exact o5 i hi
    obtain ⟨σ4, n1, n2, n3⟩ := make_in hPre
    rw [p0] at n1
    have p4 : rP σ4 0 = rP σ 1 := by rw [Fr_P n3 0, p0]
    refine Or.inl ⟨nI (ρ 37), σ4, ?_, ?_⟩
    · rw [hcl, n1, Option.bind_some, gd_pos (by omega), p4, n3.1 22 _ 0 (by unfold KPc; omega), hR3.1.2.2.1]
    · rw [hrf, hwell, Option.bind_some, if_pos (by decide), k1, Option.bind_some, get_s k2 (by omega), Option.bind_some]
      refine ⟨_, rfl, rfl, ?_, n2⟩
      show rI y3 60 0 0 = nI 0
      rw [k7.1 60 0 0 (by omega), M2.1 60 0 0 (by omega)]; exact a5
  · rw [if_neg (nI_m1 (by have := hbad.1; omega))] at hcl
    have hwell : fX6_isWell y2 = some (nI 0) := well_N (w := w) ⟨hbad.1, by rw [e75]; exact hbad.2⟩
    obtain ⟨y4, hy4⟩ : ∃ t, t = wI y2 60 0 0 (nI 1) := ⟨_, rfl⟩
    have M4 : FrG (fun k _ _ => k = 60) (fun _ _ _ => False) y2 y4 := by rw [hy4]; exact FrG_wI rfl
    obtain ⟨μb, hμb⟩ : ∃ t, t = wI (wI μ 66 0 0 (nI 0)) 67 0 0 (nI w) := ⟨_, rfl⟩
    have Mb : FrQ (fun k _ _ => k = 66 ∨ k = 67) μ μb := by rw [hμb]; exact Fr_tr (Fr_wI (Or.inl rfl)) (Fr_wI (Or.inr rfl))
    obtain ⟨σ3, hσ3⟩ : ∃ t, t = wI (wI σ1 1 0 0 (nI w)) 7 0 0 (nI 0) := ⟨_, rfl⟩
    have F3 : FrQ (fun k _ _ => k = 1 ∨ k = 7) σ1 σ3 := by rw [hσ3]; exact Fr_tr (Fr_wI (Or.inl rfl)) (Fr_wI (Or.inr rfl))
    rw [← hσ3] at hcl
    have hI1 : InQ σ1 μ := In_st hIn (ST_G a3 (fun k x r z => by unfold KSQ; omega) (fun k x r z => z)) rfl
    have e1 : rI σ3 1 0 0 = nI w := by rw [hσ3, rI_wI_ne (by omega), rI_wI_self]
    have e7 : rI σ3 7 0 0 = nI 0 := by rw [hσ3, rI_wI_self]
    have hIb : InQ σ3 μb := by
      refine In_io hI1 (Fr_mono F3 (fun k x r z => by omega)) (Fr_mono Mb (fun k x r z => by omega)) ⟨0, by omega, e7, by rw [hμb, rI_wI_ne (by omega), rI_wI_self], fun i hi => absurd hi (Nat.not_lt_zero _)⟩ ⟨by rw [e1, hμb, rI_wI_self], on, o2, ?_, ?_, fun i hi => ?_⟩
      · rw [F3.1 4 0 0 (by omega), a3.1 4 0 0 (by omega)]; exact o3
      · rw [Mb.1 69 0 0 (by omega)]; exact o4
      · rw [F3.1 5 0 i (by omega), a3.1 5 0 i (by omega), Mb.1 68 0 i (by omega)]; exact o5 i hi
    obtain ⟨ρb, b1, bC, b3', bN, b5, b6, b7⟩ := hIb
    have Mb2 : FrG (fun k _ _ => k = 66 ∨ k = 67) (fun _ _ _ => False) μb μ := ⟨fun k x r z => (Mb.1 k x r z).symm, fun k x r _ => (Fr_J Mb k x r).symm, by rw [Mb.2]⟩
    have G : FrG (fun k _ r => k = 60 ∨ k = 62 ∨ k = 66 ∨ k = 67 ∨ (70 ≤ k ∧ k ≤ 75) ∨ (k = 61 ∧ 208 ≤ r ∧ r < 416)) (fun k _ _ => k = 10 ∨ k = 13 ∨ k = 14) μb y4 := FrG_tr (FrG_mono Mb2 (fun k x r z => by omega) (fun _ _ _ z => z.elim)) (FrG_tr (FrG_mono a4 (fun k x r z => by omega) (fun k x r z => z)) (FrG_tr (FrG_mono M2 (fun k x r z => by omega) (fun _ _ _ z => z.elim)) (FrG_mono M4 (fun k x r z => by omega) (fun _ _ _ z => z.elim))))
    refine Or.inr ⟨2, 1, σ3, by decide, hcl, ?_⟩
    rw [hrf, hwell, Option.bind_some, if_neg (by decide)]
    unfold fX6_fails
    rw [Option.bind_some]
    try dsimp only
    rw [← hy4]
    refine ⟨_, rfl, by rw [hy4]; exact rI_wI_self, ρb, b1, ⟨by omega, ?_, fun k hk => ?_⟩, b3', ⟨fun r hr => ?_, fun b hb => ?_⟩, I5_edit b5 (FrG_rfl (K := fun _ _ _ => False) (KJ := fun _ _ _ => False) σ3) G (fun _ _ _ z => z.elim) (fun _ _ _ z => z.elim) (fun k x r z => by omega) (fun k x r z => by omega) (Nat.le_refl _), ⟨0, by omega, e7, ?_, fun i hi => absurd hi (Nat.not_lt_zero _)⟩, ⟨?_, on, o2, ?_, ?_, fun i hi => ?_⟩⟩
    · show rI y4 62 0 0 = _
      rw [M4.1 62 0 0 (by omega)]; exact e62
    · show rI y4 61 0 _ = _
      rw [G.1 61 0 _ (by omega)]; exact bC.2.2 k hk
    · show NMr _ (rJ y4 11 0 r)
      rw [G.2.1 11 0 r (by omega)]; exact bN.1 r hr
    · show NMq _ (rJ y4 12 0 b)
      rw [G.2.1 12 0 b (by omega)]; exact bN.2 b hb
    · show rI y4 66 0 0 = nI 0
      rw [M4.1 66 0 0 (by omega), M2.1 66 0 0 (by omega)]; exact a6
    · show rI σ3 1 0 0 = rI y4 67 0 0
      rw [e1, M4.1 67 0 0 (by omega), e67]; exact hbad.2.symm
    · rw [F3.1 4 0 0 (by omega), a3.1 4 0 0 (by omega)]; exact o3
    · show rI y4 69 0 0 = nI on
      rw [G.1 69 0 0 (by omega), Mb.1 69 0 0 (by omega)]; exact o4
    · show rI σ3 5 0 i = rI y4 68 0 i ∧ _
      rw [F3.1 5 0 i (by omega), a3.1 5 0 i (by omega), G.1 68 0 i (by omega), Mb.1 68 0 i (by omega)]; exact o5 i hi
end
