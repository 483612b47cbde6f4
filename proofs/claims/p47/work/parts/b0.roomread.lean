/-! p47, layer 2: a room read -/
def wdR : List Nat := [114, 111, 111, 109]
theorem wdR_ok : wdO wdR := by unfold wdO; decide +kernel
theorem kd_ok : ∀ k, k < 3 → wdO (sT (k + 1)) ∧ (if (sT (k + 1)).map (fun l => l - 96) = txW 1 then 0 else if (sT (k + 1)).map (fun l => l - 96) = txW 2 then 1 else if (sT (k + 1)).map (fun l => l - 96) = txW 3 then 2 else 3) = k := by unfold wdO; decide +kernel
theorem wd1_ok : ∀ r, r < 26 → wdO [97 + r] ∧ lN (n8 ([97 + r].map (fun l => l - 96))) = nmR r := by unfold wdO; decide +kernel
section
variable {σ σ2 : Mem} {j : Nat} {ls q : List Nat} {ρ : RwQ} {k b a p : Nat}
theorem room_A (ha : asc ls) (h8 : ρ 4 < 8) (L : LD1 σ j ls (wdR ++ 32 :: ([97 + ρ 4] ++ 32 :: (sT (k + 1) ++ 32 :: (dec b ++ 32 :: (dec a ++ 32 :: (dec p ++ 59 :: q)))))) ρ) (hk : k < 3) (hb : 1 ≤ b ∧ b ≤ 10) (hag : a ≤ 99) (hp : 1 ≤ p ∧ p ≤ 200) : SA (fX2_readRoom j σ) σ j ls q (rmN ρ k b a p) := by
  obtain ⟨R, hR, h3, hN⟩ := L
  obtain ⟨kd1, kd2⟩ := kd_ok k hk
  obtain ⟨wn1, wn2⟩ := wd1_ok (ρ 4) (by omega)
  unfold fX2_readRoom
  simp only [l_0, l_1, l_8, l_10, l_99, l_200]
  rw [hR.1.1, if_pos (nI_lt h8 (by omega)), gd_inb (by omega) (by omega), nI_clamp (by omega)]
  obtain ⟨σ1, a1, a2, a3⟩ := adv_A R (NX_w ha wdR_ok (nb_w wn1 _))
  obtain ⟨w1, w2, -⟩ := wd_A ha a2 wn1 (by omega)
  rw [wn2] at w2
  have hR1 := HR_FA hR a3
  have hN1 := LDn_FA hN a3
  rw [a1, Option.bind_some, w1, if_neg (fun z => z rfl), w2, roomNamed_A (n := ρ 4) hR1.1.1 (by omega) (fun b hb z => by
    rw [hN1.1 b hb] at z
    have := nmR_inj (by omega) (by omega) z
    omega), Option.bind_some, if_pos (by decide)]
  have G1 : FrG (fun _ _ _ => False) (fun k x r => k = 1 ∧ x = j ∧ r = ρ 4) σ1 (wJ σ1 1 j (ρ 4) (nmR (ρ 4))) := FrG_wJ ⟨rfl, rfl, rfl⟩
  have R1' := Rr_fr a2 G1 (fun _ _ _ z => z.elim) (fun k _ _ z => by omega)
  obtain ⟨σ3, c1, c2, c3⟩ := adv_A R1' (NX_w ha wn1 (nb_w kd1 _))
  have e3 : rJ σ3 1 j (ρ 4) = nmR (ρ 4) := by rw [c3.2.1 1 j _ (by omega), rJ_wJ_self]
  have ek : fX2_kindTold σ3 = some (nI k) := by
    rw [kd_A ha c2 kd1 (by omega), kd2]
    exact congrArg some (if_neg (by omega))
  rw [c1, Option.bind_some, ek, Option.bind_some, rI_wI_self, if_neg (nI_m1 (by omega))]
  have FK3 : FK j σ σ3 := FK_tr (FK_tr (FA_K a3) (FrG_mono G1 (fun _ _ _ z => z.elim) (fun k x r z => Or.inr ⟨Or.inl z.1, z.2.1⟩))) (FA_K c3)
  obtain ⟨σ4, hσ4⟩ : ∃ t, t = wI σ3 30 j (ρ 4) (nI k) := ⟨_, rfl⟩
  have G4 : FrG (fun k x r => k = 30 ∧ x = j ∧ r = ρ 4) (fun _ _ _ => False) σ3 σ4 := by rw [hσ4]; exact FrG_wI ⟨rfl, rfl, rfl⟩
  have e30 : rI σ4 30 j (ρ 4) = nI k := by rw [hσ4, rI_wI_self]
  rw [← hσ4]
  have R4 := Rr_fr c2 G4 (fun k x r z => by omega) (fun _ _ _ z => z.elim)
  obtain ⟨σ5, x1, x2, x3, x4⟩ := num_A (lo := 1) (hi := 10) ha R4 (NX_w ha kd1 (nb_dec (by omega) _)) (by omega) hb.1 hb.2 (by omega)
  rw [x1, Option.bind_some]
  try dsimp only
  rw [if_pos (by decide), x4]
  obtain ⟨σ6, hσ6⟩ : ∃ t, t = wI σ5 31 j (ρ 4) (nI b) := ⟨_, rfl⟩
  have G6 : FrG (fun k x r => k = 31 ∧ x = j ∧ r = ρ 4) (fun _ _ _ => False) σ5 σ6 := by rw [hσ6]; exact FrG_wI ⟨rfl, rfl, rfl⟩
  have e31 : rI σ6 31 j (ρ 4) = nI b := by rw [hσ6, rI_wI_self]
  rw [← hσ6]
  have R6 := Rr_fr x2 G6 (fun k x r z => by omega) (fun _ _ _ z => z.elim)
  obtain ⟨σ7, y1, y2, y3, y4⟩ := num_A (lo := 0) (hi := 99) ha R6 (NX_n ha (by omega) (nb_dec (by omega) _)) (by omega) (Nat.zero_le _) hag (by omega)
  rw [y1, Option.bind_some]
  try dsimp only
  rw [if_pos (by decide), y4]
  obtain ⟨σ8, hσ8⟩ : ∃ t, t = wI σ7 32 j (ρ 4) (nI a) := ⟨_, rfl⟩
  have G8 : FrG (fun k x r => k = 32 ∧ x = j ∧ r = ρ 4) (fun _ _ _ => False) σ7 σ8 := by rw [hσ8]; exact FrG_wI ⟨rfl, rfl, rfl⟩
  have e32 : rI σ8 32 j (ρ 4) = nI a := by rw [hσ8, rI_wI_self]
  rw [← hσ8]
  have R8 := Rr_fr y2 G8 (fun k x r z => by omega) (fun _ _ _ z => z.elim)
  obtain ⟨σ9, z1, z2, z3, z4⟩ := num_A (lo := 1) (hi := 200) ha R8 (NX_n ha (by omega) (nb_dec (by omega) _)) (by omega) hp.1 hp.2 (by omega)
  rw [z1, Option.bind_some]
  try dsimp only
  rw [if_pos (by decide), z4]
  obtain ⟨σa, hσa⟩ : ∃ t, t = wI σ9 33 j (ρ 4) (nI p) := ⟨_, rfl⟩
  have Ga : FrG (fun k x r => k = 33 ∧ x = j ∧ r = ρ 4) (fun _ _ _ => False) σ9 σa := by rw [hσa]; exact FrG_wI ⟨rfl, rfl, rfl⟩
  have e33 : rI σa 33 j (ρ 4) = nI p := by rw [hσa, rI_wI_self]
  rw [← hσa]
  have Ra := Rr_fr z2 Ga (fun k x r z => by omega) (fun _ _ _ z => z.elim)
  obtain ⟨σb, f1, f2, f3⟩ := end_A ha Ra (NX_n2 ha (by omega))
  rw [f1, Option.bind_some]
  try dsimp only
  rw [if_pos (by decide)]
  have hRb : HR σb j ρ := HR_FA (HR_rmrow (HR_FA (HR_rmrow (HR_FA (HR_rmrow (HR_FA (HR_rmrow (HR_FA (HR_rmrow hR1 G1 (fun k r z => z.elim)) c3) G4 (fun k r z => by omega)) x3) G6 (fun k r z => by omega)) y3) G8 (fun k r z => by omega)) z3) Ga (fun k r z => by omega)) f3
  have Gb : FrG (fun k x r => (8 ≤ k ∧ k ≤ 11) ∨ (31 ≤ k ∧ k ≤ 33)) (fun k _ _ => k = 0) σ4 σb := FrG_tr (FrG_tr (FrG_tr (FrG_tr (FrG_tr (FrG_tr (FrG_mono x3 (fun k x r z => by omega) (fun k x r z => z)) (FrG_mono G6 (fun k x r z => by omega) (fun _ _ _ z => z.elim))) (FrG_mono y3 (fun k x r z => by omega) (fun k x r z => z))) (FrG_mono G8 (fun k x r z => by omega) (fun _ _ _ z => z.elim))) (FrG_mono z3 (fun k x r z => by omega) (fun k x r z => z))) (FrG_mono Ga (fun k x r z => by omega) (fun _ _ _ z => z.elim))) (FrG_mono f3 (fun k x r z => by omega) (fun k x r z => z))
  have b30 : rI σb 30 j (ρ 4) = nI k := by rw [Gb.1 30 j _ (by omega)]; exact e30
  have b31 : rI σb 31 j (ρ 4) = nI b := by rw [f3.1 31 j _ (by omega), Ga.1 31 j _ (by omega), z3.1 31 j _ (by omega), G8.1 31 j _ (by omega), y3.1 31 j _ (by omega)]; exact e31
  have b32 : rI σb 32 j (ρ 4) = nI a := by rw [f3.1 32 j _ (by omega), Ga.1 32 j _ (by omega), z3.1 32 j _ (by omega)]; exact e32
  have b33 : rI σb 33 j (ρ 4) = nI p := by rw [f3.1 33 j _ (by omega)]; exact e33
  have FKb : FK j σ σb := FK_tr (FK_tr (FK_tr (FK_tr (FK_tr (FK_tr (FK_tr (FK_tr (FK_tr FK3 (FrG_mono G4 (fun k x r z => by omega) (fun _ _ _ z => z.elim))) (FA_K x3)) (FrG_mono G6 (fun k x r z => by omega) (fun _ _ _ z => z.elim))) (FA_K y3)) (FrG_mono G8 (fun k x r z => by omega) (fun _ _ _ z => z.elim))) (FA_K z3)) (FrG_mono Ga (fun k x r z => by omega) (fun _ _ _ z => z.elim))) (FA_K f3)) (FrG_rfl _)
  have hl := rmN_HR (k := k) (b := b) (a := a) (p := p) hRb h3 h8 b30 b31 b32 b33
  rw [hRb.1.1, nI_add]
  have e31b : rI (wI σb 20 j 0 (nI (ρ 4 + 1))) 31 j (ρ 4) = nI b := by rw [rI_wI_ne (by omega)]; exact b31
  have e21b : rI (wI σb 20 j 0 (nI (ρ 4 + 1))) 21 j 0 = nI (allB ρ) := by rw [rI_wI_ne (by omega)]; exact hRb.1.2.1
  rw [e31b, e21b, nI_add]
  have GG : FrG (fun k x r => (k = 20 ∨ k = 21) ∧ x = j) (fun _ _ _ => False) σb (wI (wI σb 20 j 0 (nI (ρ 4 + 1))) 21 j 0 (nI (allB ρ + b))) := FrG_tr (FrG_wI ⟨Or.inl rfl, rfl⟩) (FrG_wI ⟨Or.inr rfl, rfl⟩)
  have e3b : rJ σb 1 j (ρ 4) = nmR (ρ 4) := by rw [Gb.2.1 1 j _ (by omega), G4.2.1 1 j _ (fun z => z)]; exact e3
  have JJ : ∀ r, r < ρ 4 → rJ σb 1 j r = nmR r := fun r hr => by rw [Gb.2.1 1 j _ (by omega), G4.2.1 1 j _ (fun z => z), c3.2.1 1 j _ (by omega), G1.2.1 1 j _ (by omega)]; exact hN1.1 r hr
  have KK : ∀ x, x < ρ 37 → rJ σb 2 j x = nmB x := fun x hx => by rw [Gb.2.1 2 j _ (by omega), G4.2.1 2 j _ (fun z => z), c3.2.1 2 j _ (by omega), G1.2.1 2 j _ (by omega)]; exact hN1.2 x hx
  refine ⟨_, rfl, ⟨Rr_fr f2 GG (fun k x r z => by omega) (fun _ _ _ z => z.elim), hl, rmN_I3 h3 h8 (by omega) hb hag hp, ⟨fun r hr => ?_, fun x hx => ?_⟩⟩, FK_tr FKb (FrG_mono GG (fun k x r z => by omega) (fun _ _ _ z => z.elim))⟩
  · rw [rmN_4] at hr
    rw [GG.2.1 1 j r (fun z => z)]
    by_cases e : r = ρ 4
    · rw [e]; exact e3b
    · exact JJ r (by omega)
  · rw [rmN_hi h8 (by omega)] at hx
    rw [GG.2.1 2 j x (fun z => z)]
    exact KK x hx
end
