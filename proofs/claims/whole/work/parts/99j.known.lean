/-! layer 2: a cancellation and an absence read -/
def KNO (x : Option (Int32 × Mem)) (y : Option (Int32 × Mem)) (σ μ : Mem) (N : Nat) (B : Nat → Int32) (s : Nat) (ρ : RwQ) : Prop := (∃ b s1 σ1 μ1, x = some (nI b, σ1) ∧ b < ρ 37 ∧ bkv ρ b 8 ≠ 2 ∧ RdC σ1 N B s1 ∧ RdR μ1 N B (nxT N B s1) ∧ FA σ σ1 ∧ FY μ μ1 ∧ s ≤ s1 ∧ y = (fX6_ends μ1).bind (fun q6 => some (nI b, q6))) ∨ (∃ t w σ1 μ1, x = some (-nI 1, σ1) ∧ y = some (t, μ1) ∧ rI σ1 9 0 0 = nI w ∧ Bad μ1 w ∧ FA σ σ1 ∧ FY μ μ1)
section
variable {σ σ2 μ μ2 : Mem} {j N s : Nat} {B : Nat → Int32} {ρ : RwQ}
theorem known_N (R : RdR μ N B s) (t : Int32) : jX6_readKnown_55 μ t = some (t, wI μ 75 0 0 (nI s)) := by
  have h := (bad_s R).1
  unfold jX6_readKnown_55 jX6_readKnown_56
  simp only [l_0]
  rw [must_N R, Option.bind_some, go_B h, Option.bind_some, ends_B h, Option.bind_some]
theorem known_2 (L : LD σ μ j N B s ρ) : KNO (fX2_readBooked j σ) (fX6_readKnown μ) σ μ N B s ρ := by
  obtain ⟨R, R2, hR, C, h3, hN⟩ := L
  have h16 := h3.2.2
  obtain ⟨σ1, a1, a2, a3⟩ := adv_h R
  obtain ⟨μ1, b1', b2, b3⟩ := go_s R2
  have l1 := (nxT_le (B := B) R.2.1).1
  obtain ⟨s1, hs1⟩ : ∃ t, t = nxT N B s := ⟨_, rfl⟩
  rw [← hs1] at a2 b2 l1
  have h4 := tkK_le N B s1
  have bad1 : ∀ t, KNO (some (-nI 1, σ1)) (some (t, wI μ1 75 0 0 (nI s1))) σ μ N B s ρ := fun t => Or.inr ⟨t, s1, σ1, _, rfl, rfl, st_9 a2, (bad_s b2).1, a3, FY_tr b3 (FY_75 _)⟩
  unfold fX2_readBooked fX6_readKnown jX2_readBooked_24 jX2_readBooked_47 jX6_readKnown_33
  simp only [l_1, l_2, l_8, l_37]
  rw [a1, b1', Option.bind_some, Option.bind_some, a2.2.2.2.2.1, b2.2.2.1.2.2.1]
  simp only [known_N b2]
  by_cases hw : tkK N B s1 = 1
  · rw [if_neg (fun y => y (by rw [hw])), if_neg (fun y => y (by rw [hw]))]
    have hnm := wd_nm a2 b2 hw
    have hN1 : Nm2 σ1 μ1 j ρ := Nm2_F hN a3 b3
    have hR1 := HR_FA hR a3
    have C1 := Cur_FY C b3
    rw [get_s C1 (by omega), Option.bind_some, placeRB_eq, placeBN_s (by omega), bookNamed_h (μ := shJ μ1) hR1.1.2.2.1 (by omega) (NMr_q hnm) (fun b hb => NMr_q (hN1.2 b hb)), Option.bind_some, Option.bind_some]
    obtain ⟨b, hf⟩ : ∃ f, f = fstN (bkP (shJ μ1) (rJ μ1 10 0 0)) (ρ 37) := ⟨_, rfl⟩
    rw [← hf]
    by_cases hfd : b < ρ 37
    · have e : ixO (ρ 37) b = nI b := if_pos hfd
      have w8 := (h3.1.2.2.2.2 b hfd).2.2.2.2.2.2.2
      rw [e, if_neg (nI_m1 (by omega)), if_neg (nI_m1 (by omega)), gd_inb (by omega) (by omega), nI_clamp (by omega), hR1.2.1 b hfd, of_s C1 (by omega) (by omega), Option.bind_some]
      by_cases h2 : bkv ρ b 8 = 2
      · rw [if_pos (by rw [h2]), if_pos (by rw [h2])]
        exact bad1 _
      · rw [if_neg (nI_ne (by omega) (by omega) h2), if_neg (nI_ne (by omega) (by omega) h2)]
        unfold jX6_readKnown_56
        rw [must_Y, Option.bind_some]
        obtain ⟨μ2, d1, d2, d3⟩ := go_s b2
        rw [d1, Option.bind_some]
        exact Or.inl ⟨b, s1, σ1, μ2, rfl, hfd, h2, a2, d2, a3, FY_tr b3 d3, l1, rfl⟩
    · have e : ixO (ρ 37) b = -nI 1 := if_neg hfd
      rw [e, if_pos rfl, if_pos rfl]
      exact bad1 _
  · rw [if_pos (nI_ne (by omega) (by omega) hw), if_pos (nI_ne (by omega) (by omega) hw), if_pos trivial, if_pos trivial]
    exact bad1 _
theorem absent_so (L : LD σ μ j N B s ρ) : SO (fX2_readAbsent j σ) (fX6_readAbsent μ) σ μ j N B s := by
  have hk := known_2 L
  obtain ⟨R, R2, hR, C, h3, hN⟩ := L
  have h16 := h3.2.2
  unfold fX2_readAbsent fX6_readAbsent
  simp only [l_0, l_1, l_7]
  rcases hk with ⟨b, s1, σ1, μ1, x1, x2, x3, x4, x5, x6, x7, x8, x9⟩ | ⟨t, w, σ1, μ1, x1, x2, x3, x4, x5, x6⟩
  · rw [x1, x9, Option.bind_some]
    try dsimp only
    rw [if_neg (nI_m1 (by omega))]
    rcases step_e x4 x5 with ⟨s2, σ2, u1, u2, u3, u4, u5, u6, u7⟩ | ⟨w, σ2, μ2, u1, u2, u3, u4, u5, u6⟩
    · rw [u1, u2, Option.bind_some, Option.bind_some, Option.bind_some]
      try dsimp only
      rw [if_pos (by decide), gd_inb (by omega) (by omega), nI_clamp (by omega), well_Y u4, Option.bind_some, if_neg (by decide)]
      have C1 := Cur_FY C x7
      rw [lay_s C1 (by omega) (by omega), Option.bind_some]
      obtain ⟨y1, y2⟩ := flag_mk (c := 7) (v := 1) (HR_FA (HR_FA hR x6) u6) h3 x2 (Or.inr rfl) (by omega)
      have GF : FrG (fun k x r => k = 48 ∧ x = j ∧ r = b) (fun _ _ _ => False) σ2 (wI σ2 48 j b (nI 1)) := FrG_wI ⟨rfl, rfl, rfl⟩
      have GM : FrG (fun k _ r => k = 61 ∧ 208 ≤ r ∧ r < 416) (fun _ _ _ => False) μ1 (wI μ1 61 0 (208 * 1 + (38 + 9 * b + 7)) (nI 1)) := FrG_wI (by omega)
      refine ⟨_, _, rfl, FK_tr (FA_K x6) (FK_tr (FA_K u6) (FrG_mono GF (fun k x r z => by omega) (fun _ _ _ z => z.elim))), FM_tr (FY_M x7) (FrG_mono GM (fun k x r z => Or.inr z) (fun _ _ _ z => z.elim)), Or.inl ⟨s2, setBQ ρ b 7 1, rfl, by omega, u5, RdC_fr u3 GF (fun k x r z => by omega) (fun _ _ _ z => z.elim), RdR_fr u4 GM (fun k x r z => by omega) (fun _ _ _ z => z.elim), y1, lay_C C1 (by omega) (by omega) 1, y2, ?_⟩⟩
      exact Nm2_eq (Nm2_g (Nm2_F (Nm2_F hN x6 x7) u6 (FY_rfl _)) GF GM (fun r _ => ⟨fun z => z, fun z => z⟩) (fun r _ => ⟨fun z => z, fun z => z⟩)) (setB_lo (by omega)) (setB_lo (by omega))
    · rw [u1, u2, Option.bind_some, Option.bind_some, Option.bind_some]
      try dsimp only
      rw [if_neg (by decide), well_N u4, Option.bind_some, if_pos rfl]
      exact ⟨_, _, rfl, FK_tr (FA_K x6) (FA_K u5), FM_tr (FY_M x7) (FY_M u6), Or.inr ⟨w, rfl, u3, u4⟩⟩
  · rw [x1, x2, Option.bind_some, Option.bind_some]
    try dsimp only
    rw [if_pos rfl, well_N x4, Option.bind_some, if_pos rfl]
    exact ⟨_, _, rfl, FA_K x5, FY_M x6, Or.inr ⟨w, rfl, x3, x4⟩⟩
theorem cancel_so (L : LD σ μ j N B s ρ) : SO (fX2_readCancel j σ) (fX6_readCancel μ) σ μ j N B s := by
  have hk := known_2 L
  obtain ⟨R, R2, hR, C, h3, hN⟩ := L
  have h16 := h3.2.2
  unfold fX2_readCancel fX6_readCancel
  simp only [l_0, l_1]
  rcases hk with ⟨b, s1, σ1, μ1, x1, x2, x3, x4, x5, x6, x7, x8, x9⟩ | ⟨t, w, σ1, μ1, x1, x2, x3, x4, x5, x6⟩
  · rw [x1, x9, Option.bind_some]
    try dsimp only
    rw [if_neg (nI_m1 (by omega))]
    rcases step_e x4 x5 with ⟨s2, σ2, u1, u2, u3, u4, u5, u6, u7⟩ | ⟨w, σ2, μ2, u1, u2, u3, u4, u5, u6⟩
    · rw [u1, u2, Option.bind_some, Option.bind_some, Option.bind_some]
      try dsimp only
      rw [if_pos (by decide), well_Y u4, Option.bind_some, if_neg (by decide)]
      have C1 := Cur_FY C x7
      obtain ⟨d1, d2, d3, d4⟩ := drp_WF h3.1 h3.2.1 x2
      obtain ⟨σ3, f1, f2, f3⟩ := drop_h (HR_FA (HR_FA hR x6) u6) h3.1 h3.2.1 x2
      obtain ⟨⟨n, σ4⟩, g1, g2, g3, g4⟩ := acceptW_h f2 d1 d2
      obtain ⟨⟨n', μ3⟩, z1, z2, z3, z4⟩ := cancels_s C1 h3.1 h3.2.1 x2
      try dsimp only at g2 g3 g4 z2 z3 z4
      obtain ⟨r1, r2, r3⟩ := gtR_WF d1 d2
      have e37 : gtR (drp ρ b) 37 = ρ 37 := by rw [r3.1 37 (by omega), d3.1 37 (by omega)]
      have e4' : gtR (drp ρ b) 4 = ρ 4 := by rw [r3.1 4 (by omega), d3.1 4 (by omega)]
      rw [f1, Option.bind_some, g1, Option.bind_some, z1, Option.bind_some]
      try dsimp only
      have GF : FrG (KHQ j) (fun _ _ _ => False) σ2 σ4 := Fr_G (Fr_tr f3 g4)
      have GM : FrG (KRQ 1) (fun _ _ _ => False) μ1 μ3 := Fr_G z4
      refine ⟨_, _, rfl, FK_tr (FA_K x6) (FK_tr (FA_K u6) (FrG_mono GF (fun k x r z => Or.inr z) (fun _ _ _ z => z.elim))), FM_tr (FY_M x7) (FrG_mono GM (fun k x r z => by unfold KRQ at z; omega) (fun _ _ _ z => z.elim)), Or.inl ⟨s2, _, rfl, by omega, u5, RdC_fr u3 GF (fun k x r z => by unfold KHQ at z; omega) (fun _ _ _ z => z.elim), RdR_fr u4 GM (fun k x r z => by unfold KRQ at z; omega) (fun _ _ _ z => z.elim), g3, z3, ⟨r1, r2, by omega⟩, ?_⟩⟩
      exact Nm2_eq (Nm2_g (Nm2_F (Nm2_F hN x6 x7) u6 (FY_rfl _)) GF GM (fun r _ => ⟨fun z => z, fun z => z⟩) (fun r _ => ⟨fun z => z, fun z => z⟩)) e4' e37
    · rw [u1, u2, Option.bind_some, Option.bind_some, Option.bind_some]
      try dsimp only
      rw [if_neg (by decide), well_N u4, Option.bind_some, if_pos rfl]
      exact ⟨_, _, rfl, FK_tr (FA_K x6) (FA_K u5), FM_tr (FY_M x7) (FY_M u6), Or.inr ⟨w, rfl, u3, u4⟩⟩
  · rw [x1, x2, Option.bind_some, Option.bind_some]
    try dsimp only
    rw [if_pos rfl, well_N x4, Option.bind_some, if_pos rfl]
    exact ⟨_, _, rfl, FA_K x5, FY_M x6, Or.inr ⟨w, rfl, x3, x4⟩⟩
end
