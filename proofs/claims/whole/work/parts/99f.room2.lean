/-! layer 2: a room read, on both sides -/
section
variable {σ σ2 μ μ2 : Mem} {j N s : Nat} {B : Nat → Int32} {ρ : RwQ}
theorem step_v (R : RdC σ N B s) (R2 : RdR μ N B (nxT N B s)) {lo hi : Nat} (h1 : lo < 2 ^ 31) (h2 : hi < 2 ^ 31) : (∃ v s1 σ1 μ1, fX2_readNumber (nI lo) (nI hi) σ = some (nI 1, σ1) ∧ fX6_readValue (nI lo) (nI hi) μ = some (nI v, μ1) ∧ RdC σ1 N B s1 ∧ RdR μ1 N B (nxT N B s1) ∧ FA σ σ1 ∧ FY μ μ1 ∧ rI σ1 11 0 0 = nI v ∧ lo ≤ v ∧ v ≤ hi ∧ s ≤ s1) ∨ (∃ w σ1 μ1, fX2_readNumber (nI lo) (nI hi) σ = some (nI 0, σ1) ∧ fX6_readValue (nI lo) (nI hi) μ = some (nI 0, μ1) ∧ rI σ1 9 0 0 = nI w ∧ Bad μ1 w ∧ FA σ σ1 ∧ FY μ μ1) := by
  obtain ⟨σ1, a1, a2, a3, a4⟩ := num_h R lo hi
  by_cases k : okN N B (nxT N B s) lo hi = true
  · obtain ⟨v1, v2, v3⟩ := a4 h1 h2 k
    obtain ⟨⟨v, μ1⟩, c1, c2, c3, c4⟩ := val_Y R2 h1 h2 k
    try dsimp only at c2 c3 c4
    subst c2
    rw [k] at a1
    exact Or.inl ⟨_, _, σ1, μ1, a1, c1, a2, c3, a3, c4, v1, v2, v3, (nxT_le R.2.1).1⟩
  · have k2 := Bool.eq_false_iff.mpr k
    rw [k2] at a1
    exact Or.inr ⟨_, σ1, _, a1, val_N R2 k2, st_9 a2, (bad_s R2).1, a3, (bad_s R2).2⟩
theorem step_e (R : RdC σ N B s) (R2 : RdR μ N B (nxT N B s)) : (∃ s1 σ1, fX2_readEnd σ = some (nI 1, σ1) ∧ fX6_ends μ = some μ ∧ RdC σ1 N B s1 ∧ RdR μ N B s1 ∧ tkK N B s1 = 3 ∧ FA σ σ1 ∧ s ≤ s1) ∨ (∃ w σ1 μ1, fX2_readEnd σ = some (nI 0, σ1) ∧ fX6_ends μ = some μ1 ∧ rI σ1 9 0 0 = nI w ∧ Bad μ1 w ∧ FA σ σ1 ∧ FY μ μ1) := by
  obtain ⟨σ1, a1, a2, a3⟩ := end_h R
  by_cases e : tkK N B (nxT N B s) = 3
  · rw [decide_eq_true e] at a1
    exact Or.inl ⟨_, σ1, a1, ends_Y R2 e, a2, R2, e, a3, (nxT_le R.2.1).1⟩
  · rw [decide_eq_false e] at a1
    exact Or.inr ⟨_, σ1, _, a1, ends_N R2 e, st_9 a2, (bad_s R2).1, a3, (bad_s R2).2⟩
theorem room85_N (R : RdR μ N B s) (q1 q8 : Int32) (q6 : Mem) : jX6_readRoom_85 μ q1 q8 q6 (nI 0) = some (wI μ 75 0 0 (nI s)) := by
  have h := (bad_s R).1
  unfold jX6_readRoom_85
  rw [must_N R, Option.bind_some, go_B h, Option.bind_some, val_B h, Option.bind_some]
  try dsimp only
  rw [val_B h, Option.bind_some]
  try dsimp only
  rw [val_B h, Option.bind_some]
  try dsimp only
  rw [ends_B h, Option.bind_some, well_N h, Option.bind_some, if_neg (fun z => z rfl)]
theorem room55_N (R : RdR μ N B s) (q1 : Int32) : jX6_readRoom_55 μ q1 (nI 0) = some (wI μ 75 0 0 (nI s)) := by
  have h := (bad_s R).1
  unfold jX6_readRoom_55
  rw [must_N R, Option.bind_some, go_B h, Option.bind_some]
  obtain ⟨v, hv⟩ := kind_t (wI μ 75 0 0 (nI s))
  rw [hv, Option.bind_some, room85_B h, room85_B h]
  by_cases z : v = -1
  · rw [if_pos z]
  · rw [if_neg z]
theorem kdT_3 (h : ¬ kdT N B s = 3) : kdT N B s ≤ 2 := by
  unfold kdT at h ⊢
  by_cases z1 : isw N B s (txW 1) = true
  · rw [if_pos z1]; omega
  · rw [if_neg z1] at h ⊢
    by_cases z2 : isw N B s (txW 2) = true
    · rw [if_pos z2]; omega
    · rw [if_neg z2] at h ⊢
      by_cases z3 : isw N B s (txW 3) = true
      · rw [if_pos z3]; omega
      · rw [if_neg z3] at h; exact absurd rfl h
theorem room_so (L : LD σ μ j N B s ρ) : SO (fX2_readRoom j σ) (fX6_readRoom μ) σ μ j N B s := by
  obtain ⟨R, R2, hR, C, h3, hN⟩ := L
  have h8 := h3.1.1
  unfold fX2_readRoom fX6_readRoom
  simp only [l_0, l_1, l_4, l_8]
  rw [get_s C (by omega), Option.bind_some, hR.1.1]
  by_cases hfull : ρ 4 < 8
  · rw [if_pos (nI_lt hfull (by omega)), gd_inb (by omega) (by omega), if_neg (nI_ge (by omega) (by omega)), nI_clamp (by omega)]
    unfold jX6_readRoom_18 jX6_readRoom_54
    simp only [l_0, l_1]
    rw [must_Y, Option.bind_some]
    obtain ⟨σ1, a1, a2, a3⟩ := adv_h R
    obtain ⟨μ1, b1', b2, b3⟩ := go_s R2
    have l1 := (nxT_le (B := B) R.2.1).1
    obtain ⟨s1, hs1⟩ : ∃ t, t = nxT N B s := ⟨_, rfl⟩
    rw [← hs1] at a2 b2 l1
    have h4 := tkK_le N B s1
    rw [a1, b1', Option.bind_some, Option.bind_some, a2.2.2.2.2.1, b2.2.2.1.2.2.1, room55_N b2]
    have bad1 : SO (some (nI 0, σ1)) (some (wI μ1 75 0 0 (nI s1))) σ μ j N B s := ⟨σ1, _, rfl, FA_K a3, FM_tr (FY_M b3) (FY_M (FY_75 _)), Or.inr ⟨_, rfl, st_9 a2, (bad_s b2).1⟩⟩
    by_cases hw : tkK N B s1 = 1
    · rw [if_neg (fun y => y (by rw [hw])), if_neg (fun y => y (by rw [hw]))]
      have hnm := wd_nm a2 b2 hw
      have hN1 : Nm2 σ1 μ1 j ρ := Nm2_F hN a3 b3
      have hR1 := HR_FA hR a3
      rw [placeRR_eq, placeRN_s (σ := σ1) (j := j) (by omega) hN1.1, roomNamed_h (μ := shJ μ1) hR1.1.1 (by omega) (NMr_q hnm) hN1.1, Option.bind_some, Option.bind_some]
      obtain ⟨f, hf⟩ : ∃ f, f = fstN (rmP (shJ μ1) (rJ μ1 10 0 0)) (ρ 4) := ⟨_, rfl⟩
      rw [← hf]
      by_cases hfd : f < ρ 4
      · have e : ixO (ρ 4) f = nI f := if_pos hfd
        rw [e, if_neg (nI_m1 (by omega)), if_pos (nI_m1 (by omega))]
        exact bad1
      · have e : ixO (ρ 4) f = -nI 1 := if_neg hfd
        rw [e, if_pos rfl, if_neg (fun z => z rfl)]
        obtain ⟨nm, hnm2⟩ : ∃ t, t = rJ σ1 0 0 0 := ⟨_, rfl⟩
        rw [← hnm2] at hnm ⊢
        have G1 : FrG (fun _ _ _ => False) (fun k x r => k = 1 ∧ x = j ∧ r = ρ 4) σ1 (wJ σ1 1 j (ρ 4) nm) := FrG_wJ ⟨rfl, rfl, rfl⟩
        have R1' : RdC (wJ σ1 1 j (ρ 4) nm) N B s1 := RdC_fr a2 G1 (fun _ _ _ z => z.elim) (fun k _ _ z => by omega)
        obtain ⟨σ3, c1, c2, c3⟩ := adv_h R1'
        obtain ⟨μ2, d1, d2, d3⟩ := go_s b2
        have l2 := (nxT_le (B := B) R1'.2.1).1
        obtain ⟨s2, hs2⟩ : ∃ t, t = nxT N B s1 := ⟨_, rfl⟩
        rw [← hs2] at c2 d2 l2
        unfold jX6_readRoom_55
        simp only [l_0, l_1, l_10, l_99, l_200]
        rw [must_Y, Option.bind_some, c1, d1, Option.bind_some, Option.bind_some, kind_h c2, kind_s d2, Option.bind_some, Option.bind_some, rI_wI_self]
        have FK3 : FK j σ σ3 := FK_tr (FK_tr (FA_K a3) (FrG_mono G1 (fun _ _ _ z => z.elim) (fun k x r z => Or.inr ⟨Or.inl z.1, z.2.1⟩))) (FA_K c3)
        have FM2 : FM μ μ2 := FM_tr (FY_M b3) (FY_M d3)
        by_cases hk : kdT N B s2 = 3
        · have e : kdI (kdT N B s2) = -nI 1 := if_pos hk
          rw [e, if_pos rfl, if_pos rfl]
          rw [room85_N d2]
          refine ⟨_, _, rfl, FK_tr FK3 (FrG_wI (Or.inr ⟨by omega, rfl⟩)), FM_tr FM2 (FY_M (FY_75 _)), Or.inr ⟨_, rfl, ?_, (bad_s d2).1⟩⟩
          rw [rI_wI_ne (by omega)]; exact st_9 c2
        · have hk2 : kdT N B s2 ≤ 2 := kdT_3 hk
          have e : kdI (kdT N B s2) = nI (kdT N B s2) := if_neg hk
          obtain ⟨kd, hkd⟩ : ∃ t, t = kdT N B s2 := ⟨_, rfl⟩
          rw [e, ← hkd, if_neg (nI_m1 (by omega)), if_neg (nI_m1 (by omega))]
          rw [← hkd] at hk2
          unfold jX6_readRoom_85
          simp only [l_0, l_1, l_2, l_3, l_4, l_5, l_10, l_99, l_200, nI_add, pk_mul]
          rw [must_Y, Option.bind_some]
          obtain ⟨μ3, m1, m2, m3⟩ := go_s d2
          rw [m1, Option.bind_some]
          have FM3 : FM μ μ3 := FM_tr FM2 (FY_M m3)
          obtain ⟨σ4, hσ4⟩ : ∃ t, t = wI σ3 30 j (ρ 4) (nI kd) := ⟨_, rfl⟩
          have G4 : FrG (fun k x r => k = 30 ∧ x = j ∧ r = ρ 4) (fun _ _ _ => False) σ3 σ4 := by rw [hσ4]; exact FrG_wI ⟨rfl, rfl, rfl⟩
          have e30 : rI σ4 30 j (ρ 4) = nI kd := by rw [hσ4, rI_wI_self]
          rw [← hσ4]
          have R4 : RdC σ4 N B s2 := RdC_fr c2 G4 (fun k x r z => by omega) (fun _ _ _ z => z.elim)
          have FK4 : FK j σ σ4 := FK_tr FK3 (FrG_mono G4 (fun k x r z => by omega) (fun _ _ _ z => z.elim))
          rcases step_v R4 m2 (lo := 1) (hi := 10) (by omega) (by omega) with ⟨bd, s3, σ5, μ4, x1, x2, x3, x4, x5, x6, x7, x8, x9, x10⟩ | ⟨w, σ5, μ4, x1, x2, x3, x4, x5, x6⟩
          · rw [x1, x2, Option.bind_some, Option.bind_some]
            try dsimp only
            rw [if_pos (by decide), x7]
            obtain ⟨σ6, hσ6⟩ : ∃ t, t = wI σ5 31 j (ρ 4) (nI bd) := ⟨_, rfl⟩
            have G6 : FrG (fun k x r => k = 31 ∧ x = j ∧ r = ρ 4) (fun _ _ _ => False) σ5 σ6 := by rw [hσ6]; exact FrG_wI ⟨rfl, rfl, rfl⟩
            have e31 : rI σ6 31 j (ρ 4) = nI bd := by rw [hσ6, rI_wI_self]
            rw [← hσ6]
            have R6 : RdC σ6 N B s3 := RdC_fr x3 G6 (fun k x r z => by omega) (fun _ _ _ z => z.elim)
            have FK6 : FK j σ σ6 := FK_tr (FK_tr FK4 (FA_K x5)) (FrG_mono G6 (fun k x r z => by omega) (fun _ _ _ z => z.elim))
            have FM4 : FM μ μ4 := FM_tr FM3 (FY_M x6)
            rcases step_v R6 x4 (lo := 0) (hi := 99) (by omega) (by omega) with ⟨ag, s4, σ7, μ5, y1, y2, y3, y4, y5, y6, y7, y8, y9, y10⟩ | ⟨w, σ7, μ5, y1, y2, y3, y4, y5, y6⟩
            · rw [y1, y2, Option.bind_some, Option.bind_some]
              try dsimp only
              rw [if_pos (by decide), y7]
              obtain ⟨σ8, hσ8⟩ : ∃ t, t = wI σ7 32 j (ρ 4) (nI ag) := ⟨_, rfl⟩
              have G8 : FrG (fun k x r => k = 32 ∧ x = j ∧ r = ρ 4) (fun _ _ _ => False) σ7 σ8 := by rw [hσ8]; exact FrG_wI ⟨rfl, rfl, rfl⟩
              have e32 : rI σ8 32 j (ρ 4) = nI ag := by rw [hσ8, rI_wI_self]
              rw [← hσ8]
              have R8 : RdC σ8 N B s4 := RdC_fr y3 G8 (fun k x r z => by omega) (fun _ _ _ z => z.elim)
              have FK8 : FK j σ σ8 := FK_tr (FK_tr FK6 (FA_K y5)) (FrG_mono G8 (fun k x r z => by omega) (fun _ _ _ z => z.elim))
              have FM5 : FM μ μ5 := FM_tr FM4 (FY_M y6)
              rcases step_v R8 y4 (lo := 1) (hi := 200) (by omega) (by omega) with ⟨pr, s5, σ9, μ6, z1, z2, z3, z4, z5, z6, z7, z8, z9, z10⟩ | ⟨w, σ9, μ6, z1, z2, z3, z4, z5, z6⟩
              · rw [z1, z2, Option.bind_some, Option.bind_some]
                try dsimp only
                rw [if_pos (by decide), z7]
                obtain ⟨σA, hσA⟩ : ∃ t, t = wI σ9 33 j (ρ 4) (nI pr) := ⟨_, rfl⟩
                have GA : FrG (fun k x r => k = 33 ∧ x = j ∧ r = ρ 4) (fun _ _ _ => False) σ9 σA := by rw [hσA]; exact FrG_wI ⟨rfl, rfl, rfl⟩
                have e33 : rI σA 33 j (ρ 4) = nI pr := by rw [hσA, rI_wI_self]
                rw [← hσA]
                have RA : RdC σA N B s5 := RdC_fr z3 GA (fun k x r z => by omega) (fun _ _ _ z => z.elim)
                have FKA : FK j σ σA := FK_tr (FK_tr FK8 (FA_K z5)) (FrG_mono GA (fun k x r z => by omega) (fun _ _ _ z => z.elim))
                have FM6 : FM μ μ6 := FM_tr FM5 (FY_M z6)
                rcases step_e RA z4 with ⟨s6, σB, u1, u2, u3, u4, u5, u6, u7⟩ | ⟨w, σB, μ7, u1, u2, u3, u4, u5, u6⟩
                · rw [u1, u2, Option.bind_some, Option.bind_some]
                  try dsimp only
                  rw [well_Y u4, Option.bind_some, if_pos (by decide), if_pos (by decide), gd_inb (by omega) (by omega), nI_clamp (by omega)]
                  have G1B : FrG (fun k x r => (8 ≤ k ∧ k ≤ 11) ∨ ((30 ≤ k ∧ k ≤ 33) ∧ x = j ∧ r = ρ 4)) (fun k x r => k = 0 ∨ (k = 1 ∧ x = j ∧ r = ρ 4)) σ1 σB := by
                    refine FrG_tr (FrG_mono G1 (fun _ _ _ z => z.elim) (fun k x r z => Or.inr z)) (FrG_tr (FrG_mono c3 (fun k x r z => Or.inl z) (fun k x r z => Or.inl z)) (FrG_tr (FrG_mono G4 (fun k x r z => by omega) (fun _ _ _ z => z.elim)) (FrG_tr (FrG_mono x5 (fun k x r z => Or.inl z) (fun k x r z => Or.inl z)) ?_)))
                    refine FrG_tr (FrG_mono G6 (fun k x r z => by omega) (fun _ _ _ z => z.elim)) (FrG_tr (FrG_mono y5 (fun k x r z => Or.inl z) (fun k x r z => Or.inl z)) ?_)
                    refine FrG_tr (FrG_mono G8 (fun k x r z => by omega) (fun _ _ _ z => z.elim)) (FrG_tr (FrG_mono z5 (fun k x r z => Or.inl z) (fun k x r z => Or.inl z)) ?_)
                    exact FrG_tr (FrG_mono GA (fun k x r z => by omega) (fun _ _ _ z => z.elim)) (FrG_mono u6 (fun k x r z => Or.inl z) (fun k x r z => Or.inl z))
                  have hRB : HR σB j ρ := HR_rmrow hR1 G1B (fun k r z => by omega)
                  have f33 : rI σB 33 j (ρ 4) = nI pr := by rw [u6.1 33 j _ (by omega)]; exact e33
                  have f32 : rI σB 32 j (ρ 4) = nI ag := by rw [u6.1 32 j _ (by omega), GA.1 32 j _ (by omega), z5.1 32 j _ (by omega)]; exact e32
                  have f31 : rI σB 31 j (ρ 4) = nI bd := by rw [u6.1 31 j _ (by omega), GA.1 31 j _ (by omega), z5.1 31 j _ (by omega), G8.1 31 j _ (by omega), y5.1 31 j _ (by omega)]; exact e31
                  have f30 : rI σB 30 j (ρ 4) = nI kd := by rw [u6.1 30 j _ (by omega), GA.1 30 j _ (by omega), z5.1 30 j _ (by omega), G8.1 30 j _ (by omega), y5.1 30 j _ (by omega), G6.1 30 j _ (by omega), x5.1 30 j _ (by omega)]; exact e30
                  have hRn := rmN_HR hRB h3 hfull f30 f31 f32 f33
                  have eC : wI (wI σB 20 j 0 (rI σB 20 j 0 + nI 1)) 21 j 0 (rI (wI σB 20 j 0 (rI σB 20 j 0 + nI 1)) 21 j 0 + rI (wI σB 20 j 0 (rI σB 20 j 0 + nI 1)) 31 j (ρ 4)) = wI (wI σB 20 j 0 (nI (ρ 4 + 1))) 21 j 0 (nI (allB ρ + bd)) := by
                    rw [rI_wI_ne (by omega), rI_wI_ne (by omega), hRB.1.1, hRB.1.2.1, f31, nI_add, nI_add]
                  rw [eC]
                  obtain ⟨σC, hσC⟩ : ∃ t, t = wI (wI σB 20 j 0 (nI (ρ 4 + 1))) 21 j 0 (nI (allB ρ + bd)) := ⟨_, rfl⟩
                  rw [← hσC] at hRn ⊢
                  have GC : FrG (fun k x _ => (k = 20 ∨ k = 21) ∧ x = j) (fun _ _ _ => False) σB σC := by rw [hσC]; exact FrG_tr (FrG_wI (by omega)) (FrG_wI (by omega))
                  have C6 : Cur μ6 1 ρ := Cur_FY (Cur_FY (Cur_FY (Cur_FY (Cur_FY (Cur_FY C b3) d3) m3) x6) y6) z6
                  obtain ⟨μ7, hμ7⟩ : ∃ t, t = wJ μ6 13 0 (ρ 4) (rJ μ1 10 0 0) := ⟨_, rfl⟩
                  have M7 : FrG (fun _ _ _ => False) (fun k _ r => k = 13 ∧ r = ρ 4) μ6 μ7 := by rw [hμ7]; exact FrG_wJ ⟨rfl, rfl⟩
                  rw [← hμ7]
                  have C7 : Cur μ7 1 ρ := by rw [hμ7]; exact C6
                  have C8 := set_C C7 (k := 5 + 4 * ρ 4 + 0) (by omega) kd
                  have C9 := set_C C8 (k := 5 + 4 * ρ 4 + 1) (by omega) bd
                  have CA := set_C C9 (k := 5 + 4 * ρ 4 + 2) (by omega) ag
                  have CB := set_C CA (k := 5 + 4 * ρ 4 + 3) (by omega) pr
                  have CC := set_C CB (k := 4) (by omega) (ρ 4 + 1)
                  rw [set_s C7 (by omega), Option.bind_some, set_s C8 (by omega), Option.bind_some, set_s C9 (by omega), Option.bind_some, set_s CA (by omega), Option.bind_some, set_s CB (by omega), Option.bind_some]
                  obtain ⟨μ8, hμ8⟩ : ∃ t, t = wI (wI (wI (wI (wI μ7 61 0 (208 * 1 + (5 + 4 * ρ 4 + 0)) (nI kd)) 61 0 (208 * 1 + (5 + 4 * ρ 4 + 1)) (nI bd)) 61 0 (208 * 1 + (5 + 4 * ρ 4 + 2)) (nI ag)) 61 0 (208 * 1 + (5 + 4 * ρ 4 + 3)) (nI pr)) 61 0 (208 * 1 + 4) (nI (ρ 4 + 1)) := ⟨_, rfl⟩
                  have M8 : FrG (fun k _ r => k = 61 ∧ 208 ≤ r ∧ r < 416) (fun _ _ _ => False) μ7 μ8 := by
                    rw [hμ8]
                    exact FrG_tr (FrG_wI (by omega)) (FrG_tr (FrG_wI (by omega)) (FrG_tr (FrG_wI (by omega)) (FrG_tr (FrG_wI (by omega)) (FrG_wI (by omega)))))
                  rw [← hμ8] at CC ⊢
                  have G68 : FrG (fun k _ r => k = 61 ∧ 208 ≤ r ∧ r < 416) (fun k _ r => k = 13 ∧ r = ρ 4) μ6 μ8 := FrG_tr (FrG_mono M7 (fun _ _ _ z => z.elim) (fun k x r z => z)) (FrG_mono M8 (fun k x r z => z) (fun _ _ _ z => z.elim))
                  have G18 : FrG (fun k _ r => (71 ≤ k ∧ k ≤ 75) ∨ (k = 61 ∧ 208 ≤ r ∧ r < 416)) (fun k _ r => k = 10 ∨ (k = 13 ∧ r = ρ 4)) μ1 μ8 := by
                    refine FrG_tr (FrG_mono d3 (fun k x r z => Or.inl z) (fun k x r z => Or.inl z)) (FrG_tr (FrG_mono m3 (fun k x r z => Or.inl z) (fun k x r z => Or.inl z)) (FrG_tr (FrG_mono x6 (fun k x r z => Or.inl z) (fun k x r z => Or.inl z)) ?_))
                    exact FrG_tr (FrG_mono y6 (fun k x r z => Or.inl z) (fun k x r z => Or.inl z)) (FrG_tr (FrG_mono z6 (fun k x r z => Or.inl z) (fun k x r z => Or.inl z)) (FrG_mono G68 (fun k x r z => Or.inr z) (fun k x r z => Or.inr z)))
                  refine ⟨σC, μ8, rfl, FK_tr (FK_tr FKA (FA_K u6)) (FrG_mono GC (fun k x r z => by omega) (fun _ _ _ z => z.elim)), FM_tr FM6 (FrG_mono G68 (fun k x r z => Or.inr z) (fun k x r z => Or.inr (Or.inl z.1))), Or.inl ⟨s6, rmN ρ kd bd ag pr, rfl, by omega, u5, RdC_fr u3 GC (fun k x r z => by omega) (fun _ _ _ z => z.elim), RdR_fr u4 G68 (fun k x r z => by omega) (fun k x r z => by omega), hRn, CC, rmN_I3 h3 hfull hk2 ⟨x8, x9⟩ y9 ⟨z8, z9⟩, ?_⟩⟩
                  have G1C : FrG (fun k x r => (8 ≤ k ∧ k ≤ 11) ∨ ((20 ≤ k ∧ k ≤ 33) ∧ x = j)) (fun k x r => k = 0 ∨ (k = 1 ∧ x = j ∧ r = ρ 4)) σ1 σC := FrG_tr (FrG_mono G1B (fun k x r z => by omega) (fun k x r z => z)) (FrG_mono GC (fun k x r z => by omega) (fun _ _ _ z => z.elim))
                  refine ⟨fun r hr => ?_, fun x hx => ?_⟩
                  · rw [rmN_4] at hr
                    by_cases q : r = ρ 4
                    · have e1 : rJ σC 1 j r = nm := by
                        rw [q, GC.2.1 1 j _ (fun z => z.elim), u6.2.1 1 j _ (by omega), GA.2.1 1 j _ (fun z => z.elim), z5.2.1 1 j _ (by omega), G8.2.1 1 j _ (fun z => z.elim), y5.2.1 1 j _ (by omega), G6.2.1 1 j _ (fun z => z.elim), x5.2.1 1 j _ (by omega), G4.2.1 1 j _ (fun z => z.elim), c3.2.1 1 j _ (by omega)]
                        exact rJ_wJ_self
                      have e2 : rJ μ8 13 0 r = rJ μ1 10 0 0 := by
                        rw [q, M8.2.1 13 0 _ (fun z => z.elim), hμ7]
                        exact rJ_wJ_self
                      rw [e1, e2]; exact hnm
                    · rw [G1C.2.1 1 j r (by omega), G18.2.1 13 0 r (by omega)]; exact hN1.1 r (by omega)
                  · rw [rmN_hi hfull (by omega)] at hx
                    rw [G1C.2.1 2 j x (by omega), G18.2.1 14 0 x (by omega)]; exact hN1.2 x hx
                · rw [u1, u2, Option.bind_some, Option.bind_some]
                  try dsimp only
                  rw [well_N u4, Option.bind_some, if_neg (by decide), if_neg (by decide)]
                  exact ⟨_, _, rfl, FK_tr FKA (FA_K u5), FM_tr FM6 (FY_M u6), Or.inr ⟨w, rfl, u3, u4⟩⟩
              · rw [z1, z2, Option.bind_some, Option.bind_some]
                try dsimp only
                rw [if_neg (by decide), ends_B z4, Option.bind_some, well_N z4, Option.bind_some, if_neg (by decide)]
                exact ⟨_, _, rfl, FK_tr FK8 (FA_K z5), FM_tr FM5 (FY_M z6), Or.inr ⟨w, rfl, z3, z4⟩⟩
            · rw [y1, y2, Option.bind_some, Option.bind_some]
              try dsimp only
              rw [if_neg (by decide), val_B y4, Option.bind_some]
              try dsimp only
              rw [ends_B y4, Option.bind_some, well_N y4, Option.bind_some, if_neg (by decide)]
              exact ⟨_, _, rfl, FK_tr FK6 (FA_K y5), FM_tr FM4 (FY_M y6), Or.inr ⟨w, rfl, y3, y4⟩⟩
          · rw [x1, x2, Option.bind_some, Option.bind_some]
            try dsimp only
            rw [if_neg (by decide), val_B x4, Option.bind_some]
            try dsimp only
            rw [val_B x4, Option.bind_some]
            try dsimp only
            rw [ends_B x4, Option.bind_some, well_N x4, Option.bind_some, if_neg (by decide)]
            exact ⟨_, _, rfl, FK_tr FK4 (FA_K x5), FM_tr FM3 (FY_M x6), Or.inr ⟨w, rfl, x3, x4⟩⟩
    · rw [if_pos (nI_ne (by omega) (by omega) hw), if_pos (nI_ne (by omega) (by omega) hw)]
      exact bad1
  · rw [if_neg (nI_nlt (by omega) (by omega)), if_pos (nI_le (by omega) (by omega))]
    unfold jX6_readRoom_18 jX6_readRoom_54
    have hB := (bad_s R2).1
    simp only [l_0, l_1]
    rw [must_N R2, Option.bind_some, go_B hB, Option.bind_some, room55_B hB, room55_B hB, placeRR_eq, placeRN_s (σ := σ) (j := j) (by omega) hN.1, Option.bind_some]
    have fin : SO (some (nI 0, σ)) (some (wI μ 75 0 0 (nI s))) σ μ j N B s := ⟨σ, _, rfl, FK_rfl σ, FY_M (FY_75 _), Or.inr ⟨_, rfl, st_9 R, hB⟩⟩
    by_cases q : rI (wI μ 75 0 0 (nI s)) 73 0 0 = nI 1
    · rw [if_neg (fun z => z q)]
      by_cases q2 : ixO (ρ 4) (fstN (rmP (shJ (wI μ 75 0 0 (nI s))) (rJ (wI μ 75 0 0 (nI s)) 10 0 0)) (ρ 4)) = -nI 1
      · rw [if_neg (fun z => z q2)]; exact fin
      · rw [if_pos q2]; exact fin
    · rw [if_pos q]; exact fin
end
