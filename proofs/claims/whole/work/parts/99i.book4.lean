/-! layer 2: a booking read, on both sides -/
section
variable {σ σ2 μ μ2 : Mem} {j N s : Nat} {B : Nat → Int32} {ρ : RwQ}
theorem SO_pre {c : Option (Int32 × Mem)} {r : Option Mem} {s0 : Nat} (h : SO c r σ2 μ2 j N B s) (F : FK j σ σ2) (G : FM μ μ2) (hs : s0 ≤ s) : SO c r σ μ j N B s0 := by
  obtain ⟨σ3, μ3, a1, a2, a3, a4⟩ := h
  refine ⟨σ3, μ3, a1, FK_tr F a2, FM_tr G a3, ?_⟩
  rcases a4 with ⟨s2, ρ2, b1', b2, b3⟩ | b
  · exact Or.inl ⟨s2, ρ2, b1', by omega, b3⟩
  · exact Or.inr b
theorem book_so (L : LD σ μ j N B s ρ) : SO (fX2_readBook j σ) (fX6_readBook μ) σ μ j N B s := by
  obtain ⟨R, R2, hR, C, h3, hN⟩ := L
  have h16 := h3.2.2
  unfold fX2_readBook fX6_readBook
  simp only [l_0, l_1, l_16, l_37]
  rw [get_s C (by omega), Option.bind_some, hR.1.2.2.1]
  by_cases hfull : ρ 37 < 16
  · rw [if_pos (nI_lt hfull (by omega)), gd_inb (by omega) (by omega), if_neg (nI_ge (by omega) (by omega)), nI_clamp (by omega)]
    unfold jX6_readBook_19 jX6_readBook_55
    simp only [l_0, l_1]
    rw [must_Y, Option.bind_some]
    obtain ⟨σ1, a1, a2, a3⟩ := adv_h R
    obtain ⟨μ1, b1', b2, b3⟩ := go_s R2
    have l1 := (nxT_le (B := B) R.2.1).1
    obtain ⟨s1, hs1⟩ : ∃ t, t = nxT N B s := ⟨_, rfl⟩
    rw [← hs1] at a2 b2 l1
    have h4 := tkK_le N B s1
    rw [a1, b1', Option.bind_some, Option.bind_some, a2.2.2.2.2.1, b2.2.2.1.2.2.1, book56_N b2]
    have bad1 : SO (some (nI 0, σ1)) (some (wI μ1 75 0 0 (nI s1))) σ μ j N B s := ⟨σ1, _, rfl, FA_K a3, FM_tr (FY_M b3) (FY_M (FY_75 _)), Or.inr ⟨_, rfl, st_9 a2, (bad_s b2).1⟩⟩
    by_cases hw : tkK N B s1 = 1
    · rw [if_neg (fun y => y (by rw [hw])), if_neg (fun y => y (by rw [hw]))]
      have hnm := wd_nm a2 b2 hw
      have hN1 : Nm2 σ1 μ1 j ρ := Nm2_F hN a3 b3
      have hR1 := HR_FA hR a3
      rw [placeRB_eq, placeBN_s (by omega), bookNamed_h (μ := shJ μ1) hR1.1.2.2.1 (by omega) (NMr_q hnm) (fun b hb => NMr_q (hN1.2 b hb)), Option.bind_some, Option.bind_some]
      obtain ⟨fd, hf⟩ : ∃ f, f = fstN (bkP (shJ μ1) (rJ μ1 10 0 0)) (ρ 37) := ⟨_, rfl⟩
      rw [← hf]
      by_cases hfd : fd < ρ 37
      · have e : ixO (ρ 37) fd = nI fd := if_pos hfd
        rw [e, if_neg (nI_m1 (by omega)), if_pos (nI_m1 (by omega))]
        exact bad1
      · have e : ixO (ρ 37) fd = -nI 1 := if_neg hfd
        rw [e, if_pos rfl, if_neg (fun z => z rfl), book56_eq, must_Y, Option.bind_some]
        obtain ⟨nm, hnm2⟩ : ∃ t, t = rJ σ1 0 0 0 := ⟨_, rfl⟩
        rw [← hnm2] at hnm ⊢
        obtain ⟨μ2, d1, d2, d3⟩ := go_s b2
        rw [d1, Option.bind_some]
        rcases group_2 (j := j) a2 d2 (ρ 37) (nI (ρ 37)) μ1 with ⟨f, n, w, m, a, c, s2, σ3, μ3, ma, mb, mc, md, me, x1, x2, x3, x4, x5, x6, x7, y1, y2, y3, y4, y5, y6⟩ | ⟨w, σ3, μ3, x1, x2, x3, x4, x5, x6⟩
        · obtain ⟨σ4, p1, p2, p3, p4⟩ := fill_h (σ := σ3) (j := j) (ρ := ρ) (f := f) (n := n) (w := w) (m := m) (a := a) (c := c)
          have hWF : WF (layB ρ f n w m a c) := layB_WF h3.1 h16 y1 y2 y3 y4 y5 y6
          rw [x1, x2, p1, Option.bind_some, Option.bind_some]
          try dsimp only
          rw [if_pos (by decide)]
          have hRr : HR σ4 j ρ := HR_row (HR_FA hR1 x5) p4 (fun k r z => by omega)
          obtain ⟨σ5, hσ5⟩ : ∃ t, t = wJ σ4 2 j (ρ 37) nm := ⟨_, rfl⟩
          have G5 : FrG (fun _ _ _ => False) (fun k x r => k = 2 ∧ x = j ∧ r = ρ 37) σ4 σ5 := by rw [hσ5]; exact FrG_wJ ⟨rfl, rfl, rfl⟩
          have e5 : rJ σ5 2 j (ρ 37) = nm := by rw [hσ5]; exact rJ_wJ_self
          have hR5 : HR σ5 j ρ := HR_g hRr G5 (fun _ _ _ _ z => z)
          have hB5 : HBk σ5 j (ρ 37) (layB ρ f n w m a c) (ρ 37) := by rw [hσ5]; exact p2
          rw [← hσ5]
          have R5 : RdC σ5 N B s2 := RdC_fr (RdC_fr x3 p4 (fun k x r z => by omega) (fun k x r z => by omega)) G5 (fun _ _ _ z => z.elim) (fun k x r z => by omega)
          obtain ⟨σ6, g1, g2, g3⟩ := adv_h R5
          rw [g1, Option.bind_some, isw_h g2 (by omega), Option.bind_some]
          unfold bk15
          try dsimp only
          rw [well_Y x4, Option.bind_some, if_neg (show ¬ nI 1 = nI 0 by decide), sp_5, Option.bind_some, isw_i x4 (by omega), Option.bind_some]
          have FK6 : FK j σ σ6 := FK_tr (FA_K a3) (FK_tr (FA_K x5) (FK_tr (FrG_mono p4 (fun k x r z => by omega) (fun k x r z => by omega)) (FK_tr (FrG_mono G5 (fun _ _ _ z => z.elim) (fun k x r z => by omega)) (FA_K g3))))
          have FM3 : FM μ μ3 := FM_tr (FY_M b3) (FM_tr (FY_M d3) (FY_M x6))
          have hR6 := HR_FA hR5 g3
          have e6 : rJ σ6 2 j (ρ 37) = nm := by rw [g3.2.1 2 _ _ (by omega)]; exact e5
          have G16 : FrG (fun k x r => (8 ≤ k ∧ k ≤ 11) ∨ ((40 ≤ k ∧ k ≤ 48) ∧ x = j ∧ r = ρ 37)) (fun k x r => k = 0 ∨ (k = 2 ∧ x = j ∧ r = ρ 37)) σ1 σ6 := FrG_tr (FrG_mono x5 (fun k x r z => Or.inl z) (fun k x r z => Or.inl z)) (FrG_tr (FrG_mono p4 (fun k x r z => Or.inr z) (fun k x r z => Or.inr z)) (FrG_tr (FrG_mono G5 (fun _ _ _ z => z.elim) (fun k x r z => Or.inr z)) (FrG_mono g3 (fun k x r z => Or.inl z) (fun k x r z => Or.inl z))))
          have M13 : FY μ1 μ3 := FY_tr d3 x6
          have hN6 : Nm2 σ6 μ3 j ρ := Nm2_g hN1 G16 M13 (fun r hr => ⟨by omega, by omega⟩) (fun b hb => ⟨by omega, by omega⟩)
          have C3 : Cur μ3 1 ρ := Cur_FY (Cur_FY C b3) M13
          have l3 := (nxT_le (B := B) R5.2.1).1
          obtain ⟨s3, hs3⟩ : ∃ t, t = nxT N B s2 := ⟨_, rfl⟩
          rw [← hs3] at g2 x4 l3 ⊢
          by_cases tog : isw N B s3 (txW 5) = true
          · rw [tog, if_neg (show ¬ nI (b1 true) = nI 0 by decide), if_neg (show ¬ nI (b1 true) = nI 0 by decide)]
            unfold jX6_readBook_178
            simp only [l_0]
            rw [if_neg (by decide)]
            obtain ⟨σ7, hσ7⟩ : ∃ t, t = wI σ6 47 j (ρ 37) (nI 1) := ⟨_, rfl⟩
            have G7 : FrG (fun k x r => k = 47 ∧ x = j ∧ r = ρ 37) (fun _ _ _ => False) σ6 σ7 := by rw [hσ7]; exact FrG_wI ⟨rfl, rfl, rfl⟩
            have e47 : rI σ7 47 j (ρ 37) = nI 1 := by rw [hσ7, rI_wI_self]
            rw [← hσ7]
            have R7 : RdC σ7 N B s3 := RdC_fr g2 G7 (fun k x r z => by omega) (fun _ _ _ z => z.elim)
            obtain ⟨σ8, u1, u2, u3⟩ := adv_h R7
            obtain ⟨μ4, v1, v2, v3⟩ := go_s x4
            have l4 := (nxT_le (B := B) R7.2.1).1
            rw [u1, v1, Option.bind_some, Option.bind_some]
            have hR8 : HR σ8 j ρ := HR_FA (HR_row hR6 G7 (fun k r z => by omega)) u3
            have hB8 : HBk σ8 j (ρ 37) (lyT ρ f n w m a c 1) (ρ 37) := lyT_HBk hB5 (by rw [u3.1 47 _ _ (by omega)]; exact e47) (fun k k1 k2 k3 => by rw [u3.1 k _ _ (by omega), G7.1 k _ _ (by omega), g3.1 k _ _ (by omega)])
            refine SO_pre (bookT h3 (by omega) hWF (by omega) u2 v2 hR8 hB8 (Cur_FY C3 v3) (Nm2_F (Nm2_g hN6 G7 (FY_rfl _) (fun r _ => ⟨fun z => z, by omega⟩) (fun b _ => ⟨fun z => z, by omega⟩)) u3 v3) hnm (by rw [u3.2.1 2 _ _ (by omega), G7.2.1 2 _ _ (fun z => z)]; exact e6) rfl) (FK_tr FK6 (FK_tr (FrG_mono G7 (fun k x r z => by omega) (fun _ _ _ z => z.elim)) (FA_K u3))) (FM_tr FM3 (FY_M v3)) (by omega)
          · have tog2 := Bool.eq_false_iff.mpr tog
            rw [tog2, if_pos (show nI (b1 false) = nI 0 from rfl), if_pos (show nI (b1 false) = nI 0 from rfl)]
            unfold jX6_readBook_177 jX6_readBook_178
            simp only [l_0]
            rw [if_pos trivial]
            have h47 : rI σ6 47 j (ρ 37) = nI 0 := by
              have := hB5.2.2.2.2.2.2.2.1
              rw [layB_bk (by omega), if_pos rfl] at this
              rw [g3.1 47 _ _ (by omega)]; exact this
            have hB6 : HBk σ6 j (ρ 37) (lyT ρ f n w m a c 0) (ρ 37) := lyT_HBk hB5 h47 (fun k k1 k2 k3 => g3.1 k _ _ (by omega))
            refine SO_pre (bookT h3 (by omega) hWF (by omega) g2 x4 hR6 hB6 C3 hN6 hnm e6 rfl) FK6 FM3 (by omega)
        · rw [x1, x2, Option.bind_some]
          try dsimp only
          rw [if_neg (by decide)]
          exact ⟨σ3, μ3, rfl, FK_tr (FA_K a3) (FA_K x5), FM_tr (FY_M b3) (FM_tr (FY_M d3) (FY_M x6)), Or.inr ⟨w, rfl, x3, x4⟩⟩
    · rw [if_pos (nI_ne (by omega) (by omega) hw), if_pos (nI_ne (by omega) (by omega) hw)]
      exact bad1
  · rw [if_neg (nI_nlt (by omega) (by omega)), if_pos (nI_le (by omega) (by omega))]
    unfold jX6_readBook_19 jX6_readBook_55
    have hB := (bad_s R2).1
    simp only [l_0, l_1]
    rw [must_N R2, Option.bind_some, go_B hB, Option.bind_some, book56_B hB, book56_B hB, placeRB_eq, placeBN_s (by omega), Option.bind_some]
    have fin : SO (some (nI 0, σ)) (some (wI μ 75 0 0 (nI s))) σ μ j N B s := ⟨σ, _, rfl, FK_rfl σ, FY_M (FY_75 _), Or.inr ⟨_, rfl, st_9 R, hB⟩⟩
    by_cases q : rI (wI μ 75 0 0 (nI s)) 73 0 0 = nI 1
    · rw [if_neg (fun z => z q)]
      by_cases q2 : ixO (ρ 37) (fstN (bkP (shJ (wI μ 75 0 0 (nI s))) (rJ (wI μ 75 0 0 (nI s)) 10 0 0)) (ρ 37)) = -nI 1
      · rw [if_neg (fun z => z q2)]; exact fin
      · rw [if_pos q2]; exact fin
    · rw [if_pos q]; exact fin
end
