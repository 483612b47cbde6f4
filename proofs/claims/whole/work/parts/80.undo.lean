/-! layer 2: undoing -/
section
variable {σ μ : Mem}
theorem ANm_undo (hIn : InQ σ μ) : ANm (fX5_undo σ) (fX6_undo μ) [(1, 1)] InQ := by
  obtain ⟨ρ, h1, C, h3, hN, h5, h6, h7⟩ := id hIn
  obtain ⟨e, f, pn, hist, a1, a2, a3, a4, a5, a6, a7, a8⟩ := id h5
  have hlt0 := I1_lt h1
  have hP := h1.1
  by_cases he : e = 0
  · subst he
    refine ANm_no hIn 1 1 (by decide) ?_ ?_
    · unfold fX5_undo
      simp only [l_0]
      rw [a4, if_neg (fun w => w rfl)]
    · unfold fX6_undo
      simp only [l_0, l_1]
      rw [rI_wI_ne (by omega), a6, if_neg (fun w => w rfl)]
      exact ref_no 1
  · obtain ⟨d1, d2, d3, d4, d5, d6⟩ := a8 (e - 1) (by omega)
    obtain ⟨pn', hpn⟩ : ∃ p, p = (pn + 9) % 10 := ⟨_, rfl⟩
    have ei : 2 + (pn + 10 - e + (e - 1)) % 10 = pn' + 2 := by omega
    rw [ei] at d4 d6
    -- the class
    obtain ⟨σ1, hσ1⟩ : ∃ s, s = wI (wI σ 3 0 0 (nI (e - 1))) 2 0 0 (nI pn') := ⟨_, rfl⟩
    have F1 : FrQ (fun k _ _ => k = 2 ∨ k = 3) σ σ1 := by rw [hσ1]; exact Fr_tr (Fr_wI (Or.inr rfl)) (Fr_wI (Or.inl rfl))
    have hR1 : HR σ1 (pn' + 2) (hist (e - 1)) := HR_fr d4 F1 (fun k r _ _ w => by omega)
    obtain ⟨σ2, c0, c1, c2, c3, c4⟩ := copy_h (σ := σ1) (j := rP σ 0) (j1 := pn' + 2) (by omega) hR1 d1.1 d1.2.1.2.1
    have FG : FrG (fun k x r => k = 2 ∨ k = 3 ∨ KHQ (rP σ 0) k x r) (KJH (rP σ 0)) σ σ2 := FrG_tr (Fr_G (Fr_mono F1 (fun k x r w => by omega))) (FrG_mono c4 (fun k x r w => Or.inr (Or.inr w)) (fun k x r w => w))
    have hP0 : rP σ2 0 = rP σ 0 := FrG_P FG 0
    have hP1 : rP σ2 1 = rP σ 1 := FrG_P FG 1
    -- the reference
    obtain ⟨μ1, hμ1⟩ : ∃ m, m = wI (wI μ 60 0 0 (nI 0)) 63 0 0 (nI (e - 1)) := ⟨_, rfl⟩
    have G1 : FrQ (fun k _ _ => k = 60 ∨ k = 63) μ μ1 := by rw [hμ1]; exact Fr_tr (Fr_wI (Or.inl rfl)) (Fr_wI (Or.inr rfl))
    obtain ⟨μ2, r0, r1, r2⟩ := copyRow_s (μ := μ1) (a := 2 + (f + (e - 1)) % 10) (b := 0) (ρ := hist (e - 1)) (by omega) (by omega) (by omega) (fun k hk => by rw [G1.1 61 0 _ (by omega)]; exact d5 k hk)
    have GF : FrQ (fun k j r => k = 60 ∨ k = 63 ∨ KRQ 0 k j r) μ μ2 := Fr_tr (Fr_mono G1 (fun k j r w => by omega)) (Fr_mono r2 (fun k j r w => by unfold KRQ; omega))
    have GG : FrG (fun k j r => k = 60 ∨ k = 63 ∨ KRQ 0 k j r) (fun _ _ _ => False) μ μ2 := Fr_G GF
    have C2 : Cur μ2 0 (hist (e - 1)) := ⟨by omega, by rw [GF.1 62 0 0 (by unfold KRQ; omega)]; exact C.2.1, fun k hk => r1 k hk⟩
    have hPre : Pre σ2 μ2 (hist (e - 1)) := by
      refine ⟨by rw [hP0, hP1]; exact hP, by rw [hP0]; exact c1, C2, d1, ?_, ?_, I6_fr h6 FG GG (fun k x r w => by unfold KHQ at w; omega) (fun k x r w => by unfold KRQ at w; omega), I7_fr h7 FG GG (fun k x r w => by unfold KHQ at w; omega) (fun k x r w => by unfold KRQ at w; omega)⟩
      · rw [hP0]
        refine ⟨fun r hr => ?_, fun b hb => ?_⟩
        · rw [c2 r hr, Fr_J F1, Fr_J GF]; exact d6.1 r hr
        · rw [c3 b hb, Fr_J F1, Fr_J GF]; exact d6.2 b hb
      · refine ⟨e - 1, f, pn', hist, by omega, a2, by omega, ?_, ?_, ?_, ?_, fun k hk => ?_⟩
        · rw [c4.1 3 0 0 (by unfold KHQ; omega), hσ1, rI_wI_ne (by omega), rI_wI_self]
        · rw [c4.1 2 0 0 (by unfold KHQ; omega), hσ1, rI_wI_self]
        · rw [r2.1 63 0 0 (by omega), hμ1, rI_wI_self]
        · rw [GF.1 64 0 0 (by unfold KRQ; omega)]; exact a7
        · obtain ⟨x1, x2, x3, x4, x5, x6⟩ := a8 k (by omega)
          have ek : 2 + (pn' + 10 - (e - 1) + k) % 10 = 2 + (pn + 10 - e + k) % 10 := by omega
          rw [ek]
          refine ⟨x1, fun i hi hi2 => x2 i hi (by omega), x2 (e - 1) (by omega) (by omega), ?_, fun i hi => ?_, fun r hr => ?_, fun b hb => ?_⟩
          · have hh := HR_fr (K := fun k x r => k = 2 ∨ k = 3 ∨ KHQ (rP σ 0) k x r) (σ2 := (σ2.1, σ.2)) x4 (FrG_I FG) (fun k r y1 y2 w => by unfold KHQ at w; omega)
            exact hh
          · rw [GF.1 61 0 _ (by unfold KRQ; omega)]; exact x5 i hi
          · rw [FG.2.1 1 _ r (by unfold KJH; omega), Fr_J GF]; exact x6.1 r hr
          · rw [FG.2.1 2 _ b (by unfold KJH; omega), Fr_J GF]; exact x6.2 b hb
    obtain ⟨σ3, m1, m2, m3⟩ := make_in hPre
    refine Or.inl ⟨nI (e - 1), σ3, ?_, ?_⟩
    · have hj : jX5_undo_52 σ (nI pn') = some (.inl (nI (e - 1)), σ3) := by
        unfold jX5_undo_52
        simp only [l_1]
        rw [a4, nI_sub1 (by omega), ← hσ1]
        have e2 : rI σ1 2 0 0 = nI pn' := by rw [hσ1, rI_wI_self]
        have eP : rP σ1 0 = rP σ 0 := Fr_P F1 0
        rw [e2, gd_pos (by rw [eP]; exact hlt0), gd_inb (by omega) (by omega), nI_clamp (by omega), eP, c0, Option.bind_some, gd_pos (by rw [hP0]; exact hlt0), m1, Option.bind_some, m3.1 3 0 0 (by unfold KPc; omega), c4.1 3 0 0 (by unfold KHQ; omega), hσ1, rI_wI_ne (by omega), rI_wI_self]
      unfold fX5_undo
      simp only [l_0, l_1, l_10]
      rw [a4, nI_sub1 (by omega), if_pos (nI_ne (by omega) (by omega) he), rI_wI_ne (by omega), a5]; simp (disch := omega) only [nI_eq]
      by_cases q : pn = 0
      · rw [if_neg (fun w => w q), nI_sub1 (by omega), show 10 - 1 = pn' by omega]; exact hj
      · rw [if_pos q, nI_sub1 (by omega), show pn - 1 = pn' by omega]; exact hj
    · unfold fX6_undo fX6_slot
      simp only [l_0, l_1, l_2, l_10, Option.bind_some]
      have e63 : rI (wI μ 60 0 0 (nI 0)) 63 0 0 = nI e := by rw [rI_wI_ne (by omega)]; exact a6
      have e63b : rI μ1 63 0 0 = nI (e - 1) := by rw [hμ1, rI_wI_self]
      have e64 : rI μ1 64 0 0 = nI f := by rw [G1.1 64 0 0 (by omega)]; exact a7
      rw [e63, if_pos (nI_ne (by omega) (by omega) he), nI_sub1 (by omega), ← hμ1, e63b, e64, nI_add, pk_rem (by omega) (by omega) (by omega), nI_add, r0, Option.bind_some]
      refine ⟨_, rfl, ?_, ?_, m2⟩
      · show rI μ2 63 0 0 = _
        rw [r2.1 63 0 0 (by omega)]; exact e63b
      · show rI μ2 60 0 0 = _
        rw [r2.1 60 0 0 (by omega), hμ1, rI_wI_ne (by omega), rI_wI_self]
end
