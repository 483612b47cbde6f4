/-! layer 2: edits: both sides agree -/
theorem rngY {k lo hi : Nat} (h1 : lo ≤ k) (h2 : k ≤ hi) (hh : hi < 2 ^ 31) : fX5_checkRange (nI k) (nI lo) (nI hi) = some (.inl ()) := by
  unfold fX5_checkRange
  rw [if_neg (nI_nlt h1 (by omega)), if_pos (nI_le h2 (by omega))]
theorem rngN {p : Int32} {lo hi : Nat} (hl : lo < 2 ^ 31) (hn : hi < 2 ^ 31) (h : ¬ ∃ k, (lo ≤ k ∧ k ≤ hi) ∧ p = nI k) : fX5_checkRange p (nI lo) (nI hi) = some (.inr 2) := by
  unfold fX5_checkRange jX5_checkRange_10
  by_cases h1 : p < nI lo
  · rw [if_pos h1]
  · rw [if_neg h1, if_neg]
    intro w
    rw [Int32.lt_iff_toInt_lt, nI_toInt hl] at h1
    rw [Int32.le_iff_toInt_le, nI_toInt hn] at w
    refine h ⟨p.toInt.toNat, ⟨by omega, by omega⟩, ?_⟩
    apply Int32.toInt_inj.mp
    rw [nI_toInt (by omega)]; omega
theorem ANm_no {σ μ : Mem} {c : Option ((Int32 ⊕ Nat) × Mem)} {r : Option (Int32 × Mem)} {E : List (Nat × Nat)} (hIn : InQ σ μ) (k t : Nat) (hE : (k, t) ∈ E) (h1 : c = some (.inr k, σ)) (h2 : OkQ r (fun q => rI q.2 60 0 0 = nI t ∧ QTQ μ q.2)) : ANm c r E InQ := by
  refine Or.inr ⟨k, t, σ, hE, h1, Ok_mono h2 ?_⟩
  rintro q ⟨q1, q2⟩
  exact ⟨q1, In_qt hIn q2⟩
section
variable {σ μ : Mem}
theorem ANm_setWalk (hIn : InQ σ μ) (p : Int32) : ANm (fX5_setWalk p σ) (fX6_setWalk p μ) [(2, 1)] InQ := by
  obtain ⟨ρ, h1, C, h3, hN, h5, h6, h7⟩ := id hIn
  rcases rg_em p 0 300 with ⟨v, ⟨-, hv⟩, rfl⟩ | q
  · obtain ⟨σ2, μ2, e1, e2, hP, e3, e4⟩ := rk_pre h1 C h3 hN h5 h6 h7
    have hlt : rP σ2 0 < 12 := by have := hP.1.1; omega
    obtain ⟨g1, g2⟩ := set_mk (i := 1) (v := v) hP.2.1 h3 (by omega) ⟨fun w => by omega, fun _ => hv, fun w => by omega, fun w => by omega⟩
    have C2 := hP.2.2.1
    have hP2 := pre_edit hP (σ2 := wI σ2 25 (rP σ2 0) 0 (nI v)) (μ2 := wI μ2 61 0 (208 * 0 + 1) (nI v)) (Fr_wI ⟨by omega, rfl⟩) (set_F C2 (by omega) _) g1 (set_C C2 (by omega) v) g2 (up_n (by omega)) (up_n (by omega))
    obtain ⟨σ3, m1, m2, m3⟩ := make_in hP2
    refine Or.inl ⟨nI (ρ 1), σ3, ?_, ?_⟩
    · unfold fX5_setWalk
      simp only [l_0, l_300]
      rw [rngY (by omega) hv (by omega), Option.bind_some, Sum.elim_inl, e1, Option.bind_some, gd_pos hlt, gd_pos (show rP (wI σ2 25 (rP σ2 0) 0 (nI v)) 0 < 12 from hlt), m1, Option.bind_some, hP.2.1.1.2.2.2.2.1]
    · unfold fX6_setWalk
      simp only [l_0, l_1, l_300]
      rw [isIn_rY (by omega) hv (by omega), Option.bind_some, if_pos (by decide), e2, Option.bind_some, get_s C2 (by omega), Option.bind_some, set_s C2 (by omega), Option.bind_some]
      exact ⟨_, rfl, rfl, by rw [rI_wI_ne (by omega)]; exact e3, m2⟩
  · refine ANm_no hIn 2 1 (by decide) ?_ ?_
    · unfold fX5_setWalk
      simp only [l_0, l_300]
      rw [rngN (by omega) (by omega) q, Option.bind_some, Sum.elim_inr]
    · unfold fX6_setWalk
      simp only [l_0, l_1, l_300]
      rw [isIn_rN (by omega) (by omega) q, Option.bind_some, if_neg (by decide)]
      exact ref_no 1
theorem ANm_setPrice (hIn : InQ σ μ) (p1 p2 : Int32) : ANm (fX5_setPrice p1 p2 σ) (fX6_setPrice p1 p2 μ) [(3, 1), (2, 2)] InQ := by
  obtain ⟨ρ, h1, C, h3, hN, h5, h6, h7⟩ := id hIn
  have h8 := h3.1.1
  have C0 := cur0 C
  rcases ix_em p1 (ρ 4) with ⟨r, hr, rfl⟩ | q1
  · rcases rg_em p2 1 200 with ⟨v, hv, rfl⟩ | q
    · obtain ⟨σ2, μ2, e1, e2, hP, e3, e4⟩ := rk_pre h1 C h3 hN h5 h6 h7
      have hlt : rP σ2 0 < 12 := by have := hP.1.1; omega
      obtain ⟨g1, g2⟩ := price_mk (v := v) hP.2.1 h3 hr hv
      have C2 := hP.2.2.1
      have hP2 := pre_edit hP (σ2 := wI σ2 33 (rP σ2 0) r (nI v)) (μ2 := wI μ2 61 0 (208 * 0 + (5 + 4 * r + 3)) (nI v)) (Fr_wI ⟨by omega, rfl⟩) (set_F C2 (by omega) _) g1 (set_C C2 (by omega) v) g2 (up_n (by omega)) (up_n (by omega))
      obtain ⟨σ3, m1, m2, m3⟩ := make_in hP2
      refine Or.inl ⟨nI (rmv ρ r 3), σ3, ?_, ?_⟩
      · unfold fX5_setPrice
        simp only [l_0, l_1, l_200]
        rw [chkR_Y h1 h3 hr, Option.bind_some, Sum.elim_inl, rngY hv.1 hv.2 (by omega), Option.bind_some, Sum.elim_inl, e1, Option.bind_some, gd_pos hlt, gd_inb (by omega) (by omega), nI_clamp (by omega), gd_pos (show rP (wI σ2 33 (rP σ2 0) r (nI v)) 0 < 12 from hlt), m1, Option.bind_some, (hP.2.1.1.2.2.2.2.2.2.2.1 r hr).2.2.2]
      · unfold fX6_setPrice
        simp only [l_0, l_1, l_3, l_4, l_5, l_200]
        rw [isRoom_Y C0 hr h8, Option.bind_some, if_pos (by decide), isIn_rY hv.1 hv.2 (by omega), Option.bind_some, if_pos (by decide), e2, Option.bind_some, roomIs_s C2 (by omega) (by omega), Option.bind_some]
        simp only [pk_mul, nI_add]
        rw [set_s C2 (by omega), Option.bind_some]
        exact ⟨_, rfl, rfl, by rw [rI_wI_ne (by omega)]; exact e3, m2⟩
    · refine ANm_no hIn 2 2 (by decide) ?_ ?_
      · unfold fX5_setPrice
        simp only [l_0, l_1, l_200]
        rw [chkR_Y h1 h3 hr, Option.bind_some, Sum.elim_inl, rngN (by omega) (by omega) q, Option.bind_some, Sum.elim_inr]
      · unfold fX6_setPrice
        simp only [l_0, l_1, l_2, l_200]
        rw [isRoom_Y C0 hr h8, Option.bind_some, if_pos (by decide), isIn_rN (by omega) (by omega) q, Option.bind_some, if_neg (by decide)]
        exact ref_no 2
  · refine ANm_no hIn 3 1 (by decide) ?_ ?_
    · unfold fX5_setPrice
      rw [chkR_N h1 h3 q1, Option.bind_some, Sum.elim_inr]
    · unfold fX6_setPrice
      simp only [l_0, l_1]
      rw [isRoom_N C0 h8 q1, Option.bind_some, if_neg (by decide)]
      exact ref_no 1
theorem ANm_setAbsent (hIn : InQ σ μ) (p1 : Int32) {v : Nat} (hv : v ≤ 1) : ANm (fX5_setAbsent p1 (nI v) σ) (fX6_setAbsent p1 (nI v) μ) [(3, 1)] InQ := by
  obtain ⟨ρ, h1, C, h3, hN, h5, h6, h7⟩ := id hIn
  have h17 := h3.2.2
  have C0 := cur0 C
  rcases ix_em p1 (ρ 37) with ⟨b, hb, rfl⟩ | q1
  · obtain ⟨σ2, μ2, e1, e2, hP, e3, e4⟩ := rk_pre h1 C h3 hN h5 h6 h7
    have hlt : rP σ2 0 < 12 := by have := hP.1.1; omega
    obtain ⟨g1, g2⟩ := flag_mk (c := 7) (v := v) hP.2.1 h3 hb (by omega) hv
    have C2 := hP.2.2.1
    have w7 := (h3.1.2.2.2.2 b hb).2.2.2.2.2.2.1
    have hP2 := pre_edit hP (σ2 := wI σ2 48 (rP σ2 0) b (nI v)) (μ2 := wI μ2 61 0 (208 * 0 + (38 + 9 * b + 7)) (nI v)) (Fr_wI ⟨by omega, rfl⟩) (lay_F C2 (by omega) (by omega) _) g1 (lay_C C2 (by omega) (by omega) v) g2 (setB_lo (by omega)) (setB_lo (by omega))
    obtain ⟨σ3, m1, m2, m3⟩ := make_in hP2
    refine Or.inl ⟨nI (bkv ρ b 7), σ3, ?_, ?_⟩
    · unfold fX5_setAbsent
      simp only [l_0, l_1]
      rw [chkB_Y h1 h3 hb, Option.bind_some, Sum.elim_inl, e1, Option.bind_some, gd_pos hlt, gd_inb (by omega) (by omega), gd_01 hv, nI_clamp (by omega), gd_pos (show rP (wI σ2 48 (rP σ2 0) b (nI v)) 0 < 12 from hlt), m1, Option.bind_some, (hP.2.1.1.2.2.2.2.2.2.2.2 b hb).2.2.2.2.2.2.2.2, gd_01 w7]
    · unfold fX6_setAbsent fX6_change jX6_change_34 jX6_change_48
      simp only [l_0, l_1, l_7]
      rw [isBooking_Y C0 hb (by omega), Option.bind_some, if_pos (by decide), e2, Option.bind_some, of_s C2 (by omega) (by omega), Option.bind_some]
      have hx : ∀ t, t ≤ 1 → OkQ ((if nI v = nI 0 then (fX6_lay (nI b) (nI 7) (nI 0) μ2).bind fun q6 => gd (nI t = nI 0 ∨ nI t = nI 1) (some (nI t, q6)) else (fX6_lay (nI b) (nI 7) (nI 1) μ2).bind fun q6 => gd (nI t = nI 0 ∨ nI t = nI 1) (some (nI t, q6))).bind fun q1 => gd (q1.1 = nI 0 ∨ q1.1 = nI 1) (some (q1.1, q1.2))) (fun q => q.1 = nI t ∧ rI q.2 60 0 0 = nI 0 ∧ InQ σ3 q.2) := by
        intro t ht
        have : v = 0 ∨ v = 1 := by omega
        rcases this with rfl | rfl
        · rw [if_pos rfl, lay_s C2 (by omega) (by omega), Option.bind_some, gd_01 ht, Option.bind_some, gd_01 ht]
          exact ⟨_, rfl, rfl, by rw [rI_wI_ne (by omega)]; exact e3, m2⟩
        · rw [if_neg (by decide), lay_s C2 (by omega) (by omega), Option.bind_some, gd_01 ht, Option.bind_some, gd_01 ht]
          exact ⟨_, rfl, rfl, by rw [rI_wI_ne (by omega)]; exact e3, m2⟩
      have : bkv ρ b 7 = 0 ∨ bkv ρ b 7 = 1 := by omega
      rcases this with w | w
      · rw [w, if_pos (by decide)]; exact hx 0 (by omega)
      · rw [w, if_neg (by decide)]; exact hx 1 (by omega)
  · refine ANm_no hIn 3 1 (by decide) ?_ ?_
    · unfold fX5_setAbsent
      rw [chkB_N h1 h3 q1, Option.bind_some, Sum.elim_inr]
    · unfold fX6_setAbsent fX6_change
      simp only [l_0, l_1]
      rw [isBooking_N C0 (by omega) q1, Option.bind_some, if_neg (by decide), Option.bind_some]
      try dsimp only
      rw [gd_pos (Or.inl rfl)]
      exact ⟨_, rfl, rI_wI_self, QT_tr QT_60 QT_60⟩
theorem ANm_setTogether (hIn : InQ σ μ) (p1 : Int32) {v : Nat} (hv : v ≤ 1) : ANm (fX5_setTogether p1 (nI v) σ) (fX6_setTogether p1 (nI v) μ) [(3, 1)] InQ := by
  obtain ⟨ρ, h1, C, h3, hN, h5, h6, h7⟩ := id hIn
  have h17 := h3.2.2
  have C0 := cur0 C
  rcases ix_em p1 (ρ 37) with ⟨b, hb, rfl⟩ | q1
  · obtain ⟨σ2, μ2, e1, e2, hP, e3, e4⟩ := rk_pre h1 C h3 hN h5 h6 h7
    have hlt : rP σ2 0 < 12 := by have := hP.1.1; omega
    obtain ⟨g1, g2⟩ := flag_mk (c := 6) (v := v) hP.2.1 h3 hb (by omega) hv
    have C2 := hP.2.2.1
    have w7 := (h3.1.2.2.2.2 b hb).2.2.2.2.2.1
    have hP2 := pre_edit hP (σ2 := wI σ2 47 (rP σ2 0) b (nI v)) (μ2 := wI μ2 61 0 (208 * 0 + (38 + 9 * b + 6)) (nI v)) (Fr_wI ⟨by omega, rfl⟩) (lay_F C2 (by omega) (by omega) _) g1 (lay_C C2 (by omega) (by omega) v) g2 (setB_lo (by omega)) (setB_lo (by omega))
    obtain ⟨σ3, m1, m2, m3⟩ := make_in hP2
    refine Or.inl ⟨nI (bkv ρ b 6), σ3, ?_, ?_⟩
    · unfold fX5_setTogether
      simp only [l_0, l_1]
      rw [chkB_Y h1 h3 hb, Option.bind_some, Sum.elim_inl, e1, Option.bind_some, gd_pos hlt, gd_inb (by omega) (by omega), gd_01 hv, nI_clamp (by omega), gd_pos (show rP (wI σ2 47 (rP σ2 0) b (nI v)) 0 < 12 from hlt), m1, Option.bind_some, (hP.2.1.1.2.2.2.2.2.2.2.2 b hb).2.2.2.2.2.2.2.1, gd_01 w7]
    · unfold fX6_setTogether fX6_change jX6_change_34 jX6_change_48
      simp only [l_0, l_1, l_6]
      rw [isBooking_Y C0 hb (by omega), Option.bind_some, if_pos (by decide), e2, Option.bind_some, of_s C2 (by omega) (by omega), Option.bind_some]
      have hx : ∀ t, t ≤ 1 → OkQ ((if nI v = nI 0 then (fX6_lay (nI b) (nI 6) (nI 0) μ2).bind fun q6 => gd (nI t = nI 0 ∨ nI t = nI 1) (some (nI t, q6)) else (fX6_lay (nI b) (nI 6) (nI 1) μ2).bind fun q6 => gd (nI t = nI 0 ∨ nI t = nI 1) (some (nI t, q6))).bind fun q1 => gd (q1.1 = nI 0 ∨ q1.1 = nI 1) (some (q1.1, q1.2))) (fun q => q.1 = nI t ∧ rI q.2 60 0 0 = nI 0 ∧ InQ σ3 q.2) := by
        intro t ht
        have : v = 0 ∨ v = 1 := by omega
        rcases this with rfl | rfl
        · rw [if_pos rfl, lay_s C2 (by omega) (by omega), Option.bind_some, gd_01 ht, Option.bind_some, gd_01 ht]
          exact ⟨_, rfl, rfl, by rw [rI_wI_ne (by omega)]; exact e3, m2⟩
        · rw [if_neg (by decide), lay_s C2 (by omega) (by omega), Option.bind_some, gd_01 ht, Option.bind_some, gd_01 ht]
          exact ⟨_, rfl, rfl, by rw [rI_wI_ne (by omega)]; exact e3, m2⟩
      have : bkv ρ b 6 = 0 ∨ bkv ρ b 6 = 1 := by omega
      rcases this with w | w
      · rw [w, if_pos (by decide)]; exact hx 0 (by omega)
      · rw [w, if_neg (by decide)]; exact hx 1 (by omega)
  · refine ANm_no hIn 3 1 (by decide) ?_ ?_
    · unfold fX5_setTogether
      rw [chkB_N h1 h3 q1, Option.bind_some, Sum.elim_inr]
    · unfold fX6_setTogether fX6_change
      simp only [l_0, l_1]
      rw [isBooking_N C0 (by omega) q1, Option.bind_some, if_neg (by decide), Option.bind_some]
      try dsimp only
      rw [gd_pos (Or.inl rfl)]
      exact ⟨_, rfl, rI_wI_self, QT_tr QT_60 QT_60⟩
theorem ANm_setOver (hIn : InQ σ μ) (p : Int32) : ANm (fX5_setOver p σ) (fX6_setOver p μ) [(2, 1)] InQ := by
  obtain ⟨ρ, h1, C, h3, hN, h5, h6, h7⟩ := id hIn
  rcases rg_em p 0 50 with ⟨v, ⟨-, hv⟩, rfl⟩ | q
  · obtain ⟨σ2, μ2, e1, e2, hP, e3, e4⟩ := rk_pre h1 C h3 hN h5 h6 h7
    have hlt : rP σ2 0 < 12 := by have := hP.1.1; omega
    obtain ⟨g1, g2⟩ := set_mk (i := 0) (v := v) hP.2.1 h3 (by omega) ⟨fun _ => hv, fun w => by omega, fun w => by omega, fun w => by omega⟩
    have C2 := hP.2.2.1
    have hP2 := pre_edit hP (σ2 := wI σ2 24 (rP σ2 0) 0 (nI v)) (μ2 := wI μ2 61 0 (208 * 0 + 0) (nI v)) (Fr_wI ⟨by omega, rfl⟩) (set_F C2 (by omega) _) g1 (set_C C2 (by omega) v) g2 (up_n (by omega)) (up_n (by omega))
    obtain ⟨⟨n, σ3⟩, y1, y2, y3, y4⟩ := acceptW_h hP2.2.1 g2.1 g2.2.1
    obtain ⟨⟨n', μ3⟩, z1, z2, z3, z4⟩ := goes_s hP2.2.2.1 g2.1 g2.2.1
    try dsimp only at y2 y3 y4 z2 z3 z4
    obtain ⟨r1, r2, r3⟩ := gtR_WF g2.1 g2.2.1
    have e37 : gtR (upQ ρ 0 v) 37 = upQ ρ 0 v 37 := r3.1 37 (by omega)
    have hP3 := pre_edit hP2 y4 z4 y3 z3 ⟨r1, r2, by rw [e37]; exact g2.2.2⟩ (r3.1 4 (by omega)) e37
    have hP0 : rP σ3 0 = rP σ2 0 := Fr_P y4 0
    obtain ⟨σ4, m1, m2, m3⟩ := make_in hP3
    refine Or.inl ⟨nI (gtN (upQ ρ 0 v)), σ4, ?_, ?_⟩
    · unfold fX5_setOver
      simp only [l_0, l_50]
      rw [rngY (by omega) hv (by omega), Option.bind_some, Sum.elim_inl, e1, Option.bind_some, gd_pos hlt, gd_pos (show rP (wI σ2 24 (rP σ2 0) 0 (nI v)) 0 < 12 from hlt), y1, Option.bind_some]
      try dsimp only
      rw [gd_pos (by rw [hP0]; exact hlt), m1, Option.bind_some, y2]
    · unfold fX6_setOver
      simp only [l_0, l_1, l_50]
      rw [isIn_rY (by omega) hv (by omega), Option.bind_some, if_pos (by decide), e2, Option.bind_some, set_s C2 (by omega), Option.bind_some, z1, Option.bind_some]
      refine ⟨_, rfl, z2, ?_, m2⟩
      show rI μ3 60 0 0 = nI 0
      rw [z4.1 60 0 0 (by unfold KRQ; omega), rI_wI_ne (by omega)]; exact e3
  · refine ANm_no hIn 2 1 (by decide) ?_ ?_
    · unfold fX5_setOver
      simp only [l_0, l_50]
      rw [rngN (by omega) (by omega) q, Option.bind_some, Sum.elim_inr]
    · unfold fX6_setOver
      simp only [l_0, l_1, l_50]
      rw [isIn_rN (by omega) (by omega) q, Option.bind_some, if_neg (by decide)]
      exact ref_no 1
theorem ANm_cancel (hIn : InQ σ μ) (p1 : Int32) : ANm (fX5_cancel p1 σ) (fX6_cancel p1 μ) [(3, 1), (1, 2)] InQ := by
  obtain ⟨ρ, h1, C, h3, hN, h5, h6, h7⟩ := id hIn
  have h17 := h3.2.2
  have C0 := cur0 C
  have hlt0 := I1_lt h1
  rcases ix_em p1 (ρ 37) with ⟨b, hb, rfl⟩ | q1
  · have w8 := (h3.1.2.2.2.2 b hb).2.2.2.2.2.2.2
    have hst := h1.2.1.2.1 b hb
    by_cases hc : bkv ρ b 8 = 2
    · refine ANm_no hIn 1 2 (by decide) ?_ ?_
      · unfold fX5_cancel
        simp only [l_2]
        rw [chkB_Y h1 h3 hb, Option.bind_some, Sum.elim_inl, gd_pos hlt0, gd_inb (by omega) (by omega), nI_clamp (by omega), hst, if_neg (fun w => w (by rw [hc]))]
      · unfold fX6_cancel
        simp only [l_0, l_1, l_2, l_8]
        rw [isBooking_Y C0 hb (by omega), Option.bind_some, if_pos (by decide), of_s C0 (by omega) (by omega), Option.bind_some, if_neg (fun w => w (by rw [hc]))]
        exact ref_no 2
    · obtain ⟨σ2, μ2, e1, e2, hP, e3, e4⟩ := rk_pre h1 C h3 hN h5 h6 h7
      have hlt : rP σ2 0 < 12 := by have := hP.1.1; omega
      have C2 := hP.2.2.1
      obtain ⟨d1, d2, d3, d4⟩ := drp_WF h3.1 h3.2.1 hb
      have d37 : drp ρ b 37 = ρ 37 := d3.1 37 (by omega)
      obtain ⟨σ3, x1, x2, x3⟩ := drop_h hP.2.1 h3.1 h3.2.1 hb
      have hP0 : rP σ3 0 = rP σ2 0 := Fr_P x3 0
      obtain ⟨⟨n, σ4⟩, y1, y2, y3, y4⟩ := acceptW_h x2 d1 d2
      obtain ⟨⟨n', μ3⟩, z1, z2, z3, z4⟩ := cancels_s C2 h3.1 h3.2.1 hb
      try dsimp only at y2 y3 y4 z2 z3 z4
      obtain ⟨r1, r2, r3⟩ := gtR_WF d1 d2
      have e37 : gtR (drp ρ b) 37 = ρ 37 := by rw [r3.1 37 (by omega), d37]
      have hP3 := pre_edit hP (Fr_tr x3 y4) z4 y3 z3 ⟨r1, r2, by rw [e37]; exact h17⟩ (by rw [r3.1 4 (by omega), d3.1 4 (by omega)]) e37
      have hP4 : rP σ4 0 = rP σ2 0 := by rw [Fr_P y4 0, hP0]
      obtain ⟨σ5, m1, m2, m3⟩ := make_in hP3
      refine Or.inl ⟨nI (gtN (drp ρ b)), σ5, ?_, ?_⟩
      · unfold fX5_cancel
        simp only [l_2]
        rw [chkB_Y h1 h3 hb, Option.bind_some, Sum.elim_inl, gd_pos hlt0, gd_inb (by omega) (by omega), nI_clamp (by omega), hst, if_pos (nI_ne (by omega) (by omega) hc), e1, Option.bind_some, gd_pos hlt, x1, Option.bind_some, gd_pos (by rw [hP0]; exact hlt), hP0, y1, Option.bind_some]
        try dsimp only
        rw [gd_pos (by rw [hP4]; exact hlt), m1, Option.bind_some, y2]
      · unfold fX6_cancel
        simp only [l_0, l_1, l_2, l_8]
        rw [isBooking_Y C0 hb (by omega), Option.bind_some, if_pos (by decide), of_s C0 (by omega) (by omega), Option.bind_some, if_pos (nI_ne (by omega) (by omega) hc), e2, Option.bind_some, z1, Option.bind_some]
        refine ⟨_, rfl, z2, ?_, m2⟩
        show rI μ3 60 0 0 = nI 0
        rw [z4.1 60 0 0 (by unfold KRQ; omega)]; exact e3
  · refine ANm_no hIn 3 1 (by decide) ?_ ?_
    · unfold fX5_cancel
      rw [chkB_N h1 h3 q1, Option.bind_some, Sum.elim_inr]
    · unfold fX6_cancel
      simp only [l_0, l_1]
      rw [isBooking_N C0 (by omega) q1, Option.bind_some, if_neg (by decide)]
      exact ref_no 1
end
