/-! layer 2: questions about beds and money: both sides agree -/
theorem ref_pl {μ : Mem} {ρ : RwQ} (C : Cur μ 0 ρ) (hW : WF ρ) {g : Mem → Option (Int32 × Mem)} (v : Int32) (hg : ∀ m, Cur m 0 ρ → PMQ m (plc ρ) → g m = some (v, m)) : OkQ ((fX6_placesAll (wI μ 60 0 0 (nI 0))).bind g) (fun q => q.1 = v ∧ rI q.2 60 0 0 = nI 0 ∧ QTQ μ q.2) := by
  refine Ok_bind (placesAll_s (cur0 C) hW) ?_
  rintro m ⟨h1, h2, h3⟩
  rw [hg m h1 h2]
  exact ⟨_, rfl, rfl, by rw [h3.1 60 0 0 (fun w => by have := w.1; omega)]; exact rI_wI_self, QT_tr QT_60 (QT_pl h3)⟩
section
variable {σ μ : Mem} {ρ : RwQ}
theorem hasB_pl {π : PnQ} {b : Nat} (h : hasB π b = true) : plcd π b := by
  unfold hasB at h
  unfold plcd
  exact of_decide_eq_true h
theorem plc_PB (h3 : I3 ρ) : PBQ (plc ρ) := PB_plN h3.1 30
theorem AN_placed (h1 : I1 σ ρ) (C : Cur μ 0 ρ) (h3 : I3 ρ) (p1 : Int32) : ANQ (fX5_placed p1 σ) (fX6_placed p1 μ) [(3, 1)] (QTQ μ) := by
  have h17 := h3.2.2
  have C0 := cur0 C
  rcases ix_em p1 (ρ 37) with ⟨b, hb, rfl⟩ | q
  · refine AN_ok (nI ((plc ρ).2.1 b)) ?_ ?_
    · unfold fX5_placed
      rw [chkB_Y h1 h3 hb, Option.bind_some, Sum.elim_inl, gd_inb (by omega) (by omega), nI_clamp (by omega), h1.2.2.1.2.1 b (by omega)]
    · unfold fX6_placed
      simp only [l_0, l_1]
      rw [isBooking_Y C0 hb (by omega), Option.bind_some, if_pos (by decide)]
      refine ref_pl C h3.1 _ (fun m c H => ?_)
      rw [gd_inb (by omega) (by omega), nI_clamp (by omega), H.2.1 b (by omega)]
  · refine AN_no 3 1 (by decide) ?_ ?_
    · unfold fX5_placed
      rw [chkB_N h1 h3 q, Option.bind_some, Sum.elim_inr]
    · unfold fX6_placed
      simp only [l_0, l_1]
      rw [isBooking_N C0 (by omega) q, Option.bind_some, if_neg (by decide)]
      exact ref_no 1
theorem AN_pays (h1 : I1 σ ρ) (C : Cur μ 0 ρ) (h3 : I3 ρ) (p1 : Int32) : ANQ (fX5_pays p1 σ) (fX6_pays p1 μ) [(3, 1)] (QTQ μ) := by
  have h17 := h3.2.2
  have C0 := cur0 C
  rcases ix_em p1 (ρ 37) with ⟨b, hb, rfl⟩ | q
  · refine AN_ok (nI (pdB ρ (plc ρ) b)) ?_ ?_
    · unfold fX5_pays
      rw [chkB_Y h1 h3 hb, Option.bind_some, Sum.elim_inl, gd_inb (by omega) (by omega), nI_clamp (by omega), (h1.2.2.2.1 b hb).2]
    · unfold fX6_pays
      simp only [l_0, l_1]
      rw [isBooking_Y C0 hb (by omega), Option.bind_some, if_pos (by decide)]
      refine ref_pl C h3.1 _ (fun m c H => ?_)
      rw [paidBy_s c H (plc_PB h3) h3.1 (PI_plc h3.1) hb] <;> rfl
  · refine AN_no 3 1 (by decide) ?_ ?_
    · unfold fX5_pays
      rw [chkB_N h1 h3 q, Option.bind_some, Sum.elim_inr]
    · unfold fX6_pays
      simp only [l_0, l_1]
      rw [isBooking_N C0 (by omega) q, Option.bind_some, if_neg (by decide)]
      exact ref_no 1
theorem AN_roomsOf (h1 : I1 σ ρ) (C : Cur μ 0 ρ) (h3 : I3 ρ) (p1 : Int32) : ANQ (fX5_roomsOf p1 σ) (fX6_roomsOf p1 μ) [(3, 1)] (QTQ μ) := by
  have h17 := h3.2.2
  have C0 := cur0 C
  have h8 := h3.1.1
  rcases ix_em p1 (ρ 37) with ⟨b, hb, rfl⟩ | q
  · refine AN_ok (nI (rbO ρ (plc ρ) b)) ?_ ?_
    · unfold fX5_roomsOf
      rw [chkB_Y h1 h3 hb, Option.bind_some, Sum.elim_inl, gd_inb (by omega) (by omega), nI_clamp (by omega), (h1.2.2.2.1 b hb).1]
    · unfold fX6_roomsOf
      simp only [l_0, l_1]
      rw [isBooking_Y C0 hb (by omega), Option.bind_some, if_pos (by decide)]
      refine ref_pl C h3.1 _ (fun m c H => ?_)
      have hpr := WF_prs h3.1 hb
      have hhb := hasBeds_s H (plc_PB h3) (b := b) (by omega)
      have e : loop (stX6_roomsOf_27 (nI b) m) 5000 (nI 0, nI 0) = some (nI (rbO ρ (plc ρ) b)) := by
        unfold rbO
        by_cases hp : (plc ρ).2.1 b = 1 ∨ (plc ρ).2.1 b = 2
        · have hh : hasB (plc ρ) b = true := decide_eq_true hp
          rw [if_pos hp]
          have hsl : ∀ p, p < prs ρ b → ((plc ρ).2.2 (12 * b + p) - 1) / 10 < 8 ∧ (plc ρ).2.2 (12 * b + p) ≠ 0 := by
            intro p hpp
            obtain ⟨x, x1, x2, -⟩ := (PI_plc h3.1).2 b hb hp p hpp
            rw [x1]; omega
          refine loop_st (prs ρ b) (fun k => (nI (orF (fun p => ((plc ρ).2.2 (12 * b + p) - 1) / 10) k), nI k)) (by omega) rfl ?_ ?_
          · intro k hk
            have hlt := orF_lt (f := fun p => ((plc ρ).2.2 (12 * b + p) - 1) / 10) (k := k) (n := 8) (fun p hpp => (hsl p (by omega)).1)
            have hk8 := (hsl k hk).1
            have hpw : 2 ^ (((plc ρ).2.2 (12 * b + k) - 1) / 10) ≤ 2 ^ 7 := Nat.pow_le_pow_right (by omega) (by omega)
            unfold stX6_roomsOf_27
            try dsimp only
            simp only [l_0, l_1, l_12]
            rw [persons_s c (by omega), Option.bind_some, if_neg (nI_ge hk (by omega)), hhb, Option.bind_some]; simp (disch := omega) only [b1_z]
            rw [if_neg (by rw [hh]; decide), pk_mul, nI_add, gd_inb (by omega) (by omega), nI_clamp (by omega), (H.2.2 _ (by omega) (hsl k hk).2).1, nI_shl (by omega) (by omega), Nat.one_mul, nI_or (by omega) (by omega), nI_add] <;> rfl
          · unfold stX6_roomsOf_27
            try dsimp only
            rw [persons_s c (by omega), Option.bind_some, if_pos (nI_le (Nat.le_refl _) (by omega))]
        · have hh : hasB (plc ρ) b = false := decide_eq_false hp
          rw [if_neg hp]
          refine loop_st 0 (fun k => (nI 0, nI k)) (by omega) rfl (fun k hk => absurd hk (Nat.not_lt_zero _)) ?_
          unfold stX6_roomsOf_27
          try dsimp only
          simp only [l_0, l_1]
          rw [persons_s c (by omega), Option.bind_some, if_neg (nI_ge (by omega) (by omega)), hhb, Option.bind_some]; simp (disch := omega) only [b1_z]
          rw [if_pos hh]
      rw [e] <;> rfl
  · refine AN_no 3 1 (by decide) ?_ ?_
    · unfold fX5_roomsOf
      rw [chkB_N h1 h3 q, Option.bind_some, Sum.elim_inr]
    · unfold fX6_roomsOf
      simp only [l_0, l_1]
      rw [isBooking_N C0 (by omega) q, Option.bind_some, if_neg (by decide)]
      exact ref_no 1
/-- a person's bed, in the class -/
theorem bedOfP_h (h1 : I1 σ ρ) (h3 : I3 ρ) (p1 p2 : Int32) : (∃ b p, b < ρ 37 ∧ p < prs ρ b ∧ p1 = nI b ∧ p2 = nI p ∧ ((hasB (plc ρ) b = true ∧ (∃ x, (plc ρ).2.2 (12 * b + p) = x + 1 ∧ x < 80 ∧ fX5_bedOfPerson p1 p2 σ = some (.inl (nI x)))) ∨ (hasB (plc ρ) b = false ∧ fX5_bedOfPerson p1 p2 σ = some (.inr 4)))) ∨ ((¬ ∃ b p, b < ρ 37 ∧ p < prs ρ b ∧ p1 = nI b ∧ p2 = nI p) ∧ fX5_bedOfPerson p1 p2 σ = some (.inr 3)) := by
  have h17 := h3.2.2
  have h8 := h3.1.1
  have hlt := I1_lt h1
  rcases ix_em p1 (ρ 37) with ⟨b, hb, rfl⟩ | q
  · have hpr := WF_prs h3.1 hb
    have e44 := (h1.2.1.1.2.2.2.2.2.2.2.2 b hb).2.2.2.2.1
    rcases ix_em p2 (prs ρ b) with ⟨p, hp, rfl⟩ | q2
    · refine Or.inl ⟨b, p, hb, hp, rfl, rfl, ?_⟩
      unfold fX5_bedOfPerson
      simp only [l_0, l_12]
      rw [chkB_Y h1 h3 hb, Option.bind_some, Sum.elim_inl, if_neg (nI_nlt (Nat.zero_le _) (by omega)), gd_pos hlt, gd_inb (by omega) (by omega), nI_clamp (by omega), e44, if_pos (nI_lt hp (by omega)), hasBeds_h h1.2.2.1 (plc_PB h3) (by omega), Option.bind_some]; simp (disch := omega) only [b1_z]
      cases hh : hasB (plc ρ) b
      · exact Or.inr ⟨rfl, by rw [if_neg (by decide)]⟩
      · obtain ⟨x, x1, x2, -⟩ := (PI_plc h3.1).2 b hb (hasB_pl hh) p hp
        refine Or.inl ⟨rfl, x, x1, by omega, ?_⟩
        rw [if_pos (by decide), pk_mul, nI_add, gd_inb (by omega) (by omega), nI_clamp (by omega), Nat.mul_comm b 12, h1.2.2.1.2.2 _ (by omega) (by omega), x1] <;> rfl
    · refine Or.inr ⟨fun ⟨b', p, w1, w2, w3, w4⟩ => q2 ⟨p, by have := nI_inj (by omega) (by omega) w3; subst this; exact w2, w4⟩, ?_⟩
      unfold fX5_bedOfPerson jX5_bedOfPerson_25
      simp only [l_0]
      rw [chkB_Y h1 h3 hb, Option.bind_some, Sum.elim_inl]
      rcases ix_no (by omega) q2 with w | w
      · rw [if_pos w]
      · by_cases q0 : p2 < nI 0
        · rw [if_pos q0]
        · rw [if_neg q0, gd_pos hlt, gd_inb (by omega) (by omega), nI_clamp (by omega), e44, if_neg w]
  · refine Or.inr ⟨fun ⟨b, p, w1, w2, w3, w4⟩ => q ⟨b, w1, w3⟩, ?_⟩
    unfold fX5_bedOfPerson
    rw [chkB_N h1 h3 q, Option.bind_some, Sum.elim_inr]
/-- why a person has no bed, in the reference -/
theorem why_s (C : Cur μ 0 ρ) (h3 : I3 ρ) (p1 p2 : Int32) : (∀ b p, b < ρ 37 → p < prs ρ b → p1 = nI b → p2 = nI p → OkQ (fX6_whyNoBed p1 p2 μ) (fun r => r.1 = (if hasB (plc ρ) b = true then nI 0 else nI 2) ∧ PMQ r.2 (plc ρ) ∧ QTQ μ r.2)) ∧ ((¬ ∃ b p, b < ρ 37 ∧ p < prs ρ b ∧ p1 = nI b ∧ p2 = nI p) → fX6_whyNoBed p1 p2 μ = some (nI 1, μ)) := by
  have h17 := h3.2.2
  refine ⟨fun b p hb hp e1 e2 => ?_, fun hn => ?_⟩
  · subst e1 e2
    have hpr := WF_prs h3.1 hb
    unfold fX6_whyNoBed
    simp only [l_0, l_1, l_2]
    rw [isBooking_Y C hb (by omega), Option.bind_some, if_neg (by decide), persons_s C (by omega), Option.bind_some, isIn_Y hp (by omega), Option.bind_some, if_pos (by decide)]
    refine Ok_bind (placesAll_s C h3.1) ?_
    rintro m ⟨g1, g2, g3⟩
    rw [hasBeds_s g2 (plc_PB h3) (by omega), Option.bind_some]; simp (disch := omega) only [b1_z]
    cases hh : hasB (plc ρ) b
    · rw [if_pos rfl]
      exact ⟨_, rfl, rfl, g2, QT_pl g3⟩
    · rw [if_neg (by decide)]
      exact ⟨_, rfl, rfl, g2, QT_pl g3⟩
  · unfold fX6_whyNoBed
    simp only [l_0, l_1, l_2]
    rcases ix_em p1 (ρ 37) with ⟨b, hb, rfl⟩ | q
    · have hpr := WF_prs h3.1 hb
      rw [isBooking_Y C hb (by omega), Option.bind_some, if_neg (by decide), persons_s C (by omega), Option.bind_some, isIn_N (by omega) (fun ⟨p, w1, w2⟩ => hn ⟨b, p, hb, w1, rfl, w2⟩), Option.bind_some, if_neg (by decide)]
    · rw [isBooking_N C (by omega) q, Option.bind_some, if_pos rfl]
theorem AN_roomOf (h1 : I1 σ ρ) (C : Cur μ 0 ρ) (h3 : I3 ρ) (p1 p2 : Int32) : ANQ (fX5_roomOf p1 p2 σ) (fX6_roomOf p1 p2 μ) [(3, 1), (4, 2)] (QTQ μ) := by
  have h17 := h3.2.2
  obtain ⟨y1, y2⟩ := why_s C h3 p1 p2
  rcases bedOfP_h h1 h3 p1 p2 with ⟨b, p, hb, hp, e1, e2, ⟨hh, x, x1, x2, hc⟩ | ⟨hh, hc⟩⟩ | ⟨hn, hc⟩
  · have hpr := WF_prs h3.1 hb
    refine AN_ok (nI (x / 10)) ?_ ?_
    · unfold fX5_roomOf
      simp only [l_10]
      rw [hc, Option.bind_some, Sum.elim_inl, pk_div (by omega) (by omega) (by omega)]
    · unfold fX6_roomOf
      simp only [l_0, l_12]
      refine Ok_bind (y1 b p hb hp e1 e2) ?_
      rintro ⟨r1, r2⟩ ⟨g1, g2, g3⟩
      try dsimp only at g1 g2 g3 ⊢
      rw [if_pos hh] at g1
      subst g1 e1 e2
      rw [rI_wI_self, if_neg (by decide), pk_mul, nI_add, gd_inb (by omega) (by omega), nI_clamp (by omega), rI_wI_ne (by omega), (g2.2.2 _ (by omega) (by omega)).1, x1]
      exact ⟨_, rfl, rfl, rI_wI_self, QT_tr g3 QT_60⟩
  · refine AN_no 4 2 (by decide) ?_ ?_
    · unfold fX5_roomOf
      rw [hc, Option.bind_some, Sum.elim_inr]
    · unfold fX6_roomOf
      simp only [l_0, l_12]
      refine Ok_bind (y1 b p hb hp e1 e2) ?_
      rintro ⟨r1, r2⟩ ⟨g1, g2, g3⟩
      try dsimp only at g1 g2 g3 ⊢
      rw [if_neg (by rw [hh]; decide)] at g1
      subst g1
      rw [rI_wI_self, if_pos (by decide)]
      exact ⟨_, rfl, rI_wI_self, QT_tr g3 QT_60⟩
  · refine AN_no 3 1 (by decide) ?_ ?_
    · unfold fX5_roomOf
      rw [hc, Option.bind_some, Sum.elim_inr]
    · unfold fX6_roomOf
      simp only [l_0, l_12]
      rw [y2 hn, Option.bind_some]
      try dsimp only
      rw [rI_wI_self, if_pos (by decide)]
      exact ⟨_, rfl, rI_wI_self, QT_60⟩
theorem AN_bedOf (h1 : I1 σ ρ) (C : Cur μ 0 ρ) (h3 : I3 ρ) (p1 p2 : Int32) : ANQ (fX5_bedOf p1 p2 σ) (fX6_bedOf p1 p2 μ) [(3, 1), (4, 2)] (QTQ μ) := by
  have h17 := h3.2.2
  obtain ⟨y1, y2⟩ := why_s C h3 p1 p2
  rcases bedOfP_h h1 h3 p1 p2 with ⟨b, p, hb, hp, e1, e2, ⟨hh, x, x1, x2, hc⟩ | ⟨hh, hc⟩⟩ | ⟨hn, hc⟩
  · have hpr := WF_prs h3.1 hb
    refine AN_ok (nI (x % 10)) ?_ ?_
    · unfold fX5_bedOf
      simp only [l_10]
      rw [hc, Option.bind_some, Sum.elim_inl, pk_rem (by omega) (by omega) (by omega)]
    · unfold fX6_bedOf
      simp only [l_0, l_12]
      refine Ok_bind (y1 b p hb hp e1 e2) ?_
      rintro ⟨r1, r2⟩ ⟨g1, g2, g3⟩
      try dsimp only at g1 g2 g3 ⊢
      rw [if_pos hh] at g1
      subst g1 e1 e2
      rw [rI_wI_self, if_neg (by decide), pk_mul, nI_add, gd_inb (by omega) (by omega), nI_clamp (by omega), rI_wI_ne (by omega), (g2.2.2 _ (by omega) (by omega)).2, x1]
      exact ⟨_, rfl, rfl, rI_wI_self, QT_tr g3 QT_60⟩
  · refine AN_no 4 2 (by decide) ?_ ?_
    · unfold fX5_bedOf
      rw [hc, Option.bind_some, Sum.elim_inr]
    · unfold fX6_bedOf
      simp only [l_0, l_12]
      refine Ok_bind (y1 b p hb hp e1 e2) ?_
      rintro ⟨r1, r2⟩ ⟨g1, g2, g3⟩
      try dsimp only at g1 g2 g3 ⊢
      rw [if_neg (by rw [hh]; decide)] at g1
      subst g1
      rw [rI_wI_self, if_pos (by decide)]
      exact ⟨_, rfl, rI_wI_self, QT_tr g3 QT_60⟩
  · refine AN_no 3 1 (by decide) ?_ ?_
    · unfold fX5_bedOf
      rw [hc, Option.bind_some, Sum.elim_inr]
    · unfold fX6_bedOf
      simp only [l_0, l_12]
      rw [y2 hn, Option.bind_some]
      try dsimp only
      rw [rI_wI_self, if_pos (by decide)]
      exact ⟨_, rfl, rI_wI_self, QT_60⟩
theorem AN_freeBeds (h1 : I1 σ ρ) (C : Cur μ 0 ρ) (h3 : I3 ρ) (p1 p2 : Int32) : ANQ (fX5_freeBeds p1 p2 σ) (fX6_freeBeds p1 p2 μ) [(3, 1)] (QTQ μ) := by
  have h8 := h3.1.1
  have C0 := cur0 C
  have hlt := I1_lt h1
  rcases ix_em p1 (ρ 4) with ⟨r, hr, rfl⟩ | q
  · rcases ix_em p2 30 with ⟨n, hn, rfl⟩ | q2
    · have htf := tk_fr h3.1 (PI_plc h3.1) hr hn
      have h10 := (h3.1.2.2.2.1 r hr).2.1.2
      refine AN_ok (nI (frN ρ (plc ρ).1 r n)) ?_ ?_
      · unfold fX5_freeBeds
        rw [chkR_Y h1 h3 hr, Option.bind_some, Sum.elim_inl, chkN_Y hn, Option.bind_some, Sum.elim_inl, gd_pos hlt, gd_inb (by omega) (by omega), nI_clamp (by omega), taken_h h1.2.2.1.1 (by omega) hn, Option.bind_some, (h1.2.1.1.2.2.2.2.2.2.2.1 r hr).2.1, pk_sub (by omega), show rmv ρ r 1 - tkN (plc ρ).1 r n = frN ρ (plc ρ).1 r n by omega]
      · unfold fX6_freeBeds
        simp only [l_0, l_1]
        rw [isRoom_Y C0 hr h8, Option.bind_some, if_neg (by decide), isNight_Y hn, Option.bind_some, if_pos (by decide)]
        refine ref_pl C h3.1 _ (fun m c H => ?_)
        rw [freeIn_s c H (plc_PB h3) h3.1 hr hn] <;> rfl
    · refine AN_no 3 1 (by decide) ?_ ?_
      · unfold fX5_freeBeds
        rw [chkR_Y h1 h3 hr, Option.bind_some, Sum.elim_inl, chkN_N q2, Option.bind_some, Sum.elim_inr]
      · unfold fX6_freeBeds jX6_freeBeds_20
        simp only [l_0, l_1]
        rw [isRoom_Y C0 hr h8, Option.bind_some, if_neg (by decide), isNight_N q2, Option.bind_some, if_neg (by decide)]
        exact ref_no 1
  · refine AN_no 3 1 (by decide) ?_ ?_
    · unfold fX5_freeBeds
      rw [chkR_N h1 h3 q, Option.bind_some, Sum.elim_inr]
    · unfold fX6_freeBeds jX6_freeBeds_20
      simp only [l_0, l_1]
      rw [isRoom_N C0 h8 q, Option.bind_some, if_pos rfl]
      exact ref_no 1
theorem takenBeds_h (h1 : I1 σ ρ) (h3 : I3 ρ) {n : Nat} (hn : n < 30) : fX5_takenBeds (nI n) σ = some (nI (sumNQ (fun r => tkN (plc ρ).1 r n) (ρ 4))) := by
  have h8 := h3.1.1
  have hlt := I1_lt h1
  have e : loop (stX5_takenBeds_4 σ (nI n)) 5000 (nI 0, nI 0) = some (nI (sumNQ (fun r => tkN (plc ρ).1 r n) (ρ 4))) := by
    refine loop_st (ρ 4) (fun k => (nI (sumNQ (fun r => tkN (plc ρ).1 r n) k), nI k)) (by omega) rfl ?_ ?_
    · intro k hk
      unfold stX5_takenBeds_4
      try dsimp only
      simp only [l_1]
      rw [gd_pos hlt, h1.2.1.1.1, if_neg (nI_ge hk (by omega)), taken_h h1.2.2.1.1 (by omega) hn, Option.bind_some, nI_add, nI_add] <;> rfl
    · unfold stX5_takenBeds_4
      try dsimp only
      rw [gd_pos hlt, h1.2.1.1.1, if_pos (nI_le (Nat.le_refl _) (by omega))]
  unfold fX5_takenBeds
  simp only [l_0]
  rw [e] <;> rfl
theorem AN_occupied (h1 : I1 σ ρ) (C : Cur μ 0 ρ) (h3 : I3 ρ) (p1 : Int32) : ANQ (fX5_occupied p1 σ) (fX6_occupied p1 μ) [(3, 1)] (QTQ μ) := by
  rcases ix_em p1 30 with ⟨n, hn, rfl⟩ | q
  · refine AN_ok (nI (sumNQ (fun r => tkN (plc ρ).1 r n) (ρ 4))) ?_ ?_
    · unfold fX5_occupied
      rw [chkN_Y hn, Option.bind_some, Sum.elim_inl, takenBeds_h h1 h3 hn] <;> rfl
    · unfold fX6_occupied
      simp only [l_0, l_1]
      rw [isNight_Y hn, Option.bind_some, if_pos (by decide)]
      refine ref_pl C h3.1 _ (fun m c H => ?_)
      rw [occupiedIn_s c H (plc_PB h3) h3.1 (PI_plc h3.1) hn] <;> rfl
  · refine AN_no 3 1 (by decide) ?_ ?_
    · unfold fX5_occupied
      rw [chkN_N q, Option.bind_some, Sum.elim_inr]
    · unfold fX6_occupied
      simp only [l_0, l_1]
      rw [isNight_N q, Option.bind_some, if_neg (by decide)]
      exact ref_no 1
theorem walkedP_h (h1 : I1 σ ρ) (h3 : I3 ρ) {n : Nat} (hn : n < 30) : fX5_walkedPersons (nI n) σ = some (nI (wkdN ρ (plc ρ) n)) := by
  have h17 := h3.2.2
  have hlt := I1_lt h1
  have e : loop (stX5_walkedPersons_4 σ (nI n)) 5000 (nI 0, nI 0) = some (nI (wkdN ρ (plc ρ) n)) := by
    refine loop_st (ρ 37) (fun k => (nI (sumNQ (wkdT ρ (plc ρ) n) k), nI k)) (by omega) rfl ?_ ?_
    · intro k hk
      have hw := h3.1.2.2.2.2 k hk
      have hb3 := (plc_PB h3).2.1 k
      have hBk := h1.2.1.1.2.2.2.2.2.2.2.2 k hk
      unfold stX5_walkedPersons_4 jX5_walkedPersons_59
      try dsimp only
      simp only [l_0, l_1, l_3]
      rw [gd_pos hlt, h1.2.1.1.2.2.1, if_neg (nI_ge hk (by omega)), gd_inb (by omega) (by omega), nI_clamp (by omega), h1.2.2.1.2.1 k (by omega)]; simp (disch := omega) only [nI_eq]; rw [staysB_h hBk hw (by omega), Option.bind_some]; simp (disch := omega) only [b1_z]; rw [hBk.2.2.2.2.1]
      simp only [nI_add]
      show _ = some (Sum.inl (nI (sumNQ (wkdT ρ (plc ρ) n) k + wkdT ρ (plc ρ) n k), nI (k + 1)))
      unfold wkdT
      by_cases w : (plc ρ).2.1 k = 3
      · rw [if_neg (fun v => v w)]
        by_cases hs : staysQ ρ k n = true
        · rw [if_neg (by rw [hs]; decide), if_pos ⟨w, hs⟩]
        · rw [if_pos (by simpa using hs), if_neg (fun v => hs v.2)] <;> rfl
      · rw [if_pos w, if_neg (fun v => w v.1)] <;> rfl
    · unfold stX5_walkedPersons_4
      try dsimp only
      rw [gd_pos hlt, h1.2.1.1.2.2.1, if_pos (nI_le (Nat.le_refl _) (by omega))] <;> rfl
  unfold fX5_walkedPersons
  simp only [l_0]
  rw [e] <;> rfl
theorem AN_walked (h1 : I1 σ ρ) (C : Cur μ 0 ρ) (h3 : I3 ρ) (p1 : Int32) : ANQ (fX5_walked p1 σ) (fX6_walked p1 μ) [(3, 1)] (QTQ μ) := by
  rcases ix_em p1 30 with ⟨n, hn, rfl⟩ | q
  · refine AN_ok (nI (wkdN ρ (plc ρ) n)) ?_ ?_
    · unfold fX5_walked
      rw [chkN_Y hn, Option.bind_some, Sum.elim_inl, walkedP_h h1 h3 hn] <;> rfl
    · unfold fX6_walked
      simp only [l_0, l_1]
      rw [isNight_Y hn, Option.bind_some, if_pos (by decide)]
      refine ref_pl C h3.1 _ (fun m c H => ?_)
      rw [walkedIn_s c H (plc_PB h3) h3.1 hn] <;> rfl
  · refine AN_no 3 1 (by decide) ?_ ?_
    · unfold fX5_walked
      rw [chkN_N q, Option.bind_some, Sum.elim_inr]
    · unfold fX6_walked
      simp only [l_0, l_1]
      rw [isNight_N q, Option.bind_some, if_neg (by decide)]
      exact ref_no 1
end
