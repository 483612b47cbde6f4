/-! layer 2: the waiting list, as whole numbers, and in the reference -/
/-- what the list is while it is gone through -/
theorem gtS_facts {ρ : RwQ} (hW : WF ρ) (hQ : WQ ρ) : ∀ k, k ≤ ρ 191 → (gtS ρ k).2 ≤ k ∧ SameQ ρ (gtS ρ k).1 ∧ WF (gtS ρ k).1 ∧ (∀ i, k ≤ i → i < 16 → (gtS ρ k).1 (192 + i) = lstQ ρ i) ∧ (gtS ρ k).1 191 = ρ 191 ∧ (∀ i, k ≤ i → i < ρ 191 → bkv (gtS ρ k).1 (lstQ ρ i) 8 = 0) ∧ (∀ i, i < (gtS ρ k).2 → ∃ j, j < k ∧ (gtS ρ k).1 (192 + i) = lstQ ρ j ∧ bkv (gtS ρ k).1 (lstQ ρ j) 8 = 0) ∧ (∀ i j, i < j → j < (gtS ρ k).2 → (gtS ρ k).1 (192 + i) < (gtS ρ k).1 (192 + j)) := by
  obtain ⟨q1, q2, q3, q4⟩ := hQ
  have h17 := hW.2.1
  intro k
  induction k with
  | zero => intro _; exact ⟨Nat.le_refl _, Same_rfl ρ, hW, fun _ _ _ => rfl, rfl, fun i _ hi => (q3 i hi).2, fun i hi => absurd hi (Nat.not_lt_zero _), fun i j _ hj => absurd hj (Nat.not_lt_zero _)⟩
  | succ k ih =>
    intro hk
    obtain ⟨a1, a2, a3, a4, a5, a6, a7, a8⟩ := ih (by omega)
    have hb : lstQ ρ k < ρ 37 := (q3 k (by omega)).1
    have eb : (gtS ρ k).1 (192 + k) = lstQ ρ k := a4 k (Nat.le_refl _) (by omega)
    have eS : gtS ρ (k + 1) = if canA (gtS ρ k).1 ((gtS ρ k).1 (192 + k)) = true then (setBQ (gtS ρ k).1 ((gtS ρ k).1 (192 + k)) 8 1, (gtS ρ k).2) else (upQ (gtS ρ k).1 (192 + (gtS ρ k).2) ((gtS ρ k).1 (192 + k)), (gtS ρ k).2 + 1) := rfl
    rw [eb] at eS
    by_cases hc : canA (gtS ρ k).1 (lstQ ρ k) = true
    · rw [if_pos hc] at eS
      rw [eS]
      have hne : ∀ j, j < k → lstQ ρ j ≠ lstQ ρ k := fun j hj => Nat.ne_of_lt (q4 j k hj (by omega))
      have hne2 : ∀ j, k < j → j < ρ 191 → lstQ ρ j ≠ lstQ ρ k := fun j hj hj2 => (Nat.ne_of_lt (q4 k j hj hj2)).symm
      refine ⟨by show (gtS ρ k).2 ≤ k + 1; omega, Same_tr a2 (Same_st (by omega)), WF_st a3 (by omega) (by omega), ?_, ?_, ?_, ?_, ?_⟩
      · intro i hi hi2
        show setBQ (gtS ρ k).1 (lstQ ρ k) 8 1 (192 + i) = _
        rw [setB_hi (by omega) (by omega) (by omega)]; exact a4 i (by omega) hi2
      · show setBQ (gtS ρ k).1 (lstQ ρ k) 8 1 191 = _
        rw [setB_hi (by omega) (by omega) (by omega)]; exact a5
      · intro i hi hi2
        show bkv (setBQ (gtS ρ k).1 (lstQ ρ k) 8 1) (lstQ ρ i) 8 = 0
        rw [bkv_setB (by omega) (by omega), if_neg (fun q => hne2 i (by omega) hi2 q.1)]
        exact a6 i (by omega) hi2
      · intro i hi
        obtain ⟨j, j1, j2, j3⟩ := a7 i hi
        refine ⟨j, by omega, ?_, ?_⟩
        · show setBQ (gtS ρ k).1 (lstQ ρ k) 8 1 (192 + i) = _
          rw [setB_hi (by omega) (by omega) (by omega)]; exact j2
        · show bkv (setBQ (gtS ρ k).1 (lstQ ρ k) 8 1) (lstQ ρ j) 8 = 0
          rw [bkv_setB (by omega) (by omega), if_neg (fun q => hne j j1 q.1)]
          exact j3
      · intro i j hij hj
        show setBQ (gtS ρ k).1 (lstQ ρ k) 8 1 (192 + i) < setBQ (gtS ρ k).1 (lstQ ρ k) 8 1 (192 + j)
        rw [setB_hi (by omega) (by omega) (by omega), setB_hi (by omega) (by omega) (by omega)]
        exact a8 i j hij hj
    · rw [if_neg hc] at eS
      rw [eS]
      refine ⟨by show (gtS ρ k).2 + 1 ≤ k + 1; omega, Same_tr a2 (Same_hi (by omega)), WF_hi a3 (by omega), ?_, ?_, ?_, ?_, ?_⟩
      · intro i hi hi2
        show upQ (gtS ρ k).1 (192 + (gtS ρ k).2) (lstQ ρ k) (192 + i) = _
        rw [up_n (by omega)]; exact a4 i (by omega) hi2
      · show upQ (gtS ρ k).1 (192 + (gtS ρ k).2) (lstQ ρ k) 191 = _
        rw [up_n (by omega)]; exact a5
      · intro i hi hi2
        show bkv (upQ (gtS ρ k).1 (192 + (gtS ρ k).2) (lstQ ρ k)) (lstQ ρ i) 8 = 0
        have := (q3 i hi2).1
        rw [bkv_up (by omega)]
        exact a6 i (by omega) hi2
      · intro i hi
        have hi3 : i < (gtS ρ k).2 + 1 := hi
        by_cases hik : i = (gtS ρ k).2
        · refine ⟨k, by omega, ?_, ?_⟩
          · show upQ (gtS ρ k).1 (192 + (gtS ρ k).2) (lstQ ρ k) (192 + i) = _
            rw [hik, up_s]
          · show bkv (upQ (gtS ρ k).1 (192 + (gtS ρ k).2) (lstQ ρ k)) (lstQ ρ k) 8 = 0
            rw [bkv_up (by omega)]
            exact a6 k (Nat.le_refl _) (by omega)
        · obtain ⟨j, j1, j2, j3⟩ := a7 i (by omega)
          refine ⟨j, by omega, ?_, ?_⟩
          · show upQ (gtS ρ k).1 (192 + (gtS ρ k).2) (lstQ ρ k) (192 + i) = _
            rw [up_n (by omega)]; exact j2
          · show bkv (upQ (gtS ρ k).1 (192 + (gtS ρ k).2) (lstQ ρ k)) (lstQ ρ j) 8 = 0
            have := (q3 j (by omega)).1
            rw [bkv_up (by omega)]
            exact j3
      · intro i j hij hj
        have hj3 : j < (gtS ρ k).2 + 1 := hj
        show upQ (gtS ρ k).1 (192 + (gtS ρ k).2) (lstQ ρ k) (192 + i) < upQ (gtS ρ k).1 (192 + (gtS ρ k).2) (lstQ ρ k) (192 + j)
        by_cases hjk : j = (gtS ρ k).2
        · rw [hjk, up_s, up_n (by omega)]
          obtain ⟨j', j1, j2, -⟩ := a7 i (by omega)
          rw [j2]
          exact q4 j' k j1 (by omega)
        · rw [up_n (by omega), up_n (by omega)]
          exact a8 i j hij (by omega)
theorem gtR_WF {ρ : RwQ} (hW : WF ρ) (hQ : WQ ρ) : WF (gtR ρ) ∧ WQ (gtR ρ) ∧ SameQ ρ (gtR ρ) := by
  obtain ⟨a1, a2, a3, a4, a5, a6, a7, a8⟩ := gtS_facts hW hQ (ρ 191) (Nat.le_refl _)
  have h17 := hW.2.1
  have e37 : (gtR ρ) 37 = ρ 37 := by
    show upQ (gtS ρ (ρ 191)).1 191 (gtS ρ (ρ 191)).2 37 = ρ 37
    rw [up_n (by omega)]; exact a2.1 37 (by omega)
  have e191 : (gtR ρ) 191 = (gtS ρ (ρ 191)).2 := up_s _ _ _
  have el : ∀ i, i < 16 → lstQ (gtR ρ) i = (gtS ρ (ρ 191)).1 (192 + i) := fun i hi => up_n (by omega)
  have h16 := hQ.2.1
  have h37 := hQ.1
  refine ⟨WF_hi a3 (by omega), ⟨by omega, by omega, ?_, ?_⟩, Same_tr a2 (Same_hi (by omega))⟩
  · intro k hk
    rw [e191] at hk
    obtain ⟨j, j1, j2, j3⟩ := a7 k hk
    rw [el k (by omega), j2, e37]
    refine ⟨(hQ.2.2.1 j j1).1, ?_⟩
    have := (hQ.2.2.1 j j1).1
    show bkv (upQ (gtS ρ (ρ 191)).1 191 _) (lstQ ρ j) 8 = 0
    rw [bkv_up (by omega)]
    exact j3
  · intro i k hik hk
    rw [e191] at hk
    rw [el i (by omega), el k (by omega)]
    exact a8 i k hik hk
theorem dqS_facts {ρ : RwQ} {b : Nat} (h16 : ρ 191 ≤ 16) (h4 : ∀ i k, i < k → k < ρ 191 → lstQ ρ i < lstQ ρ k) : ∀ k, k ≤ ρ 191 → (dqS ρ b k).2 ≤ k ∧ (∀ i, i < 192 → (dqS ρ b k).1 i = ρ i) ∧ (∀ i, k ≤ i → i < 16 → (dqS ρ b k).1 (192 + i) = lstQ ρ i) ∧ (∀ i, i < (dqS ρ b k).2 → ∃ j, j < k ∧ (dqS ρ b k).1 (192 + i) = lstQ ρ j ∧ lstQ ρ j ≠ b) ∧ (∀ i j, i < j → j < (dqS ρ b k).2 → (dqS ρ b k).1 (192 + i) < (dqS ρ b k).1 (192 + j)) := by
  intro k
  induction k with
  | zero => intro _; exact ⟨Nat.le_refl _, fun _ _ => rfl, fun _ _ _ => rfl, fun i hi => absurd hi (Nat.not_lt_zero _), fun i j _ hj => absurd hj (Nat.not_lt_zero _)⟩
  | succ k ih =>
    intro hk
    obtain ⟨a1, a2, a3, a4, a5⟩ := ih (by omega)
    have eb : (dqS ρ b k).1 (192 + k) = lstQ ρ k := a3 k (Nat.le_refl _) (by omega)
    have eS : dqS ρ b (k + 1) = if (dqS ρ b k).1 (192 + k) = b then dqS ρ b k else (upQ (dqS ρ b k).1 (192 + (dqS ρ b k).2) ((dqS ρ b k).1 (192 + k)), (dqS ρ b k).2 + 1) := rfl
    rw [eb] at eS
    by_cases hc : lstQ ρ k = b
    · rw [if_pos hc] at eS
      rw [eS]
      refine ⟨by omega, a2, fun i hi hi2 => a3 i (by omega) hi2, fun i hi => ?_, a5⟩
      obtain ⟨j, j1, j2⟩ := a4 i hi
      exact ⟨j, by omega, j2⟩
    · rw [if_neg hc] at eS
      rw [eS]
      refine ⟨by show (dqS ρ b k).2 + 1 ≤ k + 1; omega, ?_, ?_, ?_, ?_⟩
      · intro i hi
        show upQ (dqS ρ b k).1 (192 + (dqS ρ b k).2) (lstQ ρ k) i = _
        rw [up_n (by omega)]; exact a2 i hi
      · intro i hi hi2
        show upQ (dqS ρ b k).1 (192 + (dqS ρ b k).2) (lstQ ρ k) (192 + i) = _
        rw [up_n (by omega)]; exact a3 i (by omega) hi2
      · intro i hi
        have hi3 : i < (dqS ρ b k).2 + 1 := hi
        by_cases hik : i = (dqS ρ b k).2
        · refine ⟨k, by omega, ?_, hc⟩
          show upQ (dqS ρ b k).1 (192 + (dqS ρ b k).2) (lstQ ρ k) (192 + i) = _
          rw [hik, up_s]
        · obtain ⟨j, j1, j2, j3⟩ := a4 i (by omega)
          refine ⟨j, by omega, ?_, j3⟩
          show upQ (dqS ρ b k).1 (192 + (dqS ρ b k).2) (lstQ ρ k) (192 + i) = _
          rw [up_n (by omega)]; exact j2
      · intro i j hij hj
        have hj3 : j < (dqS ρ b k).2 + 1 := hj
        show upQ (dqS ρ b k).1 (192 + (dqS ρ b k).2) (lstQ ρ k) (192 + i) < upQ (dqS ρ b k).1 (192 + (dqS ρ b k).2) (lstQ ρ k) (192 + j)
        by_cases hjk : j = (dqS ρ b k).2
        · rw [hjk, up_s, up_n (by omega)]
          obtain ⟨j', j1, j2, -⟩ := a4 i (by omega)
          rw [j2]
          exact h4 j' k j1 (by omega)
        · rw [up_n (by omega), up_n (by omega)]
          exact a5 i j hij (by omega)
theorem drp_WF {ρ : RwQ} (hW : WF ρ) (hQ : WQ ρ) {b : Nat} (hb : b < ρ 37) : WF (drp ρ b) ∧ WQ (drp ρ b) ∧ SameQ ρ (drp ρ b) ∧ (∀ x, x < 17 → bkv (drp ρ b) x 8 = if x = b then 2 else bkv ρ x 8) := by
  obtain ⟨q1, q2, q3, q4⟩ := hQ
  have h17 := hW.2.1
  have e191 : setBQ ρ b 8 2 191 = ρ 191 := setB_hi (by omega) (by omega) (by omega)
  have el : ∀ i, lstQ (setBQ ρ b 8 2) i = lstQ ρ i := fun i => setB_hi (by omega) (by omega) (by omega)
  obtain ⟨a1, a2, a3, a4, a5⟩ := dqS_facts (ρ := setBQ ρ b 8 2) (b := b) (by rw [e191]; exact q2) (fun i k hik hk => by rw [el, el]; rw [e191] at hk; exact q4 i k hik hk) (ρ 191) (by rw [e191]; exact Nat.le_refl _)
  have eR : drp ρ b = upQ (dqS (setBQ ρ b 8 2) b (ρ 191)).1 191 (dqS (setBQ ρ b 8 2) b (ρ 191)).2 := by unfold drp dqR; rw [e191]
  have elo : ∀ i, i < 191 → drp ρ b i = setBQ ρ b 8 2 i := fun i hi => by rw [eR, up_n (by omega)]; exact a2 i (by omega)
  have ehi : ∀ i, lstQ (drp ρ b) i = (dqS (setBQ ρ b 8 2) b (ρ 191)).1 (192 + i) := fun i => by rw [eR]; exact up_n (by omega)
  have e1 : drp ρ b 191 = (dqS (setBQ ρ b 8 2) b (ρ 191)).2 := by rw [eR, up_s]
  have e37 : drp ρ b 37 = ρ 37 := by rw [elo 37 (by omega), setB_lo (by omega)]
  have est : ∀ x, x < 17 → bkv (drp ρ b) x 8 = if x = b then 2 else bkv ρ x 8 := by
    intro x hx
    show drp ρ b (38 + 9 * x + 8) = _
    rw [elo _ (by omega)]
    have := bkv_setB (ρ := ρ) (b := b) (w := 8) (v := 2) (b2 := x) (w2 := 8) (by omega) (by omega)
    rw [show setBQ ρ b 8 2 (38 + 9 * x + 8) = bkv (setBQ ρ b 8 2) x 8 from rfl, this]
    by_cases h : x = b
    · rw [if_pos ⟨h, rfl⟩, if_pos h]
    · rw [if_neg (fun q => h q.1), if_neg h]
  have hS : SameQ ρ (drp ρ b) := by
    refine ⟨fun k hk => by rw [elo k (by omega), setB_lo hk], fun x w hx hw => ?_⟩
    show drp ρ b (38 + 9 * x + w) = _
    rw [elo _ (by omega)]
    exact (Same_st (by omega)).2 x w hx hw
  refine ⟨WF_same hS hW ?_, ⟨by omega, by omega, ?_, ?_⟩, hS, est⟩
  · intro x hx
    rw [est x (by omega)]
    split
    · omega
    · exact (hW.2.2.2.2 x hx).2.2.2.2.2.2.2
  · intro k hk
    rw [e1] at hk
    obtain ⟨j, j1, j2, j3⟩ := a4 k hk
    rw [ehi, j2, el, e37]
    rw [el] at j3
    have h3 := q3 j j1
    refine ⟨h3.1, ?_⟩
    rw [est _ (by omega), if_neg j3]
    exact h3.2
  · intro i k hik hk
    rw [e1] at hk
    rw [ehi, ehi]
    exact a5 i k hik hk
section
variable {μ : Mem} {s : Nat} {ρ : RwQ}
theorem canBe_s (C : Cur μ s ρ) (hW : WF ρ) {b : Nat} (hb : b < ρ 37) : fX6_canBeAccepted (nI b) μ = some (nI (b1 (canA ρ b))) := by
  have h17 := hW.2.1
  have hwb := hW.2.2.2.2 b hb
  have hal := allB_le hW
  have h0 := hW.2.2.1.1
  have hp := WF_prs hW hb
  have hm := most_le hW
  have eM : nI (allB ρ) * (nI 100 + nI (ρ 0)) / nI 100 = nI (most ρ) := by
    have h3 : allB ρ * (100 + ρ 0) ≤ 80 * 150 := Nat.mul_le_mul hal (by omega)
    rw [nI_add, pk_mul, pk_div (by omega) (by omega) (by omega)] <;> rfl
  have hstep : ∀ k, k < 30 → stX6_canBeAccepted_19 (nI b) μ (nI (allB ρ)) (nI (ρ 0)) (nI k) = if capQ ρ b k = true then some (.inr (.inr (nI 0))) else some (.inl (nI (k + 1))) := by
    intro k hk
    have hbk := bkd_le hW k
    unfold stX6_canBeAccepted_19 jX6_canBeAccepted_51
    simp only [l_100, eM]
    simp (disch := omega) only [l_0, l_1, l_2, l_3, l_4, l_5, l_6, l_7, l_8, l_9, l_10, l_11, l_12, l_16, l_17, l_20, l_24, l_29, l_30, l_31, l_32, l_35, l_37, l_38, l_43, l_44, l_47, l_48, l_50, l_56, l_57, l_59, l_60, l_63, l_80, l_96, l_97, l_98, l_99, l_100, l_101, l_102, l_103, l_104, l_105, l_107, l_108, l_109, l_110, l_111, l_114, l_115, l_116, l_118, l_119, l_120, l_122, l_160, l_191, l_192, l_193, l_200, l_205, l_208, l_209, l_210, l_211, l_255, l_300, l_700, l_2400, l_252645135, l_858993459, l_1431655765, nI_add, pk_mul, nI_leI, nI_ltI, nI_eq, nI_clamp, inb_nI, Option.bind_some, ↓reduceIte, not_false_eq_true, not_true_eq_false, staysIn_s C _ hwb, bookedIn_s C hW, persons_s C, b1_z]
    rw [if_neg (by omega)]
    unfold capQ
    by_cases hs : staysQ ρ b k = true
    · rw [if_neg (by rw [hs]; decide), hs, Bool.true_and]
      by_cases hc : bkd ρ k + prs ρ b ≤ most ρ
      · rw [if_pos hc, if_neg (by rw [decide_eq_true_iff]; omega)]
      · rw [if_neg hc, if_pos (by rw [decide_eq_true_iff]; omega)]
    · have hs2 : staysQ ρ b k = false := by simpa using hs
      rw [if_pos hs2, hs2, Bool.false_and, if_neg (by decide)]
  have e : loop (stX6_canBeAccepted_19 (nI b) μ (nI (allB ρ)) (nI (ρ 0))) 5000 (nI 0) = some (if canA ρ b = true then .inl () else .inr (nI 0)) := by
    have hle := fstN_le (capQ ρ b) 30
    refine loop_st (fstN (capQ ρ b) 30) (fun k => nI k) (by omega) rfl ?_ ?_
    · intro k hk
      show stX6_canBeAccepted_19 _ _ _ _ (nI k) = _
      rw [hstep k (by omega), if_neg (by rw [fstN_no hk]; decide)]
    · show stX6_canBeAccepted_19 _ _ _ _ (nI (fstN (capQ ρ b) 30)) = _
      by_cases h : fstN (capQ ρ b) 30 = 30
      · rw [h, if_pos (canA_cap.mpr h)]
        unfold stX6_canBeAccepted_19
        exact if_pos (by decide)
      · rw [hstep _ (by omega), if_pos (fstN_yes (by omega)), if_neg (fun q => h (canA_cap.mp q))]
  unfold fX6_canBeAccepted
  simp only [l_0, l_1]
  rw [allBeds_s C hW, Option.bind_some, get_s C (by omega), Option.bind_some, e, Option.bind_some]
  cases canA ρ b <;> rfl
theorem waits_s (C : Cur μ s ρ) (h16 : ρ 191 < 16) {b : Nat} : OkQ (fX6_waits (nI b) μ) (fun μ2 => Cur μ2 s (wtsQ ρ b) ∧ FrQ (KRQ s) μ μ2) := by
  have C1 := set_C C (k := 192 + ρ 191) (by omega) b
  have F1 := set_F C (k := 192 + ρ 191) (by omega) (nI b)
  have e1 : upQ ρ (192 + ρ 191) b 191 = ρ 191 := up_n (by omega)
  have C2 := set_C C1 (k := 191) (by omega) (ρ 191 + 1)
  have F2 := set_F C1 (k := 191) (by omega) (nI (ρ 191 + 1))
  unfold fX6_waits
  simp only [l_1, l_191, l_192]
  rw [get_s C (by omega), Option.bind_some, nI_add, set_s C (by omega), Option.bind_some, get_s C1 (by omega), Option.bind_some, e1, nI_add, set_s C1 (by omega), Option.bind_some]
  exact ⟨_, rfl, C2, Fr_tr F1 F2⟩
theorem comes_s (C : Cur μ s ρ) (hW : WF ρ) (h16 : ρ 191 < 16) {b : Nat} (hb : b < ρ 37) : OkQ (fX6_comes (nI b) μ) (fun μ2 => Cur μ2 s (cms ρ b) ∧ FrQ (KRQ s) μ μ2) := by
  have h17 := hW.2.1
  unfold fX6_comes cms
  rw [canBe_s C hW hb, Option.bind_some]
  simp only [l_0, l_1, l_8, b1_z]
  by_cases h : canA ρ b = true
  · rw [if_neg (by rw [h]; decide), if_pos h, lay_s C (by omega) (by omega), Option.bind_some]
    exact ⟨_, rfl, lay_C C (by omega) (by omega) 1, lay_F C (by omega) (by omega) _⟩
  · rw [if_pos (by simpa using h), if_neg h]
    refine Ok_bind (waits_s C h16) ?_
    intro μ2 h2
    exact ⟨_, rfl, h2⟩
theorem lays_s (C : Cur μ s ρ) (h16 : ρ 37 ≤ 16) {f n w m a c : Nat} : OkQ (fX6_laysBooking (nI f) (nI n) (nI w) (nI m) (nI a) (nI c) μ) (fun μ2 => Cur μ2 s (layB ρ f n w m a c) ∧ FrQ (KRQ s) μ μ2) := by
  have hb : ρ 37 < 17 := by omega
  have C1 := lay_C C hb (w := 0) (by omega) f
  have C2 := lay_C C1 hb (w := 1) (by omega) n
  have C3 := lay_C C2 hb (w := 2) (by omega) w
  have C4 := lay_C C3 hb (w := 3) (by omega) m
  have C5 := lay_C C4 hb (w := 4) (by omega) a
  have C6 := lay_C C5 hb (w := 5) (by omega) c
  have C7 := lay_C C6 hb (w := 6) (by omega) 0
  have C8 := lay_C C7 hb (w := 7) (by omega) 0
  have C9 := lay_C C8 hb (w := 8) (by omega) 0
  have C10 := set_C C9 (k := 37) (by omega) (ρ 37 + 1)
  have F1 := lay_F C hb (w := 0) (by omega) (nI f)
  have F2 := lay_F C1 hb (w := 1) (by omega) (nI n)
  have F3 := lay_F C2 hb (w := 2) (by omega) (nI w)
  have F4 := lay_F C3 hb (w := 3) (by omega) (nI m)
  have F5 := lay_F C4 hb (w := 4) (by omega) (nI a)
  have F6 := lay_F C5 hb (w := 5) (by omega) (nI c)
  have F7 := lay_F C6 hb (w := 6) (by omega) (nI 0)
  have F8 := lay_F C7 hb (w := 7) (by omega) (nI 0)
  have F9 := lay_F C8 hb (w := 8) (by omega) (nI 0)
  have F10 := set_F C9 (k := 37) (by omega) (nI (ρ 37 + 1))
  unfold fX6_laysBooking
  simp only [l_0, l_1, l_2, l_3, l_4, l_5, l_6, l_7, l_8, l_37]
  rw [get_s C (by omega), Option.bind_some, lay_s C hb (by omega), Option.bind_some, lay_s C1 hb (by omega), Option.bind_some, lay_s C2 hb (by omega), Option.bind_some, lay_s C3 hb (by omega), Option.bind_some, lay_s C4 hb (by omega), Option.bind_some, lay_s C5 hb (by omega), Option.bind_some, lay_s C6 hb (by omega), Option.bind_some, lay_s C7 hb (by omega), Option.bind_some, lay_s C8 hb (by omega), Option.bind_some, nI_add, set_s C9 (by omega), Option.bind_some]
  exact ⟨_, rfl, C10, Fr_tr F1 (Fr_tr F2 (Fr_tr F3 (Fr_tr F4 (Fr_tr F5 (Fr_tr F6 (Fr_tr F7 (Fr_tr F8 (Fr_tr F9 F10))))))))⟩
theorem goes_s (C : Cur μ s ρ) (hW : WF ρ) (hQ : WQ ρ) : OkQ (fX6_goesThrough μ) (fun r => r.1 = nI (gtN ρ) ∧ Cur r.2 s (gtR ρ) ∧ FrQ (KRQ s) μ r.2) := by
  have h17 := hW.2.1
  have h16 := hQ.2.1
  have hl : OkQ (loop (stX6_goesThrough_12 (nI (ρ 191))) 5000 ((0 : Int32), (0 : Int32), μ)) (fun r => r.1 = nI (gtS ρ (ρ 191)).2 ∧ Cur r.2 s (gtS ρ (ρ 191)).1 ∧ FrQ (KRQ s) μ r.2) := by
    refine loop_ok (ρ 191) (fun k a => a.1 = nI (gtS ρ k).2 ∧ a.2.1 = nI k ∧ Cur a.2.2 s (gtS ρ k).1 ∧ FrQ (KRQ s) μ a.2.2) (by omega) ⟨rfl, rfl, C, Fr_rfl μ⟩ ?_
    rintro k ⟨a1, a2, a3⟩ hk ⟨e1, e2, C2, F2⟩
    obtain ⟨f1, f2, f3, f4, -⟩ := gtS_facts hW hQ k hk
    try dsimp only at e1 e2 C2 F2
    subst e1 e2
    unfold stX6_goesThrough_12 jX6_goesThrough_63
    try dsimp only
    by_cases hkn : k = ρ 191
    · subst hkn
      rw [if_pos (nI_le (Nat.le_refl _) (by omega))]
      exact ⟨_, rfl, rfl, C2, F2⟩
    · have eb : (gtS ρ k).1 (192 + k) = lstQ ρ k := f4 k (Nat.le_refl _) (by omega)
      have hb := (hQ.2.2.1 k (by omega)).1
      have hb2 : lstQ ρ k < (gtS ρ k).1 37 := by rw [f2.1 37 (by omega)]; exact hb
      rw [if_neg (nI_ge (by omega) (by omega))]
      simp only [l_0, l_1, l_8, l_192]
      rw [nI_add, get_s C2 (by omega), Option.bind_some, eb, canBe_s C2 f3 hb2, Option.bind_some]; simp (disch := omega) only [b1_z]
      have eS : gtS ρ (k + 1) = if canA (gtS ρ k).1 ((gtS ρ k).1 (192 + k)) = true then (setBQ (gtS ρ k).1 ((gtS ρ k).1 (192 + k)) 8 1, (gtS ρ k).2) else (upQ (gtS ρ k).1 (192 + (gtS ρ k).2) ((gtS ρ k).1 (192 + k)), (gtS ρ k).2 + 1) := rfl
      rw [eb] at eS
      by_cases hc : canA (gtS ρ k).1 (lstQ ρ k) = true
      · rw [if_pos hc] at eS
        rw [if_neg (by rw [hc]; decide), lay_s C2 (by omega) (by omega), Option.bind_some]
        refine ⟨_, rfl, by omega, ?_, ?_, ?_, ?_⟩
        · rw [eS]
        · rw [nI_add]
        · rw [eS]; exact lay_C C2 (by omega) (by omega) 1
        · exact Fr_tr F2 (lay_F C2 (by omega) (by omega) _)
      · rw [if_neg hc] at eS
        rw [if_pos (by simpa using hc), nI_add, set_s C2 (by omega), Option.bind_some]
        refine ⟨_, rfl, by omega, ?_, ?_, ?_, ?_⟩
        · rw [eS, nI_add]
        · exact nI_add k 1
        · rw [eS]; exact set_C C2 (by omega) _
        · exact Fr_tr F2 (set_F C2 (by omega) _)
  unfold fX6_goesThrough
  simp only [l_191]
  rw [get_s C (by omega), Option.bind_some]
  refine Ok_bind hl ?_
  rintro ⟨x1, x2⟩ ⟨h1, h2, h3⟩
  try dsimp only at h1 h2 h3 ⊢
  have f1 := (gtS_facts hW hQ (ρ 191) (Nat.le_refl _)).1
  rw [h1, set_s h2 (by omega), Option.bind_some]
  refine ⟨_, rfl, ?_, set_C h2 (by omega) _, Fr_tr h3 (set_F h2 (by omega) _)⟩
  show nI (ρ 191) - nI _ = _
  rw [pk_sub f1] <;> rfl
theorem cancels_s (C : Cur μ s ρ) (hW : WF ρ) (hQ : WQ ρ) {b : Nat} (hb : b < ρ 37) : OkQ (fX6_cancels (nI b) μ) (fun r => r.1 = nI (gtN (drp ρ b)) ∧ Cur r.2 s (gtR (drp ρ b)) ∧ FrQ (KRQ s) μ r.2) := by
  have h17 := hW.2.1
  have h16 := hQ.2.1
  obtain ⟨d1, d2, d3, d4⟩ := drp_WF hW hQ hb
  have C1 := lay_C C (b := b) (w := 8) (by omega) (by omega) 2
  have F1 := lay_F C (b := b) (w := 8) (by omega) (by omega) (nI 2)
  have e191 : setBQ ρ b 8 2 191 = ρ 191 := setB_hi (by omega) (by omega) (by omega)
  have el : ∀ i, lstQ (setBQ ρ b 8 2) i = lstQ ρ i := fun i => setB_hi (by omega) (by omega) (by omega)
  have hf := dqS_facts (ρ := setBQ ρ b 8 2) (b := b) (by rw [e191]; exact h16) (fun i k hik hk => by rw [el, el]; rw [e191] at hk; exact hQ.2.2.2 i k hik hk)
  rw [e191] at hf
  have hl : OkQ (loop (stX6_cancels_12 (nI b)) 5000 ((0 : Int32), (0 : Int32), wI μ 61 0 (208 * s + (38 + 9 * b + 8)) (nI 2))) (fun r => r.1 = nI (dqS (setBQ ρ b 8 2) b (ρ 191)).2 ∧ Cur r.2 s (dqS (setBQ ρ b 8 2) b (ρ 191)).1 ∧ FrQ (KRQ s) μ r.2) := by
    refine loop_ok (ρ 191) (fun k a => a.1 = nI (dqS (setBQ ρ b 8 2) b k).2 ∧ a.2.1 = nI k ∧ Cur a.2.2 s (dqS (setBQ ρ b 8 2) b k).1 ∧ FrQ (KRQ s) μ a.2.2) (by omega) ⟨rfl, rfl, C1, F1⟩ ?_
    rintro k ⟨a1, a2, a3⟩ hk ⟨e1, e2, C2, F2⟩
    obtain ⟨f1, f2, f3, -⟩ := hf k hk
    try dsimp only at e1 e2 C2 F2
    subst e1 e2
    have g191 : (dqS (setBQ ρ b 8 2) b k).1 191 = ρ 191 := by rw [f2 191 (by omega), e191]
    unfold stX6_cancels_12 jX6_cancels_60
    try dsimp only
    simp only [l_1, l_191, l_192]
    rw [get_s C2 (by omega), Option.bind_some, g191]
    by_cases hkn : k = ρ 191
    · subst hkn
      rw [if_pos (nI_le (Nat.le_refl _) (by omega))]
      exact ⟨_, rfl, rfl, C2, F2⟩
    · have eb : (dqS (setBQ ρ b 8 2) b k).1 (192 + k) = lstQ ρ k := by rw [f3 k (Nat.le_refl _) (by omega), el]
      have hb2 := (hQ.2.2.1 k (by omega)).1
      rw [if_neg (nI_ge (by omega) (by omega))]
      rw [nI_add, get_s C2 (by omega), Option.bind_some, eb]; simp (disch := omega) only [nI_eq]
      have eS : dqS (setBQ ρ b 8 2) b (k + 1) = if (dqS (setBQ ρ b 8 2) b k).1 (192 + k) = b then dqS (setBQ ρ b 8 2) b k else (upQ (dqS (setBQ ρ b 8 2) b k).1 (192 + (dqS (setBQ ρ b 8 2) b k).2) ((dqS (setBQ ρ b 8 2) b k).1 (192 + k)), (dqS (setBQ ρ b 8 2) b k).2 + 1) := rfl
      rw [eb] at eS
      by_cases hc : lstQ ρ k = b
      · rw [if_pos hc] at eS
        rw [if_neg (fun q => q hc)]
        refine ⟨_, rfl, by omega, ?_, ?_, ?_, ?_⟩
        · rw [eS]
        · rw [nI_add]
        · rw [eS]; exact C2
        · exact F2
      · rw [if_neg hc] at eS
        rw [if_pos hc, Option.bind_some, nI_add, set_s C2 (by omega), Option.bind_some]
        refine ⟨_, rfl, by omega, ?_, ?_, ?_, ?_⟩
        · rw [eS, nI_add]
        · exact nI_add k 1
        · rw [eS]; exact set_C C2 (by omega) _
        · exact Fr_tr F2 (set_F C2 (by omega) _)
  unfold fX6_cancels
  simp only [l_2, l_8, l_191]
  rw [lay_s C (by omega) (by omega), Option.bind_some]
  refine Ok_bind hl ?_
  rintro ⟨x1, x2⟩ ⟨h1, h2, h3⟩
  try dsimp only at h1 h2 h3 ⊢
  have eR : drp ρ b = upQ (dqS (setBQ ρ b 8 2) b (ρ 191)).1 191 (dqS (setBQ ρ b 8 2) b (ρ 191)).2 := by unfold drp dqR; rw [e191]
  rw [h1, set_s h2 (by omega), Option.bind_some]
  have C3 := set_C h2 (k := 191) (by omega) (dqS (setBQ ρ b 8 2) b (ρ 191)).2
  rw [← eR] at C3
  refine Ok_bind (goes_s C3 d1 d2) ?_
  rintro ⟨y1, y2⟩ ⟨g1, g2, g3⟩
  exact ⟨_, rfl, g1, g2, Fr_tr h3 (Fr_tr (set_F h2 (by omega) _) g3)⟩
theorem inState_s (C : Cur μ s ρ) (hW : WF ρ) {v : Nat} (hv : v ≤ 2) : fX6_inState (nI v) μ = some (nI (sumNQ (fun b => b1 (decide (bkv ρ b 8 = v))) (ρ 37))) := by
  have h17 := hW.2.1
  have e : loop (stX6_inState_4 μ (nI v)) 5000 ((0 : Int32), (0 : Int32)) = some (nI (sumNQ (fun b => b1 (decide (bkv ρ b 8 = v))) (ρ 37))) := by
    refine loop_st (ρ 37) (fun k => (nI (sumNQ (fun b => b1 (decide (bkv ρ b 8 = v))) k), nI k)) (by omega) rfl ?_ ?_
    · intro k hk
      have h8 : bkv ρ k 8 ≤ 2 := (hW.2.2.2.2 k hk).2.2.2.2.2.2.2
      unfold stX6_inState_4 jX6_inState_31
      simp (disch := omega) only [l_0, l_1, l_2, l_3, l_4, l_5, l_6, l_7, l_8, l_9, l_10, l_11, l_12, l_16, l_17, l_20, l_24, l_29, l_30, l_31, l_32, l_35, l_37, l_38, l_43, l_44, l_47, l_48, l_50, l_56, l_57, l_59, l_60, l_63, l_80, l_96, l_97, l_98, l_99, l_100, l_101, l_102, l_103, l_104, l_105, l_107, l_108, l_109, l_110, l_111, l_114, l_115, l_116, l_118, l_119, l_120, l_122, l_160, l_191, l_192, l_193, l_200, l_205, l_208, l_209, l_210, l_211, l_255, l_300, l_700, l_2400, l_252645135, l_858993459, l_1431655765, nI_add, pk_mul, nI_leI, nI_ltI, nI_eq, nI_clamp, inb_nI, Option.bind_some, ↓reduceIte, not_false_eq_true, not_true_eq_false, get_s C, of_s C]
      rw [if_neg (by omega)]
      show _ = some (Sum.inl (nI (sumNQ _ k + b1 (decide (bkv ρ k 8 = v))), nI (k + 1)))
      by_cases q8 : bkv ρ k 8 = v
      · rw [if_neg (fun q => q q8), decide_eq_true q8] <;> rfl
      · rw [if_pos q8, decide_eq_false q8] <;> rfl
    · unfold stX6_inState_4
      simp (disch := omega) only [l_0, l_1, l_2, l_3, l_4, l_5, l_6, l_7, l_8, l_9, l_10, l_11, l_12, l_16, l_17, l_20, l_24, l_29, l_30, l_31, l_32, l_35, l_37, l_38, l_43, l_44, l_47, l_48, l_50, l_56, l_57, l_59, l_60, l_63, l_80, l_96, l_97, l_98, l_99, l_100, l_101, l_102, l_103, l_104, l_105, l_107, l_108, l_109, l_110, l_111, l_114, l_115, l_116, l_118, l_119, l_120, l_122, l_160, l_191, l_192, l_193, l_200, l_205, l_208, l_209, l_210, l_211, l_255, l_300, l_700, l_2400, l_252645135, l_858993459, l_1431655765, nI_add, pk_mul, nI_leI, nI_ltI, nI_eq, nI_clamp, inb_nI, Option.bind_some, ↓reduceIte, not_false_eq_true, not_true_eq_false, get_s C]
      rw [if_pos (by omega)] <;> rfl
  unfold fX6_inState
  rw [e] <;> rfl
end
