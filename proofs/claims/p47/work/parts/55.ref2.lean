/-! layer 2: the waiting list, as whole numbers, and in the reference -/
/-- what the list is while it is gone through -/
theorem gtS_facts {ρ : RwQ} (hW : WF ρ) (hQ : WQ ρ) : ∀ k, k ≤ ρ 191 → (gtS ρ k).2 ≤ k ∧ SameQ ρ (gtS ρ k).1 ∧ WF (gtS ρ k).1 ∧ (∀ i, k ≤ i → i < 16 → (gtS ρ k).1 (192 + i) = lstQ ρ i) ∧ (gtS ρ k).1 191 = ρ 191 ∧ (∀ i, k ≤ i → i < ρ 191 → bkv (gtS ρ k).1 (lstQ ρ i) 8 = 0) ∧ (∀ i, i < (gtS ρ k).2 → ∃ j, j < k ∧ (gtS ρ k).1 (192 + i) = lstQ ρ j ∧ bkv (gtS ρ k).1 (lstQ ρ j) 8 = 0) ∧ (∀ i j, i < j → j < (gtS ρ k).2 → (gtS ρ k).1 (192 + i) < (gtS ρ k).1 (192 + j)) := by
  obtain ⟨q1, q2, q3, q4⟩ := hQ
  have h17 := hW.2.1
  intro k
  induction k with
  | zero => intro _; exact ⟨Nat.le_refl _, Same_rfl ρ, hW, fun _ _ _ => rfl, rfl, fun i _ hi => (q3 i hi).2, fun i hi => absurd hi (Nat.not_lt_zero _), fun i j _ hj => absurd hj (Nat.not_lt_zero _)⟩
  | succ k ih =>
    intro hk
    obtain ⟨a1, a2, a3, a4, a5, a6, a7, a8⟩ := ih (by omega)
    have hb : lstQ ρ k < ρ 37 := (q3 k (by omega)).1
    have eb : (gtS ρ k).1 (192 + k) = lstQ ρ k := a4 k (Nat.le_refl _) (by omega)
    have eS : gtS ρ (k + 1) = if canA (gtS ρ k).1 ((gtS ρ k).1 (192 + k)) = true then (setBQ (gtS ρ k).1 ((gtS ρ k).1 (192 + k)) 8 1, (gtS ρ k).2) else (upQ (gtS ρ k).1 (192 + (gtS ρ k).2) ((gtS ρ k).1 (192 + k)), (gtS ρ k).2 + 1) := rfl
    rw [eb] at eS
    by_cases hc : canA (gtS ρ k).1 (lstQ ρ k) = true
    · rw [if_pos hc] at eS
      rw [eS]
      have hne : ∀ j, j < k → lstQ ρ j ≠ lstQ ρ k := fun j hj => Nat.ne_of_lt (q4 j k hj (by omega))
      have hne2 : ∀ j, k < j → j < ρ 191 → lstQ ρ j ≠ lstQ ρ k := fun j hj hj2 => (Nat.ne_of_lt (q4 k j hj hj2)).symm
      refine ⟨by show (gtS ρ k).2 ≤ k + 1; omega, Same_tr a2 (Same_st (by omega)), WF_st a3 (by omega) (by omega), ?_, ?_, ?_, ?_, ?_⟩
      · intro i hi hi2
        show setBQ (gtS ρ k).1 (lstQ ρ k) 8 1 (192 + i) = _
        rw [setB_hi (by omega) (by omega) (by omega)]; exact a4 i (by omega) hi2
      · show setBQ (gtS ρ k).1 (lstQ ρ k) 8 1 191 = _
        rw [setB_hi (by omega) (by omega) (by omega)]; exact a5
      · intro i hi hi2
        show bkv (setBQ (gtS ρ k).1 (lstQ ρ k) 8 1) (lstQ ρ i) 8 = 0
        rw [bkv_setB (by omega) (by omega), if_neg (fun q => hne2 i (by omega) hi2 q.1)]
        exact a6 i (by omega) hi2
      · intro i hi
        obtain ⟨j, j1, j2, j3⟩ := a7 i hi
        refine ⟨j, by omega, ?_, ?_⟩
        · show setBQ (gtS ρ k).1 (lstQ ρ k) 8 1 (192 + i) = _
          rw [setB_hi (by omega) (by omega) (by omega)]; exact j2
        · show bkv (setBQ (gtS ρ k).1 (lstQ ρ k) 8 1) (lstQ ρ j) 8 = 0
          rw [bkv_setB (by omega) (by omega), if_neg (fun q => hne j j1 q.1)]
          exact j3
      · intro i j hij hj
        show setBQ (gtS ρ k).1 (lstQ ρ k) 8 1 (192 + i) < setBQ (gtS ρ k).1 (lstQ ρ k) 8 1 (192 + j)
        rw [setB_hi (by omega) (by omega) (by omega), setB_hi (by omega) (by omega) (by omega)]
        exact a8 i j hij hj
    · rw [if_neg hc] at eS
      rw [eS]
      refine ⟨by show (gtS ρ k).2 + 1 ≤ k + 1; omega, Same_tr a2 (Same_hi (by omega)), WF_hi a3 (by omega), ?_, ?_, ?_, ?_, ?_⟩
      · intro i hi hi2
        show upQ (gtS ρ k).1 (192 + (gtS ρ k).2) (lstQ ρ k) (192 + i) = _
        rw [up_n (by omega)]; exact a4 i (by omega) hi2
      · show upQ (gtS ρ k).1 (192 + (gtS ρ k).2) (lstQ ρ k) 191 = _
        rw [up_n (by omega)]; exact a5
      · intro i hi hi2
        show bkv (upQ (gtS ρ k).1 (192 + (gtS ρ k).2) (lstQ ρ k)) (lstQ ρ i) 8 = 0
        have := (q3 i hi2).1
        rw [bkv_up (by omega)]
        exact a6 i (by omega) hi2
      · intro i hi
        have hi3 : i < (gtS ρ k).2 + 1 := hi
        by_cases hik : i = (gtS ρ k).2
        · refine ⟨k, by omega, ?_, ?_⟩
          · show upQ (gtS ρ k).1 (192 + (gtS ρ k).2) (lstQ ρ k) (192 + i) = _
            rw [hik, up_s]
          · show bkv (upQ (gtS ρ k).1 (192 + (gtS ρ k).2) (lstQ ρ k)) (lstQ ρ k) 8 = 0
            rw [bkv_up (by omega)]
            exact a6 k (Nat.le_refl _) (by omega)
        · obtain ⟨j, j1, j2, j3⟩ := a7 i (by omega)
          refine ⟨j, by omega, ?_, ?_⟩
          · show upQ (gtS ρ k).1 (192 + (gtS ρ k).2) (lstQ ρ k) (192 + i) = _
            rw [up_n (by omega)]; exact j2
          · show bkv (upQ (gtS ρ k).1 (192 + (gtS ρ k).2) (lstQ ρ k)) (lstQ ρ j) 8 = 0
            have := (q3 j (by omega)).1
            rw [bkv_up (by omega)]
            exact j3
      · intro i j hij hj
        have hj3 : j < (gtS ρ k).2 + 1 := hj
        show upQ (gtS ρ k).1 (192 + (gtS ρ k).2) (lstQ ρ k) (192 + i) < upQ (gtS ρ k).1 (192 + (gtS ρ k).2) (lstQ ρ k) (192 + j)
        by_cases hjk : j = (gtS ρ k).2
        · rw [hjk, up_s, up_n (by omega)]
          obtain ⟨j', j1, j2, -⟩ := a7 i (by omega)
          rw [j2]
          exact q4 j' k j1 (by omega)
        · rw [up_n (by omega), up_n (by omega)]
          exact a8 i j hij (by omega)
theorem gtR_WF {ρ : RwQ} (hW : WF ρ) (hQ : WQ ρ) : WF (gtR ρ) ∧ WQ (gtR ρ) ∧ SameQ ρ (gtR ρ) := by
  obtain ⟨a1, a2, a3, a4, a5, a6, a7, a8⟩ := gtS_facts hW hQ (ρ 191) (Nat.le_refl _)
  have h17 := hW.2.1
  have e37 : (gtR ρ) 37 = ρ 37 := by
    show upQ (gtS ρ (ρ 191)).1 191 (gtS ρ (ρ 191)).2 37 = ρ 37
    rw [up_n (by omega)]; exact a2.1 37 (by omega)
  have e191 : (gtR ρ) 191 = (gtS ρ (ρ 191)).2 := up_s _ _ _
  have el : ∀ i, i < 16 → lstQ (gtR ρ) i = (gtS ρ (ρ 191)).1 (192 + i) := fun i hi => up_n (by omega)
  have h16 := hQ.2.1
  have h37 := hQ.1
  refine ⟨WF_hi a3 (by omega), ⟨by omega, by omega, ?_, ?_⟩, Same_tr a2 (Same_hi (by omega))⟩
  · intro k hk
    rw [e191] at hk
    obtain ⟨j, j1, j2, j3⟩ := a7 k hk
    rw [el k (by omega), j2, e37]
    refine ⟨(hQ.2.2.1 j j1).1, ?_⟩
    have := (hQ.2.2.1 j j1).1
    show bkv (upQ (gtS ρ (ρ 191)).1 191 _) (lstQ ρ j) 8 = 0
    rw [bkv_up (by omega)]
    exact j3
  · intro i k hik hk
    rw [e191] at hk
    rw [el i (by omega), el k (by omega)]
    exact a8 i k hik hk
theorem dqS_facts {ρ : RwQ} {b : Nat} (h16 : ρ 191 ≤ 16) (h4 : ∀ i k, i < k → k < ρ 191 → lstQ ρ i < lstQ ρ k) : ∀ k, k ≤ ρ 191 → (dqS ρ b k).2 ≤ k ∧ (∀ i, i < 192 → (dqS ρ b k).1 i = ρ i) ∧ (∀ i, k ≤ i → i < 16 → (dqS ρ b k).1 (192 + i) = lstQ ρ i) ∧ (∀ i, i < (dqS ρ b k).2 → ∃ j, j < k ∧ (dqS ρ b k).1 (192 + i) = lstQ ρ j ∧ lstQ ρ j ≠ b) ∧ (∀ i j, i < j → j < (dqS ρ b k).2 → (dqS ρ b k).1 (192 + i) < (dqS ρ b k).1 (192 + j)) := by
  intro k
  induction k with
  | zero => intro _; exact ⟨Nat.le_refl _, fun _ _ => rfl, fun _ _ _ => rfl, fun i hi => absurd hi (Nat.not_lt_zero _), fun i j _ hj => absurd hj (Nat.not_lt_zero _)⟩
  | succ k ih =>
    intro hk
    obtain ⟨a1, a2, a3, a4, a5⟩ := ih (by omega)
    have eb : (dqS ρ b k).1 (192 + k) = lstQ ρ k := a3 k (Nat.le_refl _) (by omega)
    have eS : dqS ρ b (k + 1) = if (dqS ρ b k).1 (192 + k) = b then dqS ρ b k else (upQ (dqS ρ b k).1 (192 + (dqS ρ b k).2) ((dqS ρ b k).1 (192 + k)), (dqS ρ b k).2 + 1) := rfl
    rw [eb] at eS
    by_cases hc : lstQ ρ k = b
    · rw [if_pos hc] at eS
      rw [eS]
      refine ⟨by omega, a2, fun i hi hi2 => a3 i (by omega) hi2, fun i hi => ?_, a5⟩
      obtain ⟨j, j1, j2⟩ := a4 i hi
      exact ⟨j, by omega, j2⟩
    · rw [if_neg hc] at eS
      rw [eS]
      refine ⟨by show (dqS ρ b k).2 + 1 ≤ k + 1; omega, ?_, ?_, ?_, ?_⟩
      · intro i hi
        show upQ (dqS ρ b k).1 (192 + (dqS ρ b k).2) (lstQ ρ k) i = _
        rw [up_n (by omega)]; exact a2 i hi
      · intro i hi hi2
        show upQ (dqS ρ b k).1 (192 + (dqS ρ b k).2) (lstQ ρ k) (192 + i) = _
        rw [up_n (by omega)]; exact a3 i (by omega) hi2
      · intro i hi
        have hi3 : i < (dqS ρ b k).2 + 1 := hi
        by_cases hik : i = (dqS ρ b k).2
        · refine ⟨k, by omega, ?_, hc⟩
          show upQ (dqS ρ b k).1 (192 + (dqS ρ b k).2) (lstQ ρ k) (192 + i) = _
          rw [hik, up_s]
        · obtain ⟨j, j1, j2, j3⟩ := a4 i (by omega)
          refine ⟨j, by omega, ?_, j3⟩
          show upQ (dqS ρ b k).1 (192 + (dqS ρ b k).2) (lstQ ρ k) (192 + i) = _
          rw [up_n (by omega)]; exact j2
      · intro i j hij hj
        have hj3 : j < (dqS ρ b k).2 + 1 := hj
        show upQ (dqS ρ b k).1 (192 + (dqS ρ b k).2) (lstQ ρ k) (192 + i) < upQ (dqS ρ b k).1 (192 + (dqS ρ b k).2) (lstQ ρ k) (192 + j)
        by_cases hjk : j = (dqS ρ b k).2
        · rw [hjk, up_s, up_n (by omega)]
          obtain ⟨j', j1, j2, -⟩ := a4 i (by omega)
          rw [j2]
          exact h4 j' k j1 (by omega)
        · rw [up_n (by omega), up_n (by omega)]
          exact a5 i j hij (by omega)
theorem drp_WF {ρ : RwQ} (hW : WF ρ) (hQ : WQ ρ) {b : Nat} (hb : b < ρ 37) : WF (drp ρ b) ∧ WQ (drp ρ b) ∧ SameQ ρ (drp ρ b) ∧ (∀ x, x < 17 → bkv (drp ρ b) x 8 = if x = b then 2 else bkv ρ x 8) := by
  obtain ⟨q1, q2, q3, q4⟩ := hQ
  have h17 := hW.2.1
  have e191 : setBQ ρ b 8 2 191 = ρ 191 := setB_hi (by omega) (by omega) (by omega)
  have el : ∀ i, lstQ (setBQ ρ b 8 2) i = lstQ ρ i := fun i => setB_hi (by omega) (by omega) (by omega)
  obtain ⟨a1, a2, a3, a4, a5⟩ := dqS_facts (ρ := setBQ ρ b 8 2) (b := b) (by rw [e191]; exact q2) (fun i k hik hk => by rw [el, el]; rw [e191] at hk; exact q4 i k hik hk) (ρ 191) (by rw [e191]; exact Nat.le_refl _)
  have eR : drp ρ b = upQ (dqS (setBQ ρ b 8 2) b (ρ 191)).1 191 (dqS (setBQ ρ b 8 2) b (ρ 191)).2 := by unfold drp dqR; rw [e191]
  have elo : ∀ i, i < 191 → drp ρ b i = setBQ ρ b 8 2 i := fun i hi => by rw [eR, up_n (by omega)]; exact a2 i (by omega)
  have ehi : ∀ i, lstQ (drp ρ b) i = (dqS (setBQ ρ b 8 2) b (ρ 191)).1 (192 + i) := fun i => by rw [eR]; exact up_n (by omega)
  have e1 : drp ρ b 191 = (dqS (setBQ ρ b 8 2) b (ρ 191)).2 := by rw [eR, up_s]
  have e37 : drp ρ b 37 = ρ 37 := by rw [elo 37 (by omega), setB_lo (by omega)]
  have est : ∀ x, x < 17 → bkv (drp ρ b) x 8 = if x = b then 2 else bkv ρ x 8 := by
    intro x hx
    show drp ρ b (38 + 9 * x + 8) = _
    rw [elo _ (by omega)]
    have := bkv_setB (ρ := ρ) (b := b) (w := 8) (v := 2) (b2 := x) (w2 := 8) (by omega) (by omega)
    rw [show setBQ ρ b 8 2 (38 + 9 * x + 8) = bkv (setBQ ρ b 8 2) x 8 from rfl, this]
    by_cases h : x = b
    · rw [if_pos ⟨h, rfl⟩, if_pos h]
    · rw [if_neg (fun q => h q.1), if_neg h]
  have hS : SameQ ρ (drp ρ b) := by
    refine ⟨fun k hk => by rw [elo k (by omega), setB_lo hk], fun x w hx hw => ?_⟩
    show drp ρ b (38 + 9 * x + w) = _
    rw [elo _ (by omega)]
    exact (Same_st (by omega)).2 x w hx hw
  refine ⟨WF_same hS hW ?_, ⟨by omega, by omega, ?_, ?_⟩, hS, est⟩
  · intro x hx
    rw [est x (by omega)]
    split
    · omega
    · exact (hW.2.2.2.2 x hx).2.2.2.2.2.2.2
  · intro k hk
    rw [e1] at hk
    obtain ⟨j, j1, j2, j3⟩ := a4 k hk
    rw [ehi, j2, el, e37]
    rw [el] at j3
    have h3 := q3 j j1
    refine ⟨h3.1, ?_⟩
    rw [est _ (by omega), if_neg j3]
    exact h3.2
  · intro i k hik hk
    rw [e1] at hk
    rw [ehi, ehi]
    exact a5 i k hik hk
section
variable {μ : Mem} {s : Nat} {ρ : RwQ}
end
