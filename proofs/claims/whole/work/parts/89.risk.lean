/-! layer 2: sums of chances -/
def sm (f : Nat → UInt64) (a : Nat) : Nat → UInt64
  | 0 => 0
  | k + 1 => FP.dadd (sm f a k) (f (a + k))
def wkO (ρ : RwQ) (n i : Nat) : UInt64 := FP.dmul (FP.i2d (nI (i - allB ρ))) (od ρ n (ρ 37) i)
section
variable {σ μ : Mem} {ρ : RwQ} {s n a M : Nat} {f : Nat → UInt64}
theorem sm_FC (hf : ∀ i, FC M (f i)) (hM : M ≤ 1500) : ∀ k, k ≤ 205 → FC (M + 2 * k) (sm f a k) := by
  intro k
  induction k with
  | zero => intro _; exact FC_0
  | succ k ih =>
    intro hk
    exact FC_mono (FC_dadd (ih (by omega)) (FC_mono (hf (a + k)) (by omega)) (by omega)) (by omega)
theorem sm_end (hf : ∀ i, FC M (f i)) (hM : M ≤ 1500) (hz : ∀ i, 193 ≤ i → f i = 0) (ha : a ≤ 193) : ∀ d, d ≤ 12 → sm f a (193 - a + d) = sm f a (193 - a) := by
  intro d
  induction d with
  | zero => intro _; rfl
  | succ d ih =>
    intro hd
    show FP.dadd (sm f a (193 - a + d)) (f (a + (193 - a + d))) = _
    rw [hz _ (by omega), ih (by omega)]
    exact dadd0 (sm_FC hf hM (193 - a) (by omega)).2
theorem wkO_FC (h3 : I3 ρ) (n : Nat) {i : Nat} (hi : i < 205) : FC 1113 (wkO ρ n i) := by
  have h16 := h3.2.2
  have h1 : FC (1021 + 9) (FP.i2d (nI (i - allB ρ))) := chkF_FC (i2d_ok (i - allB ρ) (by omega))
  have h2 : FC 1102 (od ρ n (ρ 37) i) := FC_mono (od_FC h3.1 n (ρ 37) (Nat.le_refl _) i) (by omega)
  exact FC_mono (FC_dmul h1 h2 (by omega) (by omega)) (by omega)
theorem wkO_end (h3 : I3 ρ) (n : Nat) {i : Nat} (hi : 193 ≤ i) (hi2 : i < 205) : wkO ρ n i = 0 := by
  unfold wkO
  rw [od_end h3 n hi]
  exact (dmul0 (K := 1030) (chkF_FC (i2d_ok (i - allB ρ) (by omega)))).1
def wkP (ρ : RwQ) (n i : Nat) : UInt64 := if i < 205 then wkO ρ n i else 0
theorem wkP_FC (h3 : I3 ρ) (n i : Nat) : FC 1113 (wkP ρ n i) := by
  unfold wkP
  split
  · exact wkO_FC h3 n (by assumption)
  · exact FC_0
theorem wkP_end (h3 : I3 ρ) (n : Nat) {i : Nat} (hi : 193 ≤ i) : wkP ρ n i = 0 := by
  unfold wkP
  split
  · exact wkO_end h3 n hi (by assumption)
  · rfl
theorem odP_FC (h3 : I3 ρ) (n i : Nat) : FC 1102 (od ρ n (ρ 37) i) := FC_mono (od_FC h3.1 n (ρ 37) (Nat.le_refl _) i) (by have := h3.2.2; omega)
theorem riskC (h3 : I3 ρ) (hd : ∀ k, k < 193 → rD σ 0 0 k = od ρ n (ρ 37) k) (ha : a ≤ 193) : loop (stX5_risk_22 σ) 5000 (FP.dconst0, nI a) = some (sm (od ρ n (ρ 37)) a (193 - a)) := by
  refine loop_st (193 - a) (fun k => (sm (od ρ n (ρ 37)) a k, nI (a + k))) (by omega) rfl ?_ ?_
  · intro k hk
    have hF : FC _ (FP.dadd (sm (od ρ n (ρ 37)) a k) (od ρ n (ρ 37) (a + k))) := sm_FC (a := a) (odP_FC h3 n) (by omega) (k + 1) (by omega)
    unfold stX5_risk_22
    simp only [l_1, l_193]
    rw [if_neg (nI_ge (by omega) (by omega)), gd_inb (by omega) (by omega), nI_clamp (by omega), hd (a + k) (by omega), nI_add, gd_pos (FC_n64 hF)]
    rfl
  · unfold stX5_risk_22
    simp only [l_1, l_193]
    rw [if_pos (nI_le (by omega) (by omega))]
theorem riskR (h3 : I3 ρ) (hd : ∀ k, k < 205 → rD μ 1 0 k = od ρ n (ρ 37) k) (ha : a ≤ 193) : loop (stX6_risk_34 μ) 5000 (FP.dconst0, nI a) = some (sm (od ρ n (ρ 37)) a (193 - a)) := by
  rw [← sm_end (odP_FC h3 n) (by omega) (fun i hi => od_end h3 n hi) ha 12 (Nat.le_refl _)]
  refine loop_st (193 - a + 12) (fun k => (sm (od ρ n (ρ 37)) a k, nI (a + k))) (by omega) rfl ?_ ?_
  · intro k hk
    have hF : FC _ (FP.dadd (sm (od ρ n (ρ 37)) a k) (od ρ n (ρ 37) (a + k))) := sm_FC (a := a) (odP_FC h3 n) (by omega) (k + 1) (by omega)
    unfold stX6_risk_34
    simp only [l_1, l_205]
    rw [if_neg (nI_ge (by omega) (by omega)), gd_inb (by omega) (by omega), nI_clamp (by omega), hd (a + k) (by omega), nI_add, gd_pos (FC_n64 hF)]
    rfl
  · unfold stX6_risk_34
    simp only [l_1, l_205]
    rw [if_pos (nI_le (by omega) (by omega))]
theorem walksC (h3 : I3 ρ) (hd : ∀ k, k < 193 → rD σ 0 0 k = od ρ n (ρ 37) k) (h21 : rI σ 21 (rP σ 0) 0 = nI (allB ρ)) (ha : a ≤ 193) (haB : allB ρ ≤ a) : loop (stX5_expectedWalks_22 σ) 5000 (FP.dconst0, nI a) = some (sm (wkP ρ n) a (193 - a)) := by
  refine loop_st (193 - a) (fun k => (sm (wkP ρ n) a k, nI (a + k))) (by omega) rfl ?_ ?_
  · intro k hk
    have hF : FC _ (FP.dadd (sm (wkP ρ n) a k) (wkP ρ n (a + k))) := sm_FC (a := a) (wkP_FC h3 n) (by omega) (k + 1) (by omega)
    have hF2 := wkO_FC h3 n (i := a + k) (by omega)
    have e : FP.dmul (FP.i2d (nI (a + k - allB ρ))) (od ρ n (ρ 37) (a + k)) = wkP ρ n (a + k) := (if_pos (show a + k < 205 by omega)).symm
    unfold stX5_expectedWalks_22
    simp only [l_1, l_193]
    rw [if_neg (nI_ge (by omega) (by omega)), gd_inb (by omega) (by omega), nI_clamp (by omega), hd (a + k) (by omega), h21, pk_sub (by omega), nI_add, e, gd_pos (FC_n64 (wkP_FC h3 n (a + k))), gd_pos (FC_n64 hF)]
    rfl
  · unfold stX5_expectedWalks_22
    simp only [l_1, l_193]
    rw [if_pos (nI_le (by omega) (by omega))]
theorem walksR (C : Cur μ s ρ) (h3 : I3 ρ) (hd : ∀ k, k < 205 → rD μ 1 0 k = od ρ n (ρ 37) k) (ha : a ≤ 193) (haB : allB ρ ≤ a) : loop (stX6_expectedWalks_34 μ) 5000 (FP.dconst0, nI a) = some (sm (wkP ρ n) a (193 - a)) := by
  rw [← sm_end (wkP_FC h3 n) (by omega) (fun i hi => wkP_end h3 n hi) ha 12 (Nat.le_refl _)]
  refine loop_st (193 - a + 12) (fun k => (sm (wkP ρ n) a k, nI (a + k))) (by omega) rfl ?_ ?_
  · intro k hk
    have hF : FC _ (FP.dadd (sm (wkP ρ n) a k) (wkP ρ n (a + k))) := sm_FC (a := a) (wkP_FC h3 n) (by omega) (k + 1) (by omega)
    have e : FP.dmul (FP.i2d (nI (a + k - allB ρ))) (od ρ n (ρ 37) (a + k)) = wkP ρ n (a + k) := (if_pos (show a + k < 205 by omega)).symm
    unfold stX6_expectedWalks_34
    simp only [l_1, l_205]
    rw [if_neg (nI_ge (by omega) (by omega)), allBeds_s C h3.1, Option.bind_some, gd_inb (by omega) (by omega), nI_clamp (by omega), hd (a + k) (by omega), pk_sub (by omega), nI_add, e, gd_pos (FC_n64 (wkP_FC h3 n (a + k))), gd_pos (FC_n64 hF)]
    rfl
  · unfold stX6_expectedWalks_34
    simp only [l_1, l_205]
    rw [if_pos (nI_le (by omega) (by omega))]
theorem ANd_risk (hIn : InQ σ μ) (p1 : Int32) : ANd (fX5_risk p1 σ) (fX6_risk p1 μ) [(3, 1)] InQ := by
  obtain ⟨ρ, h1, C, h3, hN, h5, h6, h7⟩ := id hIn
  have h16 := h3.2.2
  have C0 := cur0 C
  have hlt := I1_lt h1
  have hb := allB_le h3.1
  rcases ix_em p1 30 with ⟨n, hn, rfl⟩ | q
  · obtain ⟨σ2, a0, a1, a2⟩ := fillOdds_h h1 h3 hn
    obtain ⟨μ2, b0, b1', b2⟩ := laysChances_s C0 h3.1 h16 hn
    have hJ : InQ σ2 μ2 := In_qt (In_st hIn (Dn_ST (j := rP σ 1) a2) rfl) (QT_tr QT_60 (Dn_QT b2))
    have h60 : rI μ2 60 0 0 = nI 0 := by rw [Dn_I b2, rI_wI_self]
    refine Or.inl ⟨sm (od ρ n (ρ 37)) (allB ρ + 1) (193 - (allB ρ + 1)), σ2, dcmp_self' (sm_FC (odP_FC h3 n) (by omega) _ (by omega)), ?_, ?_⟩
    · unfold fX5_risk
      simp only [l_1]
      rw [chkN_Y hn, Option.bind_some, Sum.elim_inl, a0, Option.bind_some, gd_pos (by rw [Dn_P a2]; exact hlt), Dn_P a2, Dn_I a2, h1.2.1.1.2.1, nI_add, riskC h3 a1 (by omega), Option.bind_some]
    · unfold fX6_risk
      simp only [l_0, l_1]
      rw [isNight_Y hn, Option.bind_some, if_pos (by decide), b0, Option.bind_some, allBeds_s (Dn_Cur b2 C0) h3.1, Option.bind_some, nI_add, riskR h3 b1' (by omega), Option.bind_some]
      exact ⟨_, rfl, rfl, h60, hJ⟩
  · refine ANd_no hIn 3 1 (by decide) ?_ ?_
    · unfold fX5_risk
      rw [chkN_N q, Option.bind_some, Sum.elim_inr]
    · unfold fX6_risk
      simp only [l_0, l_1]
      rw [isNight_N q, Option.bind_some, if_neg (by decide)]
      exact ref_noD 1
theorem ANd_walks (hIn : InQ σ μ) (p1 : Int32) : ANd (fX5_expectedWalks p1 σ) (fX6_expectedWalks p1 μ) [(3, 1)] InQ := by
  obtain ⟨ρ, h1, C, h3, hN, h5, h6, h7⟩ := id hIn
  have h16 := h3.2.2
  have C0 := cur0 C
  have hlt := I1_lt h1
  have hb := allB_le h3.1
  rcases ix_em p1 30 with ⟨n, hn, rfl⟩ | q
  · obtain ⟨σ2, a0, a1, a2⟩ := fillOdds_h h1 h3 hn
    obtain ⟨μ2, b0, b1', b2⟩ := laysChances_s C0 h3.1 h16 hn
    have hJ : InQ σ2 μ2 := In_qt (In_st hIn (Dn_ST (j := rP σ 1) a2) rfl) (QT_tr QT_60 (Dn_QT b2))
    have h60 : rI μ2 60 0 0 = nI 0 := by rw [Dn_I b2, rI_wI_self]
    refine Or.inl ⟨sm (wkP ρ n) (allB ρ + 1) (193 - (allB ρ + 1)), σ2, dcmp_self' (sm_FC (wkP_FC h3 n) (by omega) _ (by omega)), ?_, ?_⟩
    · unfold fX5_expectedWalks
      simp only [l_1]
      rw [chkN_Y hn, Option.bind_some, Sum.elim_inl, a0, Option.bind_some, gd_pos (by rw [Dn_P a2]; exact hlt), Dn_P a2, Dn_I a2, h1.2.1.1.2.1, nI_add, walksC h3 a1 (by rw [Dn_P a2, Dn_I a2]; exact h1.2.1.1.2.1) (by omega) (by omega), Option.bind_some]
    · unfold fX6_expectedWalks
      simp only [l_0, l_1]
      rw [isNight_Y hn, Option.bind_some, if_pos (by decide), b0, Option.bind_some, allBeds_s (Dn_Cur b2 C0) h3.1, Option.bind_some, nI_add, walksR (Dn_Cur b2 C0) h3 b1' (by omega) (by omega), Option.bind_some]
      exact ⟨_, rfl, rfl, h60, hJ⟩
  · refine ANd_no hIn 3 1 (by decide) ?_ ?_
    · unfold fX5_expectedWalks
      rw [chkN_N q, Option.bind_some, Sum.elim_inr]
    · unfold fX6_expectedWalks
      simp only [l_0, l_1]
      rw [isNight_N q, Option.bind_some, if_neg (by decide)]
      exact ref_noD 1
end
