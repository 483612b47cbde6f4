/-! layer 2: sums of chances -/
def sm (f : Nat → UInt64) (a : Nat) : Nat → UInt64
  | 0 => 0
  | k + 1 => FP.dadd (sm f a k) (f (a + k))
def wkO (ρ : RwQ) (n i : Nat) : UInt64 := FP.dmul (FP.i2d (nI (i - allB ρ))) (od ρ n (ρ 37) i)
section
variable {σ μ : Mem} {ρ : RwQ} {s n a M : Nat} {f : Nat → UInt64}
theorem sm_FC (hf : ∀ i, FC M (f i)) (hM : M ≤ 1500) : ∀ k, k ≤ 205 → FC (M + 2 * k) (sm f a k) := by
  intro k
  induction k with
  | zero => intro _; exact FC_0
  | succ k ih =>
    intro hk
    exact FC_mono (FC_dadd (ih (by omega)) (FC_mono (hf (a + k)) (by omega)) (by omega)) (by omega)
theorem sm_end (hf : ∀ i, FC M (f i)) (hM : M ≤ 1500) (hz : ∀ i, 193 ≤ i → f i = 0) (ha : a ≤ 193) : ∀ d, d ≤ 12 → sm f a (193 - a + d) = sm f a (193 - a) := by
  intro d
  induction d with
  | zero => intro _; rfl
  | succ d ih =>
    intro hd
    show FP.dadd (sm f a (193 - a + d)) (f (a + (193 - a + d))) = _
    rw [hz _ (by omega), ih (by omega)]
    exact dadd0 (sm_FC hf hM (193 - a) (by omega)).2
theorem wkO_FC (h3 : I3 ρ) (n : Nat) {i : Nat} (hi : i < 205) : FC 1113 (wkO ρ n i) := by
  have h16 := h3.2.2
  have h1 : FC (1021 + 9) (FP.i2d (nI (i - allB ρ))) := chkF_FC (i2d_ok (i - allB ρ) (by omega))
  have h2 : FC 1102 (od ρ n (ρ 37) i) := FC_mono (od_FC h3.1 n (ρ 37) (Nat.le_refl _) i) (by omega)
  exact FC_mono (FC_dmul h1 h2 (by omega) (by omega)) (by omega)
theorem wkO_end (h3 : I3 ρ) (n : Nat) {i : Nat} (hi : 193 ≤ i) (hi2 : i < 205) : wkO ρ n i = 0 := by
  unfold wkO
  rw [od_end h3 n hi]
  exact (dmul0 (K := 1030) (chkF_FC (i2d_ok (i - allB ρ) (by omega)))).1
def wkP (ρ : RwQ) (n i : Nat) : UInt64 := if i < 205 then wkO ρ n i else 0
theorem wkP_FC (h3 : I3 ρ) (n i : Nat) : FC 1113 (wkP ρ n i) := by
  unfold wkP
  split
  · exact wkO_FC h3 n (by assumption)
  · exact FC_0
theorem wkP_end (h3 : I3 ρ) (n : Nat) {i : Nat} (hi : 193 ≤ i) : wkP ρ n i = 0 := by
  unfold wkP
  split
  · exact wkO_end h3 n hi (by assumption)
  · rfl
theorem odP_FC (h3 : I3 ρ) (n i : Nat) : FC 1102 (od ρ n (ρ 37) i) := FC_mono (od_FC h3.1 n (ρ 37) (Nat.le_refl _) i) (by have := h3.2.2; omega)
theorem riskC (h3 : I3 ρ) (hd : ∀ k, k < 193 → rD σ 0 0 k = od ρ n (ρ 37) k) (ha : a ≤ 193) : loop (stX5_risk_22 σ) 5000 (FP.dconst0, nI a) = some (sm (od ρ n (ρ 37)) a (193 - a)) := by
  refine loop_st (193 - a) (fun k => (sm (od ρ n (ρ 37)) a k, nI (a + k))) (by omega) rfl ?_ ?_
  · intro k hk
    have hF : FC _ (FP.dadd (sm (od ρ n (ρ 37)) a k) (od ρ n (ρ 37) (a + k))) := sm_FC (a := a) (odP_FC h3 n) (by omega) (k + 1) (by omega)
    unfold stX5_risk_22
    simp only [l_1, l_193]
    rw [if_neg (nI_ge (by omega) (by omega)), gd_inb (by omega) (by omega), nI_clamp (by omega), hd (a + k) (by omega), nI_add, gd_pos (FC_n64 hF)]
    rfl
  · unfold stX5_risk_22
    simp only [l_1, l_193]
    rw [if_pos (nI_le (by omega) (by omega))]
theorem walksC (h3 : I3 ρ) (hd : ∀ k, k < 193 → rD σ 0 0 k = od ρ n (ρ 37) k) (h21 : rI σ 21 (rP σ 0) 0 = nI (allB ρ)) (ha : a ≤ 193) (haB : allB ρ ≤ a) : loop (stX5_expectedWalks_22 σ) 5000 (FP.dconst0, nI a) = some (sm (wkP ρ n) a (193 - a)) := by
  refine loop_st (193 - a) (fun k => (sm (wkP ρ n) a k, nI (a + k))) (by omega) rfl ?_ ?_
  · intro k hk
    have hF : FC _ (FP.dadd (sm (wkP ρ n) a k) (wkP ρ n (a + k))) := sm_FC (a := a) (wkP_FC h3 n) (by omega) (k + 1) (by omega)
    have hF2 := wkO_FC h3 n (i := a + k) (by omega)
    have e : FP.dmul (FP.i2d (nI (a + k - allB ρ))) (od ρ n (ρ 37) (a + k)) = wkP ρ n (a + k) := (if_pos (show a + k < 205 by omega)).symm
    unfold stX5_expectedWalks_22
    simp only [l_1, l_193]
    rw [if_neg (nI_ge (by omega) (by omega)), gd_inb (by omega) (by omega), nI_clamp (by omega), hd (a + k) (by omega), h21, pk_sub (by omega), nI_add, e, gd_pos (FC_n64 (wkP_FC h3 n (a + k))), gd_pos (FC_n64 hF)]
    rfl
  · unfold stX5_expectedWalks_22
    simp only [l_1, l_193]
    rw [if_pos (nI_le (by omega) (by omega))]
end
