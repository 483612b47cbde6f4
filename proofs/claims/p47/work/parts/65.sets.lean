/-! layer 2: least sets of rooms -/
theorem bit_t {S k : Nat} : S / 2 ^ k % 2 = b1 (S.testBit k) := by
  rw [Nat.testBit_eq_decide_div_mod_eq]
  have : S / 2 ^ k % 2 = 0 ∨ S / 2 ^ k % 2 = 1 := by omega
  rcases this with q | q
  · rw [q] <;> rfl
  · rw [q] <;> rfl
/-- a set without a room -/
def rmB (S r : Nat) : Nat := S ^^^ 2 ^ r
theorem rmB_ne {S r k : Nat} (h : k ≠ r) : rmB S r / 2 ^ k % 2 = S / 2 ^ k % 2 := by
  rw [bit_t, bit_t]
  unfold rmB
  rw [Nat.testBit_xor, Nat.testBit_two_pow, decide_eq_false (fun q => h q.symm), Bool.xor_false]
theorem rmB_eq {S r : Nat} (h : S / 2 ^ r % 2 = 1) : rmB S r / 2 ^ r % 2 = 0 := by
  rw [bit_t] at h ⊢
  unfold rmB
  rw [Nat.testBit_xor, Nat.testBit_two_pow, decide_eq_true rfl]
  cases q : S.testBit r
  · rw [q] at h; cases h
  · rfl
theorem rmB_lt {S r n : Nat} (hS : S < 2 ^ n) (hr : r < n) : rmB S r < 2 ^ n := Nat.xor_lt_two_pow hS (Nat.pow_lt_pow_right (by omega) hr)
theorem rmB_pc {S r : Nat} (h : S / 2 ^ r % 2 = 1) (hr : r < 8) : pc (rmB S r) + 1 = pc S := by
  have := sumN_up (f := fun k => rmB S r / 2 ^ k % 2) (g := fun k => S / 2 ^ k % 2) (n := 8) (k := r) hr (fun i _ hne => rmB_ne hne)
  try dsimp only at this
  rw [rmB_eq h, h] at this
  unfold pc
  omega
theorem rmB_sumK {ρ : RwQ} {F : Nat → Nat} {S r kd : Nat} (h : S / 2 ^ r % 2 = 1) (hr : r < ρ 4) : sumK ρ F (rmB S r) kd + (if rmv ρ r 0 = kd then F r else 0) = sumK ρ F S kd := by
  have := sumN_up (f := sumKT ρ F (rmB S r) kd) (g := sumKT ρ F S kd) (n := ρ 4) (k := r) hr (fun i _ hne => by unfold sumKT; rw [rmB_ne hne])
  unfold sumK
  unfold sumKT at this ⊢
  rw [rmB_eq h] at this
  rw [if_neg (fun q : (0 = 1 ∧ rmv ρ r 0 = kd) => absurd q.1 (by omega))] at this
  by_cases q : rmv ρ r 0 = kd
  · rw [if_pos ⟨h, q⟩] at this
    rw [if_pos q]
    omega
  · rw [if_neg (fun w => q w.2)] at this
    rw [if_neg q]
    omega
theorem enough_ne {ρ : RwQ} {F : Nat → Nat} {b S : Nat} (hp : 1 ≤ prs ρ b) (hE : enoughQ ρ F b S = true) : S ≠ 0 := by
  intro h
  subst h
  have z : ∀ kd, sumK ρ F 0 kd = 0 := fun kd => sumN_zero fun r _ => if_neg (fun q => by have := q.1; rw [Nat.zero_div] at this; cases this)
  unfold enoughQ at hE
  have := of_decide_eq_true hE
  rw [z, z, z] at this
  unfold prs at hp
  omega
theorem stS_min {ρ h : RwQ} {b : Nat} : ∀ k, (stSQ ρ h b k ≠ 0 → subM ρ b (stSQ ρ h b k) = true ∧ enoughQ ρ (freeC ρ h b) b (stSQ ρ h b k) = true) ∧ (∀ T, 1 ≤ T → T ≤ k → subM ρ b T = true → enoughQ ρ (freeC ρ h b) b T = true → stSQ ρ h b k ≠ 0 ∧ (pc (stSQ ρ h b k) < pc T ∨ (pc (stSQ ρ h b k) = pc T ∧ stSQ ρ h b k ≤ T))) := by
  intro k
  induction k with
  | zero => exact ⟨fun q => absurd rfl q, fun T h1 h2 => by omega⟩
  | succ k ih =>
    obtain ⟨i1, i2⟩ := ih
    have hle := stS_le (ρ := ρ) (h := h) (b := b) k
    have eS : stSQ ρ h b (k + 1) = if subM ρ b (k + 1) = true ∧ (stSQ ρ h b k = 0 ∨ pc (k + 1) < pc (stSQ ρ h b k)) ∧ enoughQ ρ (freeC ρ h b) b (k + 1) = true then k + 1 else stSQ ρ h b k := rfl
    by_cases hc : subM ρ b (k + 1) = true ∧ (stSQ ρ h b k = 0 ∨ pc (k + 1) < pc (stSQ ρ h b k)) ∧ enoughQ ρ (freeC ρ h b) b (k + 1) = true
    · rw [if_pos hc] at eS
      rw [eS]
      refine ⟨fun _ => ⟨hc.1, hc.2.2⟩, fun T h1 h2 h3 h4 => ⟨by omega, ?_⟩⟩
      by_cases hT : T = k + 1
      · subst hT; exact Or.inr ⟨rfl, Nat.le_refl _⟩
      · obtain ⟨j1, j2⟩ := i2 T h1 (by omega) h3 h4
        rcases hc.2.1 with q | q
        · exact absurd q j1
        · omega
    · rw [if_neg hc] at eS
      rw [eS]
      refine ⟨i1, fun T h1 h2 h3 h4 => ?_⟩
      by_cases hT : T = k + 1
      · subst hT
        by_cases q : stSQ ρ h b k = 0
        · exact absurd ⟨h3, Or.inl q, h4⟩ hc
        · refine ⟨q, ?_⟩
          have : ¬ pc (k + 1) < pc (stSQ ρ h b k) := fun w => hc ⟨h3, Or.inr w, h4⟩
          omega
      · exact i2 T h1 (by omega) h3 h4
/-- each room of the least set is used -/
theorem used_all {ρ : RwQ} {b S : Nat} {h sl : RwQ} (hW : WF ρ) (hb : b < ρ 37) (hS : S < 2 ^ (ρ 4)) (hsub : subM ρ b S = true) (hE : enoughQ ρ (freeC ρ h b) b S = true) (hmin : ∀ T, 1 ≤ T → T < 2 ^ (ρ 4) → subM ρ b T = true → enoughQ ρ (freeC ρ h b) b T = true → pc S ≤ pc T) {r : Nat} (hr : r < ρ 4) (hbit : S / 2 ^ r % 2 = 1) : usd ρ b S h sl r (prs ρ b) ≠ 0 := by
  intro hu
  have hw := hW.2.2.2.2 b hb
  have hp := WF_prs hW hb
  obtain ⟨-, hall⟩ := give_all (sl := sl) hW hb hE (prs ρ b) (Nat.le_refl _)
  obtain ⟨c0, c1, c2⟩ := kdN_all hW (prs ρ b) hall
  have hpe : prs ρ b = bkv ρ b 2 + bkv ρ b 3 := rfl
  have hle : ∀ kd, kdN ρ b S h sl kd (prs ρ b) ≤ sumK ρ (freeC ρ h b) (rmB S r) kd := by
    intro kd
    rw [← kdN_usd (prs ρ b) hall]
    refine sumN_le2 fun i hi => ?_
    unfold sumKT
    by_cases hir : i = r
    · subst hir
      rw [hu]
      split <;> omega
    · rw [rmB_ne hir]
      have := usd_free (sl := sl) (S := S) hW hb (prs ρ b) hall i hi
      split <;> omega
  have l0 := hle 0
  have l1 := hle 1
  have l2 := hle 2
  have hE2 : enoughQ ρ (freeC ρ h b) b (rmB S r) = true := by
    unfold enoughQ
    apply decide_eq_true
    have c1' : kdN ρ b S h sl 1 (prs ρ b) ≤ bkv ρ b 2 := by
      by_cases q : prs ρ b < bkv ρ b 2
      · rw [if_pos q] at c1; omega
      · rw [if_neg q] at c1; exact c1
    omega
  have hsub2 : subM ρ b (rmB S r) = true := by
    rw [subM_iff] at hsub ⊢
    intro i hi h2
    by_cases hir : i = r
    · subst hir; rw [rmB_eq hbit] at h2; omega
    · rw [rmB_ne hir] at h2; exact hsub i hi h2
  have h1 := hmin (rmB S r) (by have := enough_ne hp.1 hE2; omega) (rmB_lt hS hr) hsub2 hE2
  have h2 := rmB_pc hbit (by have := hW.1; omega)
  omega
/-- the sets as the class looks at them: rooms that can't be used have nothing free -/
def fU (ρ h : RwQ) (b r : Nat) : Nat := if canU ρ b r = true then freeC ρ h b r else 0
def clS (ρ h : RwQ) (b : Nat) : Nat → Nat
  | 0 => 2 ^ (ρ 4) - 1
  | k + 1 => if pc (k + 1) < pc (clS ρ h b k) ∧ enoughQ ρ (fU ρ h b) b (k + 1) = true then k + 1 else clS ρ h b k
def clR (ρ h : RwQ) (b : Nat) : Nat := if enoughQ ρ (fU ρ h b) b (2 ^ (ρ 4) - 1) = true then clS ρ h b (2 ^ (ρ 4) - 2) else 0
theorem fU_sub {ρ h : RwQ} {b S kd : Nat} (hs : subM ρ b S = true) : sumK ρ (fU ρ h b) S kd = sumK ρ (freeC ρ h b) S kd := by
  rw [subM_iff] at hs
  refine sumN_congr fun r hr => ?_
  unfold sumKT
  by_cases q : S / 2 ^ r % 2 = 1 ∧ rmv ρ r 0 = kd
  · rw [if_pos q, if_pos q]
    unfold fU
    rw [if_pos (hs r hr q.1)]
  · rw [if_neg q, if_neg q]
theorem enough_fU {ρ h : RwQ} {b S : Nat} (hs : subM ρ b S = true) : enoughQ ρ (fU ρ h b) b S = enoughQ ρ (freeC ρ h b) b S := by
  unfold enoughQ
  rw [fU_sub hs, fU_sub hs, fU_sub hs]
theorem all_bit {n r : Nat} (hr : r < n) : (2 ^ n - 1) / 2 ^ r % 2 = 1 := by
  rw [bit_t, Nat.testBit_two_pow_sub_one, decide_eq_true hr] <;> rfl
theorem enough_mono {ρ : RwQ} {F : Nat → Nat} {b S : Nat} (hE : enoughQ ρ F b S = true) : enoughQ ρ F b (2 ^ (ρ 4) - 1) = true := by
  have hle : ∀ kd, sumK ρ F S kd ≤ sumK ρ F (2 ^ (ρ 4) - 1) kd := by
    intro kd
    refine sumN_le2 fun r hr => ?_
    unfold sumKT
    rw [all_bit hr]
    by_cases q : S / 2 ^ r % 2 = 1 ∧ rmv ρ r 0 = kd
    · rw [if_pos q, if_pos ⟨rfl, q.2⟩]; exact Nat.le_refl _
    · rw [if_neg q]; exact Nat.zero_le _
  have l0 := hle 0
  have l1 := hle 1
  have l2 := hle 2
  unfold enoughQ at hE ⊢
  have := of_decide_eq_true hE
  apply decide_eq_true
  omega
theorem pc_all {ρ : RwQ} (h8 : ρ 4 ≤ 8) {S : Nat} (hS : S < 2 ^ (ρ 4)) : pc S ≤ pc (2 ^ (ρ 4) - 1) := by
  refine sumN_le2 fun k hk => ?_
  by_cases q : k < ρ 4
  · rw [all_bit q]; omega
  · rw [bit_hi hS (by omega)]; exact Nat.zero_le _
theorem clS_le {ρ h : RwQ} {b : Nat} : ∀ k, k ≤ 2 ^ (ρ 4) - 1 → clS ρ h b k ≤ 2 ^ (ρ 4) - 1 := by
  intro k
  induction k with
  | zero => intro _; exact Nat.le_refl _
  | succ k ih =>
    intro hk
    unfold clS
    split
    · exact hk
    · exact ih (by omega)
theorem clS_min {ρ h : RwQ} {b : Nat} (h8 : ρ 4 ≤ 8) (hall : enoughQ ρ (fU ρ h b) b (2 ^ (ρ 4) - 1) = true) : ∀ k, k < 2 ^ (ρ 4) → enoughQ ρ (fU ρ h b) b (clS ρ h b k) = true ∧ (clS ρ h b k = 2 ^ (ρ 4) - 1 ∨ clS ρ h b k ≤ k) ∧ (∀ T, 1 ≤ T → T ≤ k → enoughQ ρ (fU ρ h b) b T = true → pc (clS ρ h b k) < pc T ∨ (pc (clS ρ h b k) = pc T ∧ clS ρ h b k ≤ T) ∨ (pc (clS ρ h b k) = pc T ∧ pc T = pc (2 ^ (ρ 4) - 1))) := by
  have hpp := pow_pos (ρ 4)
  intro k
  induction k with
  | zero => intro _; exact ⟨hall, Or.inl rfl, fun T h1 h2 => by omega⟩
  | succ k ih =>
    intro hk
    obtain ⟨i1, i2, i3⟩ := ih (by omega)
    have eS : clS ρ h b (k + 1) = if pc (k + 1) < pc (clS ρ h b k) ∧ enoughQ ρ (fU ρ h b) b (k + 1) = true then k + 1 else clS ρ h b k := rfl
    by_cases hc : pc (k + 1) < pc (clS ρ h b k) ∧ enoughQ ρ (fU ρ h b) b (k + 1) = true
    · rw [if_pos hc] at eS
      rw [eS]
      refine ⟨hc.2, Or.inr (Nat.le_refl _), fun T h1 h2 h3 => ?_⟩
      by_cases hT : T = k + 1
      · subst hT; exact Or.inr (Or.inl ⟨rfl, Nat.le_refl _⟩)
      · have := i3 T h1 (by omega) h3
        omega
    · rw [if_neg hc] at eS
      rw [eS]
      refine ⟨i1, by omega, fun T h1 h2 h3 => ?_⟩
      by_cases hT : T = k + 1
      · subst hT
        have hq : ¬ pc (k + 1) < pc (clS ρ h b k) := fun w => hc ⟨w, h3⟩
        have hp1 := pc_all h8 (S := k + 1) hk
        rcases i2 with q | q
        · rw [q] at hq ⊢
          omega
        · omega
      · exact i3 T h1 (by omega) h3
/-- a set with all rooms' number of rooms is all of them -/
theorem pc_full {ρ : RwQ} (h8 : ρ 4 ≤ 8) {S : Nat} (hS : S < 2 ^ (ρ 4)) (hp : pc S = pc (2 ^ (ρ 4) - 1)) : S = 2 ^ (ρ 4) - 1 := by
  have key : ∀ r, r < ρ 4 → S / 2 ^ r % 2 = 1 := by
    intro r hr
    by_cases q : S / 2 ^ r % 2 = 1
    · exact q
    · have q0 : S / 2 ^ r % 2 = 0 := by omega
      have h1 := pc_all h8 (S := rmB (2 ^ (ρ 4) - 1) r) (rmB_lt (by have := pow_pos (ρ 4); omega) hr)
      have h2 := rmB_pc (S := 2 ^ (ρ 4) - 1) (r := r) (all_bit hr) (by omega)
      have h3 : pc S ≤ pc (rmB (2 ^ (ρ 4) - 1) r) := by
        refine sumN_le2 fun k hk => ?_
        by_cases hkr : k = r
        · subst hkr; rw [q0]; exact Nat.zero_le _
        · rw [rmB_ne hkr]
          by_cases w : k < ρ 4
          · rw [all_bit w]; omega
          · rw [bit_hi hS (by omega)]; exact Nat.zero_le _
      omega
  apply Nat.eq_of_testBit_eq
  intro i
  rw [Nat.testBit_two_pow_sub_one]
  by_cases hi : i < ρ 4
  · rw [decide_eq_true hi, Nat.testBit_eq_decide_div_mod_eq, decide_eq_true (key i hi)]
  · rw [decide_eq_false hi]
    exact Nat.testBit_lt_two_pow (Nat.lt_of_lt_of_le hS (Nat.pow_le_pow_right (by omega) (by omega)))
/-- both ways to look for the least set find the same one -/
theorem clR_stR {ρ h : RwQ} {b : Nat} (hW : WF ρ) (hb : b < ρ 37) : clR ρ h b = stRQ ρ h b := by
  have h8 := hW.1
  have hp := WF_prs hW hb
  have hpp := pow_pos (ρ 4)
  obtain ⟨s1, s2⟩ := stS_min (ρ := ρ) (h := h) (b := b) (2 ^ (ρ 4) - 1)
  have hsle := stS_le (ρ := ρ) (h := h) (b := b) (2 ^ (ρ 4) - 1)
  have eR : stRQ ρ h b = stSQ ρ h b (2 ^ (ρ 4) - 1) := rfl
  rw [← eR] at s1 s2 hsle
  unfold clR
  by_cases hall : enoughQ ρ (fU ρ h b) b (2 ^ (ρ 4) - 1) = true
  · rw [if_pos hall]
    have hne := enough_ne hp.1 hall
    obtain ⟨c1, c2, c3⟩ := clS_min h8 hall (2 ^ (ρ 4) - 2) (by omega)
    have hcle := clS_le (ρ := ρ) (h := h) (b := b) (2 ^ (ρ 4) - 2) (by omega)
    generalize clS ρ h b (2 ^ (ρ 4) - 2) = B at c1 c2 c3 hcle
    have hBne := enough_ne hp.1 c1
    have hmin : ∀ T, 1 ≤ T → T < 2 ^ (ρ 4) → enoughQ ρ (fU ρ h b) b T = true → pc B < pc T ∨ (pc B = pc T ∧ B ≤ T) := by
      intro T h1 h2 h3
      by_cases hT : T = 2 ^ (ρ 4) - 1
      · have := pc_all h8 (S := B) (by omega)
        rw [hT]
        omega
      · rcases c3 T h1 (by omega) h3 with q | q | q
        · exact Or.inl q
        · exact Or.inr q
        · exact absurd (pc_full h8 h2 q.2) hT
    have hsub : subM ρ b B = true := by
      rw [subM_iff]
      intro r hr hbit
      by_cases q : canU ρ b r = true
      · exact q
      · have hz : fU ρ h b r = 0 := if_neg q
        have hk : ∀ kd, sumK ρ (fU ρ h b) (rmB B r) kd = sumK ρ (fU ρ h b) B kd := by
          intro kd
          have := rmB_sumK (F := fU ρ h b) (kd := kd) hbit hr
          rw [hz] at this
          split at this <;> omega
        have hE2 : enoughQ ρ (fU ρ h b) b (rmB B r) = true := by
          unfold enoughQ at c1 ⊢
          rw [hk, hk, hk]; exact c1
        have h1 := hmin (rmB B r) (by have := enough_ne hp.1 hE2; omega) (rmB_lt (by omega) hr) hE2
        have h2 := rmB_pc hbit (by omega)
        omega
    have hEF : enoughQ ρ (freeC ρ h b) b B = true := by rw [← enough_fU hsub]; exact c1
    obtain ⟨j1, j2⟩ := s2 B (by omega) hcle hsub hEF
    obtain ⟨k1, k2⟩ := s1 j1
    have h3 := hmin (stRQ ρ h b) (by omega) (by omega) (by rw [enough_fU k1]; exact k2)
    omega
  · rw [if_neg hall]
    by_cases q : stRQ ρ h b = 0
    · exact q.symm
    · obtain ⟨k1, k2⟩ := s1 q
      exact absurd (enough_mono (by rw [enough_fU k1]; exact k2)) hall
