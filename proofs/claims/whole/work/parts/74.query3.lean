/-! layer 2: questions about beds and money, the rest -/
/-- an answer of a method that throws nothing -/
def A0 (c : Option Int32) (r : Option (Int32 × Mem)) (J : Mem → Prop) : Prop := ∃ x, c = some x ∧ OkQ r (fun q => q.1 = x ∧ J q.2)
section
variable {σ μ : Mem} {ρ : RwQ}
theorem ref_p0 {g : Mem → Option (Int32 × Mem)} (C : Cur μ 0 ρ) (hW : WF ρ) (v : Int32) (hg : ∀ m, Cur m 0 ρ → PMQ m (plc ρ) → g m = some (v, m)) : OkQ ((fX6_placesAll (wI μ 60 0 0 (nI 0))).bind g) (fun q => q.1 = v ∧ QTQ μ q.2) :=
  Ok_mono (ref_pl C hW v hg) (fun q h => ⟨h.1, h.2.2⟩)
theorem A0_walkCost (h1 : I1 σ ρ) (C : Cur μ 0 ρ) (h3 : I3 ρ) : A0 (fX5_walkCost σ) (fX6_walkCost μ) (QTQ μ) := by
  refine ⟨nI (sumNQ (wkB ρ (plc ρ)) (ρ 37)), ?_, ?_⟩
  · unfold fX5_walkCost
    rw [h1.2.2.2.2.2]
  · unfold fX6_walkCost
    simp only [l_0]
    refine ref_p0 C h3.1 _ (fun m c H => ?_)
    rw [walksCost_s c H (plc_PB h3) h3.1] <;> rfl
theorem A0_net (h1 : I1 σ ρ) (C : Cur μ 0 ρ) (h3 : I3 ρ) : A0 (fX5_net σ) (fX6_net μ) (QTQ μ) := by
  refine ⟨netV ρ, ?_, ?_⟩
  · unfold fX5_net netV
    rw [h1.2.2.2.2.2, h1.2.2.2.2.1]
  · unfold fX6_net
    simp only [l_0]
    refine Ok_bind (netNow_s (cur0 C) h3.1) ?_
    rintro ⟨r1, r2⟩ ⟨g1, g2, g3⟩
    exact ⟨_, rfl, g1, QT_tr QT_60 (QT_pl g3)⟩
theorem A0_splits (h1 : I1 σ ρ) (C : Cur μ 0 ρ) (h3 : I3 ρ) : A0 (fX5_splits σ) (fX6_splits μ) (QTQ μ) := by
  have h17 := h3.2.2
  have hlt := I1_lt h1
  refine ⟨nI (sumNQ (fun b => b1 (decide ((plc ρ).2.1 b = 2))) (ρ 37)), ?_, ?_⟩
  · have e : loop (stX5_splits_4 σ) 5000 (nI 0, nI 0) = some (nI (sumNQ (fun b => b1 (decide ((plc ρ).2.1 b = 2))) (ρ 37))) := by
      refine loop_st (ρ 37) (fun k => (nI (sumNQ (fun b => b1 (decide ((plc ρ).2.1 b = 2))) k), nI k)) (by omega) rfl ?_ ?_
      · intro k hk
        have hb3 := (plc_PB h3).2.1 k
        unfold stX5_splits_4 jX5_splits_31
        try dsimp only
        simp only [l_1, l_2]
        rw [gd_pos hlt, h1.2.1.1.2.2.1, if_neg (nI_ge hk (by omega)), gd_inb (by omega) (by omega), nI_clamp (by omega), h1.2.2.1.2.1 k (by omega)]; simp (disch := omega) only [nI_eq]
        simp only [nI_add]
        show _ = some (Sum.inl (nI (sumNQ (fun b => b1 (decide ((plc ρ).2.1 b = 2))) k + b1 (decide ((plc ρ).2.1 k = 2))), nI (k + 1)))
        by_cases w : (plc ρ).2.1 k = 2
        · rw [if_neg (fun v => v w), decide_eq_true w] <;> rfl
        · rw [if_pos w, decide_eq_false w] <;> rfl
      · unfold stX5_splits_4
        try dsimp only
        rw [gd_pos hlt, h1.2.1.1.2.2.1, if_pos (nI_le (Nat.le_refl _) (by omega))]
    unfold fX5_splits
    simp only [l_0]
    rw [e] <;> rfl
  · unfold fX6_splits
    simp only [l_0]
    refine ref_p0 C h3.1 _ (fun m c H => ?_)
    have e : loop (stX6_splits_13 m) 5000 (nI 0, nI 0) = some (nI (sumNQ (fun b => b1 (decide ((plc ρ).2.1 b = 2))) (ρ 37))) := by
      refine loop_st (ρ 37) (fun k => (nI (sumNQ (fun b => b1 (decide ((plc ρ).2.1 b = 2))) k), nI k)) (by omega) rfl ?_ ?_
      · intro k hk
        have hb3 := (plc_PB h3).2.1 k
        unfold stX6_splits_13 jX6_splits_39
        try dsimp only
        simp only [l_0, l_1, l_2, l_37]
        rw [get_s c (by omega), Option.bind_some, if_neg (nI_ge hk (by omega)), gd_inb (by omega) (by omega), nI_clamp (by omega), H.2.1 k (by omega)]; simp (disch := omega) only [nI_eq]
        simp only [nI_add]
        show _ = some (Sum.inl (nI (sumNQ (fun b => b1 (decide ((plc ρ).2.1 b = 2))) k + b1 (decide ((plc ρ).2.1 k = 2))), nI (k + 1)))
        by_cases w : (plc ρ).2.1 k = 2
        · rw [if_neg (fun v => v w), decide_eq_true w] <;> rfl
        · rw [if_pos w, decide_eq_false w] <;> rfl
      · unfold stX6_splits_13
        try dsimp only
        simp only [l_37]
        rw [get_s c (by omega), Option.bind_some, if_pos (nI_le (Nat.le_refl _) (by omega))]
    rw [e] <;> rfl
def fuN (ρ : RwQ) (n : Nat) : Nat := b1 (decide (0 < ρ 4 ∧ sumNQ (fun r => tkN (plc ρ).1 r n) (ρ 4) = allB ρ))
theorem occ_le (h : RwQ) (n : Nat) {k : Nat} (hk : k ≤ 8) : sumNQ (fun r => tkN h r n) k ≤ 80 := by
  have := sumN_le (f := fun r => tkN h r n) (c := 10) (n := k) (fun r _ => tkN_le h r n)
  omega
theorem A0_full (h1 : I1 σ ρ) (C : Cur μ 0 ρ) (h3 : I3 ρ) : A0 (fX5_fullNights σ) (fX6_fullNights μ) (QTQ μ) := by
  have h8 := h3.1.1
  have hlt := I1_lt h1
  have hal := allB_le h3.1
  refine ⟨nI (sumNQ (fuN ρ) 30), ?_, ?_⟩
  · have e : loop (stX5_fullNights_4 σ) 5000 (nI 0, nI 0) = some (nI (sumNQ (fuN ρ) 30)) := by
      refine loop_st 30 (fun k => (nI (sumNQ (fuN ρ) k), nI k)) (by omega) rfl ?_ ?_
      · intro k hk
        have hoc := occ_le (plc ρ).1 k h8
        unfold stX5_fullNights_4 jX5_fullNights_38
        try dsimp only
        simp only [l_0, l_1, l_30]
        rw [if_neg (nI_ge hk (by omega)), gd_pos hlt, h1.2.1.1.1, h1.2.1.1.2.1, takenBeds_h h1 h3 hk, Option.bind_some]; simp (disch := omega) only [nI_leI, nI_eq]
        simp only [nI_add]
        show _ = some (Sum.inl (nI (sumNQ (fuN ρ) k + fuN ρ k), nI (k + 1)))
        unfold fuN
        by_cases w : ρ 4 ≤ 0
        · rw [if_pos w, decide_eq_false (by omega)] <;> rfl
        · rw [if_neg w]
          by_cases v : sumNQ (fun r => tkN (plc ρ).1 r k) (ρ 4) = allB ρ
          · rw [if_neg (fun z => z v), decide_eq_true ⟨by omega, v⟩] <;> rfl
          · rw [if_pos v, decide_eq_false (fun z => v z.2)] <;> rfl
      · unfold stX5_fullNights_4
        try dsimp only
        simp only [l_30]
        rw [if_pos (nI_le (Nat.le_refl _) (by omega))]
    unfold fX5_fullNights
    simp only [l_0]
    rw [e] <;> rfl
  · unfold fX6_fullNights
    simp only [l_0]
    refine ref_p0 C h3.1 _ (fun m c H => ?_)
    have e : loop (stX6_fullNights_13 m) 5000 (nI 0, nI 0) = some (nI (sumNQ (fuN ρ) 30)) := by
      refine loop_st 30 (fun k => (nI (sumNQ (fuN ρ) k), nI k)) (by omega) rfl ?_ ?_
      · intro k hk
        have hoc := occ_le (plc ρ).1 k h8
        unfold stX6_fullNights_13 jX6_fullNights_44 jX6_fullNights_45
        try dsimp only
        simp only [l_0, l_1, l_4, l_30]
        rw [if_neg (nI_ge hk (by omega)), get_s c (by omega), Option.bind_some, occupiedIn_s c H (plc_PB h3) h3.1 (PI_plc h3.1) hk, Option.bind_some, allBeds_s c h3.1, Option.bind_some]; simp (disch := omega) only [nI_leI, nI_eq]
        simp only [nI_add]
        show _ = some (Sum.inl (nI (sumNQ (fuN ρ) k + fuN ρ k), nI (k + 1)))
        unfold fuN
        by_cases w : ρ 4 ≤ 0
        · rw [if_pos w, decide_eq_false (by omega)] <;> rfl
        · rw [if_neg w]
          by_cases v : sumNQ (fun r => tkN (plc ρ).1 r k) (ρ 4) = allB ρ
          · rw [if_neg (fun z => z v), decide_eq_true ⟨by omega, v⟩] <;> rfl
          · rw [if_pos v, decide_eq_false (fun z => v z.2)] <;> rfl
      · unfold stX6_fullNights_13
        try dsimp only
        simp only [l_30]
        rw [if_pos (nI_le (Nat.le_refl _) (by omega))]
    rw [e] <;> rfl
/-- nights free one after the other: the greatest number, the number that ends here -/
def lfS (h : RwQ) (x : Nat) : Nat → Nat × Nat
  | 0 => (0, 0)
  | n + 1 => (if (lfS h x n).1 < (if h (30 * x + n) = 0 then (lfS h x n).2 + 1 else 0) then (if h (30 * x + n) = 0 then (lfS h x n).2 + 1 else 0) else (lfS h x n).1, if h (30 * x + n) = 0 then (lfS h x n).2 + 1 else 0)
theorem lfS_0 {h : RwQ} {x n : Nat} (w : h (30 * x + n) = 0) : lfS h x (n + 1) = (if (lfS h x n).1 < (lfS h x n).2 + 1 then (lfS h x n).2 + 1 else (lfS h x n).1, (lfS h x n).2 + 1) := by
  show (if (lfS h x n).1 < (if h (30 * x + n) = 0 then (lfS h x n).2 + 1 else 0) then (if h (30 * x + n) = 0 then (lfS h x n).2 + 1 else 0) else (lfS h x n).1, if h (30 * x + n) = 0 then (lfS h x n).2 + 1 else 0) = _
  simp only [if_pos w]
theorem lfS_1 {h : RwQ} {x n : Nat} (w : ¬ h (30 * x + n) = 0) : lfS h x (n + 1) = ((lfS h x n).1, 0) := by
  show (if (lfS h x n).1 < (if h (30 * x + n) = 0 then (lfS h x n).2 + 1 else 0) then (if h (30 * x + n) = 0 then (lfS h x n).2 + 1 else 0) else (lfS h x n).1, if h (30 * x + n) = 0 then (lfS h x n).2 + 1 else 0) = _
  simp only [if_neg w]
  rw [if_neg (by omega)]
theorem lfS_le (h : RwQ) (x : Nat) : ∀ n, (lfS h x n).1 ≤ n ∧ (lfS h x n).2 ≤ n := by
  intro n
  induction n with
  | zero => exact ⟨Nat.le_refl _, Nat.le_refl _⟩
  | succ n ih =>
    by_cases w : h (30 * x + n) = 0
    · rw [lfS_0 w]
      refine ⟨?_, by show (lfS h x n).2 + 1 ≤ n + 1; omega⟩
      show (if (lfS h x n).1 < (lfS h x n).2 + 1 then (lfS h x n).2 + 1 else (lfS h x n).1) ≤ n + 1
      split <;> omega
    · rw [lfS_1 w]
      exact ⟨by show (lfS h x n).1 ≤ n + 1; omega, Nat.zero_le _⟩
theorem AN_longest (h1 : I1 σ ρ) (C : Cur μ 0 ρ) (h3 : I3 ρ) (p1 p2 : Int32) : ANQ (fX5_longestFree p1 p2 σ) (fX6_longestFree p1 p2 μ) [(3, 1)] (QTQ μ) := by
  have h8 := h3.1.1
  have C0 := cur0 C
  by_cases hx : ∃ r d, r < ρ 4 ∧ d < rmv ρ r 1 ∧ p1 = nI r ∧ p2 = nI d
  · obtain ⟨r, d, hr, hd, rfl, rfl⟩ := hx
    have h10 := (h3.1.2.2.2.1 r hr).2.1.2
    refine AN_ok (nI (lfS (plc ρ).1 (10 * r + d) 30).1) ?_ ?_
    · have e : loop (stX5_longestFree_14 (nI r) (nI d) σ) 5000 (nI 0, nI 0, nI 0) = some (nI (lfS (plc ρ).1 (10 * r + d) 30).1) := by
        refine loop_st 30 (fun k => (nI (lfS (plc ρ).1 (10 * r + d) k).1, nI (lfS (plc ρ).1 (10 * r + d) k).2, nI k)) (by omega) rfl ?_ ?_
        · intro k hk
          obtain ⟨l1, l2⟩ := lfS_le (plc ρ).1 (10 * r + d) k
          unfold stX5_longestFree_14 jX5_longestFree_47
          try dsimp only
          simp only [l_0, l_1, l_10, l_30]
          rw [if_neg (nI_ge hk (by omega)), pk_mul, nI_add, Nat.mul_comm r 10, isBusy_h h1.2.2.1.1 (by omega) hk, Option.bind_some]; simp (disch := omega) only [b1_z]
          simp (disch := omega) only [nI_add, nI_ltI]
          by_cases w : (plc ρ).1 (30 * (10 * r + d) + k) = 0
          · rw [if_pos (decide_eq_false (fun v => v w)), lfS_0 w]
            by_cases v : (lfS (plc ρ).1 (10 * r + d) k).1 < (lfS (plc ρ).1 (10 * r + d) k).2 + 1
            · rw [if_pos v, if_pos v]
            · rw [if_neg v, if_neg v]
          · rw [if_neg (by rw [decide_eq_true w]; decide), lfS_1 w]
            rw [if_neg (by omega)]
        · unfold stX5_longestFree_14
          try dsimp only
          simp only [l_30]
          rw [if_pos (nI_le (Nat.le_refl _) (by omega))]
      unfold fX5_longestFree
      simp only [l_0]
      rw [chkBed_Y h1 h3 hr hd, Option.bind_some, Sum.elim_inl, e] <;> rfl
    · unfold fX6_longestFree
      simp only [l_0, l_1]
      rw [isBed_Y C0 h3 hr hd, Option.bind_some, if_pos (by decide)]
      refine ref_pl C h3.1 _ (fun m c H => ?_)
      have e : loop (stX6_longestFree_32 (nI r) (nI d) m) 5000 (nI 0, nI 0, nI 0) = some (nI (lfS (plc ρ).1 (10 * r + d) 30).1) := by
        refine loop_st 30 (fun k => (nI (lfS (plc ρ).1 (10 * r + d) k).1, nI (lfS (plc ρ).1 (10 * r + d) k).2, nI k)) (by omega) rfl ?_ ?_
        · intro k hk
          obtain ⟨l1, l2⟩ := lfS_le (plc ρ).1 (10 * r + d) k
          have hle := (plc_PB h3).1 (30 * (10 * r + d) + k)
          have e1 : (10 * r + d) * 30 + k = 30 * (10 * r + d) + k := by omega
          unfold stX6_longestFree_32 jX6_longestFree_63 jX6_longestFree_74 fX6_spot
          try dsimp only
          simp only [l_0, l_1, l_10, l_30, Option.bind_some, nI_add, pk_mul]
          rw [if_neg (nI_ge hk (by omega)), gd_inb (by omega) (by omega), nI_clamp (by omega), e1, H.1 _ (by omega)]; simp (disch := omega) only [mI_z]
          simp (disch := omega) only [nI_leI]
          by_cases w : (plc ρ).1 (30 * (10 * r + d) + k) = 0
          · rw [if_neg (fun v => v w), lfS_0 w]
            by_cases v : (lfS (plc ρ).1 (10 * r + d) k).1 < (lfS (plc ρ).1 (10 * r + d) k).2 + 1
            · rw [if_neg (by omega), if_pos v]
            · rw [if_pos (by omega), if_neg v]
          · rw [if_pos w, lfS_1 w]
            rw [if_pos (by omega)]
        · unfold stX6_longestFree_32
          try dsimp only
          simp only [l_30]
          rw [if_pos (nI_le (Nat.le_refl _) (by omega))]
      rw [e] <;> rfl
  · refine AN_no 3 1 (by decide) ?_ ?_
    · unfold fX5_longestFree
      rw [chkBed_N h1 h3 hx, Option.bind_some, Sum.elim_inr]
    · unfold fX6_longestFree
      simp only [l_0, l_1]
      rw [isBed_N C0 h3 hx, Option.bind_some, if_neg (by decide)]
      exact ref_no 1
/-- a bed of the booking that isn't free in the night -/
def nfP (ρ : RwQ) (b n p : Nat) : Bool := decide ((plc ρ).1 (30 * ((plc ρ).2.2 (12 * b + p) - 1) + n) ≠ 0)
def afB (ρ : RwQ) (b n : Nat) : Bool := decide (fstN (nfP ρ b n) (prs ρ b) = prs ρ b)
theorem afB_iff {ρ : RwQ} {b n : Nat} : afB ρ b n = true ↔ fstN (nfP ρ b n) (prs ρ b) = prs ρ b := by
  unfold afB
  rw [decide_eq_true_iff]
theorem areFree_h (h1 : I1 σ ρ) (h3 : I3 ρ) {b n : Nat} (hb : b < ρ 37) (hp : hasB (plc ρ) b = true) (hn : n < 30) : fX3_areBedsFree 0 (nI b) (nI (prs ρ b)) (nI n) σ = some (nI (b1 (afB ρ b n))) := by
  have h17 := h3.2.2
  have h8 := h3.1.1
  have hpr := WF_prs h3.1 hb
  have hstep : ∀ k, k < prs ρ b → stX3_areBedsFree_3 (nI (prs ρ b)) (nI b) 0 σ (nI n) (nI k) = if nfP ρ b n k = true then some (.inr (.inr (nI 0))) else some (.inl (nI (k + 1))) := by
    intro k hk
    obtain ⟨x, x1, x2, -⟩ := (PI_plc h3.1).2 b hb (hasB_pl hp) k hk
    unfold stX3_areBedsFree_3
    simp only [l_0, l_1, l_12]
    rw [if_neg (nI_ge hk (by omega)), pk_mul, nI_add, gd_inb (by omega) (by omega), nI_clamp (by omega), Nat.mul_comm b 12, h1.2.2.1.2.2 _ (by omega) (by omega), x1, Nat.add_sub_cancel, isBusy_h h1.2.2.1.1 (by omega) hn, Option.bind_some]; simp (disch := omega) only [b1_z]; rw [nI_add]
    unfold nfP
    rw [x1, Nat.add_sub_cancel]
    cases decide ((plc ρ).1 (30 * x + n) ≠ 0)
    · rw [if_pos rfl, if_neg (by decide)]
    · rw [if_neg (by decide), if_pos rfl]
  have e : loop (stX3_areBedsFree_3 (nI (prs ρ b)) (nI b) 0 σ (nI n)) 5000 (nI 0) = some (if afB ρ b n = true then .inl () else .inr (nI 0)) := by
    have hle := fstN_le (nfP ρ b n) (prs ρ b)
    refine loop_st (fstN (nfP ρ b n) (prs ρ b)) (fun k => nI k) (by omega) rfl ?_ ?_
    · intro k hk
      show stX3_areBedsFree_3 _ _ _ _ _ (nI k) = _
      rw [hstep k (by omega), if_neg (by rw [fstN_no hk]; decide)]
    · show stX3_areBedsFree_3 _ _ _ _ _ (nI (fstN (nfP ρ b n) (prs ρ b))) = _
      by_cases hf : fstN (nfP ρ b n) (prs ρ b) = prs ρ b
      · rw [hf, if_pos (afB_iff.mpr hf)]
        unfold stX3_areBedsFree_3
        exact if_pos (nI_le (Nat.le_refl _) (by omega))
      · rw [hstep _ (by omega), if_pos (fstN_yes (by omega)), if_neg (fun q => hf (afB_iff.mp q))]
  unfold fX3_areBedsFree
  simp only [l_0, l_1]
  rw [e, Option.bind_some]
  cases afB ρ b n <;> rfl
theorem areFree_s {m : Mem} (c : Cur m 0 ρ) (H : PMQ m (plc ρ)) (h3 : I3 ρ) {b n : Nat} (hb : b < ρ 37) (hp : hasB (plc ρ) b = true) (hn : n < 30) : fX6_areFree (nI b) (nI n) m = some (nI (b1 (afB ρ b n))) := by
  have h17 := h3.2.2
  have h8 := h3.1.1
  have hpr := WF_prs h3.1 hb
  have hstep : ∀ k, k < prs ρ b → stX6_areFree_2 (nI b) m (nI n) (nI k) = if nfP ρ b n k = true then some (.inr (.inr (nI 0))) else some (.inl (nI (k + 1))) := by
    intro k hk
    obtain ⟨x, x1, x2, -⟩ := (PI_plc h3.1).2 b hb (hasB_pl hp) k hk
    obtain ⟨y1, y2⟩ := H.2.2 (12 * b + k) (by omega) (by omega)
    rw [x1, Nat.add_sub_cancel] at y1 y2
    have hle := (plc_PB h3).1 (30 * x + n)
    have e1 : (10 * (x / 10) + x % 10) * 30 + n = 30 * x + n := by omega
    unfold stX6_areFree_2 fX6_spot
    simp only [l_0, l_1, l_10, l_12, l_30, Option.bind_some]
    rw [persons_s c (by omega), Option.bind_some, if_neg (nI_ge hk (by omega)), pk_mul, nI_add, gd_inb (by omega) (by omega), nI_clamp (by omega), y1, y2, pk_mul, nI_add, pk_mul, nI_add, gd_inb (by omega) (by omega), nI_clamp (by omega), e1, H.1 _ (by omega)]; simp (disch := omega) only [mI_z]; rw [nI_add]
    unfold nfP
    rw [x1, Nat.add_sub_cancel]
    by_cases w : (plc ρ).1 (30 * x + n) = 0
    · rw [if_pos w, decide_eq_false (fun v => v w), if_neg (by decide)]
    · rw [if_neg w, decide_eq_true w, if_pos rfl]
  have e : loop (stX6_areFree_2 (nI b) m (nI n)) 5000 (nI 0) = some (if afB ρ b n = true then .inl () else .inr (nI 0)) := by
    have hle := fstN_le (nfP ρ b n) (prs ρ b)
    refine loop_st (fstN (nfP ρ b n) (prs ρ b)) (fun k => nI k) (by omega) rfl ?_ ?_
    · intro k hk
      show stX6_areFree_2 _ _ _ (nI k) = _
      rw [hstep k (by omega), if_neg (by rw [fstN_no hk]; decide)]
    · show stX6_areFree_2 _ _ _ (nI (fstN (nfP ρ b n) (prs ρ b))) = _
      by_cases hf : fstN (nfP ρ b n) (prs ρ b) = prs ρ b
      · rw [hf, if_pos (afB_iff.mpr hf)]
        unfold stX6_areFree_2
        rw [persons_s c (by omega), Option.bind_some]
        exact if_pos (nI_le (Nat.le_refl _) (by omega))
      · rw [hstep _ (by omega), if_pos (fstN_yes (by omega)), if_neg (fun q => hf (afB_iff.mp q))]
  unfold fX6_areFree
  simp only [l_0, l_1]
  rw [e, Option.bind_some]
  cases afB ρ b n <;> rfl
theorem AN_extend (h1 : I1 σ ρ) (C : Cur μ 0 ρ) (h3 : I3 ρ) (p1 : Int32) : ANQ (fX5_extendable p1 σ) (fX6_extendable p1 μ) [(3, 1)] (QTQ μ) := by
  have h17 := h3.2.2
  have C0 := cur0 C
  have hlt := I1_lt h1
  rcases ix_em p1 (ρ 37) with ⟨b, hb, rfl⟩ | q
  · have hw := h3.1.2.2.2.2 b hb
    have hw30 := hw.2.1.2
    have hBk := h1.2.1.1.2.2.2.2.2.2.2.2 b hb
    have hhb := hasBeds_h h1.2.2.1 (plc_PB h3) (b := b) (by omega)
    obtain ⟨N, hN⟩ : ∃ N, N = fstN (fun k => !afB ρ b (bkv ρ b 0 + bkv ρ b 1 + k)) (30 - (bkv ρ b 0 + bkv ρ b 1)) := ⟨_, rfl⟩
    have hNle : N ≤ 30 - (bkv ρ b 0 + bkv ρ b 1) := by rw [hN]; exact fstN_le _ _
    cases hh : hasB (plc ρ) b
    · refine AN_ok (nI 0) ?_ ?_
      · unfold fX5_extendable
        simp only [l_0]
        rw [chkB_Y h1 h3 hb, Option.bind_some, Sum.elim_inl, hhb, Option.bind_some]; simp (disch := omega) only [b1_z]
        rw [if_neg (fun w => w hh)]
      · unfold fX6_extendable
        simp only [l_0, l_1]
        rw [isBooking_Y C0 hb (by omega), Option.bind_some, if_pos (by decide)]
        refine ref_pl C h3.1 _ (fun m c H => ?_)
        rw [hasBeds_s H (plc_PB h3) (by omega), Option.bind_some]; simp (disch := omega) only [b1_z]
        rw [if_neg (fun w => w hh)]
    · refine AN_ok (nI N) ?_ ?_
      · have e : loop (stX5_extendable_41 (nI b) σ) 5000 (nI (bkv ρ b 0 + bkv ρ b 1)) = some (nI (bkv ρ b 0 + bkv ρ b 1 + N)) := by
          refine loop_st N (fun k => nI (bkv ρ b 0 + bkv ρ b 1 + k)) (by omega) rfl ?_ ?_
          · intro k hk
            have hno := fstN_no (p := fun k => !afB ρ b (bkv ρ b 0 + bkv ρ b 1 + k)) (n := 30 - (bkv ρ b 0 + bkv ρ b 1)) (i := k) (by omega)
            unfold stX5_extendable_41
            simp only [l_0, l_1, l_30]
            rw [if_neg (nI_ge (by omega) (by omega)), nI_clamp (by omega), hBk.2.2.2.2.1, areFree_h h1 h3 hb hh (by omega), Option.bind_some]; simp (disch := omega) only [b1_z]; rw [nI_add]
            rw [if_neg (by simpa using hno)] <;> rfl
          · unfold stX5_extendable_41
            simp only [l_0, l_1, l_30]
            by_cases hf : N = 30 - (bkv ρ b 0 + bkv ρ b 1)
            · rw [if_pos (nI_le (by omega) (by omega))]
            · have hyes := fstN_yes (p := fun k => !afB ρ b (bkv ρ b 0 + bkv ρ b 1 + k)) (n := 30 - (bkv ρ b 0 + bkv ρ b 1)) (by omega)
              rw [← hN] at hyes
              rw [if_neg (nI_ge (by omega) (by omega)), nI_clamp (by omega), hBk.2.2.2.2.1, areFree_h h1 h3 hb hh (by omega), Option.bind_some]; simp (disch := omega) only [b1_z]
              rw [if_pos (by simpa using hyes)]
        unfold fX5_extendable
        simp only [l_0]
        rw [chkB_Y h1 h3 hb, Option.bind_some, Sum.elim_inl, hhb, Option.bind_some]; simp (disch := omega) only [b1_z]
        rw [if_pos (by rw [hh]; decide), gd_pos hlt, gd_inb (by omega) (by omega), nI_clamp (by omega), hBk.1, hBk.2.1, nI_add, e, Option.bind_some, pk_sub (by omega), Nat.add_sub_cancel_left]
      · unfold fX6_extendable
        simp only [l_0, l_1]
        rw [isBooking_Y C0 hb (by omega), Option.bind_some, if_pos (by decide)]
        refine ref_pl C h3.1 _ (fun m c H => ?_)
        have e : loop (stX6_extendable_49 (nI b) m) 5000 (nI (bkv ρ b 0 + bkv ρ b 1)) = some (nI (bkv ρ b 0 + bkv ρ b 1 + N)) := by
          refine loop_st N (fun k => nI (bkv ρ b 0 + bkv ρ b 1 + k)) (by omega) rfl ?_ ?_
          · intro k hk
            have hno := fstN_no (p := fun k => !afB ρ b (bkv ρ b 0 + bkv ρ b 1 + k)) (n := 30 - (bkv ρ b 0 + bkv ρ b 1)) (i := k) (by omega)
            unfold stX6_extendable_49
            simp only [l_0, l_1, l_30]
            rw [if_neg (nI_ge (by omega) (by omega)), areFree_s c H h3 hb hh (by omega), Option.bind_some]; simp (disch := omega) only [b1_z]; rw [nI_add]
            rw [if_neg (by simpa using hno)] <;> rfl
          · unfold stX6_extendable_49
            simp only [l_0, l_1, l_30]
            by_cases hf : N = 30 - (bkv ρ b 0 + bkv ρ b 1)
            · rw [if_pos (nI_le (by omega) (by omega))]
            · have hyes := fstN_yes (p := fun k => !afB ρ b (bkv ρ b 0 + bkv ρ b 1 + k)) (n := 30 - (bkv ρ b 0 + bkv ρ b 1)) (by omega)
              rw [← hN] at hyes
              rw [if_neg (nI_ge (by omega) (by omega)), areFree_s c H h3 hb hh (by omega), Option.bind_some]; simp (disch := omega) only [b1_z]
              rw [if_pos (by simpa using hyes)]
        rw [hasBeds_s H (plc_PB h3) (by omega), Option.bind_some]; simp (disch := omega) only [b1_z]
        rw [if_pos (by rw [hh]; decide), of_s c (by omega) (by omega), Option.bind_some, of_s c (by omega) (by omega), Option.bind_some, nI_add, e, Option.bind_some, pk_sub (by omega), Nat.add_sub_cancel_left]
  · refine AN_no 3 1 (by decide) ?_ ?_
    · unfold fX5_extendable
      rw [chkB_N h1 h3 q, Option.bind_some, Sum.elim_inr]
    · unfold fX6_extendable
      simp only [l_0, l_1]
      rw [isBooking_N C0 (by omega) q, Option.bind_some, if_neg (by decide)]
      exact ref_no 1
end
