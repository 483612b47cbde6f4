/-! layer 2: questions about beds and money: what both sides say of a placing -/
def hasB (π : PnQ) (b : Nat) : Bool := decide (π.2.1 b = 1 ∨ π.2.1 b = 2)
def tkN (h : RwQ) (r n : Nat) : Nat := sumNQ (fun d => b1 (decide (h (30 * (10 * r + d) + n) ≠ 0))) 10
def frN (ρ h : RwQ) (r n : Nat) : Nat := sumNQ (fun d => b1 (decide (h (30 * (10 * r + d) + n) = 0))) (rmv ρ r 1)
theorem sumN_one (n : Nat) : sumNQ (fun _ => 1) n = n := by
  induction n with
  | zero => rfl
  | succ n ih => show sumNQ (fun _ => 1) n + 1 = n + 1; rw [ih]
theorem PI_out {ρ : RwQ} {π : PnQ} (hI : PI ρ π) {x n : Nat} (hn : n < 30) (hx : ¬ (x < 10 * ρ 4 ∧ x % 10 < rmv ρ (x / 10) 1)) : π.1 (30 * x + n) = 0 := by
  rcases Nat.eq_zero_or_pos (π.1 (30 * x + n)) with q | q
  · exact q
  · obtain ⟨v, v1, v2, v3, v4, p, p1, p2⟩ := hI.1 x n hn (by omega)
    obtain ⟨y, y1, y2, y3, -⟩ := hI.2 v v2 v4 p p1
    have : y = x := by omega
    subst this
    exact absurd ⟨y2, y3⟩ hx
theorem tk_fr {ρ : RwQ} {π : PnQ} (hW : WF ρ) (hI : PI ρ π) {r n : Nat} (hr : r < ρ 4) (hn : n < 30) : tkN π.1 r n + frN ρ π.1 r n = rmv ρ r 1 := by
  have h10 := (hW.2.2.2.1 r hr).2.1.2
  have e1 : tkN π.1 r n = sumNQ (fun d => b1 (decide (π.1 (30 * (10 * r + d) + n) ≠ 0))) (rmv ρ r 1) := by
    have e0 : tkN π.1 r n = sumNQ (fun d => b1 (decide (π.1 (30 * (10 * r + d) + n) ≠ 0))) (rmv ρ r 1 + (10 - rmv ρ r 1)) := by
      unfold tkN
      congr 1
      omega
    rw [e0, sumN_split, sumN_zero (f := fun k => b1 (decide (π.1 (30 * (10 * r + (rmv ρ r 1 + k)) + n) ≠ 0)))]
    · exact Nat.add_zero _
    · intro k hk
      have := PI_out hI (x := 10 * r + (rmv ρ r 1 + k)) hn (fun q => by
        have e : (10 * r + (rmv ρ r 1 + k)) / 10 = r := by omega
        rw [e] at q; omega)
      show b1 (decide _) = 0
      rw [decide_eq_false (fun q => q this)] <;> rfl
  rw [e1]
  unfold frN
  rw [← sumN_add]
  have : sumNQ (fun k => b1 (decide (π.1 (30 * (10 * r + k) + n) ≠ 0)) + b1 (decide (π.1 (30 * (10 * r + k) + n) = 0))) (rmv ρ r 1) = sumNQ (fun _ => 1) (rmv ρ r 1) := sumN_congr fun k _ => by
    show b1 _ + b1 _ = 1
    by_cases q : π.1 (30 * (10 * r + k) + n) = 0
    · rw [decide_eq_false (fun w => w q), decide_eq_true q] <;> rfl
    · rw [decide_eq_true q, decide_eq_false q] <;> rfl
  rw [this, sumN_one]
section
variable {σ : Mem} {q : Nat} {ρ : RwQ} {π : PnQ}
theorem hasBeds_h (H : PC σ q π) (hB : PBQ π) {b : Nat} (hb : b < 17) : fX3_hasBeds q (nI b) σ = some (nI (b1 (hasB π b))) := by
  have h3 := hB.2.1 b
  unfold fX3_hasBeds jX3_hasBeds_20 hasB
  simp only [l_0, l_1, l_2]
  rw [gd_inb (by omega) (by omega), nI_clamp (by omega), H.2.1 b hb]; simp (disch := omega) only [nI_eq]
  by_cases q1 : π.2.1 b = 1
  · rw [if_pos q1, decide_eq_true (Or.inl q1)] <;> rfl
  · by_cases q2 : π.2.1 b = 2
    · rw [if_neg q1, if_neg (fun w => w q2), decide_eq_true (Or.inr q2)] <;> rfl
    · rw [if_neg q1, if_pos q2, decide_eq_false (by omega)] <;> rfl
theorem isBusy_h {h : RwQ} (H : PCb σ q h) {x n : Nat} (hx : x < 80) (hn : n < 30) : fX3_isBusy q (nI x) (nI n) σ = some (nI (b1 (decide (h (30 * x + n) ≠ 0)))) := by
  obtain ⟨B, b1', b2, b3⟩ := H x hx
  have hb : B / 2 ^ n % 2 = b1 (decide (h (30 * x + n) ≠ 0)) := by rw [bit_t, b3 n hn]
  unfold fX3_isBusy
  simp only [l_0, l_1]
  rw [gd_inb (by omega) (by omega), nI_clamp (by omega), b2, nI_bit (by omega) (by omega), hb]
  cases decide (h (30 * x + n) ≠ 0)
  · exact if_pos (by decide)
  · exact if_neg (by decide)
theorem taken_h {h : RwQ} (H : PCb σ q h) {r n : Nat} (hr : r < 8) (hn : n < 30) : fX3_taken q (nI r) (nI n) σ = some (nI (tkN h r n)) := by
  have e : loop (stX3_taken_8 (nI r) q (nI n) σ) 5000 (nI 0, nI r * nI 10) = some (nI (tkN h r n)) := by
    refine loop_st 10 (fun k => (nI (sumNQ (fun d => b1 (decide (h (30 * (10 * r + d) + n) ≠ 0))) k), nI (10 * r + k))) (by omega) (by rw [pk_mul, Nat.mul_comm] <;> rfl) ?_ ?_
    · intro k hk
      unfold stX3_taken_8 jX3_taken_32
      try dsimp only
      simp only [l_0, l_1, l_10]
      rw [nI_add, pk_mul, if_neg (nI_ge (by omega) (by omega)), isBusy_h H (by omega) hn, Option.bind_some]; simp (disch := omega) only [b1_z]
      simp only [nI_add]
      show _ = some (Sum.inl (nI (sumNQ (fun d => b1 (decide (h (30 * (10 * r + d) + n) ≠ 0))) k + b1 (decide (h (30 * (10 * r + k) + n) ≠ 0))), nI (10 * r + k + 1)))
      by_cases w : h (30 * (10 * r + k) + n) = 0
      · rw [decide_eq_false (fun v => v w), if_pos rfl] <;> rfl
      · rw [decide_eq_true w, if_neg (by decide)] <;> rfl
    · unfold stX3_taken_8
      try dsimp only
      simp only [l_1, l_10]
      rw [nI_add, pk_mul, if_pos (nI_le (by omega) (by omega))] <;> rfl
  unfold fX3_taken
  simp only [l_0, l_10]
  rw [e] <;> rfl
end
section
variable {μ : Mem} {s : Nat} {ρ : RwQ} {π : PnQ}
theorem hasBeds_s (H : PMQ μ π) (hB : PBQ π) {b : Nat} (hb : b < 17) : fX6_hasBeds (nI b) μ = some (nI (b1 (hasB π b))) := by
  have h3 := hB.2.1 b
  unfold fX6_hasBeds jX6_hasBeds_20 hasB
  simp only [l_0, l_1, l_2]
  rw [gd_inb (by omega) (by omega), nI_clamp (by omega), H.2.1 b hb]; simp (disch := omega) only [nI_eq]
  by_cases q1 : π.2.1 b = 1
  · rw [if_pos q1, decide_eq_true (Or.inl q1)] <;> rfl
  · by_cases q2 : π.2.1 b = 2
    · rw [if_neg q1, if_neg (fun w => w q2), decide_eq_true (Or.inr q2)] <;> rfl
    · rw [if_neg q1, if_pos q2, decide_eq_false (by omega)] <;> rfl
theorem freeIn_s (C : Cur μ s ρ) (H : PMQ μ π) (hB : PBQ π) (hW : WF ρ) {r n : Nat} (hr : r < ρ 4) (hn : n < 30) : fX6_freeIn (nI r) (nI n) μ = some (nI (frN ρ π.1 r n)) := by
  have h8 := hW.1
  have h10 := (hW.2.2.2.1 r hr).2.1.2
  have e : loop (stX6_freeIn_5 (nI r) μ (nI n)) 5000 (nI 0, nI 0) = some (nI (frN ρ π.1 r n)) := by
    refine loop_st (rmv ρ r 1) (fun k => (nI (sumNQ (fun d => b1 (decide (π.1 (30 * (10 * r + d) + n) = 0))) k), nI k)) (by omega) rfl ?_ ?_
    · intro k hk
      have hle := hB.1 (30 * (10 * r + k) + n)
      have e1 : (10 * r + k) * 30 + n = 30 * (10 * r + k) + n := by omega
      unfold stX6_freeIn_5 jX6_freeIn_38 fX6_spot
      try dsimp only
      simp only [l_0, l_1, l_10, l_30, Option.bind_some]
      rw [roomIs_s C (by omega) (by omega), Option.bind_some, if_neg (nI_ge hk (by omega))]
      simp only [nI_add, pk_mul]
      rw [gd_inb (by omega) (by omega), nI_clamp (by omega), e1, H.1 _ (by omega)]; simp (disch := omega) only [mI_z]
      show _ = some (Sum.inl (nI (sumNQ (fun d => b1 (decide (π.1 (30 * (10 * r + d) + n) = 0))) k + b1 (decide (π.1 (30 * (10 * r + k) + n) = 0))), nI (k + 1)))
      by_cases w : π.1 (30 * (10 * r + k) + n) = 0
      · rw [if_neg (fun v => v w), decide_eq_true w] <;> rfl
      · rw [if_pos w, decide_eq_false w] <;> rfl
    · unfold stX6_freeIn_5
      try dsimp only
      simp only [l_1]
      rw [roomIs_s C (by omega) (by omega), Option.bind_some, if_pos (nI_le (Nat.le_refl _) (by omega))] <;> rfl
  unfold fX6_freeIn
  simp only [l_0]
  rw [e] <;> rfl
theorem frN_le (hW : WF ρ) (hI : PI ρ π) {r n : Nat} (hr : r < ρ 4) (hn : n < 30) : frN ρ π.1 r n ≤ rmv ρ r 1 := by
  have := tk_fr hW hI hr hn
  omega
theorem tkN_le (h : RwQ) (r n : Nat) : tkN h r n ≤ 10 := by
  have := sumN_le (f := fun d => b1 (decide (h (30 * (10 * r + d) + n) ≠ 0))) (c := 1) (n := 10) (fun d _ => b1_le _)
  unfold tkN
  omega
theorem occupiedIn_s (C : Cur μ s ρ) (H : PMQ μ π) (hB : PBQ π) (hW : WF ρ) (hI : PI ρ π) {n : Nat} (hn : n < 30) : fX6_occupiedIn (nI n) μ = some (nI (sumNQ (fun r => tkN π.1 r n) (ρ 4))) := by
  have h8 := hW.1
  have e : loop (stX6_occupiedIn_4 μ (nI n)) 5000 (nI 0, nI 0) = some (nI (sumNQ (fun r => tkN π.1 r n) (ρ 4))) := by
    refine loop_st (ρ 4) (fun k => (nI (sumNQ (fun r => tkN π.1 r n) k), nI k)) (by omega) rfl ?_ ?_
    · intro k hk
      have h1 := tk_fr hW hI hk hn
      unfold stX6_occupiedIn_4
      try dsimp only
      simp only [l_1, l_4]
      rw [get_s C (by omega), Option.bind_some, if_neg (nI_ge hk (by omega)), roomIs_s C (by omega) (by omega), Option.bind_some, freeIn_s C H hB hW hk hn, Option.bind_some, pk_sub (by omega)]
      simp only [nI_add]
      show _ = some (Sum.inl (nI (sumNQ (fun r => tkN π.1 r n) k + tkN π.1 k n), nI (k + 1)))
      rw [show rmv ρ k 1 - frN ρ π.1 k n = tkN π.1 k n by omega]
    · unfold stX6_occupiedIn_4
      try dsimp only
      simp only [l_4]
      rw [get_s C (by omega), Option.bind_some, if_pos (nI_le (Nat.le_refl _) (by omega))] <;> rfl
  unfold fX6_occupiedIn
  simp only [l_0]
  rw [e] <;> rfl
/-- persons walked in a night -/
def wkdT (ρ : RwQ) (π : PnQ) (n b : Nat) : Nat := if π.2.1 b = 3 ∧ staysQ ρ b n = true then prs ρ b else 0
def wkdN (ρ : RwQ) (π : PnQ) (n : Nat) : Nat := sumNQ (wkdT ρ π n) (ρ 37)
theorem wkdN_le (hW : WF ρ) {n k : Nat} (hk : k ≤ ρ 37) : sumNQ (wkdT ρ π n) k ≤ 204 := by
  have h17 := hW.2.1
  have := sumN_le (f := wkdT ρ π n) (c := 12) (n := k) (fun b hb => by
    have := WF_prs hW (show b < ρ 37 by omega)
    unfold wkdT
    split <;> omega)
  omega
theorem walkedIn_s (C : Cur μ s ρ) (H : PMQ μ π) (hB : PBQ π) (hW : WF ρ) {n : Nat} (hn : n < 30) : fX6_walkedIn (nI n) μ = some (nI (wkdN ρ π n)) := by
  have h17 := hW.2.1
  have e : loop (stX6_walkedIn_4 μ (nI n)) 5000 (nI 0, nI 0) = some (nI (wkdN ρ π n)) := by
    refine loop_st (ρ 37) (fun k => (nI (sumNQ (wkdT ρ π n) k), nI k)) (by omega) rfl ?_ ?_
    · intro k hk
      have hw := hW.2.2.2.2 k hk
      have h3 := hB.2.1 k
      unfold stX6_walkedIn_4 jX6_walkedIn_42 jX6_walkedIn_43
      try dsimp only
      simp only [l_0, l_1, l_3, l_37]
      rw [get_s C (by omega), Option.bind_some, if_neg (nI_ge hk (by omega)), gd_inb (by omega) (by omega), nI_clamp (by omega), H.2.1 k (by omega)]; simp (disch := omega) only [nI_eq]; rw [staysIn_s C (by omega) hw (by omega), Option.bind_some]; simp (disch := omega) only [b1_z]; rw [persons_s C (by omega), Option.bind_some]
      simp only [nI_add]
      show _ = some (Sum.inl (nI (sumNQ (wkdT ρ π n) k + wkdT ρ π n k), nI (k + 1)))
      unfold wkdT
      by_cases w : π.2.1 k = 3
      · rw [if_neg (fun v => v w)]
        by_cases hs : staysQ ρ k n = true
        · rw [if_neg (by rw [hs]; decide), if_pos ⟨w, hs⟩]
        · rw [if_pos (by simpa using hs), if_neg (fun v => hs v.2)]
      · rw [if_pos w, if_neg (fun v => w v.1)]
    · unfold stX6_walkedIn_4
      try dsimp only
      simp only [l_37]
      rw [get_s C (by omega), Option.bind_some, if_pos (nI_le (Nat.le_refl _) (by omega))] <;> rfl
  unfold fX6_walkedIn
  simp only [l_0]
  rw [e] <;> rfl
theorem pdT_le (hW : WF ρ) (hI : PI ρ π) {b p : Nat} (hb : b < ρ 37) (hp : plcd π b) (hpp : p < prs ρ b) : pdT ρ π b p ≤ 6000 := by
  have hw := hW.2.2.2.2 b hb
  obtain ⟨x, x1, x2, -⟩ := hI.2 b hb hp p hpp
  unfold pdT
  rw [x1, Nat.add_sub_cancel]
  have h1 := (hW.2.2.2.1 (x / 10) (by omega)).2.2.2.2
  exact Nat.mul_le_mul h1 (show bkv ρ b 1 ≤ 30 by have := hw.2.1.2; omega)
theorem pdS_le (hW : WF ρ) (hI : PI ρ π) {b k : Nat} (hb : b < ρ 37) (hp : plcd π b) (hk : k ≤ prs ρ b) : sumNQ (pdT ρ π b) k ≤ 72000 := by
  have hpr := WF_prs hW hb
  have := sumN_le (f := pdT ρ π b) (c := 6000) (n := k) (fun p hpp => pdT_le hW hI hb hp (by omega))
  omega
theorem pdB_le (hW : WF ρ) (hI : PI ρ π) {b : Nat} (hb : b < ρ 37) : pdB ρ π b ≤ 72000 := by
  unfold pdB
  split
  · next h => exact disc_le (pdS_le hW hI hb h (Nat.le_refl _))
  · omega
theorem pdA_le (hW : WF ρ) (hI : PI ρ π) {k : Nat} (hk : k ≤ ρ 37) : sumNQ (pdB ρ π) k ≤ 1224000 := by
  have h17 := hW.2.1
  have := sumN_le (f := pdB ρ π) (c := 72000) (n := k) (fun b hb => pdB_le hW hI (by omega))
  omega
theorem wkB_le (hW : WF ρ) {b : Nat} (hb : b < ρ 37) : wkB ρ π b ≤ 108000 := by
  have hw := hW.2.2.2.2 b hb
  have hp := WF_prs hW hb
  unfold wkB
  split
  · have h1 : ρ 1 * prs ρ b ≤ 300 * 12 := Nat.mul_le_mul hW.2.2.1.2.1 hp.2
    have h2 : ρ 1 * prs ρ b * bkv ρ b 1 ≤ 300 * 12 * 30 := Nat.mul_le_mul h1 (show bkv ρ b 1 ≤ 30 by have := hw.2.1.2; omega)
    omega
  · omega
theorem wkA_le (hW : WF ρ) {k : Nat} (hk : k ≤ ρ 37) : sumNQ (wkB ρ π) k ≤ 1836000 := by
  have h17 := hW.2.1
  have := sumN_le (f := wkB ρ π) (c := 108000) (n := k) (fun b hb => wkB_le hW (by omega))
  omega
theorem paidBy_s (C : Cur μ s ρ) (H : PMQ μ π) (hB : PBQ π) (hW : WF ρ) (hI : PI ρ π) {b : Nat} (hb : b < ρ 37) : fX6_paidBy (nI b) μ = some (nI (pdB ρ π b)) := by
  have h8 := hW.1
  have h17 := hW.2.1
  have hw := hW.2.2.2.2 b hb
  have hpr := WF_prs hW hb
  have hw30 := hw.2.1.2
  obtain ⟨s0, s1, s2, s3⟩ := hW.2.2.1
  unfold fX6_paidBy
  simp only [l_0, l_1, l_2, l_3, l_100]
  rw [hasBeds_s H hB (by omega), Option.bind_some]; simp (disch := omega) only [b1_z]
  unfold pdB
  by_cases hp : π.2.1 b = 1 ∨ π.2.1 b = 2
  · have hh : hasB π b = true := decide_eq_true hp
    rw [if_pos (by rw [hh]; decide), if_pos hp]
    have hall := pdS_le hW hI hb hp (Nat.le_refl _)
    have e : loop (stX6_paidBy_14 (nI b) μ) 5000 (nI 0, nI 0) = some (nI (sumNQ (pdT ρ π b) (prs ρ b))) := by
      refine loop_st (prs ρ b) (fun k => (nI (sumNQ (pdT ρ π b) k), nI k)) (by omega) rfl ?_ ?_
      · intro k hk
        obtain ⟨x, x1, x2, -⟩ := hI.2 b hb hp k hk
        have hsl := (H.2.2 (12 * b + k) (by omega) (by omega)).1
        rw [x1, Nat.add_sub_cancel] at hsl
        unfold stX6_paidBy_14
        try dsimp only
        simp only [l_1, l_3, l_12]
        rw [persons_s C (by omega), Option.bind_some, if_neg (nI_ge hk (by omega)), pk_mul, nI_add, gd_inb (by omega) (by omega), nI_clamp (by omega), hsl, roomIs_s C (by omega) (by omega), Option.bind_some, of_s C (by omega) (by omega), Option.bind_some]
        simp only [pk_mul, nI_add]
        show _ = some (Sum.inl (nI (sumNQ (pdT ρ π b) k + pdT ρ π b k), nI (k + 1)))
        unfold pdT
        rw [x1, Nat.add_sub_cancel]
      · unfold stX6_paidBy_14
        try dsimp only
        rw [persons_s C (by omega), Option.bind_some, if_pos (nI_le (Nat.le_refl _) (by omega))] <;> rfl
    rw [e, Option.bind_some, of_s C (by omega) (by omega), Option.bind_some, get_s C (by omega), Option.bind_some, get_s C (by omega), Option.bind_some]; simp (disch := omega) only [nI_ltI]; rw [pk_sub (by omega), pk_mul]
    unfold disc
    by_cases qd : bkv ρ b 1 < ρ 2
    · rw [if_pos qd, if_pos qd]
    · have : sumNQ (pdT ρ π b) (prs ρ b) * (100 - ρ 3) ≤ 72000 * 100 := Nat.mul_le_mul hall (by omega)
      rw [if_neg qd, if_neg qd, pk_div (by omega) (by omega) (by omega)]
  · have hh : hasB π b = false := decide_eq_false hp
    rw [if_neg (fun w => w hh), if_neg hp]
theorem walksCost_s (C : Cur μ s ρ) (H : PMQ μ π) (hB : PBQ π) (hW : WF ρ) : fX6_walksCost μ = some (nI (sumNQ (wkB ρ π) (ρ 37))) := by
  have h17 := hW.2.1
  have e : loop (stX6_walksCost_4 μ) 5000 (nI 0, nI 0) = some (nI (sumNQ (wkB ρ π) (ρ 37))) := by
    refine loop_st (ρ 37) (fun k => (nI (sumNQ (wkB ρ π) k), nI k)) (by omega) rfl ?_ ?_
    · intro k hk
      have h3 := hB.2.1 k
      unfold stX6_walksCost_4 jX6_walksCost_47
      try dsimp only
      simp only [l_0, l_1, l_3, l_37]
      rw [get_s C (by omega), Option.bind_some, if_neg (nI_ge hk (by omega)), gd_inb (by omega) (by omega), nI_clamp (by omega), H.2.1 k (by omega)]; simp (disch := omega) only [nI_eq]; rw [get_s C (by omega), Option.bind_some, persons_s C (by omega), Option.bind_some, of_s C (by omega) (by omega), Option.bind_some]
      simp only [pk_mul, nI_add]
      show _ = some (Sum.inl (nI (sumNQ (wkB ρ π) k + wkB ρ π k), nI (k + 1)))
      unfold wkB
      by_cases w : π.2.1 k = 3
      · rw [if_neg (fun v => v w), if_pos w]
      · rw [if_pos w, if_neg w]
    · unfold stX6_walksCost_4
      try dsimp only
      simp only [l_37]
      rw [get_s C (by omega), Option.bind_some, if_pos (nI_le (Nat.le_refl _) (by omega))] <;> rfl
  unfold fX6_walksCost
  simp only [l_0]
  rw [e] <;> rfl
/-- the net of a row -/
def netV (ρ : RwQ) : Int32 := nI (sumNQ (pdB ρ (plc ρ)) (ρ 37)) - nI (sumNQ (wkB ρ (plc ρ)) (ρ 37))
theorem netNow_s (C : Cur μ s ρ) (hW : WF ρ) : OkQ (fX6_netNow μ) (fun r => r.1 = netV ρ ∧ Cur r.2 s ρ ∧ FrQ KPm μ r.2) := by
  have h17 := hW.2.1
  have hB : PBQ (plc ρ) := PB_plN hW 30
  have hI := PI_plc hW
  unfold fX6_netNow
  refine Ok_bind (placesAll_s C hW) ?_
  rintro m ⟨C2, H, F⟩
  rw [walksCost_s C2 H hB hW, Option.bind_some]
  have e : loop (stX6_netNow_12 m) 5000 (-nI (sumNQ (wkB ρ (plc ρ)) (ρ 37)), nI 0) = some (-nI (sumNQ (wkB ρ (plc ρ)) (ρ 37)) + nI (sumNQ (pdB ρ (plc ρ)) (ρ 37))) := by
    refine loop_st (ρ 37) (fun k => (-nI (sumNQ (wkB ρ (plc ρ)) (ρ 37)) + nI (sumNQ (pdB ρ (plc ρ)) k), nI k)) (by omega) ?_ ?_ ?_
    · show _ = (-nI (sumNQ (wkB ρ (plc ρ)) (ρ 37)) + nI 0, nI 0)
      rw [nI_0, Int32.add_zero]
    · intro k hk
      unfold stX6_netNow_12
      try dsimp only
      simp only [l_1, l_37]
      rw [get_s C2 (by omega), Option.bind_some, if_neg (nI_ge hk (by omega)), paidBy_s C2 H hB hW hI hk, Option.bind_some, nI_add k, Int32.add_assoc, nI_add] <;> rfl
    · unfold stX6_netNow_12
      try dsimp only
      simp only [l_37]
      rw [get_s C2 (by omega), Option.bind_some, if_pos (nI_le (Nat.le_refl _) (by omega))]
  simp only [l_0]
  rw [e, Option.bind_some]
  refine ⟨_, rfl, ?_, C2, F⟩
  show _ = netV ρ
  unfold netV
  rw [Int32.sub_eq_add_neg, Int32.add_comm]
end
