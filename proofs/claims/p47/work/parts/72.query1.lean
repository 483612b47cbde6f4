/-! layer 2: questions about beds and money: what both sides say of a placing -/
def hasB (π : PnQ) (b : Nat) : Bool := decide (π.2.1 b = 1 ∨ π.2.1 b = 2)
def tkN (h : RwQ) (r n : Nat) : Nat := sumNQ (fun d => b1 (decide (h (30 * (10 * r + d) + n) ≠ 0))) 10
def frN (ρ h : RwQ) (r n : Nat) : Nat := sumNQ (fun d => b1 (decide (h (30 * (10 * r + d) + n) = 0))) (rmv ρ r 1)
theorem sumN_one (n : Nat) : sumNQ (fun _ => 1) n = n := by
  induction n with
  | zero => rfl
  | succ n ih => show sumNQ (fun _ => 1) n + 1 = n + 1; rw [ih]
theorem PI_out {ρ : RwQ} {π : PnQ} (hI : PI ρ π) {x n : Nat} (hn : n < 30) (hx : ¬ (x < 10 * ρ 4 ∧ x % 10 < rmv ρ (x / 10) 1)) : π.1 (30 * x + n) = 0 := by
  rcases Nat.eq_zero_or_pos (π.1 (30 * x + n)) with q | q
  · exact q
  · obtain ⟨v, v1, v2, v3, v4, p, p1, p2⟩ := hI.1 x n hn (by omega)
    obtain ⟨y, y1, y2, y3, -⟩ := hI.2 v v2 v4 p p1
    have : y = x := by omega
    subst this
    exact absurd ⟨y2, y3⟩ hx
theorem tk_fr {ρ : RwQ} {π : PnQ} (hW : WF ρ) (hI : PI ρ π) {r n : Nat} (hr : r < ρ 4) (hn : n < 30) : tkN π.1 r n + frN ρ π.1 r n = rmv ρ r 1 := by
  have h10 := (hW.2.2.2.1 r hr).2.1.2
  have e1 : tkN π.1 r n = sumNQ (fun d => b1 (decide (π.1 (30 * (10 * r + d) + n) ≠ 0))) (rmv ρ r 1) := by
    have e0 : tkN π.1 r n = sumNQ (fun d => b1 (decide (π.1 (30 * (10 * r + d) + n) ≠ 0))) (rmv ρ r 1 + (10 - rmv ρ r 1)) := by
      unfold tkN
      congr 1
      omega
    rw [e0, sumN_split, sumN_zero (f := fun k => b1 (decide (π.1 (30 * (10 * r + (rmv ρ r 1 + k)) + n) ≠ 0)))]
    · exact Nat.add_zero _
    · intro k hk
      have := PI_out hI (x := 10 * r + (rmv ρ r 1 + k)) hn (fun q => by
        have e : (10 * r + (rmv ρ r 1 + k)) / 10 = r := by omega
        rw [e] at q; omega)
      show b1 (decide _) = 0
      rw [decide_eq_false (fun q => q this)] <;> rfl
  rw [e1]
  unfold frN
  rw [← sumN_add]
  have : sumNQ (fun k => b1 (decide (π.1 (30 * (10 * r + k) + n) ≠ 0)) + b1 (decide (π.1 (30 * (10 * r + k) + n) = 0))) (rmv ρ r 1) = sumNQ (fun _ => 1) (rmv ρ r 1) := sumN_congr fun k _ => by
    show b1 _ + b1 _ = 1
    by_cases q : π.1 (30 * (10 * r + k) + n) = 0
    · rw [decide_eq_false (fun w => w q), decide_eq_true q] <;> rfl
    · rw [decide_eq_true q, decide_eq_false q] <;> rfl
  rw [this, sumN_one]
section
variable {σ : Mem} {q : Nat} {ρ : RwQ} {π : PnQ}
theorem hasBeds_h (H : PC σ q π) (hB : PBQ π) {b : Nat} (hb : b < 17) : fX3_hasBeds q (nI b) σ = some (nI (b1 (hasB π b))) := by
  have h3 := hB.2.1 b
  unfold fX3_hasBeds jX3_hasBeds_20 hasB
  simp only [l_0, l_1, l_2]
  rw [gd_inb (by omega) (by omega), nI_clamp (by omega), H.2.1 b hb]; simp (disch := omega) only [nI_eq]
  by_cases q1 : π.2.1 b = 1
  · rw [if_pos q1, decide_eq_true (Or.inl q1)] <;> rfl
  · by_cases q2 : π.2.1 b = 2
    · rw [if_neg q1, if_neg (fun w => w q2), decide_eq_true (Or.inr q2)] <;> rfl
    · rw [if_neg q1, if_pos q2, decide_eq_false (by omega)] <;> rfl
theorem isBusy_h {h : RwQ} (H : PCb σ q h) {x n : Nat} (hx : x < 80) (hn : n < 30) : fX3_isBusy q (nI x) (nI n) σ = some (nI (b1 (decide (h (30 * x + n) ≠ 0)))) := by
  obtain ⟨B, b1', b2, b3⟩ := H x hx
  have hb : B / 2 ^ n % 2 = b1 (decide (h (30 * x + n) ≠ 0)) := by rw [bit_t, b3 n hn]
  unfold fX3_isBusy
  simp only [l_0, l_1]
  rw [gd_inb (by omega) (by omega), nI_clamp (by omega), b2, nI_bit (by omega) (by omega), hb]
  cases decide (h (30 * x + n) ≠ 0)
  · exact if_pos (by decide)
  · exact if_neg (by decide)
theorem taken_h {h : RwQ} (H : PCb σ q h) {r n : Nat} (hr : r < 8) (hn : n < 30) : fX3_taken q (nI r) (nI n) σ = some (nI (tkN h r n)) := by
  have e : loop (stX3_taken_8 (nI r) q (nI n) σ) 5000 (nI 0, nI r * nI 10) = some (nI (tkN h r n)) := by
    refine loop_st 10 (fun k => (nI (sumNQ (fun d => b1 (decide (h (30 * (10 * r + d) + n) ≠ 0))) k), nI (10 * r + k))) (by omega) (by rw [pk_mul, Nat.mul_comm] <;> rfl) ?_ ?_
    · intro k hk
      unfold stX3_taken_8 jX3_taken_32
      try dsimp only
      simp only [l_0, l_1, l_10]
      rw [nI_add, pk_mul, if_neg (nI_ge (by omega) (by omega)), isBusy_h H (by omega) hn, Option.bind_some]; simp (disch := omega) only [b1_z]
      simp only [nI_add]
      show _ = some (Sum.inl (nI (sumNQ (fun d => b1 (decide (h (30 * (10 * r + d) + n) ≠ 0))) k + b1 (decide (h (30 * (10 * r + k) + n) ≠ 0))), nI (10 * r + k + 1)))
      by_cases w : h (30 * (10 * r + k) + n) = 0
      · rw [decide_eq_false (fun v => v w), if_pos rfl] <;> rfl
      · rw [decide_eq_true w, if_neg (by decide)] <;> rfl
    · unfold stX3_taken_8
      try dsimp only
      simp only [l_1, l_10]
      rw [nI_add, pk_mul, if_pos (nI_le (by omega) (by omega))] <;> rfl
  unfold fX3_taken
  simp only [l_0, l_10]
  rw [e] <;> rfl
end
section
variable {μ : Mem} {s : Nat} {ρ : RwQ} {π : PnQ}
theorem frN_le (hW : WF ρ) (hI : PI ρ π) {r n : Nat} (hr : r < ρ 4) (hn : n < 30) : frN ρ π.1 r n ≤ rmv ρ r 1 := by
  have := tk_fr hW hI hr hn
  omega
theorem tkN_le (h : RwQ) (r n : Nat) : tkN h r n ≤ 10 := by
  have := sumN_le (f := fun d => b1 (decide (h (30 * (10 * r + d) + n) ≠ 0))) (c := 1) (n := 10) (fun d _ => b1_le _)
  unfold tkN
  omega
/-- persons walked in a night -/
def wkdT (ρ : RwQ) (π : PnQ) (n b : Nat) : Nat := if π.2.1 b = 3 ∧ staysQ ρ b n = true then prs ρ b else 0
def wkdN (ρ : RwQ) (π : PnQ) (n : Nat) : Nat := sumNQ (wkdT ρ π n) (ρ 37)
theorem wkdN_le (hW : WF ρ) {n k : Nat} (hk : k ≤ ρ 37) : sumNQ (wkdT ρ π n) k ≤ 204 := by
  have h17 := hW.2.1
  have := sumN_le (f := wkdT ρ π n) (c := 12) (n := k) (fun b hb => by
    have := WF_prs hW (show b < ρ 37 by omega)
    unfold wkdT
    split <;> omega)
  omega
theorem pdT_le (hW : WF ρ) (hI : PI ρ π) {b p : Nat} (hb : b < ρ 37) (hp : plcd π b) (hpp : p < prs ρ b) : pdT ρ π b p ≤ 6000 := by
  have hw := hW.2.2.2.2 b hb
  obtain ⟨x, x1, x2, -⟩ := hI.2 b hb hp p hpp
  unfold pdT
  rw [x1, Nat.add_sub_cancel]
  have h1 := (hW.2.2.2.1 (x / 10) (by omega)).2.2.2.2
  exact Nat.mul_le_mul h1 (show bkv ρ b 1 ≤ 30 by have := hw.2.1.2; omega)
theorem pdS_le (hW : WF ρ) (hI : PI ρ π) {b k : Nat} (hb : b < ρ 37) (hp : plcd π b) (hk : k ≤ prs ρ b) : sumNQ (pdT ρ π b) k ≤ 72000 := by
  have hpr := WF_prs hW hb
  have := sumN_le (f := pdT ρ π b) (c := 6000) (n := k) (fun p hpp => pdT_le hW hI hb hp (by omega))
  omega
theorem pdB_le (hW : WF ρ) (hI : PI ρ π) {b : Nat} (hb : b < ρ 37) : pdB ρ π b ≤ 72000 := by
  unfold pdB
  split
  · next h => exact disc_le (pdS_le hW hI hb h (Nat.le_refl _))
  · omega
theorem pdA_le (hW : WF ρ) (hI : PI ρ π) {k : Nat} (hk : k ≤ ρ 37) : sumNQ (pdB ρ π) k ≤ 1224000 := by
  have h17 := hW.2.1
  have := sumN_le (f := pdB ρ π) (c := 72000) (n := k) (fun b hb => pdB_le hW hI (by omega))
  omega
theorem wkB_le (hW : WF ρ) {b : Nat} (hb : b < ρ 37) : wkB ρ π b ≤ 108000 := by
  have hw := hW.2.2.2.2 b hb
  have hp := WF_prs hW hb
  unfold wkB
  split
  · have h1 : ρ 1 * prs ρ b ≤ 300 * 12 := Nat.mul_le_mul hW.2.2.1.2.1 hp.2
    have h2 : ρ 1 * prs ρ b * bkv ρ b 1 ≤ 300 * 12 * 30 := Nat.mul_le_mul h1 (show bkv ρ b 1 ≤ 30 by have := hw.2.1.2; omega)
    omega
  · omega
theorem wkA_le (hW : WF ρ) {k : Nat} (hk : k ≤ ρ 37) : sumNQ (wkB ρ π) k ≤ 1836000 := by
  have h17 := hW.2.1
  have := sumN_le (f := wkB ρ π) (c := 108000) (n := k) (fun b hb => wkB_le hW (by omega))
  omega
/-- the net of a row -/
def netV (ρ : RwQ) : Int32 := nI (sumNQ (pdB ρ (plc ρ)) (ρ 37)) - nI (sumNQ (wkB ρ (plc ρ)) (ρ 37))
end
