/-! layer 2: who has a bed -/
def isX (ρ : RwQ) (b x p : Nat) : Bool := decide ((plc ρ).2.2 (12 * b + p) = x + 1)
def hbB (ρ : RwQ) (b x : Nat) : Bool := hasB (plc ρ) b && decide (fstN (isX ρ b x) (prs ρ b) < prs ρ b)
def ocP (ρ : RwQ) (x n b : Nat) : Bool := staysQ ρ b n && hbB ρ b x
section
variable {σ μ : Mem} {ρ : RwQ}
theorem hasBed_h (h1 : I1 σ ρ) (h3 : I3 ρ) {b x : Nat} (hb : b < ρ 37) (hx : x < 80) : fX3_hasBed 0 (nI b) (nI (prs ρ b)) (nI x) σ = some (nI (b1 (hbB ρ b x))) := by
  have h17 := h3.2.2
  have hpr := WF_prs h3.1 hb
  have hhb := hasBeds_h h1.2.2.1 (plc_PB h3) (b := b) (by omega)
  have hle := fstN_le (isX ρ b x) (prs ρ b)
  cases hh : hasB (plc ρ) b
  · have e : loop (stX3_hasBed_3 (nI (prs ρ b)) 0 (nI b) σ (nI x)) 5000 (nI 0) = some (.inl ()) := by
      refine loop_st (prs ρ b) (fun k => nI k) (by omega) rfl ?_ ?_
      · intro k hk
        unfold stX3_hasBed_3 jX3_hasBed_35
        simp only [l_0, l_1]
        rw [if_neg (nI_ge hk (by omega)), hhb, Option.bind_some]; simp (disch := omega) only [b1_z]; rw [nI_add]
        rw [if_pos hh]
      · unfold stX3_hasBed_3
        rw [if_pos (nI_le (Nat.le_refl _) (by omega))]
    unfold fX3_hasBed hbB
    simp only [l_0, l_1]
    rw [e, hh] <;> rfl
  · have hstep : ∀ k, k < prs ρ b → stX3_hasBed_3 (nI (prs ρ b)) 0 (nI b) σ (nI x) (nI k) = if isX ρ b x k = true then some (.inr (.inr (nI 1))) else some (.inl (nI (k + 1))) := by
      intro k hk
      obtain ⟨y, y1, y2, -⟩ := (PI_plc h3.1).2 b hb (hasB_pl hh) k hk
      have h8 := h3.1.1
      unfold stX3_hasBed_3 jX3_hasBed_35 isX
      simp only [l_0, l_1, l_12]
      rw [if_neg (nI_ge hk (by omega)), hhb, Option.bind_some]; simp (disch := omega) only [b1_z]
      rw [if_neg (by rw [hh]; decide), pk_mul, nI_add, gd_inb (by omega) (by omega), nI_clamp (by omega), Nat.mul_comm b 12, h1.2.2.1.2.2 _ (by omega) (by omega), y1, Nat.add_sub_cancel]; simp (disch := omega) only [nI_eq]; rw [nI_add]
      by_cases w : y = x
      · rw [if_neg (fun v => v w), if_pos (decide_eq_true (by omega))]
      · rw [if_pos w, if_neg (by rw [decide_eq_false (by omega)]; decide)]
    have e : loop (stX3_hasBed_3 (nI (prs ρ b)) 0 (nI b) σ (nI x)) 5000 (nI 0) = some (if fstN (isX ρ b x) (prs ρ b) < prs ρ b then .inr (nI 1) else .inl ()) := by
      refine loop_st (fstN (isX ρ b x) (prs ρ b)) (fun k => nI k) (by omega) rfl ?_ ?_
      · intro k hk
        show stX3_hasBed_3 _ _ _ _ _ (nI k) = _
        rw [hstep k (by omega), if_neg (by rw [fstN_no hk]; decide)]
      · show stX3_hasBed_3 _ _ _ _ _ (nI (fstN (isX ρ b x) (prs ρ b))) = _
        by_cases hf : fstN (isX ρ b x) (prs ρ b) < prs ρ b
        · rw [hstep _ hf, if_pos (fstN_yes hf), if_pos hf]
        · have hf2 : fstN (isX ρ b x) (prs ρ b) = prs ρ b := by omega
          rw [hf2, if_neg (Nat.lt_irrefl _)]
          unfold stX3_hasBed_3
          exact if_pos (nI_le (Nat.le_refl _) (by omega))
    unfold fX3_hasBed hbB
    simp only [l_0, l_1]
    rw [e, hh, Option.bind_some, Bool.true_and]
    by_cases hf : fstN (isX ρ b x) (prs ρ b) < prs ρ b
    · rw [if_pos hf, decide_eq_true hf] <;> rfl
    · rw [if_neg hf, decide_eq_false hf] <;> rfl
theorem ocP_h (h3 : I3 ρ) {x n b : Nat} (hn : n < 30) (hb : b < ρ 37) (h : ocP ρ x n b = true) : (plc ρ).1 (30 * x + n) = b + 1 := by
  unfold ocP hbB at h
  rw [Bool.and_eq_true, Bool.and_eq_true, decide_eq_true_iff] at h
  obtain ⟨q1, q2, q3⟩ := h
  have q4 : (plc ρ).2.2 (12 * b + fstN (isX ρ b x) (prs ρ b)) = x + 1 := of_decide_eq_true (fstN_yes q3)
  obtain ⟨y, y1, -, -, y2⟩ := (PI_plc h3.1).2 b hb (hasB_pl q2) _ q3
  have : y = x := by omega
  subst this
  exact y2 n hn q1
theorem occ_val (h3 : I3 ρ) {x n : Nat} (hn : n < 30) : (if fstN (ocP ρ x n) (ρ 37) < ρ 37 then nI (fstN (ocP ρ x n) (ρ 37)) else -nI 1) = mI ((plc ρ).1 (30 * x + n)) := by
  rcases Nat.eq_zero_or_pos ((plc ρ).1 (30 * x + n)) with q | q
  · rw [if_neg, q, mI_0]
    intro w
    have := ocP_h h3 hn w (fstN_yes w)
    omega
  · obtain ⟨v, v1, v2, v3, v4, p, p1, p2⟩ := (PI_plc h3.1).1 x n hn (by omega)
    have hv : ocP ρ x n v = true := by
      have hf := fstN_lt (p := isX ρ v x) p1 (decide_eq_true p2)
      unfold ocP hbB hasB
      unfold plcd at v4
      rw [v3, decide_eq_true v4, decide_eq_true (show fstN (isX ρ v x) (prs ρ v) < prs ρ v by omega)] <;> rfl
    have hN : fstN (ocP ρ x n) (ρ 37) = v := by
      refine fstN_eq (by omega) (fun i hi => ?_) (fun _ => hv)
      cases w : ocP ρ x n i
      · rfl
      · have := ocP_h h3 hn (by omega) w
        omega
    rw [hN, if_pos v2, v1, mI_s]
end
