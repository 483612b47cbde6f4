/-! layer 2: the reference's placing: free beds, one room, sets of rooms -/
section
variable {μ : Mem} {s : Nat} {ρ : RwQ} {h : RwQ}
theorem isFreeFor_s (C : Cur μ s ρ) (hP : ∀ i, i < 2400 → rI μ 76 0 i = mI (h i)) (hh : ∀ i, h i ≤ 17) {b r d : Nat} (hb : b < 17) (hw : WFb ρ b) (hr : r < 8) (hd : d < 10) : fX6_isFreeFor (nI b) (nI r) (nI d) μ = some (nI (b1 (freeB ρ h b (10 * r + d)))) := by
  have hstep : ∀ k, k < 30 → stX6_isFreeFor_3 (nI b) μ (nI r) (nI d) (nI k) = if bsy ρ h b (10 * r + d) k = true then some (.inr (.inr (nI 0))) else some (.inl (nI (k + 1))) := by
    intro k hk
    have e1 : (10 * r + d) * 30 + k = 30 * (10 * r + d) + k := by omega
    have e2 := hh (30 * (10 * r + d) + k)
    unfold stX6_isFreeFor_3 jX6_isFreeFor_38 fX6_spot
    simp only [l_0, l_1, l_10, l_30, Option.bind_some, nI_add, pk_mul]
    rw [if_neg (nI_ge hk (by omega)), staysIn_s C hb hw (by omega), Option.bind_some]; simp (disch := omega) only [b1_z]; rw [gd_inb (by omega) (by omega), nI_clamp (by omega), e1, hP _ (by omega)]; simp (disch := omega) only [mI_z]
    unfold bsy
    by_cases hs : staysQ ρ b k = true
    · rw [if_neg (by rw [hs]; decide), hs, Bool.true_and]
      by_cases hc : h (30 * (10 * r + d) + k) = 0
      · rw [if_pos hc, if_neg (by rw [decide_eq_true_iff]; omega)]
      · rw [if_neg hc, if_pos (by rw [decide_eq_true_iff]; omega)]
    · have hs2 : staysQ ρ b k = false := by simpa using hs
      rw [if_pos hs2, hs2, Bool.false_and, if_neg (by decide)]
  have e : loop (stX6_isFreeFor_3 (nI b) μ (nI r) (nI d)) 5000 (nI 0) = some (if freeB ρ h b (10 * r + d) = true then .inl () else .inr (nI 0)) := by
    have hle := fstN_le (bsy ρ h b (10 * r + d)) 30
    refine loop_st (fstN (bsy ρ h b (10 * r + d)) 30) (fun k => nI k) (by omega) rfl ?_ ?_
    · intro k hk
      show stX6_isFreeFor_3 _ _ _ _ (nI k) = _
      rw [hstep k (by omega), if_neg (by rw [fstN_no hk]; decide)]
    · show stX6_isFreeFor_3 _ _ _ _ (nI (fstN (bsy ρ h b (10 * r + d)) 30)) = _
      by_cases hf : fstN (bsy ρ h b (10 * r + d)) 30 = 30
      · rw [hf, if_pos (freeB_bsy.mpr hf)]
        unfold stX6_isFreeFor_3
        exact if_pos (by decide)
      · rw [hstep _ (by omega), if_pos (fstN_yes (by omega)), if_neg (fun q => hf (freeB_bsy.mp q))]
  unfold fX6_isFreeFor
  simp only [l_0, l_1]
  rw [e, Option.bind_some]
  cases freeB ρ h b (10 * r + d) <;> rfl
theorem freeFor_s (C : Cur μ s ρ) (hP : ∀ i, i < 2400 → rI μ 76 0 i = mI (h i)) (hh : ∀ i, h i ≤ 17) {b r : Nat} (hb : b < 17) (hw : WFb ρ b) (hr : r < 8) (hd : rmv ρ r 1 ≤ 10) : fX6_freeFor (nI b) (nI r) μ = some (nI (freeC ρ h b r)) := by
  have e : loop (stX6_freeFor_5 (nI r) μ (nI b)) 5000 ((0 : Int32), (0 : Int32)) = some (nI (freeC ρ h b r)) := by
    refine loop_st (rmv ρ r 1) (fun k => (nI (sumNQ (fun d => b1 (freeB ρ h b (10 * r + d))) k), nI k)) (by omega) rfl ?_ ?_
    · intro k hk
      unfold stX6_freeFor_5 jX6_freeFor_33
      simp only [l_0, l_1]
      rw [roomIs_s C hr (by omega), Option.bind_some, if_neg (nI_ge hk (by omega)), isFreeFor_s C hP hh hb hw hr (by omega), Option.bind_some]; simp (disch := omega) only [b1_z]; rw [nI_add, nI_add, nI_add]
      show _ = some (Sum.inl (nI (sumNQ _ k + b1 (freeB ρ h b (10 * r + k))), nI (k + 1)))
      by_cases q : freeB ρ h b (10 * r + k) = true
      · rw [if_neg (by rw [q]; decide), q] <;> rfl
      · have q2 : freeB ρ h b (10 * r + k) = false := by simpa using q
        rw [if_pos q2, q2] <;> rfl
    · unfold stX6_freeFor_5
      simp only [l_0, l_1]
      rw [roomIs_s C hr (by omega), Option.bind_some, if_pos (nI_le (Nat.le_refl _) (by omega))] <;> rfl
  unfold fX6_freeFor
  rw [e] <;> rfl
theorem canUse_s (C : Cur μ s ρ) {b r : Nat} (hb : b < 17) (hr : r < 8) (h4 : bkv ρ b 4 ≤ 99) (h2 : rmv ρ r 2 ≤ 99) : fX6_canUse (nI b) (nI r) μ = some (nI (b1 (canU ρ b r))) := by
  unfold fX6_canUse canU
  simp only [l_0, l_1, l_2, l_4]
  rw [of_s C hb (by omega), Option.bind_some, roomIs_s C hr (by omega), Option.bind_some]; simp (disch := omega) only [nI_ltI]
  by_cases q : bkv ρ b 4 < rmv ρ r 2
  · rw [if_pos q, decide_eq_false (by omega)] <;> rfl
  · rw [if_neg q, decide_eq_true (by omega)] <;> rfl
theorem takesAll_s (C : Cur μ s ρ) {b r : Nat} (hb : b < 17) (hr : r < 8) (h2 : bkv ρ b 2 ≤ 12) (h3 : bkv ρ b 3 ≤ 12) (h0 : rmv ρ r 0 ≤ 2) : fX6_takesAll (nI b) (nI r) μ = some (nI (b1 (tkA ρ b r))) := by
  unfold fX6_takesAll jX6_takesAll_25 jX6_takesAll_39 jX6_takesAll_43 tkA
  simp only [l_0, l_1, l_2, l_3]
  rw [roomIs_s C hr (by omega), Option.bind_some, of_s C hb (by omega), of_s C hb (by omega), Option.bind_some, Option.bind_some]; simp (disch := omega) only [nI_eq]
  by_cases k0 : rmv ρ r 0 = 0
  · rw [if_pos k0, decide_eq_true (Or.inl k0)] <;> rfl
  · rw [if_neg k0]
    by_cases k1 : rmv ρ r 0 = 1
    · rw [if_neg (fun q => q k1)]
      by_cases m : bkv ρ b 3 = 0
      · rw [if_pos m, decide_eq_true (by omega)] <;> rfl
      · rw [if_neg m, if_pos (by omega), decide_eq_false (by omega)] <;> rfl
    · rw [if_pos k1]
      by_cases k2 : rmv ρ r 0 = 2
      · rw [if_neg (fun q => q k2)]
        by_cases w : bkv ρ b 2 = 0
        · rw [if_neg (fun q => q w), decide_eq_true (by omega)] <;> rfl
        · rw [if_pos w, decide_eq_false (by omega)] <;> rfl
      · rw [if_pos k2, decide_eq_false (by omega)] <;> rfl
theorem oneRoom_s (C : Cur μ s ρ) (hW : WF ρ) (hP : ∀ i, i < 2400 → rI μ 76 0 i = mI (h i)) (hh : ∀ i, h i ≤ 17) {b : Nat} (hb : b < ρ 37) : fX6_oneRoomFor (nI b) μ = some (mI (orR ρ h b)) := by
  have h8 := hW.1
  have h17 := hW.2.1
  have hw := hW.2.2.2.2 b hb
  have hp := WF_prs hW hb
  have e : loop (stX6_oneRoomFor_7 μ (nI b)) 5000 (-nI 1, nI 0, nI 0) = some (mI (orR ρ h b)) := by
    refine loop_st (ρ 4) (fun k => (mI (orS ρ h b k), nI (if orS ρ h b k = 0 then 0 else freeC ρ h b (orS ρ h b k - 1)), nI k)) (by omega) (by show _ = (mI 0, nI 0, nI 0); rw [mI_0]) ?_ ?_
    · intro k hk
      have hwr := hW.2.2.2.1 k hk
      have hle := orS_le (ρ := ρ) (h := h) (b := b) k
      have hfk := freeC_le (ρ := ρ) (h := h) (b := b) (r := k)
      have eS : orS ρ h b (k + 1) = if fitR ρ h b k = true ∧ btr ρ h b (orS ρ h b k) k = true then k + 1 else orS ρ h b k := rfl
      have hk10 := hwr.2.1.2
      have hno : ¬ (fitR ρ h b k = true ∧ btr ρ h b (orS ρ h b k) k = true) → some (Sum.inl (mI (orS ρ h b k), nI (if orS ρ h b k = 0 then 0 else freeC ρ h b (orS ρ h b k - 1)), nI (k + 1))) = (some (Sum.inl (mI (orS ρ h b (k + 1)), nI (if orS ρ h b (k + 1) = 0 then 0 else freeC ρ h b (orS ρ h b (k + 1) - 1)), nI (k + 1))) : Option ((Int32 × Int32 × Int32) ⊕ Int32)) := by
        intro q
        rw [eS, if_neg q]
      have hyes : (fitR ρ h b k = true ∧ btr ρ h b (orS ρ h b k) k = true) → some (Sum.inl (nI k, nI (freeC ρ h b k), nI (k + 1))) = (some (Sum.inl (mI (orS ρ h b (k + 1)), nI (if orS ρ h b (k + 1) = 0 then 0 else freeC ρ h b (orS ρ h b (k + 1) - 1)), nI (k + 1))) : Option ((Int32 × Int32 × Int32) ⊕ Int32)) := by
        intro q
        rw [eS, if_pos q, mI_s, if_neg (by omega)] <;> rfl
      unfold stX6_oneRoomFor_7 jX6_oneRoomFor_95 jX6_oneRoomFor_99 jX6_oneRoomFor_100 jX6_oneRoomFor_116
      simp only [l_0, l_1, l_3, l_4]
      rw [get_s C (by omega), Option.bind_some, if_neg (nI_ge hk (by omega)), canUse_s C (by omega) (by omega) hw.2.2.2.1 hwr.2.2.1, Option.bind_some]; simp (disch := omega) only [b1_z]; rw [takesAll_s C (by omega) (by omega) hw.2.2.1.1 hw.2.2.1.2.1 hwr.1, Option.bind_some]; simp (disch := omega) only [b1_z]; rw [freeFor_s C hP hh (by omega) hw (by omega) hk10, Option.bind_some, persons_s C (by omega), Option.bind_some]; simp (disch := omega) only [nI_leI]; rw [nI_add]; simp (disch := omega) only [mI_z]
      by_cases q1 : canU ρ b k = true
      · rw [if_neg (by rw [q1]; decide)]
        by_cases q2 : tkA ρ b k = true
        · rw [if_pos (by rw [q2]; decide)]
          by_cases q3 : prs ρ b ≤ freeC ρ h b k
          · rw [if_pos q3]
            have hfit : fitR ρ h b k = true := by unfold fitR; rw [q1, q2, decide_eq_true q3] <;> rfl
            by_cases q4 : orS ρ h b k = 0
            · rw [if_pos q4, if_pos (by decide)]
              exact hyes ⟨hfit, decide_eq_true (Or.inl q4)⟩
            · have hfb := freeC_le (ρ := ρ) (h := h) (b := b) (r := orS ρ h b k - 1)
              have hwb := hW.2.2.2.1 (orS ρ h b k - 1) (by omega)
              have hb10 := hwb.2.1.2
              have hpk := hwr.2.2.2.2
              have hpb := hwb.2.2.2.2
              have em : mI (orS ρ h b k) = nI (orS ρ h b k - 1) := by
                rw [← mI_s]; congr 1; omega
              rw [if_neg q4, em, if_neg q4]; simp (disch := omega) only [nI_ltI, nI_eq]; rw [roomIs_s C (by omega) (by omega), Option.bind_some, roomIs_s C (by omega) (by omega), Option.bind_some]; simp (disch := omega) only [nI_leI]; rw [← em]
              by_cases q5 : freeC ρ h b k < freeC ρ h b (orS ρ h b k - 1)
              · rw [if_pos q5, if_pos (by decide)]
                exact hyes ⟨hfit, decide_eq_true (Or.inr (Or.inl q5))⟩
              · rw [if_neg q5]
                by_cases q6 : freeC ρ h b k = freeC ρ h b (orS ρ h b k - 1)
                · rw [if_neg (fun q => q q6)]
                  by_cases q7 : rmv ρ (orS ρ h b k - 1) 3 ≤ rmv ρ k 3
                  · rw [if_pos q7, if_neg (by decide)]
                    have := hno (fun q => by have := of_decide_eq_true q.2; omega)
                    rw [if_neg q4] at this
                    exact this
                  · rw [if_neg q7, if_pos (by decide)]
                    exact hyes ⟨hfit, decide_eq_true (Or.inr (Or.inr ⟨q6, by omega⟩))⟩
                · rw [if_pos q6, if_neg (by decide)]
                  have := hno (fun q => by have := of_decide_eq_true q.2; omega)
                  rw [if_neg q4] at this
                  exact this
          · rw [if_neg q3]
            exact hno (fun q => by have := q.1; unfold fitR at this; rw [decide_eq_false q3, Bool.and_false] at this; cases this)
        · have q2' : tkA ρ b k = false := by simpa using q2
          rw [if_neg (fun q => q q2')]
          exact hno (fun q => by have := q.1; unfold fitR at this; rw [q2', Bool.and_false, Bool.false_and] at this; cases this)
      · have q1' : canU ρ b k = false := by simpa using q1
        rw [if_pos q1']
        exact hno (fun q => by have := q.1; unfold fitR at this; rw [q1', Bool.false_and, Bool.false_and] at this; cases this)
    · unfold stX6_oneRoomFor_7
      simp only [l_4]
      rw [get_s C (by omega), Option.bind_some, if_pos (nI_le (Nat.le_refl _) (by omega))] <;> rfl
  unfold fX6_oneRoomFor
  simp only [l_0, l_1]
  rw [e] <;> rfl
theorem nI_subsub (a b c : Nat) : nI a - nI b - nI c = nI a - nI (b + c) := by
  rw [← nI_add]
  grind
theorem nI_relu {a b : Nat} (ha : a < 2 ^ 20) (hb : b < 2 ^ 20) : (nI a - nI b ≤ nI 0 ↔ a ≤ b) := by
  rw [Int32.le_iff_toInt_le, pk_sub_toInt (by omega) (by omega), nI_toInt (by omega)]
  omega
theorem isEnough_s {F : Nat → Nat} (C : Cur μ s ρ) (hW : WF ρ) (hF : ∀ r, r < ρ 4 → rI μ 80 0 r = nI (F r)) (hF2 : ∀ r, r < ρ 4 → F r ≤ 10) {b S : Nat} (hb : b < ρ 37) (hS : S < 256) : fX6_isEnough (nI b) (nI S) μ = some (nI (b1 (enoughQ ρ F b S))) := by
  have h8 := hW.1
  have h17 := hW.2.1
  have hw := hW.2.2.2.2 b hb
  have k0 := sumK_le (S := S) (kd := 0) h8 hF2
  have k1 := sumK_le (S := S) (kd := 1) h8 hF2
  have k2 := sumK_le (S := S) (kd := 2) h8 hF2
  have e : loop (stX6_isEnough_21 μ (nI S)) 5000 (nI (bkv ρ b 2), nI (bkv ρ b 3), nI 0, nI 0) = some (nI (bkv ρ b 2) - nI (sumK ρ F S 1), nI (bkv ρ b 3) - nI (sumK ρ F S 2), nI (sumK ρ F S 0)) := by
    refine loop_st (ρ 4) (fun k => (nI (bkv ρ b 2) - nI (sumNQ (sumKT ρ F S 1) k), nI (bkv ρ b 3) - nI (sumNQ (sumKT ρ F S 2) k), nI (sumNQ (sumKT ρ F S 0) k), nI k)) (by omega) ?_ ?_ ?_
    · show _ = (nI (bkv ρ b 2) - nI 0, nI (bkv ρ b 3) - nI 0, nI 0, nI 0)
      rw [pk_sub (by omega), pk_sub (by omega), Nat.sub_zero, Nat.sub_zero]
    · intro k hk
      have hwr := hW.2.2.2.1 k hk
      have hk0 := hwr.1
      unfold stX6_isEnough_21 jX6_isEnough_105
      simp only [l_0, l_1, l_2, l_4]
      rw [get_s C (by omega), Option.bind_some, if_neg (nI_ge hk (by omega)), nI_bit (by omega) (by omega), roomIs_s C (by omega) (by omega), Option.bind_some, Option.bind_some, gd_inb (by omega) (by omega), gd_inb (by omega) (by omega), gd_inb (by omega) (by omega), nI_clamp (by omega), hF k hk]; simp (disch := omega) only [nI_eq]; rw [nI_add, nI_add, nI_subsub, nI_subsub]
      show _ = some (Sum.inl (nI (bkv ρ b 2) - nI (sumNQ (sumKT ρ F S 1) k + sumKT ρ F S 1 k), nI (bkv ρ b 3) - nI (sumNQ (sumKT ρ F S 2) k + sumKT ρ F S 2 k), nI (sumNQ (sumKT ρ F S 0) k + sumKT ρ F S 0 k), nI (k + 1)))
      by_cases q1 : S / 2 ^ k % 2 = 0
      · rw [if_neg (fun q => q q1), show sumKT ρ F S 1 k = 0 from if_neg (by omega), show sumKT ρ F S 2 k = 0 from if_neg (by omega), show sumKT ρ F S 0 k = 0 from if_neg (by omega)] <;> rfl
      · rw [if_pos q1]
        by_cases q2 : rmv ρ k 0 = 1
        · rw [if_neg (fun q => q q2), show sumKT ρ F S 1 k = F k from if_pos (by omega), show sumKT ρ F S 2 k = 0 from if_neg (by omega), show sumKT ρ F S 0 k = 0 from if_neg (by omega)] <;> rfl
        · rw [if_pos q2]
          by_cases q3 : rmv ρ k 0 = 2
          · rw [if_neg (fun q => q q3), show sumKT ρ F S 1 k = 0 from if_neg (by omega), show sumKT ρ F S 2 k = F k from if_pos (by omega), show sumKT ρ F S 0 k = 0 from if_neg (by omega)] <;> rfl
          · rw [if_pos q3, show sumKT ρ F S 1 k = 0 from if_neg (by omega), show sumKT ρ F S 2 k = 0 from if_neg (by omega), show sumKT ρ F S 0 k = F k from if_pos (by omega)] <;> rfl
    · unfold stX6_isEnough_21
      simp only [l_0, l_1, l_2, l_4]
      rw [get_s C (by omega), Option.bind_some, if_pos (nI_le (Nat.le_refl _) (by omega))] <;> rfl
  unfold fX6_isEnough jX6_isEnough_120 jX6_isEnough_131 enoughQ
  simp only [l_0, l_1, l_2, l_3]
  rw [of_s C (by omega) (by omega), Option.bind_some, of_s C (by omega) (by omega), Option.bind_some, e, Option.bind_some]
  have a1 := hw.2.2.1.1
  have a2 := hw.2.2.1.2.1
  try dsimp only
  simp (disch := omega) only [nI_relu]
  by_cases q1 : bkv ρ b 2 ≤ sumK ρ F S 1
  · rw [if_pos q1]
    by_cases q2 : bkv ρ b 3 ≤ sumK ρ F S 2
    · rw [if_pos q2, nI_add, if_neg (nI_nlt (by omega) (by omega)), decide_eq_true (by omega)] <;> rfl
    · rw [if_neg q2, pk_sub (by omega), nI_add]; simp (disch := omega) only [nI_ltI]
      by_cases q3 : sumK ρ F S 0 < 0 + (bkv ρ b 3 - sumK ρ F S 2)
      · rw [if_pos q3, decide_eq_false (by omega)] <;> rfl
      · rw [if_neg q3, decide_eq_true (by omega)] <;> rfl
  · rw [if_neg q1, pk_sub (by omega)]
    by_cases q2 : bkv ρ b 3 ≤ sumK ρ F S 2
    · rw [if_pos q2, nI_add]; simp (disch := omega) only [nI_ltI]
      by_cases q3 : sumK ρ F S 0 < bkv ρ b 2 - sumK ρ F S 1 + 0
      · rw [if_pos q3, decide_eq_false (by omega)] <;> rfl
      · rw [if_neg q3, decide_eq_true (by omega)] <;> rfl
    · rw [if_neg q2, pk_sub (by omega), nI_add]; simp (disch := omega) only [nI_ltI]
      by_cases q3 : sumK ρ F S 0 < bkv ρ b 2 - sumK ρ F S 1 + (bkv ρ b 3 - sumK ρ F S 2)
      · rw [if_pos q3, decide_eq_false (by omega)] <;> rfl
      · rw [if_neg q3, decide_eq_true (by omega)] <;> rfl
theorem many_s {S : Nat} (hS : S < 2 ^ 31) : fX6_many (nI S) = some (nI (pc S)) := by
  have e : loop (stX6_many_4 (nI S)) 5000 (nI 0, nI 0) = some (nI (pc S)) := by
    refine loop_st 8 (fun k => (nI (sumNQ (fun k => S / 2 ^ k % 2) k), nI k)) (by omega) rfl ?_ ?_
    · intro k hk
      unfold stX6_many_4
      simp only [l_1, l_8]
      rw [if_neg (nI_ge hk (by omega)), nI_bit hS (by omega), nI_add, nI_add] <;> rfl
    · unfold stX6_many_4
      simp only [l_1, l_8]
      rw [if_pos (nI_le (Nat.le_refl _) (by omega))] <;> rfl
  unfold fX6_many
  simp only [l_0]
  rw [e] <;> rfl
end
