/-! layer 2: the class's placing: beds given out -/
/-- what the group's beds cost, and what it pays -/
def totT (ρ : RwQ) (b S : Nat) (h sl : RwQ) (p : Nat) : Nat := if bdN ρ b S h sl p < 10 * ρ 4 then rmv ρ (bdN ρ b S h sl p / 10) 3 * bkv ρ b 1 else 0
def disc (ρ : RwQ) (b t : Nat) : Nat := if bkv ρ b 1 < ρ 2 then t else t * (100 - ρ 3) / 100
theorem totT_le {ρ : RwQ} (hW : WF ρ) {b S : Nat} {h sl : RwQ} (hb : b < ρ 37) (p : Nat) : totT ρ b S h sl p ≤ 6000 := by
  have hw := hW.2.2.2.2 b hb
  unfold totT
  split
  · next hx =>
    have h1 := (hW.2.2.2.1 (bdN ρ b S h sl p / 10) (by omega)).2.2.2.2
    exact Nat.mul_le_mul h1 (show bkv ρ b 1 ≤ 30 by have := hw.2.1.2; omega)
  · omega
theorem tot_le {ρ : RwQ} (hW : WF ρ) {b S : Nat} {h sl : RwQ} (hb : b < ρ 37) {k : Nat} (hk : k ≤ 12) : sumNQ (totT ρ b S h sl) k ≤ 72000 := by
  have := sumN_le (f := totT ρ b S h sl) (c := 6000) (n := k) (fun p _ => totT_le hW hb p)
  omega
theorem disc_le {ρ : RwQ} {b t : Nat} (ht : t ≤ 72000) : disc ρ b t ≤ 72000 := by
  unfold disc
  split
  · exact ht
  · have : t * (100 - ρ 3) ≤ t * 100 := Nat.mul_le_mul_left _ (by omega)
    omega
section
variable {σ : Mem} {q j : Nat} {ρ : RwQ} {h : RwQ}
theorem firstFree_h (h0 : H0 σ j ρ) (hW : WF ρ) (H : PCb σ q h) {b S kd : Nat} (hb : b < ρ 37) (hS : S < 256) (hkd : kd ≤ 2) : fX3_firstFree q j (nI S) (nI kd) (nI (nightM ρ b)) σ = some (if ffB ρ h b S kd < 10 * ρ 4 then nI (ffB ρ h b S kd) else -nI 1) := by
  have h8 := hW.1
  have hw := hW.2.2.2.2 b hb
  have hl : OkQ (loop (stX3_firstFree_3 σ j (nI S) (nI kd) q (nI (nightM ρ b))) 5000 (nI 0)) (fun r => Sum.elim (fun _ => ∀ y, y < 10 * ρ 4 → okB ρ h b S kd y = false) (fun w => ffB ρ h b S kd < 10 * ρ 4 ∧ w = nI (ffB ρ h b S kd)) r) := by
    refine loop_ok (ρ 4) (fun k a => a = nI k ∧ ∀ y, y < 10 * k → okB ρ h b S kd y = false) (by omega) ⟨rfl, fun y hy => by omega⟩ ?_
    rintro k a hk ⟨e1, e2⟩
    subst e1
    unfold stX3_firstFree_3
    rw [h0.1]
    by_cases hkn : k = ρ 4
    · subst hkn
      rw [if_pos (nI_le (Nat.le_refl _) (by omega))]
      exact ⟨_, rfl, e2⟩
    · have hwr := hW.2.2.2.1 k (by omega)
      have hr := h0.2.2.2.2.2.2.2.1 k (by omega)
      have hk0 := hwr.1
      have hk1 := hwr.2.1.2
      rw [if_neg (nI_ge (by omega) (by omega)), gd_inb (by omega) (by omega)]
      have hin : OkQ (loop (stX3_firstFree_24 σ j (nI k) (nI S) (nI kd) q (nI (nightM ρ b))) 5000 (nI 0)) (fun r => Sum.elim (fun _ => ∀ y, y < 10 * (k + 1) → okB ρ h b S kd y = false) (fun w => ffB ρ h b S kd < 10 * ρ 4 ∧ w = nI (ffB ρ h b S kd)) r) := by
        refine loop_ok (rmv ρ k 1) (fun d a => a = nI d ∧ ∀ y, y < 10 * k + d → okB ρ h b S kd y = false) (by omega) ⟨rfl, fun y hy => e2 y (by omega)⟩ ?_
        rintro d a hd ⟨f1, f2⟩
        subst f1
        unfold stX3_firstFree_24 jX3_firstFree_81
        simp only [l_0, l_1, l_10]
        rw [nI_clamp (by omega), hr.2.1, hr.1, nI_bit (by omega) (by omega)]; simp (disch := omega) only [nI_eq]; rw [pk_mul, nI_add, nI_add]
        by_cases hdn : d = rmv ρ k 1
        · subst hdn
          rw [if_pos (nI_le (Nat.le_refl _) (by omega))]
          refine ⟨_, rfl, fun y hy => ?_⟩
          by_cases hyk : y < 10 * k + rmv ρ k 1
          · exact f2 y hyk
          · have e10 : y / 10 = k := by omega
            unfold okB
            rw [e10, decide_eq_false (fun w => by have := w.1; omega), Bool.false_and]
        · have e10 : (10 * k + d) / 10 = k := by omega
          have e11 : (10 * k + d) % 10 = d := by omega
          rw [if_neg (nI_ge (by omega) (by omega)), gd_inb (by omega) (by omega), nI_clamp (by omega), Nat.mul_comm k 10]; simp (disch := omega) only [busyAnd H hw]
          have hskip : okB ρ h b S kd (10 * k + d) = false → OkQ (some (Sum.inl (nI (d + 1))) : Option (Int32 ⊕ (Unit ⊕ Int32))) (fun r => Sum.elim (fun a2 => d < rmv ρ k 1 ∧ a2 = nI (d + 1) ∧ ∀ y, y < 10 * k + (d + 1) → okB ρ h b S kd y = false) (fun r => Sum.elim (fun _ => ∀ y, y < 10 * (k + 1) → okB ρ h b S kd y = false) (fun w => ffB ρ h b S kd < 10 * ρ 4 ∧ w = nI (ffB ρ h b S kd)) r) r) := by
            intro hq
            refine ⟨_, rfl, by omega, rfl, fun y hy => ?_⟩
            by_cases hyk : y = 10 * k + d
            · rw [hyk]; exact hq
            · exact f2 y (by omega)
          by_cases q1 : S / 2 ^ k % 2 = 1
          · rw [if_neg (fun w => w q1)]
            by_cases q2 : rmv ρ k 0 = kd
            · rw [if_neg (fun w => w q2)]
              have hok : okB ρ h b S kd (10 * k + d) = freeB ρ h b (10 * k + d) := by
                unfold okB
                rw [e10, e11, decide_eq_true ⟨by omega, q1, q2⟩, Bool.true_and]
              by_cases q3 : freeB ρ h b (10 * k + d) = true
              · rw [if_neg (fun w => w q3)]
                have ef : ffB ρ h b S kd = 10 * k + d := fstN_eq (by omega) f2 (fun _ => by rw [hok]; exact q3)
                exact ⟨_, rfl, by omega, by rw [ef]⟩
              · rw [if_pos q3]
                exact hskip (by rw [hok]; simpa using q3)
            · rw [if_pos q2]
              refine hskip ?_
              unfold okB
              rw [e10, decide_eq_false (fun w => q2 w.2.2), Bool.false_and]
          · rw [if_pos q1]
            refine hskip ?_
            unfold okB
            rw [e10, decide_eq_false (fun w => q1 w.2.1), Bool.false_and]
      refine Ok_bind hin ?_
      rintro (z | w) hz
      · simp only [l_1]
        rw [nI_add]
        exact ⟨_, rfl, by omega, rfl, hz⟩
      · exact ⟨_, rfl, hz⟩
  unfold fX3_firstFree
  simp only [l_0, l_1]
  obtain ⟨r, e, hr⟩ := hl
  rw [e, Option.bind_some]
  rcases r with z | w
  · have ef : ffB ρ h b S kd = 10 * ρ 4 := fstN_eq (Nat.le_refl _) hr (fun w => absurd w (Nat.lt_irrefl _))
    rw [if_neg (by omega)] <;> rfl
  · obtain ⟨r1, r2⟩ := hr
    subst r2
    rw [if_pos r1] <;> rfl
theorem PCb_tk {σ2 : Mem} {b x : Nat} (H : PCb σ q h) (hw : WFb ρ b) (hx : x < 80) (e1 : rI σ2 50 q x = rI σ 50 q x ||| nI (nightM ρ b)) (e2 : ∀ y, y ≠ x → rI σ2 50 q y = rI σ 50 q y) : PCb σ2 q (tkH ρ h b x) := by
  intro y hy
  obtain ⟨B, b1, b2, b3⟩ := H y hy
  by_cases hyx : y = x
  · subst hyx
    have h1 := nightM_lt hw
    refine ⟨B ||| nightM ρ b, Nat.or_lt_two_pow b1 h1, by rw [e1, b2, nI_or (by omega) (by omega)], fun n hn => ?_⟩
    rw [Nat.testBit_or, nightM_bit, b3 n hn]
    unfold tkH
    have d1 : (30 * y + n) / 30 = y := by omega
    have d2 : (30 * y + n) % 30 = n := by omega
    rw [d1, d2]
    cases hs : staysQ ρ b n
    · rw [if_neg (fun w => absurd w.2 (by decide)), Bool.or_false]
    · rw [if_pos ⟨rfl, rfl⟩, Bool.or_true, decide_eq_true (by omega)]
  · refine ⟨B, b1, by rw [e2 y hyx]; exact b2, fun n hn => ?_⟩
    rw [b3 n hn]
    unfold tkH
    rw [if_neg (fun w => hyx (by have := w.1; omega))]
theorem giveBeds_h {π : PnQ} (h0 : H0 σ j ρ) (hW : WF ρ) (H : PC σ q π) {b S : Nat} (hb : b < ρ 37) (hS : S < 256) : OkQ (fX3_giveBeds q j (nI b) (nI S) σ) (fun r => r.1 = nI (disc ρ b (sumNQ (totT ρ b S π.1 π.2.2) (prs ρ b))) ∧ PC r.2 q ((gvS ρ b S π.1 π.2.2 (prs ρ b)).1, π.2.1, (gvS ρ b S π.1 π.2.2 (prs ρ b)).2) ∧ FrQ (fun k x _ => (k = 50 ∨ k = 51) ∧ x = q) σ r.2) := by
  have h8 := hW.1
  have h17 := hW.2.1
  have hw := hW.2.2.2.2 b hb
  have hp := WF_prs hW hb
  have hB := h0.2.2.2.2.2.2.2.2 b hb
  have hl : OkQ (loop (stX3_giveBeds_21 j (nI b) q (nI S) (nI (nightM ρ b))) 5000 (nI 0, nI 0, σ)) (fun r => r.1 = nI (sumNQ (totT ρ b S π.1 π.2.2) (prs ρ b)) ∧ PC r.2 q ((gvS ρ b S π.1 π.2.2 (prs ρ b)).1, π.2.1, (gvS ρ b S π.1 π.2.2 (prs ρ b)).2) ∧ FrQ (fun k x _ => (k = 50 ∨ k = 51) ∧ x = q) σ r.2) := by
    refine loop_ok (prs ρ b) (fun k a => a.2.1 = nI k ∧ a.1 = nI (sumNQ (totT ρ b S π.1 π.2.2) k) ∧ PC a.2.2 q ((gvS ρ b S π.1 π.2.2 k).1, π.2.1, (gvS ρ b S π.1 π.2.2 k).2) ∧ FrQ (fun k x _ => (k = 50 ∨ k = 51) ∧ x = q) σ a.2.2) (by omega) ⟨rfl, rfl, H, Fr_rfl σ⟩ ?_
    rintro k ⟨a1, a2, a3⟩ hk ⟨e2, e1, P2, F2⟩
    try dsimp only at e1 e2 P2 F2
    subst e1 e2
    have h0' : H0 a3 j ρ := H0_fr h0 F2 (fun k r _ _ _ _ _ w => by omega)
    have hB' := h0'.2.2.2.2.2.2.2.2 b hb
    unfold stX3_giveBeds_21
    try dsimp only
    rw [nI_clamp (show b < 2 ^ 31 by omega), hB'.2.2.2.2.1, hB'.2.2.1]
    by_cases hkn : k = prs ρ b
    · subst hkn
      rw [if_pos (nI_le (Nat.le_refl _) (by omega))]
      exact ⟨_, rfl, rfl, P2, F2⟩
    · have hw2 := hw.2.2.1.1
      rw [if_neg (nI_ge (by omega) (by omega))]; simp (disch := omega) only [nI_leI]
      have eG : gvS ρ b S π.1 π.2.2 (k + 1) = if bdN ρ b S π.1 π.2.2 k < 10 * ρ 4 then (tkH ρ (gvS ρ b S π.1 π.2.2 k).1 b (bdN ρ b S π.1 π.2.2 k), upQ (gvS ρ b S π.1 π.2.2 k).2 (12 * b + k) (bdN ρ b S π.1 π.2.2 k + 1)) else gvS ρ b S π.1 π.2.2 k := rfl
      have eT : sumNQ (totT ρ b S π.1 π.2.2) (k + 1) = sumNQ (totT ρ b S π.1 π.2.2) k + totT ρ b S π.1 π.2.2 k := rfl
      have htl := tot_le (S := S) (h := π.1) (sl := π.2.2) hW hb (show k ≤ 12 by omega)
      have hend : ∀ x : Int32, (if bdN ρ b S π.1 π.2.2 k < 10 * ρ 4 then x = nI (bdN ρ b S π.1 π.2.2 k) else x = -nI 1) → OkQ (jX3_giveBeds_73 (nI (sumNQ (totT ρ b S π.1 π.2.2) k), nI k, a3) (nI b) q (nI (nightM ρ b)) j x) (fun r => Sum.elim (fun a2 => k < prs ρ b ∧ a2.2.1 = nI (k + 1) ∧ a2.1 = nI (sumNQ (totT ρ b S π.1 π.2.2) (k + 1)) ∧ PC a2.2.2 q ((gvS ρ b S π.1 π.2.2 (k + 1)).1, π.2.1, (gvS ρ b S π.1 π.2.2 (k + 1)).2) ∧ FrQ (fun k x _ => (k = 50 ∨ k = 51) ∧ x = q) σ a2.2.2) (fun r => r.1 = nI (sumNQ (totT ρ b S π.1 π.2.2) (prs ρ b)) ∧ PC r.2 q ((gvS ρ b S π.1 π.2.2 (prs ρ b)).1, π.2.1, (gvS ρ b S π.1 π.2.2 (prs ρ b)).2) ∧ FrQ (fun k x _ => (k = 50 ∨ k = 51) ∧ x = q) σ r.2) r) := by
        intro x hx
        unfold jX3_giveBeds_73 jX3_giveBeds_129
        try dsimp only
        simp only [l_1, l_10, l_12]
        by_cases hd : bdN ρ b S π.1 π.2.2 k < 10 * ρ 4
        · rw [if_pos hd] at hx eG
          subst hx
          have hd80 : bdN ρ b S π.1 π.2.2 k < 80 := by omega
          have hpr := (hW.2.2.2.1 (bdN ρ b S π.1 π.2.2 k / 10) (by omega)).2.2.2.2
          have hR := h0'.2.2.2.2.2.2.2.1 (bdN ρ b S π.1 π.2.2 k / 10) (by omega)
          rw [if_neg (nI_m1 (by omega)), gd_inb hd80 (by omega), pk_mul, nI_add, gd_inb (by omega) (by omega), pk_div (by omega) (by omega) (by omega), gd_inb (by omega) (by omega), nI_clamp (by omega), nI_clamp (by omega), nI_clamp (by omega), nI_clamp (by omega), Nat.mul_comm b 12]
          generalize hM : wI (wI a3 50 q (bdN ρ b S π.1 π.2.2 k) (rI a3 50 q (bdN ρ b S π.1 π.2.2 k) ||| nI (nightM ρ b))) 51 q (12 * b + k) (nI (bdN ρ b S π.1 π.2.2 k)) = M
          have FM : FrQ (fun k x _ => (k = 50 ∨ k = 51) ∧ x = q) a3 M := by
            rw [← hM]
            exact Fr_tr (Fr_wI (by omega)) (Fr_wI (by omega))
          have r33 : rI M 33 j (bdN ρ b S π.1 π.2.2 k / 10) = nI (rmv ρ (bdN ρ b S π.1 π.2.2 k / 10) 3) := by rw [FM.1 33 j _ (by omega)]; exact hR.2.2.2
          have r41 : rI M 41 j b = nI (bkv ρ b 1) := by rw [FM.1 41 j _ (by omega)]; exact hB'.2.1
          have eTk : totT ρ b S π.1 π.2.2 k = rmv ρ (bdN ρ b S π.1 π.2.2 k / 10) 3 * bkv ρ b 1 := if_pos hd
          rw [r33, r41, pk_mul, nI_add, nI_add]
          refine ⟨_, rfl, by omega, rfl, by rw [eT, eTk], ?_, Fr_tr F2 FM⟩
          rw [eG]
          refine ⟨?_, ?_, ?_⟩
          · refine PCb_tk P2.1 hw hd80 ?_ ?_
            · rw [← hM, rI_wI, if_neg (by omega), rI_wI, if_pos ⟨rfl, rfl, rfl⟩]
            · intro y hy
              rw [← hM, rI_wI, if_neg (by omega), rI_wI, if_neg (fun w => hy w.2.2)]
          · intro x hx
            rw [FM.1 52 q x (by omega)]
            exact P2.2.1 x hx
          · intro i hi h1
            rw [← hM, rI_wI]
            by_cases hik : i = 12 * b + k
            · subst hik
              rw [if_pos ⟨rfl, rfl, rfl⟩]
              show _ = nI (upQ (gvS ρ b S π.1 π.2.2 k).2 (12 * b + k) (bdN ρ b S π.1 π.2.2 k + 1) (12 * b + k) - 1)
              rw [up_s] <;> rfl
            · have eu : upQ (gvS ρ b S π.1 π.2.2 k).2 (12 * b + k) (bdN ρ b S π.1 π.2.2 k + 1) i = (gvS ρ b S π.1 π.2.2 k).2 i := up_n hik
              rw [if_neg (fun w => hik w.2.2), rI_wI, if_neg (by omega)]
              show _ = nI (upQ (gvS ρ b S π.1 π.2.2 k).2 (12 * b + k) (bdN ρ b S π.1 π.2.2 k + 1) i - 1)
              rw [eu]
              exact P2.2.2 i hi (by rw [← eu]; exact h1)
        · rw [if_neg hd] at hx eG
          subst hx
          have eTk : totT ρ b S π.1 π.2.2 k = 0 := if_neg hd
          rw [if_pos rfl, nI_add]
          exact ⟨_, rfl, by omega, rfl, by rw [eT, eTk] <;> rfl, by rw [eG]; exact P2, F2⟩
      have hmain : ∀ kd, kd ≤ 2 → kd = (if k < bkv ρ b 2 then 1 else 2) → OkQ (jX3_giveBeds_49 q j (nI S) (nI (nightM ρ b)) (nI (sumNQ (totT ρ b S π.1 π.2.2) k), nI k, a3) (nI b) (nI kd)) (fun r => Sum.elim (fun a2 => k < prs ρ b ∧ a2.2.1 = nI (k + 1) ∧ a2.1 = nI (sumNQ (totT ρ b S π.1 π.2.2) (k + 1)) ∧ PC a2.2.2 q ((gvS ρ b S π.1 π.2.2 (k + 1)).1, π.2.1, (gvS ρ b S π.1 π.2.2 (k + 1)).2) ∧ FrQ (fun k x _ => (k = 50 ∨ k = 51) ∧ x = q) σ a2.2.2) (fun r => r.1 = nI (sumNQ (totT ρ b S π.1 π.2.2) (prs ρ b)) ∧ PC r.2 q ((gvS ρ b S π.1 π.2.2 (prs ρ b)).1, π.2.1, (gvS ρ b S π.1 π.2.2 (prs ρ b)).2) ∧ FrQ (fun k x _ => (k = 50 ∨ k = 51) ∧ x = q) σ r.2) r) := by
        intro kd hkd2 hkd
        unfold jX3_giveBeds_49
        try dsimp only
        simp only [l_0, l_1]
        rw [firstFree_h (h := (gvS ρ b S π.1 π.2.2 k).1) h0' hW P2.1 hb hS hkd2, Option.bind_some]
        have eb : bdN ρ b S π.1 π.2.2 k = if ffB ρ (gvS ρ b S π.1 π.2.2 k).1 b S kd < 10 * ρ 4 then ffB ρ (gvS ρ b S π.1 π.2.2 k).1 b S kd else ffB ρ (gvS ρ b S π.1 π.2.2 k).1 b S 0 := by
          unfold bdN bedFor; rw [← hkd]
        by_cases hf : ffB ρ (gvS ρ b S π.1 π.2.2 k).1 b S kd < 10 * ρ 4
        · rw [if_pos hf] at eb
          rw [if_pos hf, if_pos (nI_m1 (by omega))]
          refine hend _ ?_
          rw [eb, if_pos hf]
        · rw [if_neg hf] at eb
          rw [if_neg hf, if_neg (fun w => w rfl), firstFree_h (h := (gvS ρ b S π.1 π.2.2 k).1) h0' hW P2.1 hb hS (by omega), Option.bind_some]
          refine hend _ ?_
          rw [eb]
          by_cases hf0 : ffB ρ (gvS ρ b S π.1 π.2.2 k).1 b S 0 < 10 * ρ 4
          · rw [if_pos hf0, if_pos hf0]
          · rw [if_neg hf0, if_neg hf0]
      simp only [l_1, l_2]
      by_cases hf : bkv ρ b 2 ≤ k
      · rw [if_pos hf]
        exact hmain 2 (by omega) (by rw [if_neg (by omega)])
      · rw [if_neg hf]
        exact hmain 1 (by omega) (by rw [if_pos (by omega)])
  unfold fX3_giveBeds
  rw [gd_inb (by omega) (by omega), nI_clamp (by omega), nightBits_h hB hw, Option.bind_some]
  simp only [l_0, l_100] at hl ⊢
  refine Ok_bind hl ?_
  rintro ⟨r1, r2⟩ ⟨g1, g2, g3⟩
  try dsimp only at g1 g2 g3 ⊢
  subst g1
  have htl := tot_le (S := S) (h := π.1) (sl := π.2.2) hW hb hp.2
  have hst := hw.2.1
  obtain ⟨s0, s1, s2, s3⟩ := hW.2.2.1
  rw [g3.1 41 j b (by omega), hB.2.1, g3.1 26 j 0 (by omega), h0.2.2.2.2.2.1, g3.1 27 j 0 (by omega), h0.2.2.2.2.2.2.1]; simp (disch := omega) only [nI_ltI]; rw [pk_sub (by omega), pk_mul]
  unfold disc
  by_cases qd : bkv ρ b 1 < ρ 2
  · rw [if_pos qd]
    exact ⟨_, rfl, by rw [if_pos qd], g2, g3⟩
  · have : sumNQ (totT ρ b S π.1 π.2.2) (prs ρ b) * (100 - ρ 3) ≤ 72000 * 100 := Nat.mul_le_mul htl (by omega)
    rw [if_neg qd, pk_div (by omega) (by omega) (by omega)]
    exact ⟨_, rfl, by rw [if_neg qd], g2, g3⟩
end
