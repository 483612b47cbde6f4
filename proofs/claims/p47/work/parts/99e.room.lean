/-! layer 2: a room read -/
def rmN (ρ : RwQ) (k b a p : Nat) : RwQ := upQ (upQ (upQ (upQ (upQ ρ (5 + 4 * ρ 4 + 0) k) (5 + 4 * ρ 4 + 1) b) (5 + 4 * ρ 4 + 2) a) (5 + 4 * ρ 4 + 3) p) 4 (ρ 4 + 1)
section
variable {σ σ2 μ μ2 : Mem} {j N s : Nat} {B : Nat → Int32} {ρ : RwQ} {k b a p : Nat}
theorem rmN_4 : rmN ρ k b a p 4 = ρ 4 + 1 := up_s _ _ _
theorem rmN_lo {i : Nat} (hi : i < 4) : rmN ρ k b a p i = ρ i := by
  unfold rmN
  rw [up_n (by omega), up_n (by omega), up_n (by omega), up_n (by omega), up_n (by omega)]
theorem rmN_hi {i : Nat} (h8 : ρ 4 < 8) (hi : 37 ≤ i) : rmN ρ k b a p i = ρ i := by
  unfold rmN
  rw [up_n (by omega), up_n (by omega), up_n (by omega), up_n (by omega), up_n (by omega)]
theorem rmN_bk (h8 : ρ 4 < 8) (x w : Nat) : bkv (rmN ρ k b a p) x w = bkv ρ x w := rmN_hi h8 (by omega)
theorem rmN_prs (h8 : ρ 4 < 8) (x : Nat) : prs (rmN ρ k b a p) x = prs ρ x := by unfold prs; rw [rmN_bk h8, rmN_bk h8]
theorem rmN_old {r w : Nat} (hr : r < ρ 4) (hw : w < 4) : rmv (rmN ρ k b a p) r w = rmv ρ r w := by
  unfold rmN
  rw [rmv_up (by omega), rmv_up (by omega), rmv_up (by omega), rmv_up (by omega), rmv_up (by omega)]
theorem rmN_new : rmv (rmN ρ k b a p) (ρ 4) 0 = k ∧ rmv (rmN ρ k b a p) (ρ 4) 1 = b ∧ rmv (rmN ρ k b a p) (ρ 4) 2 = a ∧ rmv (rmN ρ k b a p) (ρ 4) 3 = p := by
  unfold rmN
  refine ⟨?_, ?_, ?_, ?_⟩
  · rw [rmv_up (by omega), rmv_up (by omega), rmv_up (by omega), rmv_up (by omega)]; exact up_s _ _ _
  · rw [rmv_up (by omega), rmv_up (by omega), rmv_up (by omega)]; exact up_s _ _ _
  · rw [rmv_up (by omega), rmv_up (by omega)]; exact up_s _ _ _
  · rw [rmv_up (by omega)]; exact up_s _ _ _
theorem rmN_all : allB (rmN ρ k b a p) = allB ρ + b := by
  unfold allB
  rw [rmN_4]
  show sumNQ _ (ρ 4) + rmv (rmN ρ k b a p) (ρ 4) 1 = _
  rw [rmN_new.2.1, sumN_congr (f := fun r => rmv (rmN ρ k b a p) r 1) (g := fun r => rmv ρ r 1) (fun r hr => rmN_old hr (by omega))]
theorem rmN_bkd (h8 : ρ 4 < 8) (n : Nat) : bkd (rmN ρ k b a p) n = bkd ρ n := by
  unfold bkd
  rw [rmN_hi h8 (by omega)]
  refine sumN_congr fun x hx => ?_
  unfold bkdT staysQ
  rw [rmN_bk h8, rmN_bk h8, rmN_bk h8, rmN_prs h8]
theorem rmN_I3 (h3 : I3 ρ) (h8 : ρ 4 < 8) (hk : k ≤ 2) (hb : 1 ≤ b ∧ b ≤ 10) (ha : a ≤ 99) (hp : 1 ≤ p ∧ p ≤ 200) : I3 (rmN ρ k b a p) := by
  obtain ⟨⟨w1, w2, w3, w4, w5⟩, hQ, h16⟩ := h3
  have e37 : rmN ρ k b a p 37 = ρ 37 := rmN_hi h8 (by omega)
  obtain ⟨n0, n1, n2, n3⟩ := rmN_new (ρ := ρ) (k := k) (b := b) (a := a) (p := p)
  refine ⟨⟨by rw [rmN_4]; omega, by rw [e37]; exact w2, ?_, fun r hr => ?_, fun x hx => ?_⟩, WQ_mk hQ e37 (fun x _ => rmN_bk h8 x 8) (fun i hi => rmN_hi h8 (by omega)), by rw [e37]; exact h16⟩
  · rw [rmN_lo (by omega), rmN_lo (by omega), rmN_lo (by omega), rmN_lo (by omega)]; exact w3
  · rw [rmN_4] at hr
    by_cases q : r = ρ 4
    · unfold WFr
      rw [q, n0, n1, n2, n3]
      exact ⟨hk, hb, ha, hp⟩
    · have hr2 : r < ρ 4 := by omega
      unfold WFr
      rw [rmN_old hr2 (by omega), rmN_old hr2 (by omega), rmN_old hr2 (by omega), rmN_old hr2 (by omega)]
      exact w4 r hr2
  · rw [e37] at hx
    unfold WFb
    rw [rmN_prs h8, rmN_bk h8, rmN_bk h8, rmN_bk h8, rmN_bk h8, rmN_bk h8, rmN_bk h8, rmN_bk h8, rmN_bk h8, rmN_bk h8]
    exact w5 x hx
/-- a row of rooms behind the last one is nobody's -/
theorem HR_rmrow {K KJ : Nat → Nat → Nat → Prop} (h : HR σ j ρ) (F : FrG K KJ σ σ2) (hk : ∀ k r, K k j r → k < 20 ∨ (30 ≤ k ∧ k ≤ 33 ∧ ρ 4 ≤ r)) : HR σ2 j ρ := by
  obtain ⟨⟨a1, a2, a3, a4, a5, a6, a7, a8, a9⟩, ht, hq, hc⟩ := h
  have e : ∀ k r, 20 ≤ k → (k < 30 ∨ 33 < k ∨ r < ρ 4) → rI σ2 k j r = rI σ k j r := fun k r q0 q => F.1 k j r (fun w => by have := hk k r w; omega)
  refine ⟨⟨by rw [e 20 0 (by omega) (by omega)]; exact a1, by rw [e 21 0 (by omega) (by omega)]; exact a2, by rw [e 22 0 (by omega) (by omega)]; exact a3, by rw [e 24 0 (by omega) (by omega)]; exact a4, by rw [e 25 0 (by omega) (by omega)]; exact a5, by rw [e 26 0 (by omega) (by omega)]; exact a6, by rw [e 27 0 (by omega) (by omega)]; exact a7, fun r hr => ?_, fun b hb => ?_⟩, fun b hb => by rw [e 49 b (by omega) (by omega)]; exact ht b hb, ⟨by rw [e 23 0 (by omega) (by omega)]; exact hq.1, fun k hk2 => by rw [e 28 k (by omega) (by omega)]; exact hq.2 k hk2⟩, fun n hn => by rw [e 29 n (by omega) (by omega)]; exact hc n hn⟩
  · have := a8 r hr
    unfold HRm at this ⊢
    rw [e 30 r (by omega) (by omega), e 31 r (by omega) (by omega), e 32 r (by omega) (by omega), e 33 r (by omega) (by omega)]; exact this
  · have := a9 b hb
    unfold HBk at this ⊢
    rw [e 40 b (by omega) (by omega), e 41 b (by omega) (by omega), e 42 b (by omega) (by omega), e 43 b (by omega) (by omega), e 44 b (by omega) (by omega), e 45 b (by omega) (by omega), e 46 b (by omega) (by omega), e 47 b (by omega) (by omega), e 48 b (by omega) (by omega)]; exact this
/-- the room counted -/
theorem rmN_HR (h : HR σ j ρ) (h3 : I3 ρ) (h8 : ρ 4 < 8) (r0 : rI σ 30 j (ρ 4) = nI k) (r1 : rI σ 31 j (ρ 4) = nI b) (r2 : rI σ 32 j (ρ 4) = nI a) (r3 : rI σ 33 j (ρ 4) = nI p) : HR (wI (wI σ 20 j 0 (nI (ρ 4 + 1))) 21 j 0 (nI (allB ρ + b))) j (rmN ρ k b a p) := by
  obtain ⟨⟨a1, a2, a3, a4, a5, a6, a7, a8, a9⟩, ht, hq, hc⟩ := h
  obtain ⟨n0, n1, n2, n3⟩ := rmN_new (ρ := ρ) (k := k) (b := b) (a := a) (p := p)
  have e37 : rmN ρ k b a p 37 = ρ 37 := rmN_hi h8 (by omega)
  have F : FrQ (fun k x r => (k = 20 ∨ k = 21) ∧ x = j ∧ r = 0) σ (wI (wI σ 20 j 0 (nI (ρ 4 + 1))) 21 j 0 (nI (allB ρ + b))) := Fr_tr (Fr_wI ⟨Or.inl rfl, rfl, rfl⟩) (Fr_wI ⟨Or.inr rfl, rfl, rfl⟩)
  refine ⟨⟨?_, ?_, ?_, ?_, ?_, ?_, ?_, fun r hr => ?_, fun x hx => ?_⟩, fun x hx => ?_, ⟨?_, fun i hi => ?_⟩, fun n hn => ?_⟩
  · rw [rmN_4, rI_wI_ne (by omega), rI_wI_self]
  · rw [rmN_all, rI_wI_self]
  · rw [e37, F.1 22 j 0 (by omega)]; exact a3
  · rw [rmN_lo (by omega), F.1 24 j 0 (by omega)]; exact a4
  · rw [rmN_lo (by omega), F.1 25 j 0 (by omega)]; exact a5
  · rw [rmN_lo (by omega), F.1 26 j 0 (by omega)]; exact a6
  · rw [rmN_lo (by omega), F.1 27 j 0 (by omega)]; exact a7
  · rw [rmN_4] at hr
    unfold HRm
    rw [F.1 30 j r (by omega), F.1 31 j r (by omega), F.1 32 j r (by omega), F.1 33 j r (by omega)]
    by_cases q : r = ρ 4
    · rw [q, n0, n1, n2, n3]
      exact ⟨r0, r1, r2, r3⟩
    · have hr2 : r < ρ 4 := by omega
      rw [rmN_old hr2 (by omega), rmN_old hr2 (by omega), rmN_old hr2 (by omega), rmN_old hr2 (by omega)]
      exact a8 r hr2
  · rw [e37] at hx
    have := HBk_fr (a9 x hx) F (fun k _ _ w => by omega)
    unfold HBk at this ⊢
    rw [rmN_prs h8, rmN_bk h8, rmN_bk h8, rmN_bk h8, rmN_bk h8, rmN_bk h8, rmN_bk h8, rmN_bk h8, rmN_bk h8]
    exact this
  · rw [e37] at hx
    rw [F.1 49 j x (by omega), rmN_bk h8]; exact ht x hx
  · rw [rmN_hi h8 (by omega), F.1 23 j 0 (by omega)]; exact hq.1
  · rw [rmN_hi h8 (by omega)] at hi
    rw [F.1 28 j i (by omega), show lstQ (rmN ρ k b a p) i = lstQ ρ i from rmN_hi h8 (by omega)]; exact hq.2 i hi
  · rw [F.1 29 j n (by omega), rmN_bkd h8]; exact hc n hn
end
