/-! layer 2: edits -/
theorem I7_fr {K Km KJ KJm : Nat → Nat → Nat → Prop} {σ σ2 μ μ2 : Mem} (h : I7 σ μ) (F : FrG K KJ σ σ2) (G : FrG Km KJm μ μ2) (hk : ∀ k x r, K k x r → k ≠ 1 ∧ k ≠ 4 ∧ k ≠ 5) (hm : ∀ k x r, Km k x r → k ≠ 67 ∧ k ≠ 68 ∧ k ≠ 69) : I7 σ2 μ2 := by
  obtain ⟨c1, m, c2, c3, c4, c5⟩ := h
  refine ⟨?_, m, c2, ?_, ?_, fun i hi => ?_⟩
  · rw [F.1 1 0 0 (fun w => (hk _ _ _ w).1 rfl), G.1 67 0 0 (fun w => (hm _ _ _ w).1 rfl)]; exact c1
  · rw [F.1 4 0 0 (fun w => (hk _ _ _ w).2.1 rfl)]; exact c3
  · rw [G.1 69 0 0 (fun w => (hm _ _ _ w).2.2 rfl)]; exact c4
  · rw [F.1 5 0 i (fun w => (hk _ _ _ w).2.2 rfl), G.1 68 0 i (fun w => (hm _ _ _ w).2.1 rfl)]; exact c5 i hi
/-! rows that differ in a cell -/
theorem row_sum {ρ ρ2 : RwQ} (e4 : ρ2 4 = ρ 4) (e37 : ρ2 37 = ρ 37) (hr : ∀ r, r < ρ 4 → rmv ρ2 r 1 = rmv ρ r 1) (hb : ∀ b w, b < ρ 37 → (w < 4 ∨ w = 8) → bkv ρ2 b w = bkv ρ b w) : allB ρ2 = allB ρ ∧ ∀ n, bkd ρ2 n = bkd ρ n := by
  refine ⟨?_, fun n => ?_⟩
  · unfold allB
    rw [e4]
    exact sumN_congr hr
  · unfold bkd
    rw [e37]
    refine sumN_congr fun b hb2 => ?_
    unfold bkdT prs staysQ
    rw [hb b 0 hb2 (by omega), hb b 1 hb2 (by omega), hb b 2 hb2 (by omega), hb b 3 hb2 (by omega), hb b 8 hb2 (by omega)]
theorem HR_mk {σ σ2 : Mem} {j : Nat} {ρ ρ2 : RwQ} (h : HR σ j ρ) (e4 : ρ2 4 = ρ 4) (e37 : ρ2 37 = ρ 37) (hr : ∀ r, r < ρ 4 → rmv ρ2 r 1 = rmv ρ r 1) (hb : ∀ b w, b < ρ 37 → (w < 4 ∨ w = 8) → bkv ρ2 b w = bkv ρ b w) (hi : ∀ k, 191 ≤ k → ρ2 k = ρ k) (c24 : rI σ2 24 j 0 = nI (ρ2 0)) (c25 : rI σ2 25 j 0 = nI (ρ2 1)) (c26 : rI σ2 26 j 0 = nI (ρ2 2)) (c27 : rI σ2 27 j 0 = nI (ρ2 3)) (hR : ∀ r, r < ρ 4 → HRm σ2 j r ρ2) (hB : ∀ b, b < ρ 37 → HBk σ2 j b ρ2 b) (hs : ∀ k r, (k = 20 ∨ k = 21 ∨ k = 22 ∨ k = 23 ∨ k = 28 ∨ k = 29 ∨ k = 49) → rI σ2 k j r = rI σ k j r) : HR σ2 j ρ2 := by
  obtain ⟨s1, s2⟩ := row_sum e4 e37 hr hb
  obtain ⟨⟨a1, a2, a3, -⟩, ht, hq, hc⟩ := h
  refine ⟨⟨by rw [hs 20 0 (by omega), e4]; exact a1, by rw [hs 21 0 (by omega), s1]; exact a2, by rw [hs 22 0 (by omega), e37]; exact a3, c24, c25, c26, c27, by rw [e4]; exact hR, by rw [e37]; exact hB⟩, fun b hb2 => ?_, ⟨?_, fun k hk => ?_⟩, fun n hn => ?_⟩
  · rw [e37] at hb2
    rw [hs 49 b (by omega), hb b 8 hb2 (by omega)]; exact ht b hb2
  · rw [hs 23 0 (by omega), hi 191 (by omega)]; exact hq.1
  · rw [hi 191 (by omega)] at hk
    rw [hs 28 k (by omega), show lstQ ρ2 k = lstQ ρ k from hi _ (by omega)]; exact hq.2 k hk
  · rw [hs 29 n (by omega), s2]; exact hc n hn
theorem WQ_mk {ρ ρ2 : RwQ} (h : WQ ρ) (e37 : ρ2 37 = ρ 37) (hb : ∀ b, b < ρ 37 → bkv ρ2 b 8 = bkv ρ b 8) (hi : ∀ k, 191 ≤ k → ρ2 k = ρ k) : WQ ρ2 := by
  obtain ⟨q1, q2, q3, q4⟩ := h
  have e191 := hi 191 (by omega)
  have el : ∀ k, lstQ ρ2 k = lstQ ρ k := fun k => hi _ (by omega)
  refine ⟨by omega, by omega, fun k hk => ?_, fun i k hik hk => ?_⟩
  · rw [e191] at hk
    have := q3 k hk
    rw [el, e37, hb _ this.1]; exact this
  · rw [e191] at hk
    rw [el, el]; exact q4 i k hik hk
/-- a setting changes -/
theorem set_mk {σ : Mem} {j i v : Nat} {ρ : RwQ} (h : HR σ j ρ) (h3 : I3 ρ) (hi : i < 4) (hv : (i = 0 → v ≤ 50) ∧ (i = 1 → v ≤ 300) ∧ (i = 2 → 2 ≤ v ∧ v ≤ 30) ∧ (i = 3 → v ≤ 50)) : HR (wI σ (24 + i) j 0 (nI v)) j (upQ ρ i v) ∧ I3 (upQ ρ i v) := by
  have e4 : upQ ρ i v 4 = ρ 4 := up_n (by omega)
  have e37 : upQ ρ i v 37 = ρ 37 := up_n (by omega)
  have hr : ∀ r w, rmv (upQ ρ i v) r w = rmv ρ r w := fun r w => rmv_up (by omega)
  have hb : ∀ b w, bkv (upQ ρ i v) b w = bkv ρ b w := fun b w => bkv_up (by omega)
  have hp : ∀ b, prs (upQ ρ i v) b = prs ρ b := fun b => by unfold prs; rw [hb, hb]
  have F : FrQ (fun k x _ => k = 24 + i ∧ x = j) σ (wI σ (24 + i) j 0 (nI v)) := Fr_wI ⟨rfl, rfl⟩
  obtain ⟨a1, a2, a3, a4, a5, a6, a7, a8, a9⟩ := h.1
  have hc : ∀ k, k < 4 → rI σ (24 + k) j 0 = nI (ρ k) → rI (wI σ (24 + i) j 0 (nI v)) (24 + k) j 0 = nI (upQ ρ i v k) := by
    intro k hk e
    rw [rI_wI]
    by_cases q : k = i
    · subst q; rw [if_pos ⟨rfl, rfl, rfl⟩, up_s]
    · rw [if_neg (by omega), up_n q]; exact e
  refine ⟨HR_mk h e4 e37 (fun r _ => hr r 1) (fun b w _ _ => hb b w) (fun k hk => up_n (by omega)) (hc 0 (by omega) a4) (hc 1 (by omega) a5) (hc 2 (by omega) a6) (hc 3 (by omega) a7) (fun r hr2 => ?_) (fun b hb2 => ?_) (fun k r hk => F.1 _ _ _ (by omega)), ⟨?_, WQ_mk h3.2.1 e37 (fun b _ => hb b 8) (fun k hk => up_n (by omega)), by rw [e37]; exact h3.2.2⟩⟩
  · have := HRm_fr (a8 r hr2) F (fun k r _ _ w => by omega)
    unfold HRm at this ⊢
    simp only [hr]
    exact this
  · have := HBk_fr (a9 b hb2) F (fun k _ _ w => by omega)
    unfold HBk at this ⊢
    simp only [hb, hp]
    exact this
  · obtain ⟨w1, w2, ⟨w3, w4, w5, w6⟩, w7, w8⟩ := h3.1
    refine ⟨by rw [e4]; exact w1, by rw [e37]; exact w2, ⟨?_, ?_, ?_, ?_⟩, fun r hr2 => ?_, fun b hb2 => ?_⟩
    · by_cases q : i = 0
      · rw [q, up_s]; exact hv.1 q
      · rw [up_n (by omega)]; exact w3
    · by_cases q : i = 1
      · rw [q, up_s]; exact hv.2.1 q
      · rw [up_n (by omega)]; exact w4
    · by_cases q : i = 2
      · rw [q, up_s]; exact hv.2.2.1 q
      · rw [up_n (by omega)]; exact w5
    · by_cases q : i = 3
      · rw [q, up_s]; exact hv.2.2.2 q
      · rw [up_n (by omega)]; exact w6
    · rw [e4] at hr2
      unfold WFr
      rw [hr, hr, hr, hr]; exact w7 r hr2
    · rw [e37] at hb2
      unfold WFb
      rw [hp, hb, hb, hb, hb, hb, hb, hb, hb, hb]; exact w8 b hb2