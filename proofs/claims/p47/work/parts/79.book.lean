/-! layer 2: booking, undoing -/
/-! the row with a booking laid -/
theorem layB_lo {ρ : RwQ} {f n w m a c k : Nat} (hk : k < 37) : layB ρ f n w m a c k = ρ k := by
  unfold layB
  rw [up_n (by omega), setB_lo (by omega), setB_lo (by omega), setB_lo (by omega), setB_lo (by omega), setB_lo (by omega), setB_lo (by omega), setB_lo (by omega), setB_lo (by omega), setB_lo (by omega)]
theorem layB_37 {ρ : RwQ} {f n w m a c : Nat} : layB ρ f n w m a c 37 = ρ 37 + 1 := up_s _ _ _
theorem layB_hi {ρ : RwQ} {f n w m a c k : Nat} (h16 : ρ 37 ≤ 16) (hk : 191 ≤ k) : layB ρ f n w m a c k = ρ k := by
  unfold layB
  rw [up_n (by omega), setB_hi (by omega) (by omega) hk, setB_hi (by omega) (by omega) hk, setB_hi (by omega) (by omega) hk, setB_hi (by omega) (by omega) hk, setB_hi (by omega) (by omega) hk, setB_hi (by omega) (by omega) hk, setB_hi (by omega) (by omega) hk, setB_hi (by omega) (by omega) hk, setB_hi (by omega) (by omega) hk]
theorem layB_bk {ρ : RwQ} {f n w m a c b k : Nat} (hk : k < 9) : bkv (layB ρ f n w m a c) b k = if b = ρ 37 then (if k = 8 then 0 else if k = 7 then 0 else if k = 6 then 0 else if k = 5 then c else if k = 4 then a else if k = 3 then m else if k = 2 then w else if k = 1 then n else f) else bkv ρ b k := by
  unfold layB
  rw [bkv_up (by omega), bkv_setB (by omega) hk, bkv_setB (by omega) hk, bkv_setB (by omega) hk, bkv_setB (by omega) hk, bkv_setB (by omega) hk, bkv_setB (by omega) hk, bkv_setB (by omega) hk, bkv_setB (by omega) hk, bkv_setB (by omega) hk]
  by_cases q : b = ρ 37
  · simp only [q, true_and, if_true]
    have : k = 0 ∨ k = 1 ∨ k = 2 ∨ k = 3 ∨ k = 4 ∨ k = 5 ∨ k = 6 ∨ k = 7 ∨ k = 8 := by omega
    rcases this with rfl | rfl | rfl | rfl | rfl | rfl | rfl | rfl | rfl <;> simp
  · simp only [q, false_and, if_false]
theorem layB_ext {ρ : RwQ} {f n w m a c : Nat} (h16 : ρ 37 ≤ 16) : ExtQ ρ (layB ρ f n w m a c) := by
  refine ⟨fun k hk => layB_lo hk, layB_37, fun b k hb hk => ?_, ?_, fun k hk => layB_hi h16 hk⟩
  · rw [layB_bk hk, if_neg (by omega)]
  · rw [layB_bk (by omega), if_pos rfl, if_pos rfl]
theorem layB_WF {ρ : RwQ} (hW : WF ρ) (h16 : ρ 37 ≤ 16) {f n w m a c : Nat} (hf : f ≤ 29) (hn : 1 ≤ n ∧ n ≤ 30 - f) (hw : w ≤ 12) (hm : (if w = 0 then 1 else 0) ≤ m ∧ m ≤ 12 - w) (ha : a ≤ 99) (hc : c ≤ 100) : WF (layB ρ f n w m a c) := by
  obtain ⟨w1, w2, w3, w4, w5⟩ := hW
  refine ⟨by rw [layB_lo (by omega)]; exact w1, by rw [layB_37]; omega, ?_, fun r hr => ?_, fun b hb => ?_⟩
  · rw [layB_lo (by omega), layB_lo (by omega), layB_lo (by omega), layB_lo (by omega)]; exact w3
  · rw [layB_lo (by omega)] at hr
    have hr2 : ∀ k, k < 4 → rmv (layB ρ f n w m a c) r k = rmv ρ r k := fun k hk => layB_lo (by omega)
    unfold WFr
    rw [hr2 0 (by omega), hr2 1 (by omega), hr2 2 (by omega), hr2 3 (by omega)]
    exact w4 r hr
  · rw [layB_37] at hb
    by_cases q : b = ρ 37
    · unfold WFb prs
      rw [layB_bk (by omega), layB_bk (by omega), layB_bk (by omega), layB_bk (by omega), layB_bk (by omega), layB_bk (by omega), layB_bk (by omega), layB_bk (by omega), layB_bk (by omega)]
      simp only [if_pos q]
      simp only [↓reduceIte, Nat.reduceEqDiff]
      have hm1 : 1 ≤ w + m := by
        by_cases z : w = 0
        · rw [if_pos z] at hm; omega
        · omega
      refine ⟨by omega, ⟨hn.1, by omega⟩, ⟨hw, by omega, hm1, by omega⟩, ha, hc, by omega, by omega, by omega⟩
    · have hb2 : ∀ k, k < 9 → bkv (layB ρ f n w m a c) b k = bkv ρ b k := fun k hk => by rw [layB_bk hk, if_neg q]
      unfold WFb prs
      rw [hb2 0 (by omega), hb2 1 (by omega), hb2 2 (by omega), hb2 3 (by omega), hb2 4 (by omega), hb2 5 (by omega), hb2 6 (by omega), hb2 7 (by omega), hb2 8 (by omega)]
      exact w5 b (by omega)
/-- the class fills in a booking -/
theorem fill_h {σ : Mem} {j : Nat} {ρ : RwQ} {f n w m a c : Nat} : OkQ (fX0_fill j (ρ 37) (nI f) (nI n) (nI w) (nI m) (nI a) (nI c) σ) (fun σ2 => HBk σ2 j (ρ 37) (layB ρ f n w m a c) (ρ 37) ∧ rJ σ2 2 j (ρ 37) = 0 ∧ FrG (fun k y r => (40 ≤ k ∧ k ≤ 48) ∧ y = j ∧ r = ρ 37) (fun k y r => k = 2 ∧ y = j ∧ r = ρ 37) σ σ2) := by
  unfold fX0_fill
  refine ⟨_, rfl, ?_, ?_, ?_⟩
  · unfold HBk prs
    rw [layB_bk (by omega), layB_bk (by omega), layB_bk (by omega), layB_bk (by omega), layB_bk (by omega), layB_bk (by omega), layB_bk (by omega), layB_bk (by omega)]
    simp [rI_wI, rI_wJ, nI_add, nI_0]
  · simp [rJ_wI, rJ_wJ]
  · exact FrG_tr (FrG_tr (FrG_tr (FrG_tr (FrG_tr (FrG_tr (FrG_tr (FrG_tr (FrG_tr (FrG_wJ (by omega)) (FrG_wI (by omega))) (FrG_wI (by omega))) (FrG_wI (by omega))) (FrG_wI (by omega))) (FrG_wI (by omega))) (FrG_wI (by omega))) (FrG_wI (by omega))) (FrG_wI (by omega))) (FrG_wI (by omega))
/-- a row of bookings behind the last one is nobody's -/
theorem HR_row {K KJ : Nat → Nat → Nat → Prop} {σ σ2 : Mem} {j : Nat} {ρ : RwQ} (h : HR σ j ρ) (F : FrG K KJ σ σ2) (hk : ∀ k r, K k j r → 40 ≤ k ∧ k ≤ 49 ∧ ρ 37 ≤ r) : HR σ2 j ρ := by
  obtain ⟨⟨a1, a2, a3, a4, a5, a6, a7, a8, a9⟩, ht, hq, hc⟩ := h
  have e : ∀ k r, (k < 40 ∨ 49 < k ∨ r < ρ 37) → rI σ2 k j r = rI σ k j r := fun k r q => F.1 k j r (fun w => by have := hk k r w; omega)
  refine ⟨⟨by rw [e 20 0 (by omega)]; exact a1, by rw [e 21 0 (by omega)]; exact a2, by rw [e 22 0 (by omega)]; exact a3, by rw [e 24 0 (by omega)]; exact a4, by rw [e 25 0 (by omega)]; exact a5, by rw [e 26 0 (by omega)]; exact a6, by rw [e 27 0 (by omega)]; exact a7, fun r hr => ?_, fun b hb => ?_⟩, fun b hb => by rw [e 49 b (by omega)]; exact ht b hb, ⟨by rw [e 23 0 (by omega)]; exact hq.1, fun k hk2 => by rw [e 28 k (by omega)]; exact hq.2 k hk2⟩, fun n hn => by rw [e 29 n (by omega)]; exact hc n hn⟩
  · have := a8 r hr
    unfold HRm at this ⊢
    rw [e 30 r (by omega), e 31 r (by omega), e 32 r (by omega), e 33 r (by omega)]; exact this
  · have := a9 b hb
    unfold HBk at this ⊢
    rw [e 40 b (by omega), e 41 b (by omega), e 42 b (by omega), e 43 b (by omega), e 44 b (by omega), e 45 b (by omega), e 46 b (by omega), e 47 b (by omega), e 48 b (by omega)]; exact this
theorem NM0 : NMq 0 0 := ⟨[], by decide, fun l hl => absurd hl List.not_mem_nil, by decide +kernel, by decide +kernel⟩
section
variable {σ μ : Mem}
end
