/-! layer 2: a booking read -/
section
variable {σ σ2 μ μ2 : Mem} {j N s : Nat} {B : Nat → Int32} {ρ : RwQ} {f n w m a c t : Nat}
theorem WF_f6 (h : WF ρ) {b : Nat} (hb : b < 17) (ht : t ≤ 1) : WF (setBQ ρ b 6 t) := by
  obtain ⟨w1, w2, w3, w4, w5⟩ := h
  have hbk : ∀ x k, k < 9 → ¬ (x = b ∧ k = 6) → bkv (setBQ ρ b 6 t) x k = bkv ρ x k := fun x k hk q => by rw [bkv_setB (by omega) hk, if_neg q]
  have hp : ∀ x, prs (setBQ ρ b 6 t) x = prs ρ x := fun x => by unfold prs; rw [hbk x 2 (by omega) (by omega), hbk x 3 (by omega) (by omega)]
  refine ⟨by rw [setB_lo (by omega)]; exact w1, by rw [setB_lo (by omega)]; exact w2, ?_, fun r hr => ?_, fun x hx => ?_⟩
  · rw [setB_lo (by omega), setB_lo (by omega), setB_lo (by omega), setB_lo (by omega)]; exact w3
  · rw [setB_lo (by omega)] at hr
    unfold WFr
    rw [rmv_setB (by omega) (by omega), rmv_setB (by omega) (by omega), rmv_setB (by omega) (by omega), rmv_setB (by omega) (by omega)]; exact w4 r hr
  · rw [setB_lo (by omega)] at hx
    obtain ⟨z1, z2, z3, z4, z5, z6, z7, z8⟩ := w5 x hx
    unfold WFb
    rw [hp, hbk x 0 (by omega) (by omega), hbk x 1 (by omega) (by omega), hbk x 2 (by omega) (by omega), hbk x 3 (by omega) (by omega), hbk x 4 (by omega) (by omega), hbk x 5 (by omega) (by omega), hbk x 7 (by omega) (by omega), hbk x 8 (by omega) (by omega), bkv_setB (by omega) (by omega)]
    refine ⟨z1, z2, z3, z4, z5, ?_, z7, z8⟩
    by_cases q : x = b ∧ 6 = 6
    · rw [if_pos q]; exact ht
    · rw [if_neg q]; exact z6
def lyT (ρ : RwQ) (f n w m a c t : Nat) : RwQ := setBQ (layB ρ f n w m a c) (ρ 37) 6 t
theorem lyT_ext (h16 : ρ 37 ≤ 16) : ExtQ ρ (lyT ρ f n w m a c t) := by
  obtain ⟨e1, e2, e3, e4, e5⟩ := layB_ext (ρ := ρ) (f := f) (n := n) (w := w) (m := m) (a := a) (c := c) h16
  unfold lyT
  refine ⟨fun k hk => by rw [setB_lo (by omega)]; exact e1 k hk, by rw [setB_lo (by omega)]; exact e2, fun b k hb hk => ?_, ?_, fun k hk => by rw [setB_hi (by omega) (by omega) hk]; exact e5 k hk⟩
  · rw [bkv_setB (by omega) hk, if_neg (by omega)]; exact e3 b k hb hk
  · rw [bkv_setB (by omega) (by omega), if_neg (by omega)]; exact e4
theorem lyT_bk {k : Nat} (hk : k < 9) : bkv (lyT ρ f n w m a c t) (ρ 37) k = if k = 6 then t else bkv (layB ρ f n w m a c) (ρ 37) k := by
  unfold lyT
  rw [bkv_setB (by omega) hk]
  by_cases q : k = 6
  · rw [if_pos ⟨rfl, q⟩, if_pos q]
  · rw [if_neg (fun z => q z.2), if_neg q]
theorem lyT_HBk (h : HBk σ j (ρ 37) (layB ρ f n w m a c) (ρ 37)) (h47 : rI σ2 47 j (ρ 37) = nI t) (F : ∀ k, 40 ≤ k → k ≤ 48 → k ≠ 47 → rI σ2 k j (ρ 37) = rI σ k j (ρ 37)) : HBk σ2 j (ρ 37) (lyT ρ f n w m a c t) (ρ 37) := by
  unfold HBk prs at h ⊢
  rw [lyT_bk (by omega), lyT_bk (by omega), lyT_bk (by omega), lyT_bk (by omega), lyT_bk (by omega), lyT_bk (by omega), lyT_bk (by omega), lyT_bk (by omega), F 40 (by omega) (by omega) (by omega), F 41 (by omega) (by omega) (by omega), F 42 (by omega) (by omega) (by omega), F 43 (by omega) (by omega) (by omega), F 44 (by omega) (by omega) (by omega), F 45 (by omega) (by omega) (by omega), F 46 (by omega) (by omega) (by omega), F 48 (by omega) (by omega) (by omega)]
  exact ⟨h.1, h.2.1, h.2.2.1, h.2.2.2.1, h.2.2.2.2.1, h.2.2.2.2.2.1, h.2.2.2.2.2.2.1, h47, h.2.2.2.2.2.2.2.2⟩
end
