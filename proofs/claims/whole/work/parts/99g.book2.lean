/-! layer 2: a booking read -/
section
variable {σ σ2 μ μ2 : Mem} {j N s : Nat} {B : Nat → Int32} {ρ : RwQ} {f n w m a c t : Nat}
theorem WF_f6 (h : WF ρ) {b : Nat} (hb : b < 17) (ht : t ≤ 1) : WF (setBQ ρ b 6 t) := by
  obtain ⟨w1, w2, w3, w4, w5⟩ := h
  have hbk : ∀ x k, k < 9 → ¬ (x = b ∧ k = 6) → bkv (setBQ ρ b 6 t) x k = bkv ρ x k := fun x k hk q => by rw [bkv_setB (by omega) hk, if_neg q]
  have hp : ∀ x, prs (setBQ ρ b 6 t) x = prs ρ x := fun x => by unfold prs; rw [hbk x 2 (by omega) (by omega), hbk x 3 (by omega) (by omega)]
  refine ⟨by rw [setB_lo (by omega)]; exact w1, by rw [setB_lo (by omega)]; exact w2, ?_, fun r hr => ?_, fun x hx => ?_⟩
  · rw [setB_lo (by omega), setB_lo (by omega), setB_lo (by omega), setB_lo (by omega)]; exact w3
  · rw [setB_lo (by omega)] at hr
    unfold WFr
    rw [rmv_setB (by omega) (by omega), rmv_setB (by omega) (by omega), rmv_setB (by omega) (by omega), rmv_setB (by omega) (by omega)]; exact w4 r hr
  · rw [setB_lo (by omega)] at hx
    obtain ⟨z1, z2, z3, z4, z5, z6, z7, z8⟩ := w5 x hx
    unfold WFb
    rw [hp, hbk x 0 (by omega) (by omega), hbk x 1 (by omega) (by omega), hbk x 2 (by omega) (by omega), hbk x 3 (by omega) (by omega), hbk x 4 (by omega) (by omega), hbk x 5 (by omega) (by omega), hbk x 7 (by omega) (by omega), hbk x 8 (by omega) (by omega), bkv_setB (by omega) (by omega)]
    refine ⟨z1, z2, z3, z4, z5, ?_, z7, z8⟩
    by_cases q : x = b ∧ 6 = 6
    · rw [if_pos q]; exact ht
    · rw [if_neg q]; exact z6
def lyT (ρ : RwQ) (f n w m a c t : Nat) : RwQ := setBQ (layB ρ f n w m a c) (ρ 37) 6 t
theorem lyT_ext (h16 : ρ 37 ≤ 16) : ExtQ ρ (lyT ρ f n w m a c t) := by
  obtain ⟨e1, e2, e3, e4, e5⟩ := layB_ext (ρ := ρ) (f := f) (n := n) (w := w) (m := m) (a := a) (c := c) h16
  unfold lyT
  refine ⟨fun k hk => by rw [setB_lo (by omega)]; exact e1 k hk, by rw [setB_lo (by omega)]; exact e2, fun b k hb hk => ?_, ?_, fun k hk => by rw [setB_hi (by omega) (by omega) hk]; exact e5 k hk⟩
  · rw [bkv_setB (by omega) hk, if_neg (by omega)]; exact e3 b k hb hk
  · rw [bkv_setB (by omega) (by omega), if_neg (by omega)]; exact e4
theorem lyT_bk {k : Nat} (hk : k < 9) : bkv (lyT ρ f n w m a c t) (ρ 37) k = if k = 6 then t else bkv (layB ρ f n w m a c) (ρ 37) k := by
  unfold lyT
  rw [bkv_setB (by omega) hk]
  by_cases q : k = 6
  · rw [if_pos ⟨rfl, q⟩, if_pos q]
  · rw [if_neg (fun z => q z.2), if_neg q]
theorem lyT_HBk (h : HBk σ j (ρ 37) (layB ρ f n w m a c) (ρ 37)) (h47 : rI σ2 47 j (ρ 37) = nI t) (F : ∀ k, 40 ≤ k → k ≤ 48 → k ≠ 47 → rI σ2 k j (ρ 37) = rI σ k j (ρ 37)) : HBk σ2 j (ρ 37) (lyT ρ f n w m a c t) (ρ 37) := by
  unfold HBk prs at h ⊢
  rw [lyT_bk (by omega), lyT_bk (by omega), lyT_bk (by omega), lyT_bk (by omega), lyT_bk (by omega), lyT_bk (by omega), lyT_bk (by omega), lyT_bk (by omega), F 40 (by omega) (by omega) (by omega), F 41 (by omega) (by omega) (by omega), F 42 (by omega) (by omega) (by omega), F 43 (by omega) (by omega) (by omega), F 44 (by omega) (by omega) (by omega), F 45 (by omega) (by omega) (by omega), F 46 (by omega) (by omega) (by omega), F 48 (by omega) (by omega) (by omega)]
  exact ⟨h.1, h.2.1, h.2.2.1, h.2.2.2.1, h.2.2.2.2.1, h.2.2.2.2.2.1, h.2.2.2.2.2.2.1, h47, h.2.2.2.2.2.2.2.2⟩
/-- the end of a booking: the semicolon, and it comes -/
theorem bookT {nm nr : Int64} {ma mb mc md me mf q6 : Mem} (h3 : I3 ρ) (h15 : ρ 37 ≤ 15) (hW : WF (layB ρ f n w m a c)) (ht : t ≤ 1) (R : RdC σ N B s) (R2 : RdR μ N B s) (hR : HR σ j ρ) (hB : HBk σ j (ρ 37) (lyT ρ f n w m a c t) (ρ 37)) (C : Cur μ 1 ρ) (hN : Nm2 σ μ j ρ) (hnm : NMr nm nr) (e1 : rJ σ 2 j (ρ 37) = nm) (e2 : rJ q6 10 0 0 = nr) : SO (jX2_readBook_89 j σ) (jX6_readBook_189 (nI f, ma) (nI n, mb) (nI w, mc) (nI m, md) (nI a, me) (nI c, mf) (nI t) (nI (ρ 37)) q6 μ) σ μ j N B s := by
  have h4 := tkK_le N B s
  unfold jX2_readBook_89 jX6_readBook_189 jX6_readBook_231
  simp only [l_0, l_1, l_3, l_6]
  rw [R.2.2.2.2.1]
  by_cases e : tkK N B s = 3
  · have hE : ExtQ ρ (lyT ρ f n w m a c t) := lyT_ext (by omega)
    have hW2 : WF (lyT ρ f n w m a c t) := WF_f6 hW (by omega) ht
    obtain ⟨σ2, y1, y2, y3, y4, y5⟩ := tellNext_h hR hW2 h3.2.1 hE h15 hB
    rw [if_pos (by rw [e]), y1, Option.bind_some, ends_Y R2 e, Option.bind_some, well_Y R2, Option.bind_some, if_pos (by decide)]
    obtain ⟨μ3, z1, z2, z3⟩ := lays_s C (by omega) (f := f) (n := n) (w := w) (m := m) (a := a) (c := c)
    have z1' := z1
    rw [z1, Option.bind_some]
    have key : ∀ x : Option Mem, x = ((fX6_lay (nI (ρ 37)) (nI 6) (nI t) μ3).bind fun q22 => (gd (inb (nI (ρ 37)) 17) ((fX6_comes (nI (ρ 37)) (wJ q22 14 0 (nI (ρ 37)).toNatClampNeg (rJ q6 10 0 0))).bind fun q23 => (some q23)))) → SO (some (nI 1, σ2)) x σ μ j N B s := by
      rintro x rfl
      rw [lay_s z2 (by omega) (by omega), Option.bind_some, gd_inb (by omega) (by omega), nI_clamp (by omega), e2]
      have C4 := lay_C z2 (b := ρ 37) (w := 6) (by omega) (by omega) t
      obtain ⟨μ4, hμ4⟩ : ∃ x, x = wI μ3 61 0 (208 * 1 + (38 + 9 * ρ 37 + 6)) (nI t) := ⟨_, rfl⟩
      have G4 : FrG (fun k _ r => k = 61 ∧ 208 ≤ r ∧ r < 416) (fun _ _ _ => False) μ3 μ4 := by rw [hμ4]; exact FrG_wI (by omega)
      rw [← hμ4] at C4 ⊢
      have C5 : Cur (wJ μ4 14 0 (ρ 37) nr) 1 (lyT ρ f n w m a c t) := C4
      have h191 : lyT ρ f n w m a c t 191 < 16 := by
        rw [hE.2.2.2.2 191 (by omega)]
        have := h3.2.1.1; omega
      obtain ⟨μ6, v1, v2, v3⟩ := comes_s C5 hW2 h191 (b := ρ 37) (by rw [hE.2.1]; omega)
      rw [v1, Option.bind_some]
      have G46 : FrG (fun k _ r => k = 61 ∧ 208 ≤ r ∧ r < 416) (fun k _ r => k = 14 ∧ r = ρ 37) μ4 μ6 := FrG_tr (FrG_wJ ⟨rfl, rfl⟩) (Fr_G (Fr_mono v3 (fun k x r z => by unfold KRQ at z; omega)))
      have GG : FrG (fun k _ r => k = 61 ∧ 208 ≤ r ∧ r < 416) (fun k _ r => k = 14 ∧ r = ρ 37) μ μ6 := FrG_tr (FrG_tr (Fr_G (Fr_mono z3 (fun k x r z => by unfold KRQ at z; omega))) (FrG_mono G4 (fun k x r z => z) (fun _ _ _ z => z.elim))) G46
      have GF : FrG (KHQ j) (fun _ _ _ => False) σ σ2 := Fr_G y5
      have e37 : cms (lyT ρ f n w m a c t) (ρ 37) 37 = ρ 37 + 1 := by rw [(cms_same (by omega)).1 37 (by omega), hE.2.1]
      have e4' : cms (lyT ρ f n w m a c t) (ρ 37) 4 = ρ 4 := by rw [(cms_same (by omega)).1 4 (by omega), hE.1 4 (by omega)]
      refine ⟨σ2, μ6, rfl, FrG_mono GF (fun k x r z => Or.inr z) (fun _ _ _ z => z.elim), FrG_mono GG (fun k x r z => Or.inr z) (fun k x r z => Or.inr (Or.inr z.1)), Or.inl ⟨s, _, rfl, Nat.le_refl _, e, RdC_fr R GF (fun k x r z => by unfold KHQ at z; omega) (fun _ _ _ z => z.elim), RdR_fr R2 GG (fun k x r z => by omega) (fun k x r z => by omega), y2, v2, ⟨y4, y3, by omega⟩, ?_⟩⟩
      refine ⟨fun r hr => ?_, fun b hb => ?_⟩
      · rw [GF.2.1 1 _ r (fun z => z), GG.2.1 13 0 r (by omega)]; exact hN.1 r (by omega)
      · by_cases hbn : b = ρ 37
        · have q1 : rJ σ2 2 j b = nm := by rw [hbn, GF.2.1 2 _ _ (fun z => z)]; exact e1
          have q2 : rJ μ6 14 0 b = nr := by rw [Fr_J v3, hbn, rJ_wJ_self]
          rw [q1, q2]; exact hnm
        · rw [GF.2.1 2 _ b (fun z => z), GG.2.1 14 0 b (by omega)]; exact hN.2 b (by omega)
    have ht2 : t = 0 ∨ t = 1 := by omega
    rcases ht2 with rfl | rfl
    · rw [if_pos rfl]; exact key _ rfl
    · rw [if_neg (by decide)]; exact key _ rfl
  · rw [if_neg (nI_ne (by omega) (by omega) e), ends_N R2 e, Option.bind_some, well_N (bad_s R2).1, Option.bind_some, if_neg (by decide)]
    exact ⟨σ, _, rfl, FK_rfl σ, FY_M (FY_75 _), Or.inr ⟨_, rfl, st_9 R, (bad_s R2).1⟩⟩
end
