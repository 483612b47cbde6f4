/-! layer 2: telling, the waiting list, cancelling, in the class -/
def KHQ (j : Nat) (k x _r : Nat) : Prop := (20 ≤ k ∧ k ≤ 49) ∧ x = j
theorem cms_st {ρ : RwQ} {b x : Nat} (hb : b < 17) (hx : x < 17) (h16 : ρ 191 < 16) : bkv (cms ρ b) x 8 = if x = b ∧ canA ρ b = true then 1 else bkv ρ x 8 := by
  unfold cms
  by_cases h : canA ρ b = true
  · rw [if_pos h, bkv_setB (by omega) (by omega)]
    by_cases hxb : x = b
    · rw [if_pos ⟨hxb, rfl⟩, if_pos ⟨hxb, h⟩]
    · rw [if_neg (fun q => hxb q.1), if_neg (fun q => hxb q.1)]
  · rw [if_neg h, if_neg (fun q => h q.2)]
    unfold wtsQ
    rw [bkv_up (by omega), bkv_up (by omega)]
theorem cms_same {ρ : RwQ} {b : Nat} (hb : b < 17) : SameQ ρ (cms ρ b) := by
  unfold cms wtsQ
  split
  · exact Same_st hb
  · exact Same_tr (Same_hi (by omega)) (Same_hi (by omega))
theorem cms_WF {ρ : RwQ} (hW : WF ρ) {b : Nat} (hb : b < 17) : WF (cms ρ b) := by
  unfold cms wtsQ
  split
  · exact WF_st hW hb (by omega)
  · exact WF_hi (WF_hi hW (by omega)) (by omega)
theorem cms_WQ {ρ : RwQ} (hW : WF ρ) (hQ : WQ ρ) {b : Nat} (hb : b < ρ 37) (h16 : ρ 191 < 16) (h0 : bkv ρ b 8 = 0) (hn : ∀ k, k < ρ 191 → lstQ ρ k < b) (hl : ρ 191 < ρ 37) : WQ (cms ρ b) := by
  have h17 := hW.2.1
  obtain ⟨q1, q2, q3, q4⟩ := hQ
  unfold cms wtsQ
  split
  · have e1 : setBQ ρ b 8 1 191 = ρ 191 := setB_hi (by omega) (by omega) (by omega)
    have e2 : setBQ ρ b 8 1 37 = ρ 37 := setB_lo (by omega)
    have e3 : ∀ i, lstQ (setBQ ρ b 8 1) i = lstQ ρ i := fun i => setB_hi (by omega) (by omega) (by omega)
    refine ⟨by omega, by omega, fun k hk => ?_, fun i k hik hk => ?_⟩
    · rw [e1] at hk
      rw [e2, e3, bkv_setB (by omega) (by omega), if_neg (fun q => Nat.ne_of_lt (hn k hk) q.1)]
      exact q3 k hk
    · rw [e1] at hk
      rw [e3, e3]; exact q4 i k hik hk
  · have e1 : upQ (upQ ρ (192 + ρ 191) b) 191 (ρ 191 + 1) 191 = ρ 191 + 1 := up_s _ _ _
    have e2 : upQ (upQ ρ (192 + ρ 191) b) 191 (ρ 191 + 1) 37 = ρ 37 := by rw [up_n (by omega), up_n (by omega)]
    have e3 : ∀ i, lstQ (upQ (upQ ρ (192 + ρ 191) b) 191 (ρ 191 + 1)) i = if i = ρ 191 then b else lstQ ρ i := by
      intro i
      show upQ (upQ ρ (192 + ρ 191) b) 191 (ρ 191 + 1) (192 + i) = _
      rw [up_n (by omega)]
      by_cases h : i = ρ 191
      · subst h; rw [up_s, if_pos rfl]
      · rw [up_n (by omega), if_neg h] <;> rfl
    refine ⟨by omega, by omega, fun k hk => ?_, fun i k hik hk => ?_⟩
    · rw [e1] at hk
      rw [e2, e3]
      by_cases h : k = ρ 191
      · rw [if_pos h, bkv_up (by omega), bkv_up (by omega)]
        exact ⟨hb, h0⟩
      · have := q3 k (by omega)
        rw [if_neg h, bkv_up (by omega), bkv_up (by omega)]
        exact this
    · rw [e1] at hk
      rw [e3, e3, if_neg (by omega : i ≠ ρ 191)]
      by_cases h : k = ρ 191
      · rw [if_pos h]; exact hn i (by omega)
      · rw [if_neg h]; exact q4 i k hik (by omega)
theorem tell_h {σ : Mem} {j b : Nat} {ρ : RwQ} (hW : WF ρ) (hb : b < ρ 37) (h8 : bkv ρ b 8 = 0) (hB : HBk σ j b ρ b) (h21 : rI σ 21 j 0 = nI (allB ρ)) (h24 : rI σ 24 j 0 = nI (ρ 0)) (hq : HQ σ j ρ) (hc : HC σ j ρ) (h16 : ρ 191 < 16) : OkQ (fX1_tell j (nI b) σ) (fun σ2 => HQ σ2 j (cms ρ b) ∧ HC σ2 j (cms ρ b) ∧ rI σ2 49 j b = nI (bkv (cms ρ b) b 8) ∧ FrQ (fun k x r => (k = 23 ∨ k = 28 ∨ k = 29 ∨ k = 49 ∧ r = b) ∧ x = j) σ σ2) := by
  have h17 := hW.2.1
  have hw := hW.2.2.2.2 b hb
  unfold fX1_tell
  rw [gd_inb (by omega) (by omega), nI_clamp (by omega), canAcc_h hW hb hB h21 h24 hc, Option.bind_some]
  simp only [l_0, l_1, l_17]
  simp (disch := omega) only [b1_z]
  unfold cms
  by_cases h : canA ρ b = true
  · rw [if_neg (by rw [h]; decide)]
    simp only [if_pos h]
    refine Ok_bind (accept_c hB.1 hB.2.1 hB.2.2.2.2.1 hw.1 hw.2.1.2) ?_
    rintro σ2 ⟨g1, g2, g3⟩
    have F : FrQ (fun k x r => (k = 23 ∨ k = 28 ∨ k = 29 ∨ k = 49 ∧ r = b) ∧ x = j) σ σ2 := Fr_mono g3 (fun k x r q => by omega)
    refine ⟨_, rfl, ?_, acc_HC hc hb h17 (by omega) g1, ?_, F⟩
    · have := HQ_fr hq g3 (by omega) (fun r => by omega)
      refine ⟨by rw [setB_hi (by omega) (by omega) (by omega)]; exact this.1, fun k hk => ?_⟩
      rw [setB_hi (by omega) (by omega) (by omega)] at hk
      show _ = nI (setBQ ρ b 8 1 (192 + k))
      rw [setB_hi (by omega) (by omega) (by omega)]
      exact this.2 k hk
    · rw [g2, bkv_setB (by omega) (by omega), if_pos ⟨rfl, rfl⟩]
  · rw [if_pos (by simpa using h)]
    simp only [if_neg h]
    have e23 : rI (wI σ 49 j b (nI 0)) 23 j 0 = nI (ρ 191) := by rw [rI_wI, if_neg (by omega)]; exact hq.1
    rw [hq.1, if_neg (nI_ge (by omega) (by omega)), e23, gd_inb (by omega) (by omega), nI_clamp (by omega)]
    have e23' : rI (wI (wI σ 49 j b (nI 0)) 28 j (ρ 191) (nI b)) 23 j 0 = nI (ρ 191) := by rw [rI_wI, if_neg (by omega)]; exact e23
    rw [e23', nI_add]
    have F : FrQ (fun k x r => (k = 23 ∨ k = 28 ∨ k = 29 ∨ k = 49 ∧ r = b) ∧ x = j) σ (wI (wI (wI σ 49 j b (nI 0)) 28 j (ρ 191) (nI b)) 23 j 0 (nI (ρ 191 + 1))) := Fr_tr (Fr_wI (by omega)) (Fr_tr (Fr_wI (by omega)) (Fr_wI (by omega)))
    refine ⟨_, rfl, ⟨?_, ?_⟩, ?_, ?_, F⟩
    · rw [rI_wI, if_pos ⟨rfl, rfl, rfl⟩]
      unfold wtsQ
      rw [up_s]
    · intro k hk
      unfold wtsQ at hk ⊢
      rw [up_s] at hk
      show _ = nI (upQ (upQ ρ (192 + ρ 191) b) 191 (ρ 191 + 1) (192 + k))
      rw [rI_wI, if_neg (by omega), rI_wI, up_n (by omega)]
      by_cases hk2 : k = ρ 191
      · subst hk2; rw [if_pos ⟨rfl, rfl, rfl⟩, up_s]
      · rw [if_neg (fun q => hk2 q.2.2), up_n (by omega), rI_wI, if_neg (by omega)]
        exact hq.2 k (by omega)
    · intro n hn
      rw [rI_wI, if_neg (by omega), rI_wI, if_neg (by omega), rI_wI, if_neg (by omega)]
      unfold wtsQ
      rw [bkd_hi (by omega) (by rw [up_n (by omega)]; exact h17), bkd_hi (by omega) h17]
      exact hc n hn
    · rw [rI_wI, if_neg (by omega), rI_wI, if_neg (by omega), rI_wI, if_pos ⟨rfl, rfl, rfl⟩]
      unfold wtsQ
      rw [bkv_up (by omega), bkv_up (by omega), h8]
/-- the row with one booking more, that waits at first -/
def ExtQ (ρ ρ2 : RwQ) : Prop := (∀ k, k < 37 → ρ2 k = ρ k) ∧ ρ2 37 = ρ 37 + 1 ∧ (∀ b w, b < ρ 37 → w < 9 → bkv ρ2 b w = bkv ρ b w) ∧ bkv ρ2 (ρ 37) 8 = 0 ∧ (∀ k, 191 ≤ k → ρ2 k = ρ k)
theorem Ext_prs {ρ ρ2 : RwQ} (h : ExtQ ρ ρ2) {b : Nat} (hb : b < ρ 37) : prs ρ2 b = prs ρ b := by
  unfold prs; rw [h.2.2.1 b 2 hb (by omega), h.2.2.1 b 3 hb (by omega)]
theorem Ext_stays {ρ ρ2 : RwQ} (h : ExtQ ρ ρ2) {b : Nat} (hb : b < ρ 37) (n : Nat) : staysQ ρ2 b n = staysQ ρ b n := by
  unfold staysQ; rw [h.2.2.1 b 0 hb (by omega), h.2.2.1 b 1 hb (by omega)]
theorem Ext_rmv {ρ ρ2 : RwQ} (h : ExtQ ρ ρ2) {r w : Nat} (hr : r < 8) (hw : w < 4) : rmv ρ2 r w = rmv ρ r w := h.1 _ (by omega)
theorem Ext_allB {ρ ρ2 : RwQ} (h : ExtQ ρ ρ2) (h8 : ρ 4 ≤ 8) : allB ρ2 = allB ρ := by
  unfold allB
  rw [h.1 4 (by omega)]
  exact sumN_congr fun r hr => Ext_rmv h (by omega) (by omega)
theorem Ext_bkd {ρ ρ2 : RwQ} (h : ExtQ ρ ρ2) (n : Nat) : bkd ρ2 n = bkd ρ n := by
  unfold bkd
  rw [h.2.1]
  show sumNQ (bkdT ρ2 n) (ρ 37) + bkdT ρ2 n (ρ 37) = _
  rw [show bkdT ρ2 n (ρ 37) = 0 from if_neg (fun q => by have := h.2.2.2.1; omega), Nat.add_zero]
  refine sumN_congr fun b hb => ?_
  unfold bkdT
  rw [Ext_prs h hb, Ext_stays h hb, h.2.2.1 b 8 hb (by omega)]
theorem HC_ext {σ : Mem} {j : Nat} {ρ ρ2 : RwQ} (hc : HC σ j ρ) (h : ExtQ ρ ρ2) : HC σ j ρ2 := fun n hn => by rw [Ext_bkd h]; exact hc n hn
theorem HQ_ext {σ : Mem} {j : Nat} {ρ ρ2 : RwQ} (hq : HQ σ j ρ) (h : ExtQ ρ ρ2) : HQ σ j ρ2 := by
  refine ⟨by rw [h.2.2.2.2 191 (by omega)]; exact hq.1, fun k hk => ?_⟩
  rw [h.2.2.2.2 191 (by omega)] at hk
  show _ = nI (ρ2 (192 + k))
  rw [h.2.2.2.2 _ (by omega)]
  exact hq.2 k hk
theorem WQ_ext {ρ ρ2 : RwQ} (hQ : WQ ρ) (h : ExtQ ρ ρ2) : WQ ρ2 := by
  obtain ⟨q1, q2, q3, q4⟩ := hQ
  have e := h.2.2.2.2 191 (by omega)
  have el : ∀ i, lstQ ρ2 i = lstQ ρ i := fun i => h.2.2.2.2 _ (by omega)
  refine ⟨by rw [e, h.2.1]; omega, by omega, fun k hk => ?_, fun i k hik hk => ?_⟩
  · rw [e] at hk
    have := q3 k hk
    rw [el, h.2.1, h.2.2.1 _ 8 this.1 (by omega)]
    exact ⟨by omega, this.2⟩
  · rw [e] at hk
    rw [el, el]; exact q4 i k hik hk
/-- the hostel but its count of bookings, over the longer row -/
theorem H0_ext {σ σ2 : Mem} {j : Nat} {ρ ρ2 : RwQ} (h0 : H0 σ j ρ) (h : ExtQ ρ ρ2) (h8 : ρ 4 ≤ 8) (hB : HBk σ2 j (ρ 37) ρ2 (ρ 37)) (hk : ∀ k r, 20 ≤ k → k ≤ 48 → k ≠ 22 → k ≠ 23 → k ≠ 28 → k ≠ 29 → rI σ2 k j r = rI σ k j r) (h22 : rI σ2 22 j 0 = nI (ρ 37 + 1)) : H0 σ2 j ρ2 := by
  obtain ⟨a1, a2, a3, a4, a5, a6, a7, a8, a9⟩ := h0
  unfold H0
  rw [h.1 4 (by omega), h.2.1, h.1 0 (by omega), h.1 1 (by omega), h.1 2 (by omega), h.1 3 (by omega), Ext_allB h h8]
  rw [hk 20 0 (by omega) (by omega) (by omega) (by omega) (by omega) (by omega), hk 21 0 (by omega) (by omega) (by omega) (by omega) (by omega) (by omega), hk 24 0 (by omega) (by omega) (by omega) (by omega) (by omega) (by omega), hk 25 0 (by omega) (by omega) (by omega) (by omega) (by omega) (by omega), hk 26 0 (by omega) (by omega) (by omega) (by omega) (by omega) (by omega), hk 27 0 (by omega) (by omega) (by omega) (by omega) (by omega) (by omega)]
  refine ⟨a1, a2, h22, a4, a5, a6, a7, fun r hr => ?_, fun b hb => ?_⟩
  · have := a8 r hr
    unfold HRm at this ⊢
    rw [hk 30 r (by omega) (by omega) (by omega) (by omega) (by omega) (by omega), hk 31 r (by omega) (by omega) (by omega) (by omega) (by omega) (by omega), hk 32 r (by omega) (by omega) (by omega) (by omega) (by omega) (by omega), hk 33 r (by omega) (by omega) (by omega) (by omega) (by omega) (by omega), Ext_rmv h (by omega) (by omega), Ext_rmv h (by omega) (by omega), Ext_rmv h (by omega) (by omega), Ext_rmv h (by omega) (by omega)]
    exact this
  · by_cases hbn : b = ρ 37
    · subst hbn; exact hB
    · have hb2 : b < ρ 37 := by omega
      have := a9 b hb2
      have hk2 : ∀ k, 40 ≤ k → k ≤ 48 → rI σ2 k j b = rI σ k j b := fun k c d => hk k b (by omega) (by omega) (by omega) (by omega) (by omega) (by omega)
      unfold HBk at this ⊢
      rw [Ext_prs h hb2, h.2.2.1 b 0 hb2 (by omega), h.2.2.1 b 1 hb2 (by omega), h.2.2.1 b 2 hb2 (by omega), h.2.2.1 b 3 hb2 (by omega), h.2.2.1 b 4 hb2 (by omega), h.2.2.1 b 5 hb2 (by omega), h.2.2.1 b 6 hb2 (by omega), h.2.2.1 b 7 hb2 (by omega)]
      rw [hk2 40 (by omega) (by omega), hk2 41 (by omega) (by omega), hk2 42 (by omega) (by omega), hk2 43 (by omega) (by omega), hk2 44 (by omega) (by omega), hk2 45 (by omega) (by omega), hk2 46 (by omega) (by omega), hk2 47 (by omega) (by omega), hk2 48 (by omega) (by omega)]
      exact this
theorem tellNext_h {σ : Mem} {j : Nat} {ρ ρ2 : RwQ} (hR : HR σ j ρ) (hW : WF ρ2) (hQ : WQ ρ) (hE : ExtQ ρ ρ2) (h16 : ρ 37 ≤ 15) (hB : HBk σ j (ρ 37) ρ2 (ρ 37)) : OkQ (fX1_tellNext j σ) (fun σ2 => HR σ2 j (cms ρ2 (ρ 37)) ∧ WQ (cms ρ2 (ρ 37)) ∧ WF (cms ρ2 (ρ 37)) ∧ FrQ (KHQ j) σ σ2) := by
  obtain ⟨h0, ht, hq, hc⟩ := hR
  have h8 : ρ 4 ≤ 8 := by rw [← hE.1 4 (by omega)]; exact hW.1
  have e191 := hE.2.2.2.2 191 (by omega)
  have hb : ρ 37 < ρ2 37 := by rw [hE.2.1]; omega
  have hlist : ρ 191 ≤ ρ 37 := hQ.1
  unfold fX1_tellNext
  rw [h0.2.2.1]
  refine Ok_bind (tell_h hW hb hE.2.2.2.1 hB (by rw [Ext_allB hE h8]; exact h0.2.1) (by rw [hE.1 0 (by omega)]; exact h0.2.2.2.1) (HQ_ext hq hE) (HC_ext hc hE) (by omega)) ?_
  rintro σ2 ⟨g1, g2, g3, g4⟩
  have hS := cms_same (ρ := ρ2) (b := ρ 37) (by omega)
  have e22 : rI σ2 22 j 0 = nI (ρ 37) := by rw [g4.1 22 j 0 (by omega)]; exact h0.2.2.1
  simp only [l_1]
  rw [e22, nI_add]
  have F1 : FrQ (fun k x _ => k = 22 ∧ x = j) σ2 (wI σ2 22 j 0 (nI (ρ 37 + 1))) := Fr_wI ⟨rfl, rfl⟩
  have est := fun x (hx : x < 17) => cms_st (ρ := ρ2) (b := ρ 37) (x := x) (by omega) hx (by omega)
  refine ⟨_, rfl, ⟨?_, ?_, HQ_fr g1 F1 (by omega) (fun r => by omega), HC_fr g2 F1 (fun r => by omega)⟩, ?_, cms_WF hW (by omega), Fr_tr (Fr_mono g4 (fun k x r q => by unfold KHQ; omega)) (Fr_mono F1 (fun k x r q => by unfold KHQ; omega))⟩
  · refine H0_same (ρ := ρ2) (H0_ext h0 hE h8 ?_ ?_ ?_) hS hW.1 hW.2.1
    · exact HBk_fr (HBk_fr hB g4 (fun k _ _ => by omega)) F1 (fun k _ _ => by omega)
    · intro k r _ _ _ _ _ _
      rw [F1.1 k j r (by omega), g4.1 k j r (by omega)]
    · rw [rI_wI, if_pos ⟨rfl, rfl, rfl⟩]
  · intro x hx
    rw [hS.1 37 (by omega), hE.2.1] at hx
    rw [F1.1 49 j x (by omega)]
    by_cases h : x = ρ 37
    · rw [h]; exact g3
    · rw [g4.1 49 j x (by omega), est x (by omega), if_neg (fun q => h q.1), hE.2.2.1 x 8 (by omega) (by omega)]
      exact ht x (by omega)
  · exact cms_WQ hW (WQ_ext hQ hE) hb (by omega) hE.2.2.2.1 (fun k hk => by
      rw [e191] at hk
      show ρ2 (192 + k) < ρ 37
      rw [hE.2.2.2.2 _ (by omega)]
      exact (hQ.2.2.1 k hk).1) (by rw [hE.2.1]; omega)
theorem acceptW_h {σ : Mem} {j : Nat} {ρ : RwQ} (hR : HR σ j ρ) (hW : WF ρ) (hQ : WQ ρ) : OkQ (fX1_acceptWaiting j σ) (fun r => r.1 = nI (gtN ρ) ∧ HR r.2 j (gtR ρ) ∧ FrQ (KHQ j) σ r.2) := by
  obtain ⟨h0, ht, hq, hc⟩ := hR
  have h17 := hW.2.1
  have h16 := hQ.2.1
  have hl : OkQ (loop (stX1_acceptWaiting_4 j) 5000 ((0 : Int32), (0 : Int32), σ)) (fun r => r.1 = nI (gtS ρ (ρ 191)).2 ∧ H0 r.2 j (gtS ρ (ρ 191)).1 ∧ Ht r.2 j (gtS ρ (ρ 191)).1 ∧ HC r.2 j (gtS ρ (ρ 191)).1 ∧ rI r.2 23 j 0 = nI (ρ 191) ∧ (∀ i, i < ρ 191 → rI r.2 28 j i = nI ((gtS ρ (ρ 191)).1 (192 + i))) ∧ FrQ (KHQ j) σ r.2) := by
    refine loop_ok (ρ 191) (fun k r => r.2.1 = nI k ∧ r.1 = nI (gtS ρ k).2 ∧ H0 r.2.2 j (gtS ρ k).1 ∧ Ht r.2.2 j (gtS ρ k).1 ∧ HC r.2.2 j (gtS ρ k).1 ∧ rI r.2.2 23 j 0 = nI (ρ 191) ∧ (∀ i, i < ρ 191 → rI r.2.2 28 j i = nI ((gtS ρ k).1 (192 + i))) ∧ FrQ (KHQ j) σ r.2.2) (by omega) ⟨rfl, rfl, h0, ht, hc, hq.1, hq.2, Fr_rfl σ⟩ ?_
    rintro k ⟨a1, a2, a3⟩ hk ⟨e2, e1, c1, c2, c3, c4, c5, F2⟩
    obtain ⟨f1, f2, f3, f4, f5, f6, -⟩ := gtS_facts hW hQ k hk
    try dsimp only at e1 e2 c1 c2 c3 c4 c5 F2
    subst e1 e2
    unfold stX1_acceptWaiting_4 jX1_acceptWaiting_55
    try dsimp only
    rw [c4]
    by_cases hkn : k = ρ 191
    · subst hkn
      rw [if_pos (nI_le (Nat.le_refl _) (by omega))]
      exact ⟨_, rfl, rfl, c1, c2, c3, c4, c5, F2⟩
    · have eb : (gtS ρ k).1 (192 + k) = lstQ ρ k := f4 k (Nat.le_refl _) (by omega)
      have hb := (hQ.2.2.1 k (by omega)).1
      have e37 : (gtS ρ k).1 37 = ρ 37 := f2.1 37 (by omega)
      have hb2 : lstQ ρ k < (gtS ρ k).1 37 := by omega
      have eq : rI a3 28 j k = nI (lstQ ρ k) := by rw [c5 k (by omega), eb]
      rw [if_neg (nI_ge (by omega) (by omega)), gd_inb (by omega) (by omega), nI_clamp (by omega), eq, gd_inb (by omega) (by omega), nI_clamp (by omega), canAcc_h f3 hb2 (c1.2.2.2.2.2.2.2.2 _ hb2) c1.2.1 c1.2.2.2.1 c3, Option.bind_some]
      simp only [l_0, l_1]
      simp (disch := omega) only [b1_z]
      have eS : gtS ρ (k + 1) = if canA (gtS ρ k).1 ((gtS ρ k).1 (192 + k)) = true then (setBQ (gtS ρ k).1 ((gtS ρ k).1 (192 + k)) 8 1, (gtS ρ k).2) else (upQ (gtS ρ k).1 (192 + (gtS ρ k).2) ((gtS ρ k).1 (192 + k)), (gtS ρ k).2 + 1) := rfl
      rw [eb] at eS
      by_cases hcc : canA (gtS ρ k).1 (lstQ ρ k) = true
      · rw [if_pos hcc] at eS
        rw [if_neg (by rw [hcc]; decide)]
        refine Ok_bind (accept_h c1 c2 c3 f3 hb2 (by rw [f6 k (Nat.le_refl _) (by omega)]; omega)) ?_
        rintro σ2 ⟨g1, g2, g3, g4⟩
        rw [nI_add]
        refine ⟨_, rfl, by omega, rfl, by rw [eS], by rw [eS]; exact g1, by rw [eS]; exact g2, by rw [eS]; exact g3, ?_, ?_, Fr_tr F2 (Fr_mono g4 (fun k x r q => by unfold KHQ; omega))⟩
        · rw [g4.1 23 j 0 (by omega)]; exact c4
        · intro i hi
          rw [eS, g4.1 28 j i (by omega), c5 i hi]
          try dsimp only
          rw [setB_hi (by omega) (by omega) (by omega)]
      · rw [if_neg hcc] at eS
        rw [if_pos (by simpa using hcc), gd_inb (by omega) (by omega), nI_clamp (by omega), nI_add, nI_add]
        have F1 : FrQ (fun k x _ => k = 28 ∧ x = j) a3 (wI a3 28 j (gtS ρ k).2 (nI (lstQ ρ k))) := Fr_wI ⟨rfl, rfl⟩
        refine ⟨_, rfl, by omega, rfl, by rw [eS], ?_, ?_, ?_, ?_, ?_, Fr_tr F2 (Fr_mono F1 (fun k x r q => by unfold KHQ; omega))⟩
        · rw [eS]
          exact H0_same (H0_fr c1 F1 (fun k r _ _ _ _ _ => by omega)) (Same_hi (by omega)) f3.1 f3.2.1
        · rw [eS]
          intro x hx
          try dsimp only at hx ⊢
          rw [show upQ (gtS ρ k).1 (192 + (gtS ρ k).2) (lstQ ρ k) 37 = (gtS ρ k).1 37 from up_n (by omega)] at hx
          rw [F1.1 49 j x (by omega), bkv_up (by omega)]
          exact c2 x hx
        · rw [eS]
          intro n hn
          try dsimp only
          rw [F1.1 29 j n (by omega), bkd_hi (by omega) f3.2.1]
          exact c3 n hn
        · rw [F1.1 23 j 0 (by omega)]; exact c4
        · intro i hi
          rw [eS, rI_wI]
          try dsimp only
          by_cases hik : i = (gtS ρ k).2
          · subst hik; rw [if_pos ⟨rfl, rfl, rfl⟩, up_s]
          · rw [if_neg (fun q => hik q.2.2), up_n (by omega)]
            exact c5 i hi
  unfold fX1_acceptWaiting
  refine Ok_bind hl ?_
  rintro ⟨x1, x2⟩ ⟨h1, h2, h3, h4, h5, h6, h7⟩
  try dsimp only at h1 h2 h3 h4 h5 h6 h7 ⊢
  obtain ⟨f1, f2, f3, f4, f5, f6, -⟩ := gtS_facts hW hQ (ρ 191) (Nat.le_refl _)
  have F1 : FrQ (fun k x _ => k = 23 ∧ x = j) x2 (wI x2 23 j 0 x1) := Fr_wI ⟨rfl, rfl⟩
  rw [h5, h1, pk_sub f1]
  rw [h1] at F1
  refine ⟨_, rfl, rfl, ⟨?_, ?_, ⟨?_, ?_⟩, ?_⟩, Fr_tr h7 (Fr_mono F1 (fun k x r q => by unfold KHQ; omega))⟩
  · exact H0_same (H0_fr h2 F1 (fun k r _ _ _ _ _ => by omega)) (Same_hi (by omega)) f3.1 f3.2.1
  · intro x hx
    rw [show gtR ρ 37 = (gtS ρ (ρ 191)).1 37 from up_n (by omega)] at hx
    rw [F1.1 49 j x (by omega)]
    have := f3.2.1
    rw [show bkv (gtR ρ) x 8 = bkv (gtS ρ (ρ 191)).1 x 8 from bkv_up (by omega)]
    exact h3 x hx
  · rw [rI_wI, if_pos ⟨rfl, rfl, rfl⟩, show gtR ρ 191 = _ from up_s _ _ _]
  · intro k hk
    rw [show gtR ρ 191 = (gtS ρ (ρ 191)).2 from up_s _ _ _] at hk
    rw [rI_wI, if_neg (by omega), h6 k (by omega)]
    show _ = nI (gtR ρ (192 + k))
    rw [show gtR ρ (192 + k) = (gtS ρ (ρ 191)).1 (192 + k) from up_n (by omega)]
  · intro n hn
    rw [F1.1 29 j n (by omega)]
    unfold gtR
    rw [bkd_hi (by omega) f3.2.1]
    exact h4 n hn
