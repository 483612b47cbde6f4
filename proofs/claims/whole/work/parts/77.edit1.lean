/-! layer 2: edits -/
/-- what holds between calls, but for the placing -/
def Pre (σ μ : Mem) (ρ : RwQ) : Prop := (rP σ 0 < 2 ∧ rP σ 1 < 2 ∧ rP σ 0 ≠ rP σ 1) ∧ HR σ (rP σ 0) ρ ∧ Cur μ 0 ρ ∧ I3 ρ ∧ Nms σ μ (rP σ 0) ρ ∧ I5 σ μ ρ ∧ I6 σ μ ∧ I7 σ μ
theorem I5_qt {σ μ μ2 : Mem} {ρ : RwQ} (h : I5 σ μ ρ) (q : QTQ μ μ2) : I5 σ μ2 ρ := by
  obtain ⟨e, f, pn, hist, a1, a2, a3, a4, a5, a6, a7, a8⟩ := h
  refine ⟨e, f, pn, hist, a1, a2, a3, a4, a5, ?_, ?_, fun k hk => ?_⟩
  · rw [q.1 63 0 0 (by unfold KQQ; omega)]; exact a6
  · rw [q.1 64 0 0 (by unfold KQQ; omega)]; exact a7
  · obtain ⟨d1, d2, d3, d4, d5, d6⟩ := a8 k hk
    refine ⟨d1, d2, d3, d4, fun i hi => ?_, Nms_qt d6 q⟩
    rw [q.1 61 0 _ (by unfold KQQ; omega)]; exact d5 i hi
theorem I6_fr {K Km KJ KJm : Nat → Nat → Nat → Prop} {σ σ2 μ μ2 : Mem} (h : I6 σ μ) (F : FrG K KJ σ σ2) (G : FrG Km KJm μ μ2) (hk : ∀ k x r, K k x r → k ≠ 6 ∧ k ≠ 7) (hm : ∀ k x r, Km k x r → k ≠ 65 ∧ k ≠ 66) : I6 σ2 μ2 := by
  obtain ⟨n, b1, b2, b3, b4⟩ := h
  refine ⟨n, b1, ?_, ?_, fun i hi => ?_⟩
  · rw [F.1 7 0 0 (fun w => (hk _ _ _ w).2 rfl)]; exact b2
  · rw [G.1 66 0 0 (fun w => (hm _ _ _ w).2 rfl)]; exact b3
  · rw [F.1 6 0 i (fun w => (hk _ _ _ w).1 rfl), G.1 65 0 i (fun w => (hm _ _ _ w).1 rfl)]; exact b4 i hi
theorem I7_fr {K Km KJ KJm : Nat → Nat → Nat → Prop} {σ σ2 μ μ2 : Mem} (h : I7 σ μ) (F : FrG K KJ σ σ2) (G : FrG Km KJm μ μ2) (hk : ∀ k x r, K k x r → k ≠ 1 ∧ k ≠ 4 ∧ k ≠ 5) (hm : ∀ k x r, Km k x r → k ≠ 67 ∧ k ≠ 68 ∧ k ≠ 69) : I7 σ2 μ2 := by
  obtain ⟨c1, m, c2, c3, c4, c5⟩ := h
  refine ⟨?_, m, c2, ?_, ?_, fun i hi => ?_⟩
  · rw [F.1 1 0 0 (fun w => (hk _ _ _ w).1 rfl), G.1 67 0 0 (fun w => (hm _ _ _ w).1 rfl)]; exact c1
  · rw [F.1 4 0 0 (fun w => (hk _ _ _ w).2.1 rfl)]; exact c3
  · rw [G.1 69 0 0 (fun w => (hm _ _ _ w).2.2 rfl)]; exact c4
  · rw [F.1 5 0 i (fun w => (hk _ _ _ w).2.2 rfl), G.1 68 0 i (fun w => (hm _ _ _ w).2.1 rfl)]; exact c5 i hi
theorem Cur_60 {μ : Mem} {ρ : RwQ} {v : Int32} (C : Cur μ 0 ρ) : Cur (wI μ 60 0 0 v) 0 ρ := Cur_wI C (by omega) (by omega)
/-- the recording before an edit -/
theorem rk_pre {σ μ : Mem} {ρ : RwQ} (h1 : I1 σ ρ) (C : Cur μ 0 ρ) (h3 : I3 ρ) (hN : Nms σ μ (rP σ 0) ρ) (h5 : I5 σ μ ρ) (h6 : I6 σ μ) (h7 : I7 σ μ) : ∃ σ2 μ2, fX5_remember σ = some σ2 ∧ fX6_keep (wI μ 60 0 0 (nI 0)) = some μ2 ∧ Pre σ2 μ2 ρ ∧ rI μ2 60 0 0 = nI 0 ∧ rP σ2 0 = rP σ 0 := by
  have q0 : QTQ μ (wI μ 60 0 0 (nI 0)) := QT_60
  obtain ⟨σ2, μ2, e1, e2, e3, F, G⟩ := rem_keep h1 (cur0 C) h3 (Nms_qt hN q0) (I5_qt h5 q0)
  have G0 : FrQ (fun k j r => k = 60 ∨ KRm k j r) μ μ2 := Fr_tr (Fr_wI (Or.inl rfl)) (Fr_mono G (fun k j r w => Or.inr w))
  have G1 : FrG (fun k j r => k = 60 ∨ KRm k j r) (fun _ _ _ => False) μ μ2 := Fr_G G0
  have hP0 := FrG_P F 0
  have hP1 := FrG_P F 1
  refine ⟨σ2, μ2, e1, e2, ⟨?_, ?_, ?_, h3, ?_, e3, ?_, ?_⟩, ?_, hP0⟩
  · rw [hP0, hP1]; exact h1.1
  · rw [hP0]
    have hh := HR_fr (K := KRc) (σ2 := (σ2.1, σ.2)) h1.2.1 (FrG_I F) (fun k r _ _ w => by unfold KRc at w; have := h1.1.1; omega)
    exact hh
  · exact Cur_fr C G0 (fun w => by unfold KRm at w; omega) (fun r _ _ w => by unfold KRm at w; omega)
  · rw [hP0]
    have := h1.1.1
    refine ⟨fun r hr => ?_, fun b hb => ?_⟩
    · rw [F.2.1 1 _ r (by omega), Fr_J G0]; exact hN.1 r hr
    · rw [F.2.1 2 _ b (by omega), Fr_J G0]; exact hN.2 b hb
  · exact I6_fr h6 F G1 (fun k x r w => by unfold KRc at w; omega) (fun k x r w => by unfold KRm at w; omega)
  · exact I7_fr h7 F G1 (fun k x r w => by unfold KRc at w; omega) (fun k x r w => by unfold KRm at w; omega)
  · rw [G.1 60 0 0 (by unfold KRm; omega)]; exact rI_wI_self
theorem I5_edit {K Km KJ KJm : Nat → Nat → Nat → Prop} {σ σ2 μ μ2 : Mem} {ρ ρ2 : RwQ} (h : I5 σ μ ρ) (F : FrG K KJ σ σ2) (G : FrG Km KJm μ μ2) (hk : ∀ k x r, K k x r → k ≠ 2 ∧ k ≠ 3 ∧ (20 ≤ k → k ≤ 49 → x < 2)) (hj : ∀ k x r, KJ k x r → (k = 1 ∨ k = 2) → x < 2) (hm : ∀ k x r, Km k x r → k ≠ 63 ∧ k ≠ 64 ∧ (k = 61 → r < 416)) (hjm : ∀ k x r, KJm k x r → k ≠ 11 ∧ (k = 12 → ρ 37 ≤ r)) (h37 : ρ 37 ≤ ρ2 37) : I5 σ2 μ2 ρ2 := by
  obtain ⟨e, f, pn, hist, a1, a2, a3, a4, a5, a6, a7, a8⟩ := h
  refine ⟨e, f, pn, hist, a1, a2, a3, ?_, ?_, ?_, ?_, fun k hk2 => ?_⟩
  · rw [F.1 3 0 0 (fun w => (hk _ _ _ w).2.1 rfl)]; exact a4
  · rw [F.1 2 0 0 (fun w => (hk _ _ _ w).1 rfl)]; exact a5
  · rw [G.1 63 0 0 (fun w => (hm _ _ _ w).1 rfl)]; exact a6
  · rw [G.1 64 0 0 (fun w => (hm _ _ _ w).2.1 rfl)]; exact a7
  · obtain ⟨d1, d2, d3, d4, d5, d6⟩ := a8 k hk2
    refine ⟨d1, d2, by omega, ?_, fun i hi => ?_, fun r hr => ?_, fun b hb => ?_⟩
    · have hh := HR_fr (K := K) (σ2 := (σ2.1, σ.2)) d4 (FrG_I F) (fun k r x1 x2 w => by have := (hk _ _ _ w).2.2 x1 x2; omega)
      exact hh
    · rw [G.1 61 0 _ (fun w => by have := (hm _ _ _ w).2.2 rfl; omega)]; exact d5 i hi
    · rw [F.2.1 1 _ r (fun w => by have := hj _ _ _ w (Or.inl rfl); omega), G.2.1 11 0 r (fun w => (hjm _ _ _ w).1 rfl)]; exact d6.1 r hr
    · rw [F.2.1 2 _ b (fun w => by have := hj _ _ _ w (Or.inr rfl); omega), G.2.1 12 0 b (fun w => by have := (hjm _ _ _ w).2 rfl; omega)]; exact d6.2 b hb
/-- an edit that changes neither rooms nor how many bookings there are -/
theorem pre_edit {σ μ σ2 μ2 : Mem} {ρ ρ2 : RwQ} (h : Pre σ μ ρ) (F : FrQ (KHQ (rP σ 0)) σ σ2) (G : FrQ (KRQ 0) μ μ2) (hR : HR σ2 (rP σ 0) ρ2) (C : Cur μ2 0 ρ2) (h3 : I3 ρ2) (e4 : ρ2 4 = ρ 4) (e37 : ρ2 37 = ρ 37) : Pre σ2 μ2 ρ2 := by
  obtain ⟨a1, a2, a3, a4, a5, a6, a7, a8⟩ := h
  have hP0 := Fr_P F 0
  have hP1 := Fr_P F 1
  have FG : FrG (KHQ (rP σ 0)) (fun _ _ _ => False) σ σ2 := Fr_G F
  have GG : FrG (KRQ 0) (fun _ _ _ => False) μ μ2 := Fr_G G
  refine ⟨by rw [hP0, hP1]; exact a1, by rw [hP0]; exact hR, C, h3, ?_, I5_edit a6 FG GG (fun k x r w => by unfold KHQ at w; omega) (fun _ _ _ w => w.elim) (fun k x r w => by unfold KRQ at w; omega) (fun _ _ _ w => w.elim) (by omega), I6_fr a7 FG GG (fun k x r w => by unfold KHQ at w; omega) (fun k x r w => by unfold KRQ at w; omega), I7_fr a8 FG GG (fun k x r w => by unfold KHQ at w; omega) (fun k x r w => by unfold KRQ at w; omega)⟩
  rw [hP0]
  refine ⟨fun r hr => ?_, fun b hb => ?_⟩
  · rw [Fr_J F, Fr_J G]; exact a5.1 r (by omega)
  · rw [Fr_J F, Fr_J G]; exact a5.2 b (by omega)
/-- the class places all anew behind an edit -/
theorem make_in {σ μ : Mem} {ρ : RwQ} (h : Pre σ μ ρ) : OkQ (fX3_make 0 (rP σ 0) σ) (fun σ2 => InQ σ2 μ ∧ FrQ (KPc 0) σ σ2) := by
  obtain ⟨a1, a2, a3, a4, a5, a6, a7, a8⟩ := h
  refine Ok_mono (make_h (q := 0) a2.1 a2.2.1 a4.1) ?_
  rintro σ2 ⟨g1, g2, g3⟩
  have hP0 := Fr_P g3 0
  have hP1 := Fr_P g3 1
  have FG : FrG (KPc 0) (fun _ _ _ => False) σ σ2 := Fr_G g3
  have GG : FrG (fun _ _ _ => False) (fun _ _ _ => False) μ μ := FrG_rfl μ
  refine ⟨⟨ρ, ⟨by rw [hP0, hP1]; exact a1, by rw [hP0]; exact HR_pl a2 g3, g1, g2⟩, a3, a4, ?_, I5_edit a6 FG GG (fun k x r w => by unfold KPc at w; omega) (fun _ _ _ w => w.elim) (fun _ _ _ w => w.elim) (fun _ _ _ w => w.elim) (Nat.le_refl _), I6_fr a7 FG GG (fun k x r w => by unfold KPc at w; omega) (fun _ _ _ w => w.elim), I7_fr a8 FG GG (fun k x r w => by unfold KPc at w; omega) (fun _ _ _ w => w.elim)⟩, g3⟩
  rw [hP0]
  refine ⟨fun r hr => ?_, fun b hb => ?_⟩
  · rw [Fr_J g3]; exact a5.1 r hr
  · rw [Fr_J g3]; exact a5.2 b hb
/-! rows that differ in a cell -/
theorem row_sum {ρ ρ2 : RwQ} (e4 : ρ2 4 = ρ 4) (e37 : ρ2 37 = ρ 37) (hr : ∀ r, r < ρ 4 → rmv ρ2 r 1 = rmv ρ r 1) (hb : ∀ b w, b < ρ 37 → (w < 4 ∨ w = 8) → bkv ρ2 b w = bkv ρ b w) : allB ρ2 = allB ρ ∧ ∀ n, bkd ρ2 n = bkd ρ n := by
  refine ⟨?_, fun n => ?_⟩
  · unfold allB
    rw [e4]
    exact sumN_congr hr
  · unfold bkd
    rw [e37]
    refine sumN_congr fun b hb2 => ?_
    unfold bkdT prs staysQ
    rw [hb b 0 hb2 (by omega), hb b 1 hb2 (by omega), hb b 2 hb2 (by omega), hb b 3 hb2 (by omega), hb b 8 hb2 (by omega)]
theorem HR_mk {σ σ2 : Mem} {j : Nat} {ρ ρ2 : RwQ} (h : HR σ j ρ) (e4 : ρ2 4 = ρ 4) (e37 : ρ2 37 = ρ 37) (hr : ∀ r, r < ρ 4 → rmv ρ2 r 1 = rmv ρ r 1) (hb : ∀ b w, b < ρ 37 → (w < 4 ∨ w = 8) → bkv ρ2 b w = bkv ρ b w) (hi : ∀ k, 191 ≤ k → ρ2 k = ρ k) (c24 : rI σ2 24 j 0 = nI (ρ2 0)) (c25 : rI σ2 25 j 0 = nI (ρ2 1)) (c26 : rI σ2 26 j 0 = nI (ρ2 2)) (c27 : rI σ2 27 j 0 = nI (ρ2 3)) (hR : ∀ r, r < ρ 4 → HRm σ2 j r ρ2) (hB : ∀ b, b < ρ 37 → HBk σ2 j b ρ2 b) (hs : ∀ k r, (k = 20 ∨ k = 21 ∨ k = 22 ∨ k = 23 ∨ k = 28 ∨ k = 29 ∨ k = 49) → rI σ2 k j r = rI σ k j r) : HR σ2 j ρ2 := by
  obtain ⟨s1, s2⟩ := row_sum e4 e37 hr hb
  obtain ⟨⟨a1, a2, a3, -⟩, ht, hq, hc⟩ := h
  refine ⟨⟨by rw [hs 20 0 (by omega), e4]; exact a1, by rw [hs 21 0 (by omega), s1]; exact a2, by rw [hs 22 0 (by omega), e37]; exact a3, c24, c25, c26, c27, by rw [e4]; exact hR, by rw [e37]; exact hB⟩, fun b hb2 => ?_, ⟨?_, fun k hk => ?_⟩, fun n hn => ?_⟩
  · rw [e37] at hb2
    rw [hs 49 b (by omega), hb b 8 hb2 (by omega)]; exact ht b hb2
  · rw [hs 23 0 (by omega), hi 191 (by omega)]; exact hq.1
  · rw [hi 191 (by omega)] at hk
    rw [hs 28 k (by omega), show lstQ ρ2 k = lstQ ρ k from hi _ (by omega)]; exact hq.2 k hk
  · rw [hs 29 n (by omega), s2]; exact hc n hn
theorem WQ_mk {ρ ρ2 : RwQ} (h : WQ ρ) (e37 : ρ2 37 = ρ 37) (hb : ∀ b, b < ρ 37 → bkv ρ2 b 8 = bkv ρ b 8) (hi : ∀ k, 191 ≤ k → ρ2 k = ρ k) : WQ ρ2 := by
  obtain ⟨q1, q2, q3, q4⟩ := h
  have e191 := hi 191 (by omega)
  have el : ∀ k, lstQ ρ2 k = lstQ ρ k := fun k => hi _ (by omega)
  refine ⟨by omega, by omega, fun k hk => ?_, fun i k hik hk => ?_⟩
  · rw [e191] at hk
    have := q3 k hk
    rw [el, e37, hb _ this.1]; exact this
  · rw [e191] at hk
    rw [el, el]; exact q4 i k hik hk
/-- a setting changes -/
theorem set_mk {σ : Mem} {j i v : Nat} {ρ : RwQ} (h : HR σ j ρ) (h3 : I3 ρ) (hi : i < 4) (hv : (i = 0 → v ≤ 50) ∧ (i = 1 → v ≤ 300) ∧ (i = 2 → 2 ≤ v ∧ v ≤ 30) ∧ (i = 3 → v ≤ 50)) : HR (wI σ (24 + i) j 0 (nI v)) j (upQ ρ i v) ∧ I3 (upQ ρ i v) := by
  have e4 : upQ ρ i v 4 = ρ 4 := up_n (by omega)
  have e37 : upQ ρ i v 37 = ρ 37 := up_n (by omega)
  have hr : ∀ r w, rmv (upQ ρ i v) r w = rmv ρ r w := fun r w => rmv_up (by omega)
  have hb : ∀ b w, bkv (upQ ρ i v) b w = bkv ρ b w := fun b w => bkv_up (by omega)
  have hp : ∀ b, prs (upQ ρ i v) b = prs ρ b := fun b => by unfold prs; rw [hb, hb]
  have F : FrQ (fun k x _ => k = 24 + i ∧ x = j) σ (wI σ (24 + i) j 0 (nI v)) := Fr_wI ⟨rfl, rfl⟩
  obtain ⟨a1, a2, a3, a4, a5, a6, a7, a8, a9⟩ := h.1
  have hc : ∀ k, k < 4 → rI σ (24 + k) j 0 = nI (ρ k) → rI (wI σ (24 + i) j 0 (nI v)) (24 + k) j 0 = nI (upQ ρ i v k) := by
    intro k hk e
    rw [rI_wI]
    by_cases q : k = i
    · subst q; rw [if_pos ⟨rfl, rfl, rfl⟩, up_s]
    · rw [if_neg (by omega), up_n q]; exact e
  refine ⟨HR_mk h e4 e37 (fun r _ => hr r 1) (fun b w _ _ => hb b w) (fun k hk => up_n (by omega)) (hc 0 (by omega) a4) (hc 1 (by omega) a5) (hc 2 (by omega) a6) (hc 3 (by omega) a7) (fun r hr2 => ?_) (fun b hb2 => ?_) (fun k r hk => F.1 _ _ _ (by omega)), ⟨?_, WQ_mk h3.2.1 e37 (fun b _ => hb b 8) (fun k hk => up_n (by omega)), by rw [e37]; exact h3.2.2⟩⟩
  · have := HRm_fr (a8 r hr2) F (fun k r _ _ w => by omega)
    unfold HRm at this ⊢
    simp only [hr]
    exact this
  · have := HBk_fr (a9 b hb2) F (fun k _ _ w => by omega)
    unfold HBk at this ⊢
    simp only [hb, hp]
    exact this
  · obtain ⟨w1, w2, ⟨w3, w4, w5, w6⟩, w7, w8⟩ := h3.1
    refine ⟨by rw [e4]; exact w1, by rw [e37]; exact w2, ⟨?_, ?_, ?_, ?_⟩, fun r hr2 => ?_, fun b hb2 => ?_⟩
    · by_cases q : i = 0
      · rw [q, up_s]; exact hv.1 q
      · rw [up_n (by omega)]; exact w3
    · by_cases q : i = 1
      · rw [q, up_s]; exact hv.2.1 q
      · rw [up_n (by omega)]; exact w4
    · by_cases q : i = 2
      · rw [q, up_s]; exact hv.2.2.1 q
      · rw [up_n (by omega)]; exact w5
    · by_cases q : i = 3
      · rw [q, up_s]; exact hv.2.2.2 q
      · rw [up_n (by omega)]; exact w6
    · rw [e4] at hr2
      unfold WFr
      rw [hr, hr, hr, hr]; exact w7 r hr2
    · rw [e37] at hb2
      unfold WFb
      rw [hp, hb, hb, hb, hb, hb, hb, hb, hb, hb]; exact w8 b hb2
/-- a price changes -/
theorem price_mk {σ : Mem} {j r v : Nat} {ρ : RwQ} (h : HR σ j ρ) (h3 : I3 ρ) (hr4 : r < ρ 4) (hv : 1 ≤ v ∧ v ≤ 200) : HR (wI σ 33 j r (nI v)) j (upQ ρ (5 + 4 * r + 3) v) ∧ I3 (upQ ρ (5 + 4 * r + 3) v) := by
  have h8 := h3.1.1
  have e4 : upQ ρ (5 + 4 * r + 3) v 4 = ρ 4 := up_n (by omega)
  have e37 : upQ ρ (5 + 4 * r + 3) v 37 = ρ 37 := up_n (by omega)
  have hr : ∀ x w, w < 3 → rmv (upQ ρ (5 + 4 * r + 3) v) x w = rmv ρ x w := fun x w hw => rmv_up (by omega)
  have hr3 : ∀ x, rmv (upQ ρ (5 + 4 * r + 3) v) x 3 = if x = r then v else rmv ρ x 3 := by
    intro x
    show (if 5 + 4 * x + 3 = 5 + 4 * r + 3 then v else ρ (5 + 4 * x + 3)) = _
    by_cases q : x = r
    · rw [if_pos q, if_pos (by omega)]
    · rw [if_neg q, if_neg (by omega)] <;> rfl
  have hb : ∀ b w, bkv (upQ ρ (5 + 4 * r + 3) v) b w = bkv ρ b w := fun b w => bkv_up (by omega)
  have hp : ∀ b, prs (upQ ρ (5 + 4 * r + 3) v) b = prs ρ b := fun b => by unfold prs; rw [hb, hb]
  have F : FrQ (fun k x y => k = 33 ∧ x = j ∧ y = r) σ (wI σ 33 j r (nI v)) := Fr_wI ⟨rfl, rfl, rfl⟩
  obtain ⟨a1, a2, a3, a4, a5, a6, a7, a8, a9⟩ := h.1
  refine ⟨HR_mk h e4 e37 (fun r _ => hr r 1 (by omega)) (fun b w _ _ => hb b w) (fun k hk => up_n (by omega)) ?_ ?_ ?_ ?_ (fun x hx => ?_) (fun b hb2 => ?_) (fun k r hk => F.1 _ _ _ (by omega)), ⟨?_, WQ_mk h3.2.1 e37 (fun b _ => hb b 8) (fun k hk => up_n (by omega)), by rw [e37]; exact h3.2.2⟩⟩
  · rw [F.1 24 j 0 (by omega), up_n (by omega)]; exact a4
  · rw [F.1 25 j 0 (by omega), up_n (by omega)]; exact a5
  · rw [F.1 26 j 0 (by omega), up_n (by omega)]; exact a6
  · rw [F.1 27 j 0 (by omega), up_n (by omega)]; exact a7
  · obtain ⟨b0, b1, b2, b3⟩ := a8 x hx
    unfold HRm
    rw [hr x 0 (by omega), hr x 1 (by omega), hr x 2 (by omega), hr3, F.1 30 j x (by omega), F.1 31 j x (by omega), F.1 32 j x (by omega)]
    refine ⟨b0, b1, b2, ?_⟩
    rw [rI_wI]
    by_cases q : x = r
    · rw [if_pos ⟨rfl, rfl, q⟩, if_pos q]
    · rw [if_neg (fun w => q w.2.2), if_neg q]; exact b3
  · have := HBk_fr (a9 b hb2) F (fun k _ _ w => by omega)
    unfold HBk at this ⊢
    simp only [hb, hp]
    exact this
  · obtain ⟨w1, w2, w3, w7, w8⟩ := h3.1
    refine ⟨by rw [e4]; exact w1, by rw [e37]; exact w2, ?_, fun x hx => ?_, fun b hb2 => ?_⟩
    · rw [up_n (by omega), up_n (by omega), up_n (by omega), up_n (by omega)]; exact w3
    · rw [e4] at hx
      have := w7 x hx
      unfold WFr at this ⊢
      rw [hr x 0 (by omega), hr x 1 (by omega), hr x 2 (by omega), hr3]
      refine ⟨this.1, this.2.1, this.2.2.1, ?_⟩
      split
      · exact hv
      · exact this.2.2.2
    · rw [e37] at hb2
      unfold WFb
      rw [hp, hb, hb, hb, hb, hb, hb, hb, hb, hb]; exact w8 b hb2
/-- a flag of a booking changes: c is its place, 6 or 7 -/
theorem flag_mk {σ : Mem} {j b c v : Nat} {ρ : RwQ} (h : HR σ j ρ) (h3 : I3 ρ) (hb37 : b < ρ 37) (hc : c = 6 ∨ c = 7) (hv : v ≤ 1) : HR (wI σ (41 + c) j b (nI v)) j (setBQ ρ b c v) ∧ I3 (setBQ ρ b c v) := by
  have h17 := h3.1.2.1
  have e4 : setBQ ρ b c v 4 = ρ 4 := setB_lo (by omega)
  have e37 : setBQ ρ b c v 37 = ρ 37 := setB_lo (by omega)
  have hr : ∀ x w, x < 8 → w < 4 → rmv (setBQ ρ b c v) x w = rmv ρ x w := fun x w hx hw => rmv_setB hx hw
  have hbk : ∀ x w, w < 9 → bkv (setBQ ρ b c v) x w = if x = b ∧ w = c then v else bkv ρ x w := fun x w hw => bkv_setB (by omega) hw
  have hbn : ∀ x w, w < 9 → ¬ (x = b ∧ w = c) → bkv (setBQ ρ b c v) x w = bkv ρ x w := fun x w hw q => by rw [hbk x w hw, if_neg q]
  have hp : ∀ x, prs (setBQ ρ b c v) x = prs ρ x := fun x => by unfold prs; rw [hbn x 2 (by omega) (by omega), hbn x 3 (by omega) (by omega)]
  have h8 := h3.1.1
  have F : FrQ (fun k x y => k = 41 + c ∧ x = j ∧ y = b) σ (wI σ (41 + c) j b (nI v)) := Fr_wI ⟨rfl, rfl, rfl⟩
  obtain ⟨a1, a2, a3, a4, a5, a6, a7, a8, a9⟩ := h.1
  refine ⟨HR_mk h e4 e37 (fun r hr4 => hr r 1 (by omega) (by omega)) (fun x w _ hw => hbn x w (by omega) (by omega)) (fun k hk => setB_hi (by omega) (by omega) hk) ?_ ?_ ?_ ?_ (fun x hx => ?_) (fun x hx => ?_) (fun k r hk => F.1 _ _ _ (by omega)), ⟨?_, WQ_mk h3.2.1 e37 (fun x _ => hbn x 8 (by omega) (by omega)) (fun k hk => setB_hi (by omega) (by omega) hk), by rw [e37]; exact h3.2.2⟩⟩
  · rw [F.1 24 j 0 (by omega), setB_lo (by omega)]; exact a4
  · rw [F.1 25 j 0 (by omega), setB_lo (by omega)]; exact a5
  · rw [F.1 26 j 0 (by omega), setB_lo (by omega)]; exact a6
  · rw [F.1 27 j 0 (by omega), setB_lo (by omega)]; exact a7
  · have := HRm_fr (a8 x hx) F (fun k r _ _ w => by omega)
    unfold HRm at this ⊢
    rw [hr x 0 (by omega) (by omega), hr x 1 (by omega) (by omega), hr x 2 (by omega) (by omega), hr x 3 (by omega) (by omega)]
    exact this
  · obtain ⟨b0, b1, b2, b3, b4, b5, b6, b7, b8⟩ := a9 x hx
    have hcell : ∀ w, (w = 6 ∨ w = 7) → rI σ (41 + w) j x = nI (bkv ρ x w) → rI (wI σ (41 + c) j b (nI v)) (41 + w) j x = nI (bkv (setBQ ρ b c v) x w) := by
      intro w hw e
      rw [rI_wI, hbk x w (by omega)]
      by_cases q : x = b ∧ w = c
      · rw [if_pos ⟨by omega, rfl, q.1⟩, if_pos q]
      · rw [if_neg (by omega), if_neg q]; exact e
    unfold HBk
    rw [F.1 40 j x (by omega), F.1 41 j x (by omega), F.1 42 j x (by omega), F.1 43 j x (by omega), F.1 44 j x (by omega), F.1 45 j x (by omega), F.1 46 j x (by omega), hp, hbn x 0 (by omega) (by omega), hbn x 1 (by omega) (by omega), hbn x 2 (by omega) (by omega), hbn x 3 (by omega) (by omega), hbn x 4 (by omega) (by omega), hbn x 5 (by omega) (by omega)]
    exact ⟨b0, b1, b2, b3, b4, b5, b6, hcell 6 (by omega) b7, hcell 7 (by omega) b8⟩
  · obtain ⟨w1, w2, w3, w7, w8⟩ := h3.1
    refine ⟨by rw [e4]; exact w1, by rw [e37]; exact w2, ?_, fun x hx => ?_, fun x hx => ?_⟩
    · rw [setB_lo (by omega), setB_lo (by omega), setB_lo (by omega), setB_lo (by omega)]; exact w3
    · rw [e4] at hx
      unfold WFr
      rw [hr x 0 (by omega) (by omega), hr x 1 (by omega) (by omega), hr x 2 (by omega) (by omega), hr x 3 (by omega) (by omega)]; exact w7 x hx
    · rw [e37] at hx
      obtain ⟨z1, z2, z3, z4, z5, z6, z7, z8⟩ := w8 x hx
      unfold WFb
      rw [hp, hbn x 0 (by omega) (by omega), hbn x 1 (by omega) (by omega), hbn x 2 (by omega) (by omega), hbn x 3 (by omega) (by omega), hbn x 4 (by omega) (by omega), hbn x 5 (by omega) (by omega), hbn x 8 (by omega) (by omega), hbk x 6 (by omega), hbk x 7 (by omega)]
      refine ⟨z1, z2, z3, z4, z5, ?_, ?_, z8⟩
      · split
        · exact hv
        · exact z6
      · split
        · exact hv
        · exact z7
