/-! layer 2: cancelling, counting, copying, clearing a hostel; all told anew -/
theorem lo_same {a b : RwQ} (h : ∀ i, i < 191 → b i = a i) : SameQ a b := ⟨fun k hk => h k (by omega), fun x w hx hw => h _ (by omega)⟩
theorem bkd_lo {a b : RwQ} (h : ∀ i, i < 191 → b i = a i) (h17 : a 37 ≤ 17) (n : Nat) : bkd b n = bkd a n := by
  unfold bkd
  rw [h 37 (by omega)]
  refine sumN_congr fun x hx => ?_
  unfold bkdT
  rw [Same_stays (lo_same h) (by omega), Same_prs (lo_same h) (by omega), show bkv b x 8 = bkv a x 8 from h _ (by omega)]
theorem jdrop_h {σ : Mem} {j b : Nat} {ρ : RwQ} (h0 : H0 σ j ρ) (ht : Ht σ j ρ) (hq : HQ σ j ρ) (hc : HC σ j (setBQ ρ b 8 2)) (hW : WF ρ) (hQ : WQ ρ) (hb : b < ρ 37) : OkQ (jX1_drop_33 j (nI b) σ) (fun σ2 => HR σ2 j (drp ρ b) ∧ FrQ (KHQ j) σ σ2) := by
  have h17 := hW.2.1
  have h16 := hQ.2.1
  have e191 : setBQ ρ b 8 2 191 = ρ 191 := setB_hi (by omega) (by omega) (by omega)
  have el : ∀ i, lstQ (setBQ ρ b 8 2) i = lstQ ρ i := fun i => setB_hi (by omega) (by omega) (by omega)
  have hf := dqS_facts (ρ := setBQ ρ b 8 2) (b := b) (by rw [e191]; exact h16) (fun i k hik hk => by rw [el, el]; rw [e191] at hk; exact hQ.2.2.2 i k hik hk)
  rw [e191] at hf
  have hl : OkQ (loop (stX1_drop_47 j (nI b)) 5000 ((0 : Int32), (0 : Int32), wI σ 49 j b (nI 2))) (fun r => r.1 = nI (dqS (setBQ ρ b 8 2) b (ρ 191)).2 ∧ (∀ i, i < ρ 191 → rI r.2 28 j i = nI ((dqS (setBQ ρ b 8 2) b (ρ 191)).1 (192 + i))) ∧ FrQ (fun k x r => (k = 28 ∨ k = 49 ∧ r = b) ∧ x = j) σ r.2 ∧ rI r.2 49 j b = nI 2) := by
    refine loop_ok (ρ 191) (fun k r => r.2.1 = nI k ∧ r.1 = nI (dqS (setBQ ρ b 8 2) b k).2 ∧ (∀ i, i < ρ 191 → rI r.2.2 28 j i = nI ((dqS (setBQ ρ b 8 2) b k).1 (192 + i))) ∧ FrQ (fun k x r => (k = 28 ∨ k = 49 ∧ r = b) ∧ x = j) σ r.2.2 ∧ rI r.2.2 49 j b = nI 2) (by omega) ⟨rfl, rfl, ?_, Fr_wI (by omega), rI_wI_self⟩ ?_
    · intro i hi
      show rI (wI σ 49 j b (nI 2)) 28 j i = nI (lstQ (setBQ ρ b 8 2) i)
      rw [rI_wI, if_neg (by omega), el]
      exact hq.2 i hi
    rintro k ⟨a1, a2, a3⟩ hk ⟨e2, e1, c1, F2, c2⟩
    obtain ⟨f1, f2, f3, -⟩ := hf k hk
    try dsimp only at e1 e2 c1 c2 F2
    subst e1 e2
    unfold stX1_drop_47 jX1_drop_80
    try dsimp only
    have c23 : rI a3 23 j 0 = nI (ρ 191) := by rw [F2.1 23 j 0 (by omega)]; exact hq.1
    rw [c23]
    by_cases hkn : k = ρ 191
    · subst hkn
      rw [if_pos (nI_le (Nat.le_refl _) (by omega))]
      exact ⟨_, rfl, rfl, c1, F2, c2⟩
    · have eb : (dqS (setBQ ρ b 8 2) b k).1 (192 + k) = lstQ ρ k := by rw [f3 k (Nat.le_refl _) (by omega), el]
      have hb2 := (hQ.2.2.1 k (by omega)).1
      have eq : rI a3 28 j k = nI (lstQ ρ k) := by rw [c1 k (by omega), eb]
      rw [if_neg (nI_ge (by omega) (by omega)), gd_inb (by omega) (by omega), nI_clamp (by omega), eq]; simp (disch := omega) only [nI_eq]
      simp only [l_1]
      have eS : dqS (setBQ ρ b 8 2) b (k + 1) = if (dqS (setBQ ρ b 8 2) b k).1 (192 + k) = b then dqS (setBQ ρ b 8 2) b k else (upQ (dqS (setBQ ρ b 8 2) b k).1 (192 + (dqS (setBQ ρ b 8 2) b k).2) ((dqS (setBQ ρ b 8 2) b k).1 (192 + k)), (dqS (setBQ ρ b 8 2) b k).2 + 1) := rfl
      rw [eb] at eS
      by_cases hcc : lstQ ρ k = b
      · rw [if_pos hcc] at eS
        rw [if_pos hcc, nI_add]
        exact ⟨_, rfl, by omega, rfl, by rw [eS], by rw [eS]; exact c1, F2, c2⟩
      · rw [if_neg hcc] at eS
        rw [if_neg hcc, gd_inb (by omega) (by omega), nI_clamp (by omega), nI_add, nI_add]
        refine ⟨_, rfl, by omega, rfl, by rw [eS], ?_, Fr_tr F2 (Fr_wI (by omega)), ?_⟩
        · intro i hi
          rw [eS, rI_wI]
          try dsimp only
          by_cases hik : i = (dqS (setBQ ρ b 8 2) b k).2
          · subst hik; rw [if_pos ⟨rfl, rfl, rfl⟩, up_s]
          · rw [if_neg (fun q => hik q.2.2), up_n (by omega)]
            exact c1 i hi
        · rw [rI_wI, if_neg (by omega)]; exact c2
  unfold jX1_drop_33
  simp only [l_2]
  rw [nI_clamp (by omega)]
  refine Ok_bind hl ?_
  rintro ⟨x1, x2⟩ ⟨h1, h2, h3, h4⟩
  try dsimp only at h1 h2 h3 h4 ⊢
  subst h1
  obtain ⟨f1, f2, f3, -⟩ := hf (ρ 191) (Nat.le_refl _)
  obtain ⟨d1, d2, d3, d4⟩ := drp_WF hW hQ hb
  have eR : drp ρ b = upQ (dqS (setBQ ρ b 8 2) b (ρ 191)).1 191 (dqS (setBQ ρ b 8 2) b (ρ 191)).2 := by unfold drp dqR; rw [e191]
  have F3 : FrQ (fun k x r => (k = 23 ∨ k = 28 ∨ k = 49 ∧ r = b) ∧ x = j) σ (wI x2 23 j 0 (nI (dqS (setBQ ρ b 8 2) b (ρ 191)).2)) := Fr_tr (Fr_mono h3 (fun k x r q => by omega)) (Fr_wI (by omega))
  refine ⟨_, rfl, ⟨?_, ?_, ⟨?_, ?_⟩, ?_⟩, Fr_mono F3 (fun k x r q => by unfold KHQ; omega)⟩
  · exact H0_same (H0_fr h0 F3 (fun k r _ _ _ _ _ => by omega)) d3 hW.1 h17
  · intro x hx
    rw [d3.1 37 (by omega)] at hx
    rw [rI_wI, if_neg (by omega), d4 x (by omega)]
    by_cases h : x = b
    · subst h; rw [if_pos rfl]; exact h4
    · rw [if_neg h, h3.1 49 j x (by omega)]; exact ht x hx
  · rw [rI_wI, if_pos ⟨rfl, rfl, rfl⟩, eR, up_s]
  · intro k hk
    rw [eR, up_s] at hk
    show _ = nI (drp ρ b (192 + k))
    rw [rI_wI, if_neg (by omega), h2 k (by omega), eR, up_n (by omega)]
  · intro n hn
    rw [F3.1 29 j n (by omega), hc n hn, bkd_lo (a := setBQ ρ b 8 2) (b := drp ρ b) (fun i hi => by rw [eR, up_n (by omega), f2 i (by omega)]) (by rw [setB_lo (by omega)]; exact h17)]
theorem drop_h {σ : Mem} {j b : Nat} {ρ : RwQ} (hR : HR σ j ρ) (hW : WF ρ) (hQ : WQ ρ) (hb : b < ρ 37) : OkQ (fX1_drop j (nI b) σ) (fun σ2 => HR σ2 j (drp ρ b) ∧ FrQ (KHQ j) σ σ2) := by
  obtain ⟨h0, ht, hq, hc⟩ := hR
  have h17 := hW.2.1
  have hw := hW.2.2.2.2 b hb
  have hB := h0.2.2.2.2.2.2.2.2 b hb
  unfold fX1_drop
  rw [gd_inb (by omega) (by omega), nI_clamp (by omega), ht b hb]
  simp only [l_1]
  have hs8 := hw.2.2.2.2.2.2.2
  simp (disch := omega) only [nI_eq]
  by_cases hs : bkv ρ b 8 = 1
  · rw [if_neg (fun q => q hs)]
    refine Ok_bind (addTo_h hB.1 hB.2.1 hw.1 hw.2.1.2) ?_
    rintro σ2 ⟨g1, g2⟩
    have hc2 : HC σ2 j (setBQ ρ b 8 2) := by
      intro n hn
      have hbk := bkd_st (ρ := ρ) (b := b) (v := 2) (n := n) hb h17
      rw [if_neg (fun q => absurd q.1 (by decide)), Nat.add_zero] at hbk
      rw [g1 n hn, hc n hn, hB.2.2.2.2.1]
      by_cases q : bkv ρ b 0 ≤ n ∧ n < bkv ρ b 0 + bkv ρ b 1
      · rw [show bkdT ρ n b = prs ρ b from if_pos ⟨hs, decide_eq_true q⟩] at hbk
        rw [if_pos q, nI_addneg (by omega)]
        congr 1
        omega
      · rw [show bkdT ρ n b = 0 from if_neg (fun w => q (of_decide_eq_true w.2))] at hbk
        rw [if_neg q]
        congr 1
        omega
    refine Ok_mono (jdrop_h (H0_fr h0 g2 (fun k r _ _ _ _ _ => by omega)) (Ht_fr ht g2 (fun r => by omega)) (HQ_fr hq g2 (by omega) (fun r => by omega)) hc2 hW hQ hb) ?_
    rintro σ3 ⟨g3, g4⟩
    exact ⟨g3, Fr_tr (Fr_mono g2 (fun k x r q => by unfold KHQ; omega)) g4⟩
  · rw [if_pos hs]
    refine jdrop_h h0 ht hq ?_ hW hQ hb
    intro n hn
    have hbk := bkd_st (ρ := ρ) (b := b) (v := 2) (n := n) hb h17
    rw [if_neg (fun q => absurd q.1 (by decide)), Nat.add_zero, show bkdT ρ n b = 0 from if_neg (fun w => hs w.1), Nat.add_zero] at hbk
    rw [hc n hn, hbk]
theorem countState_h {σ : Mem} {j : Nat} {ρ : RwQ} (hR : HR σ j ρ) (hW : WF ρ) {v : Nat} (hv : v ≤ 2) : fX1_countState j (nI v) σ = some (nI (sumNQ (fun b => b1 (decide (bkv ρ b 8 = v))) (ρ 37))) := by
  have h17 := hW.2.1
  have h22 := hR.1.2.2.1
  have e : loop (stX1_countState_4 σ j (nI v)) 5000 ((0 : Int32), (0 : Int32)) = some (nI (sumNQ (fun b => b1 (decide (bkv ρ b 8 = v))) (ρ 37))) := by
    refine loop_st (ρ 37) (fun k => (nI (sumNQ (fun b => b1 (decide (bkv ρ b 8 = v))) k), nI k)) (by omega) rfl ?_ ?_
    · intro k hk
      have h8 : bkv ρ k 8 ≤ 2 := (hW.2.2.2.2 k hk).2.2.2.2.2.2.2
      unfold stX1_countState_4 jX1_countState_28
      try dsimp only
      rw [h22, if_neg (nI_ge hk (by omega)), gd_inb (by omega) (by omega), nI_clamp (by omega), hR.2.1 k hk]; simp (disch := omega) only [nI_eq]
      simp only [l_1]
      rw [nI_add, nI_add]
      show _ = some (Sum.inl (nI (sumNQ _ k + b1 (decide (bkv ρ k 8 = v))), nI (k + 1)))
      by_cases q8 : bkv ρ k 8 = v
      · rw [if_neg (fun q => q q8), decide_eq_true q8] <;> rfl
      · rw [if_pos q8, decide_eq_false q8] <;> rfl
    · unfold stX1_countState_4
      try dsimp only
      rw [h22, if_pos (nI_le (Nat.le_refl _) (by omega))]
  unfold fX1_countState
  rw [e] <;> rfl
/-! copies -/
def FrG (K KJ : Nat → Nat → Nat → Prop) (σ σ2 : Mem) : Prop := (∀ k j r, ¬ K k j r → rI σ2 k j r = rI σ k j r) ∧ (∀ k j r, ¬ KJ k j r → rJ σ2 k j r = rJ σ k j r) ∧ σ2.2.2 = σ.2.2
theorem FrG_rfl {K KJ : Nat → Nat → Nat → Prop} (σ : Mem) : FrG K KJ σ σ := ⟨fun _ _ _ _ => rfl, fun _ _ _ _ => rfl, rfl⟩
theorem FrG_tr {K KJ : Nat → Nat → Nat → Prop} {a b c : Mem} (h1 : FrG K KJ a b) (h2 : FrG K KJ b c) : FrG K KJ a c := ⟨fun k j r h => (h2.1 k j r h).trans (h1.1 k j r h), fun k j r h => (h2.2.1 k j r h).trans (h1.2.1 k j r h), h2.2.2.trans h1.2.2⟩
theorem FrG_mono {K KJ K2 KJ2 : Nat → Nat → Nat → Prop} {a b : Mem} (h : FrG K KJ a b) (hk : ∀ k j r, K k j r → K2 k j r) (hj : ∀ k j r, KJ k j r → KJ2 k j r) : FrG K2 KJ2 a b := ⟨fun k j r q => h.1 k j r (fun w => q (hk k j r w)), fun k j r q => h.2.1 k j r (fun w => q (hj k j r w)), h.2.2⟩
theorem Fr_G {K KJ : Nat → Nat → Nat → Prop} {a b : Mem} (h : FrQ K a b) : FrG K KJ a b := ⟨h.1, fun k j r _ => Fr_J h k j r, by rw [h.2]⟩
theorem FrG_wI {K KJ : Nat → Nat → Nat → Prop} {σ : Mem} {k j r : Nat} {v : Int32} (h : K k j r) : FrG K KJ σ (wI σ k j r v) := Fr_G (Fr_wI h)
theorem FrG_wJ {K KJ : Nat → Nat → Nat → Prop} {σ : Mem} {k j r : Nat} {v : Int64} (h : KJ k j r) : FrG K KJ σ (wJ σ k j r v) := ⟨fun _ _ _ _ => rfl, fun k2 j2 r2 q => by
  rw [rJ_wJ, if_neg]
  rintro ⟨rfl, rfl, rfl⟩
  exact q h, rfl⟩
theorem FrG_cpI {K KJ : Nat → Nat → Nat → Prop} {σ : Mem} {k j j1 n : Nat} (h : ∀ r, K k j r) : FrG K KJ σ (cpI σ k j j1 n) := ⟨fun k2 j2 r2 q => by
  rw [rI_cpI, if_neg]
  rintro ⟨rfl, rfl, _⟩
  exact q (h r2), fun _ _ _ _ => rfl, rfl⟩
theorem FrG_I {K KJ : Nat → Nat → Nat → Prop} {a b : Mem} (h : FrG K KJ a b) : FrQ K a (b.1, a.2) := ⟨h.1, rfl⟩
theorem FrG_P {K KJ : Nat → Nat → Nat → Prop} {a b : Mem} (h : FrG K KJ a b) (k : Nat) : rP b k = rP a k := by
  show b.2.2.2 k = a.2.2.2 k
  rw [h.2.2]
theorem FrG_D {K KJ : Nat → Nat → Nat → Prop} {a b : Mem} (h : FrG K KJ a b) (k j r : Nat) : rD b k j r = rD a k j r := by
  show b.2.2.1 k j r = a.2.2.1 k j r
  rw [h.2.2]
theorem nI01 {t : Nat} (h : t ≤ 1) : nI t = 0 ∨ nI t = 1 := by
  have : t = 0 ∨ t = 1 := by omega
  rcases this with rfl | rfl
  · exact Or.inl rfl
  · exact Or.inr rfl
def KJH (j : Nat) (k x _r : Nat) : Prop := (k = 1 ∨ k = 2) ∧ x = j