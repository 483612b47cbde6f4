/-! layer 2: a hostel copied, cleared; all told anew -/
theorem H0_I {σ σ2 : Mem} {j : Nat} {ρ : RwQ} (h : H0 (σ2.1, σ.2) j ρ) : H0 σ2 j ρ := h
theorem copy_h {σ : Mem} {j j1 : Nat} {ρ : RwQ} (hne : ¬ j1 = j) (hR : HR σ j1 ρ) (hW : WF ρ) (h16 : ρ 191 ≤ 16) : OkQ (fX1_copy j j1 σ) (fun σ2 => HR σ2 j ρ ∧ (∀ r, r < ρ 4 → rJ σ2 1 j r = rJ σ 1 j1 r) ∧ (∀ b, b < ρ 37 → rJ σ2 2 j b = rJ σ 2 j1 b) ∧ FrG (KHQ j) (KJH j) σ σ2) := by
  have h8 := hW.1
  have h17 := hW.2.1
  obtain ⟨⟨a1, a2, a3, a4, a5, a6, a7, a8, a9⟩, ht, hq, hc⟩ := hR
  have key : ∀ {a : Mem} (k r : Nat), FrG (KHQ j) (KJH j) σ a → rI a k j1 r = rI σ k j1 r := fun k r F => F.1 _ _ _ (fun q => hne q.2)
  have keyJ : ∀ {a : Mem} (k r : Nat), FrG (KHQ j) (KJH j) σ a → rJ a k j1 r = rJ σ k j1 r := fun k r F => F.2.1 _ _ _ (fun q => hne q.2)
  have hl1 : OkQ (loop (stX1_copy_10 j j1) 5000 ((0 : Int32), wI σ 20 j 0 (rI σ 20 j1 0))) (fun b => rI b 20 j 0 = nI (ρ 4) ∧ (∀ r, r < ρ 4 → HRm b j r ρ ∧ rJ b 1 j r = rJ σ 1 j1 r) ∧ FrG (KHQ j) (KJH j) σ b) := by
    refine loop_ok (ρ 4) (fun k a => a.1 = nI k ∧ rI a.2 20 j 0 = nI (ρ 4) ∧ (∀ r, r < k → HRm a.2 j r ρ ∧ rJ a.2 1 j r = rJ σ 1 j1 r) ∧ FrG (KHQ j) (KJH j) σ a.2) (by omega) ⟨rfl, by rw [rI_wI_self]; exact a1, fun r hr => absurd hr (Nat.not_lt_zero _), FrG_wI ⟨by omega, rfl⟩⟩ ?_
    rintro k ⟨x1, x2⟩ hk ⟨e1, e2, e3, F⟩
    try dsimp only at e1 e2 e3 F
    subst e1
    unfold stX1_copy_10
    try dsimp only
    rw [e2]
    by_cases hkn : k = ρ 4
    · subst hkn
      rw [if_pos (nI_le (Nat.le_refl _) (by omega))]
      exact ⟨_, rfl, e2, e3, F⟩
    · rw [if_neg (nI_ge (by omega) (by omega)), gd_inb (by omega) (by omega), nI_clamp (by omega)]
      have hs : HRm x2 j1 k ρ := by
        have := a8 k (by omega)
        unfold HRm at this ⊢
        rw [key 30 k F, key 31 k F, key 32 k F, key 33 k F]
        exact this
      refine Ok_bind (copyR_h hne hs) ?_
      rintro x3 ⟨g1, g2, g3⟩
      simp only [l_1]
      rw [nI_add]
      refine ⟨_, rfl, by omega, rfl, ?_, ?_, FrG_tr F (FrG_mono g3 (fun k x r q => ⟨by omega, q.2.1⟩) (fun k x r q => ⟨Or.inl q.1, q.2.1⟩))⟩
      · rw [g3.1 20 j 0 (by omega)]; exact e2
      · intro r hr
        by_cases hrk : r = k
        · subst hrk
          exact ⟨g1, by rw [g2]; exact keyJ 1 r F⟩
        · obtain ⟨p1, p2⟩ := e3 r (by omega)
          refine ⟨?_, ?_⟩
          · unfold HRm at p1 ⊢
            rw [g3.1 30 j r (by omega), g3.1 31 j r (by omega), g3.1 32 j r (by omega), g3.1 33 j r (by omega)]
            exact p1
          · rw [g3.2.1 1 j r (by omega)]; exact p2
  have hl2 : ∀ s0 : Mem, rI s0 20 j 0 = nI (ρ 4) → (∀ r, r < ρ 4 → HRm s0 j r ρ ∧ rJ s0 1 j r = rJ σ 1 j1 r) → FrG (KHQ j) (KJH j) σ s0 → rI s0 21 j 0 = nI (allB ρ) → rI s0 22 j 0 = nI (ρ 37) → OkQ (loop (stX1_copy_57 j j1) 5000 ((0 : Int32), s0)) (fun b => rI b 20 j 0 = nI (ρ 4) ∧ (∀ r, r < ρ 4 → HRm b j r ρ ∧ rJ b 1 j r = rJ σ 1 j1 r) ∧ FrG (KHQ j) (KJH j) σ b ∧ rI b 21 j 0 = nI (allB ρ) ∧ rI b 22 j 0 = nI (ρ 37) ∧ (∀ b2, b2 < ρ 37 → HBk b j b2 ρ b2 ∧ rI b 49 j b2 = nI (bkv ρ b2 8) ∧ rJ b 2 j b2 = rJ σ 2 j1 b2)) := by
    intro s0 i1 i2 i3 i4 i5
    refine loop_ok (ρ 37) (fun k a => a.1 = nI k ∧ rI a.2 20 j 0 = nI (ρ 4) ∧ (∀ r, r < ρ 4 → HRm a.2 j r ρ ∧ rJ a.2 1 j r = rJ σ 1 j1 r) ∧ FrG (KHQ j) (KJH j) σ a.2 ∧ rI a.2 21 j 0 = nI (allB ρ) ∧ rI a.2 22 j 0 = nI (ρ 37) ∧ (∀ b2, b2 < k → HBk a.2 j b2 ρ b2 ∧ rI a.2 49 j b2 = nI (bkv ρ b2 8) ∧ rJ a.2 2 j b2 = rJ σ 2 j1 b2)) (by omega) ⟨rfl, i1, i2, i3, i4, i5, fun r hr => absurd hr (Nat.not_lt_zero _)⟩ ?_
    rintro k ⟨x1, x2⟩ hk ⟨e1, e2, e3, F, e4, e5, e6⟩
    try dsimp only at e1 e2 e3 e4 e5 e6 F
    subst e1
    unfold stX1_copy_57
    try dsimp only
    rw [e5]
    by_cases hkn : k = ρ 37
    · subst hkn
      rw [if_pos (nI_le (Nat.le_refl _) (by omega))]
      exact ⟨_, rfl, e2, e3, F, e4, e5, e6⟩
    · rw [if_neg (nI_ge (by omega) (by omega)), gd_inb (by omega) (by omega), nI_clamp (by omega)]
      have hw := hW.2.2.2.2 k (by omega)
      have hs : HBk x2 j1 k ρ k := by
        have := a9 k (by omega)
        unfold HBk at this ⊢
        rw [key 40 k F, key 41 k F, key 42 k F, key 43 k F, key 44 k F, key 45 k F, key 46 k F, key 47 k F, key 48 k F]
        exact this
      refine Ok_bind (copyB_h hne hs hw.2.2.2.2.2.1 hw.2.2.2.2.2.2.1) ?_
      rintro x3 ⟨g1, g4, g2, g3⟩
      simp only [l_1]
      rw [nI_add]
      refine ⟨_, rfl, by omega, rfl, ?_, ?_, FrG_tr F (FrG_mono g3 (fun k x r q => ⟨by omega, q.2.1⟩) (fun k x r q => ⟨Or.inr q.1, q.2.1⟩)), ?_, ?_, ?_⟩
      · rw [g3.1 20 j 0 (by omega)]; exact e2
      · intro r hr
        obtain ⟨p1, p2⟩ := e3 r hr
        refine ⟨?_, ?_⟩
        · unfold HRm at p1 ⊢
          rw [g3.1 30 j r (by omega), g3.1 31 j r (by omega), g3.1 32 j r (by omega), g3.1 33 j r (by omega)]
          exact p1
        · rw [g3.2.1 1 j r (by omega)]; exact p2
      · rw [g3.1 21 j 0 (by omega)]; exact e4
      · rw [g3.1 22 j 0 (by omega)]; exact e5
      · intro b hb
        by_cases hbk : b = k
        · subst hbk
          exact ⟨g1, by rw [g4, key 49 b F]; exact ht b (by omega), by rw [g2]; exact keyJ 2 b F⟩
        · obtain ⟨p1, p2, p3⟩ := e6 b (by omega)
          refine ⟨?_, ?_, ?_⟩
          · unfold HBk at p1 ⊢
            rw [g3.1 40 j b (by omega), g3.1 41 j b (by omega), g3.1 42 j b (by omega), g3.1 43 j b (by omega), g3.1 44 j b (by omega), g3.1 45 j b (by omega), g3.1 46 j b (by omega), g3.1 47 j b (by omega), g3.1 48 j b (by omega)]
            exact p1
          · rw [g3.1 49 j b (by omega)]; exact p2
          · rw [g3.2.1 2 j b (by omega)]; exact p3
  unfold fX1_copy
  refine Ok_bind hl1 ?_
  rintro s1 ⟨q1, q2, F1⟩
  have hne2 : ∀ k r, rI (wI s1 21 j 0 (rI s1 21 j1 0)) k j1 r = rI s1 k j1 r := fun k r => by rw [rI_wI, if_neg (fun q => hne q.2.1)]
  rw [hne2]
  have F2 : FrG (KHQ j) (KJH j) σ (wI (wI s1 21 j 0 (rI s1 21 j1 0)) 22 j 0 (rI s1 22 j1 0)) := FrG_tr F1 (FrG_tr (FrG_wI ⟨by omega, rfl⟩) (FrG_wI ⟨by omega, rfl⟩))
  refine Ok_bind (hl2 _ ?_ ?_ F2 ?_ ?_) ?_
  · rw [rI_wI, if_neg (by omega), rI_wI, if_neg (by omega)]; exact q1
  · intro r hr
    obtain ⟨p1, p2⟩ := q2 r hr
    refine ⟨?_, p2⟩
    unfold HRm at p1 ⊢
    simp only [rI_wI]
    rw [if_neg (by omega), if_neg (by omega), if_neg (by omega), if_neg (by omega), if_neg (by omega), if_neg (by omega), if_neg (by omega), if_neg (by omega)]
    exact p1
  · rw [rI_wI, if_neg (by omega), rI_wI, if_pos ⟨rfl, rfl, rfl⟩, key 21 0 F1]; exact a2
  · rw [rI_wI, if_pos ⟨rfl, rfl, rfl⟩, key 22 0 F1]; exact a3
  rintro s2 ⟨g1, g2, G, g3, g4, g5⟩
  have r1 : ∀ v : Mem, rI (cpI v 28 j j1 17) 24 j1 0 = rI v 24 j1 0 := fun v => by rw [rI_cpI, if_neg (by omega)]
  refine ⟨_, rfl, ?_, ?_, ?_, ?_⟩
  · refine ⟨⟨?_, ?_, ?_, ?_, ?_, ?_, ?_, ?_, ?_⟩, ?_, ⟨?_, ?_⟩, ?_⟩
    · simp [rI_wI, rI_cpI, g1]
    · simp [rI_wI, rI_cpI, g3]
    · simp [rI_wI, rI_cpI, g4]
    · simp [rI_wI, rI_cpI, hne, key 24 0 G, a4]
    · simp [rI_wI, rI_cpI, hne, key 25 0 G, a5]
    · simp [rI_wI, rI_cpI, hne, key 26 0 G, a6]
    · simp [rI_wI, rI_cpI, hne, key 27 0 G, a7]
    · intro r hr
      have := (g2 r hr).1
      unfold HRm at this ⊢
      simpa [rI_wI, rI_cpI] using this
    · intro b hb
      have := (g5 b hb).1
      unfold HBk at this ⊢
      simpa [rI_wI, rI_cpI] using this
    · intro b hb
      have := (g5 b hb).2.1
      simpa [rI_wI, rI_cpI] using this
    · simp [rI_wI, rI_cpI, hne, key 23 0 G, hq.1]
    · intro k hk
      have h3 := hq.2 k hk
      simp [rI_wI, rI_cpI, hne, key 28 k G, h3, show k < 17 by omega]
    · intro n hn
      have h3 := hc n hn
      simp [rI_wI, rI_cpI, hne, key 29 n G, h3, hn]
  · intro r hr
    exact (g2 r hr).2
  · intro b hb
    exact (g5 b hb).2.2
  · exact FrG_tr G (FrG_tr (FrG_tr (FrG_tr (FrG_tr (FrG_tr (FrG_tr (FrG_wI ⟨by omega, rfl⟩) (FrG_cpI (fun r => ⟨by omega, rfl⟩))) (FrG_cpI (fun r => ⟨by omega, rfl⟩))) (FrG_wI ⟨by omega, rfl⟩)) (FrG_wI ⟨by omega, rfl⟩)) (FrG_wI ⟨by omega, rfl⟩)) (FrG_wI ⟨by omega, rfl⟩))
/-- an empty row -/
def ρe : RwQ := fun k => if k = 1 then 60 else if k = 2 then 7 else if k = 3 then 10 else 0
theorem ρe_WF : WF ρe ∧ WQ ρe := by
  refine ⟨⟨by decide, by decide, by decide, fun r hr => absurd hr (by simp [ρe]), fun b hb => absurd hb (by simp [ρe])⟩, by decide, by decide, fun k hk => absurd hk (by simp [ρe]), fun i k _ hk => absurd hk (by simp [ρe])⟩
theorem forget_h (σ : Mem) (j : Nat) : OkQ (fX1_forgetStates j σ) (fun σ2 => rI σ2 23 j 0 = nI 0 ∧ (∀ n, n < 30 → rI σ2 29 j n = nI 0) ∧ FrQ (fun k x _ => (k = 23 ∨ k = 29) ∧ x = j) σ σ2) := by
  have hl : OkQ (loop (stX1_forgetStates_7 j) 5000 ((0 : Int32), wI σ 23 j 0 (0 : Int32))) (fun σ2 => rI σ2 23 j 0 = nI 0 ∧ (∀ n, n < 30 → rI σ2 29 j n = nI 0) ∧ FrQ (fun k x _ => (k = 23 ∨ k = 29) ∧ x = j) σ σ2) := by
    refine loop_ok 30 (fun k a => a.1 = nI k ∧ rI a.2 23 j 0 = nI 0 ∧ (∀ n, n < k → rI a.2 29 j n = nI 0) ∧ FrQ (fun k x _ => (k = 23 ∨ k = 29) ∧ x = j) σ a.2) (by omega) ⟨rfl, rI_wI_self, fun n hn => absurd hn (Nat.not_lt_zero _), Fr_wI (by omega)⟩ ?_
    rintro k ⟨x1, x2⟩ hk ⟨e1, e2, e3, F⟩
    try dsimp only at e1 e2 e3 F
    subst e1
    unfold stX1_forgetStates_7
    simp only [l_0, l_1, l_30]
    by_cases hkn : k = 30
    · subst hkn
      rw [if_pos (nI_le (Nat.le_refl _) (by omega))]
      exact ⟨_, rfl, e2, e3, F⟩
    · rw [if_neg (nI_ge (by omega) (by omega)), gd_inb (by omega) (by omega), nI_clamp (by omega), nI_add]
      refine ⟨_, rfl, by omega, rfl, ?_, ?_, Fr_tr F (Fr_wI (by omega))⟩
      · rw [rI_wI, if_neg (by omega)]; exact e2
      · intro n hn
        rw [rI_wI]
        by_cases h : n = k
        · subst h; rw [if_pos ⟨rfl, rfl, rfl⟩]
        · rw [if_neg (fun q => h q.2.2)]; exact e3 n (by omega)
  unfold fX1_forgetStates
  refine Ok_bind hl ?_
  intro σ2 h
  exact ⟨_, rfl, h⟩
theorem clear_h (σ : Mem) (j : Nat) : OkQ (fX1_clear j σ) (fun σ2 => HR σ2 j ρe ∧ FrQ (KHQ j) σ σ2) := by
  unfold fX1_clear
  simp only [l_0, l_60, l_7, l_10]
  refine Ok_bind (forget_h _ j) ?_
  rintro s ⟨g1, g2, G⟩
  have F1 : FrQ (KHQ j) σ s := Fr_tr (Fr_tr (Fr_wI ⟨by omega, rfl⟩) (Fr_tr (Fr_wI ⟨by omega, rfl⟩) (Fr_wI ⟨by omega, rfl⟩))) (Fr_mono G (fun k x r q => by unfold KHQ; omega))
  refine ⟨_, rfl, ⟨⟨?_, ?_, ?_, ?_, ?_, ?_, ?_, fun r hr => absurd hr (by simp [ρe]), fun b hb => absurd hb (by simp [ρe])⟩, fun b hb => absurd hb (by simp [ρe]), ⟨?_, fun k hk => absurd hk (by simp [ρe])⟩, ?_⟩, Fr_tr F1 (Fr_tr (Fr_wI ⟨by omega, rfl⟩) (Fr_tr (Fr_wI ⟨by omega, rfl⟩) (Fr_tr (Fr_wI ⟨by omega, rfl⟩) (Fr_wI ⟨by omega, rfl⟩))))⟩
  · rw [show ρe 4 = 0 from rfl, rI_wI, if_neg (by omega), rI_wI, if_neg (by omega), rI_wI, if_neg (by omega), rI_wI, if_neg (by omega), G.1 20 j 0 (by omega), rI_wI, if_neg (by omega), rI_wI, if_neg (by omega), rI_wI, if_pos ⟨rfl, rfl, rfl⟩]
  · rw [show allB ρe = 0 from rfl, rI_wI, if_neg (by omega), rI_wI, if_neg (by omega), rI_wI, if_neg (by omega), rI_wI, if_neg (by omega), G.1 21 j 0 (by omega), rI_wI, if_neg (by omega), rI_wI, if_pos ⟨rfl, rfl, rfl⟩]
  · rw [show ρe 37 = 0 from rfl, rI_wI, if_neg (by omega), rI_wI, if_neg (by omega), rI_wI, if_neg (by omega), rI_wI, if_neg (by omega), G.1 22 j 0 (by omega), rI_wI, if_pos ⟨rfl, rfl, rfl⟩]
  · rw [show ρe 0 = 0 from rfl, rI_wI, if_neg (by omega), rI_wI, if_neg (by omega), rI_wI, if_neg (by omega), rI_wI, if_pos ⟨rfl, rfl, rfl⟩]
  · rw [show ρe 1 = 60 from rfl, rI_wI, if_neg (by omega), rI_wI, if_neg (by omega), rI_wI, if_pos ⟨rfl, rfl, rfl⟩]
  · rw [show ρe 2 = 7 from rfl, rI_wI, if_neg (by omega), rI_wI, if_pos ⟨rfl, rfl, rfl⟩]
  · rw [show ρe 3 = 10 from rfl, rI_wI, if_pos ⟨rfl, rfl, rfl⟩]
  · rw [show ρe 191 = 0 from rfl, rI_wI, if_neg (by omega), rI_wI, if_neg (by omega), rI_wI, if_neg (by omega), rI_wI, if_neg (by omega)]; exact g1
  · intro n hn
    rw [show bkd ρe n = 0 from rfl, rI_wI, if_neg (by omega), rI_wI, if_neg (by omega), rI_wI, if_neg (by omega), rI_wI, if_neg (by omega)]; exact g2 n hn
